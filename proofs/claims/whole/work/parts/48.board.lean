/-! BITS of a board's entry: the class's way and the reference's -/
theorem zsh_a : ∀ s : Fin 64, (((Int32.ofInt ((s : Nat) : Int)).toInt64 &&& 63).toBitVec.smod 64).toNat = (s : Nat) := by decide +kernel
theorem zsh_u : ∀ s : Fin 64, (((Int32.ofInt ((s : Nat) : Int)).toInt64.toUInt64 &&& Int64.toUInt64 63) % 64).toBitVec.toNat = (s : Nat) := by decide +kernel
theorem zsh_L (x : Int64) {s : Int} (hs : 0 ≤ s ∧ s < 64) : (x >>> ((Int32.ofInt s).toInt64 &&& 63)).toBitVec = x.toBitVec.sshiftRight s.toNat := by
  have h := zsh_a ⟨s.toNat, by omega⟩
  rw [show (((⟨s.toNat, by omega⟩ : Fin 64) : Nat) : Int) = s by show ((s.toNat : Nat) : Int) = s; omega] at h
  show BitVec.sshiftRight' x.toBitVec (((Int32.ofInt s).toInt64 &&& 63).toBitVec.smod 64) = _
  unfold BitVec.sshiftRight'
  rw [h]
theorem zsh_U (x : Int64) {s : Int} (hs : 0 ≤ s ∧ s < 64) : ((x.toUInt64 >>> ((Int32.ofInt s).toInt64.toUInt64 &&& Int64.toUInt64 63)).toInt64).toBitVec = x.toBitVec >>> s.toNat := by
  have h := zsh_u ⟨s.toNat, by omega⟩
  rw [show (((⟨s.toNat, by omega⟩ : Fin 64) : Nat) : Int) = s by show ((s.toNat : Nat) : Int) = s; omega] at h
  show x.toBitVec >>> (((Int32.ofInt s).toInt64.toUInt64 &&& Int64.toUInt64 63) % 64).toBitVec = _
  rw [BitVec.ushiftRight_eq', h]
theorem zl2i_of (x : Int64) : zl2i x.toInt = x.toInt32.toInt := by
  unfold zl2i
  rw [← Int64.toInt32_ofInt, Int64.ofInt_toInt]
def zbit (e s : Int) : Int := zand (zl2i (zlushr e s)) 1
theorem zbit_eq {e s : Int} (hs : 0 ≤ s ∧ s < 64) : zl2i (zlandl (zlshr e s) 1) = zbit e s := by
  unfold zbit zlandl zlshr zlushr zand
  rw [zl2i_of, zl2i_of, Int64.ofInt_toInt, Int32.ofInt_toInt]
  congr 1
  apply Int32.toBitVec_inj.mp
  have h1 := zsh_L (Int64.ofInt e) hs
  have h2 := zsh_U (Int64.ofInt e) hs
  generalize (Int64.ofInt e >>> ((Int32.ofInt s).toInt64 &&& 63)) = A at *
  generalize ((Int64.ofInt e).toUInt64 >>> ((Int32.ofInt s).toInt64.toUInt64 &&& Int64.toUInt64 63)).toInt64 = B at *
  have e3 : (Int64.ofInt 1).toBitVec = 1#64 := rfl
  have e4 : (Int32.ofInt 1).toBitVec = 1#32 := rfl
  rw [Int64.toBitVec_toInt32, Int64.toBitVec_and, Int32.toBitVec_and, Int64.toBitVec_toInt32, h1, h2, e3, e4]
  apply BitVec.eq_of_getLsbD_eq
  intro i hi
  by_cases h0 : i = 0
  · subst h0
    have q : s.toNat < 64 := by omega
    rw [BitVec.getLsbD_signExtend, BitVec.getLsbD_and, BitVec.getLsbD_and, BitVec.getLsbD_signExtend, BitVec.getLsbD_sshiftRight, BitVec.getLsbD_ushiftRight]
    simp only [Nat.add_zero, q, if_true, decide_true]
    simp
  · simp [h0]
theorem zbit_01 (e s : Int) : zbit e s = 0 ∨ zbit e s = 1 := by
  unfold zbit zand
  generalize Int32.ofInt (zl2i (zlushr e s)) = A
  have h : (A &&& Int32.ofInt 1) = 0 ∨ (A &&& Int32.ofInt 1) = 1 := by
    by_cases hb : A.toBitVec.getLsbD 0
    · right
      apply Int32.toBitVec_inj.mp
      rw [Int32.toBitVec_and]
      apply BitVec.eq_of_getLsbD_eq
      intro i hi
      by_cases h0 : i = 0
      · subst h0
        rw [BitVec.getLsbD_and, hb]; decide
      · have : (Int32.ofInt 1).toBitVec = 1#32 := rfl
        have : (1 : Int32).toBitVec = 1#32 := rfl
        simp [*]
    · left
      apply Int32.toBitVec_inj.mp
      rw [Int32.toBitVec_and]
      apply BitVec.eq_of_getLsbD_eq
      intro i hi
      have e4 : (Int32.ofInt 1).toBitVec = 1#32 := rfl
      have e5 : (0 : Int32).toBitVec = 0#32 := rfl
      by_cases h0 : i = 0
      · subst h0
        have hb' : A.toBitVec.getLsbD 0 = false := by simpa using hb
        rw [e4, e5, BitVec.getLsbD_and, hb']
        rfl
      · simp [e4, e5, h0]
  rcases h with h | h
  · left; rw [h]; rfl
  · right; rw [h]; rfl
