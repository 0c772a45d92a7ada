/-! THE Z KIT, part 7: System.arraycopy between int arrays -/
section ZCOPY
variable {E : zE} {X : zX} {R : Room} {M : zM} {Q : State → Prop} {k n pc : Nat} {L : List (Nat × zV)} {st : List zV} {S : zS} {V : zH}
def zcpy (V : zH) (src sp dst dp m : Int) : zH := fun q j => if q = dst ∧ dp ≤ j ∧ j < dp + m then V src (sp + (j - dp)) else V q j
theorem zcpy_ne (V : zH) {dst q : Int} (src sp dp m j : Int) (h : q ≠ dst) : zcpy V src sp dst dp m q j = V q j := by simp [zcpy, h]
theorem zcpy_row (V : zH) {dst q : Int} (src sp dp m : Int) (h : q ≠ dst) : zcpy V src sp dst dp m q = V q := by funext j; simp [zcpy, h]
theorem zcpy_in (V : zH) {src sp dst dp m j : Int} (h1 : dp ≤ j) (h2 : j < dp + m) : zcpy V src sp dst dp m dst j = V src (sp + (j - dp)) := by simp [zcpy, h1, h2]
theorem zcpy_out (V : zH) {src sp dst dp m q j : Int} (h : j < dp ∨ dp + m ≤ j) : zcpy V src sp dst dp m q j = V q j := by
  unfold zcpy
  rw [if_neg (by omega)]
theorem z_copyi {index : Nat} {src dst sp dp m N0 N1 : Int} (hd : decode (zMb M) pc = .ok (.invokestatic index, 3)) (hlink : Cond.methodLink (zMy M).cls index arraycopyName ∈ ztbl) (hnat : Cond.native arraycopyName ∈ ztbl) (hstat : Cond.static arraycopyName ∈ ztbl) (hini : Cond.initialized "java/lang/System" ∈ ztbl)
    (hk0 : S src = (1, N0)) (hk1 : S dst = (1, N1)) (h1 : 0 ≤ sp) (h2 : 0 ≤ dp) (h3 : 0 ≤ m) (h4 : sp + m ≤ N0) (h5 : dp + m ≤ N1) (hcat : zcats st ≤ 8) (hr1 : 1 ≤ R.frames) (hr2 : 64 ≤ R.locals)
    (h : Zr E X R M Q k n (pc + 3) L st S (zcpy V src sp dst dp m)) : Zr E X R M Q k n pc L (ziv m :: ziv dp :: zrv dst :: ziv sp :: zrv src :: st) S V := by
  intro C H locs ls hR hS hl hL hst
  have hts := C.2.2.2.2.2.2.1
  obtain ⟨a1, a2, a3, a4, a5, a6⟩ := hR.int hk0
  obtain ⟨b1, b2, b3, b4, b5, b6⟩ := hR.int hk1
  have hm : z32 m := zhead hst
  have hdp : z32 dp := zsnd hst
  have hsp : z32 sp := hst (ziv sp) (by simp)
  have e0 : zcv (zrv src) = .ref (src - 1).toNat := zref_pos a1
  have e1 : zcv (zrv dst) = .ref (dst - 1).toNat := zref_pos b1
  have hst' : ∀ v ∈ st, zok v := fun v hv => hst v (by simp [hv])
  simp only [List.map_cons, e0, e1]
  intro T hT Y
  obtain ⟨-, k0, hk0', cm0, hkk0⟩ := zKI C N0.toNat (fun j => .int (Int32.ofInt (V src j)))
  obtain ⟨-, k1, hk1', cm1, hkk1⟩ := zKI C N1.toNat (fun j => .int (Int32.ofInt (V dst j)))
  obtain ⟨vm', Y', step⟩ := Y.arraycopy C.1 C.2.2.2.2.1 (hts _ hlink) (hts _ hnat) (hts _ hstat) (hts _ hini) (src := (src - 1).toNat) (dst := (dst - 1).toNat) (cs := arrV (zEI E) N0.toNat (fun j => .int (Int32.ofInt (V src j)))) (cd := arrV (zEI E) N1.toNat (fun j => .int (Int32.ofInt (V dst j)))) (srcPos := Int32.ofInt sp) (destPos := Int32.ofInt dp) (n := Int32.ofInt m) (by rw [hT]; exact a5) (by rw [hT]; exact b5)
    (fun _ h => by cases h) (fun _ h => by cases h) (fun h => by cases h) (fun h => by cases h) hk0' hk1' hkk0 hkk1 (by simp [refKind]) (zneg hsp h1) (zneg hdp h2) (zneg hm h3)
    (by rw [z32_toInt hsp, z32_toInt hm, arrV_size]; omega)
    (by rw [z32_toInt hdp, z32_toInt hm, arrV_size]; omega)
    (fun vm₁ _ i hi => by
      have hi' : i < m.toNat := by rw [zclamp hm] at hi; exact hi
      have e : (arrV (zEI E) N0.toNat (fun j => .int (Int32.ofInt (V src j)))).slots.getD ((Int32.ofInt sp).toNatClampNeg + i) .null = .int (Int32.ofInt (V src (sp.toNat + i : Nat))) := by
        rw [Array.getD_eq_getD_getElem?, zclamp hsp, arrV_read _ _ (by omega)]
        rfl
      refine ⟨?_, ?_⟩
      · rw [e]; rfl
      · rw [e]; exact trivial)
    (g := F0 (zXm X) pc ls (.int (Int32.ofInt m) :: .int (Int32.ofInt dp) :: .ref (dst - 1).toNat :: .int (Int32.ofInt sp) :: .ref (src - 1).toNat :: st.map zcv)) rfl (hl.1.trans C.2.2.1.symm) (rest := st.map zcv) rfl (by rw [C.2.1]; exact hd) hr1 (by
      rw [zcats_eq]
      have : nativeFrameWords "java/lang/System" "arraycopy" 5 = 7 := by decide
      show 2 * 0 + _ + _ ≤ _
      rw [this]
      omega)
  have ec : copied (arrV (zEI E) N0.toNat (fun j => .int (Int32.ofInt (V src j)))) (arrV (zEI E) N1.toNat (fun j => .int (Int32.ofInt (V dst j)))) (Int32.ofInt sp) (Int32.ofInt dp) (Int32.ofInt m) = arrV (zEI E) N1.toNat (fun j => .int (Int32.ofInt (zcpy V src sp dst dp m dst j))) := by
    have hs : (Int32.ofInt sp).toNatClampNeg + (Int32.ofInt m).toNatClampNeg ≤ N0.toNat := by rw [zclamp hsp, zclamp hm]; omega
    have h9 := va_copied (fun z : Int => Value.int (Int32.ofInt z)) (zEI E) (zEI E) (n0 := N0.toNat) (n1 := N1.toNat) (sp := (Int32.ofInt sp).toNatClampNeg) (dp := (Int32.ofInt dp).toNatClampNeg) (n := (Int32.ofInt m).toNatClampNeg) (fun j => V src j) (fun j => V dst j) hs
    refine Eq.trans h9 ?_
    congr 1
    funext j
    congr 2
    rw [zclamp hsp, zclamp hdp, zclamp hm]
    unfold va_cpy zcpy
    by_cases hj : dp.toNat ≤ j ∧ j < dp.toNat + m.toNat
    · rw [if_pos hj, if_pos ⟨rfl, by omega, by omega⟩]
      show V src ((sp.toNat + (j - dp.toNat) : Nat) : Int) = _
      congr 1
      omega
    · rw [if_neg hj, if_neg (by omega)]
  rw [ec] at Y' step
  have hlt : (dst - 1).toNat < T.heap.size := by rw [hT]; exact (Array.getElem?_eq_some_iff.mp b5).1
  have oq : ∀ q : Nat, q ≠ (dst - 1).toNat → ((T.setVm vm').setCell (dst - 1).toNat (arrV (zEI E) N1.toNat (fun j => .int (Int32.ofInt (zcpy V src sp dst dp m dst j))))).heap[q]? = H[q]? := fun q hq => by
    rw [heapAt_setCell_ne _ (Ne.symm hq), ← hT]; rfl
  have hself : ((T.setVm vm').setCell (dst - 1).toNat (arrV (zEI E) N1.toNat (fun j => .int (Int32.ofInt (zcpy V src sp dst dp m dst j))))).heap[(dst - 1).toNat]? = some (arrV (zEI E) N1.toNat (fun j => .int (Int32.ofInt (zcpy V src sp dst dp m dst j)))) := heapAt_setCell_self _ hlt
  have hsz : ((T.setVm vm').setCell (dst - 1).toNat (arrV (zEI E) N1.toNat (fun j => .int (Int32.ofInt (zcpy V src sp dst dp m dst j))))).heap.size = H.size := by rw [size_setCell, ← hT]; rfl
  have hR' : zR E S (zcpy V src sp dst dp m) ((T.setVm vm').setCell (dst - 1).toNat (arrV (zEI E) N1.toNat (fun j => .int (Int32.ofInt (zcpy V src sp dst dp m dst j))))).heap := by
    refine hR.put b1 ?_ (fun q hq => zcpy_row V src sp dp m hq) oq hsz
    rw [hk1]
    refine Or.inl ⟨rfl, b3, b4, hself, fun j j0 j1 => ?_⟩
    by_cases hj : dp ≤ j ∧ j < dp + m
    · rw [zcpy_in V hj.1 hj.2]
      exact a6 _ (by omega) (by omega)
    · rw [zcpy_out V (by omega)]
      exact b6 j j0 j1
  have key : ∀ Lq : List Loc, (∀ q ∈ Lq, q.base = (dst - 1).toNat) → Stand (zXp X) (zEl E) (zXe X) R (zXs X) (zXm X) (zXa X) (zXw X) (zXh X) (zXc X) ((T.setVm vm').setCell (dst - 1).toNat (arrV (zEI E) N1.toNat (fun j => .int (Int32.ofInt (zcpy V src sp dst dp m dst j))))) (locs ++ Lq) k n → _ := fun Lq hq Y2 => h C _ (locs ++ Lq) ls hR' ⟨by rw [hsz]; exact hS.1, fun q g1 g2 => by
      rw [oq q (fun e => g2 (by rw [e]; exact b2))]
      exact hS.2.1 q g1 g2, fun q hq2 => by
      rcases List.mem_append.mp hq2 with h | h
      · exact hS.2.2 q h
      · rw [hq q h]
        exact b2⟩ hl hL hst' _ rfl Y2
  obtain ⟨t, c1, d1⟩ := key _ (fun q hq => by obtain ⟨z, -, hz⟩ := List.mem_map.mp hq; rw [← hz]) Y'
  exact ⟨t, step t c1, d1⟩
end ZCOPY
