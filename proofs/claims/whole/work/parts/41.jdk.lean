/-! CONTRACTS of the JDK's methods -/
section JDK
variable {E : zE} {S : zS} {V : zH}
theorem sp_abs {x : Int} {F : Int → Prop} (h1 : -2147483647 ≤ x) (h : F (if 0 ≤ x then x else -x)) : SpF E 0 zm_J9_abs_0f7a4 [ziv x] S V F := by
  refine en_J9_abs_0f7a4 (fun hx => ⟨fun c => ?_, fun c => ⟨⟨by have := hx.1; have := hx.2; omega, by omega⟩, ?_⟩⟩)
  · rw [if_pos c] at h; exact h
  · rw [if_neg (by omega)] at h; exact h
theorem sp_max {x y : Int} {F : Int → Prop} (h : F (if x < y then y else x)) : SpF E 0 zm_J9_max_7cf53 [ziv x, ziv y] S V F := by
  refine en_J9_max_7cf53 (fun _ _ => ⟨fun c => ?_, fun c => ?_⟩)
  · rw [if_pos c] at h; exact h
  · rw [if_neg (by omega)] at h; exact h
theorem sp_min {x y : Int} {F : Int → Prop} (h : F (if y < x then y else x)) : SpF E 0 zm_J9_min_7cf53 [ziv x, ziv y] S V F := by
  refine en_J9_min_7cf53 (fun _ _ => ⟨fun c => ?_, fun c => ?_⟩)
  · rw [if_pos c] at h; exact h
  · rw [if_neg (by omega)] at h; exact h
theorem sp_minl {x y : Int} {F : Int → Prop} (h : F (if y < x then y else x)) : SpG E 0 zm_J9_min_f86c9 [zjv x, zjv y] S V F := by
  refine en_J9_min_f86c9 (fun _ _ => ⟨fun c => ?_, fun c => ?_⟩)
  · rw [if_pos c] at h; exact h
  · rw [if_neg (by omega)] at h; exact h
theorem zxor_neg {x y : Int} (hx : z32 x) (hy : z32 y) (h : 0 ≤ y) : zxor x y < 0 ↔ x < 0 := by
  have e : ∀ a : Int32, a.toInt < 0 ↔ a.toBitVec.msb = true := by
    intro a
    rw [BitVec.msb_eq_toInt]
    simp
  have h1 := e (Int32.ofInt x ^^^ Int32.ofInt y)
  have h2 := e (Int32.ofInt x)
  have h3 := e (Int32.ofInt y)
  rw [z32_toInt hx] at h2
  rw [z32_toInt hy] at h3
  have h4 : (Int32.ofInt y).toBitVec.msb = false := by
    cases hm : (Int32.ofInt y).toBitVec.msb
    · rfl
    · exact absurd (h3.mpr hm) (by omega)
  unfold zxor
  rw [h1, h2, Int32.toBitVec_xor, BitVec.msb_xor, h4, Bool.xor_false]
theorem zlxor_neg {x y : Int} (hx : z64 x) (hy : z64 y) (h : 0 ≤ y) : zlxor x y < 0 ↔ x < 0 := by
  have e : ∀ a : Int64, a.toInt < 0 ↔ a.toBitVec.msb = true := by
    intro a
    rw [BitVec.msb_eq_toInt]
    simp
  have h1 := e (Int64.ofInt x ^^^ Int64.ofInt y)
  have h2 := e (Int64.ofInt x)
  have h3 := e (Int64.ofInt y)
  rw [z64_toInt hx] at h2
  rw [z64_toInt hy] at h3
  have h4 : (Int64.ofInt y).toBitVec.msb = false := by
    cases hm : (Int64.ofInt y).toBitVec.msb
    · rfl
    · exact absurd (h3.mpr hm) (by omega)
  unfold zlxor
  rw [h1, h2, Int64.toBitVec_xor, BitVec.msb_xor, h4, Bool.xor_false]
theorem ztmod_pos {x y : Int} (h : 0 ≤ x) : x.tmod y = x % y := Int.tmod_eq_emod_of_nonneg h
theorem ztmod_neg {x y : Int} (h : x < 0) (hy : 0 < y) : x % y = if x.tmod y = 0 then 0 else x.tmod y + y := by
  have h1 : x.tmod y = -((-x) % y) := by
    have e := Int.neg_tmod (-x) y
    rw [Int.neg_neg] at e
    rw [e, Int.tmod_eq_emod_of_nonneg (by omega)]
  rw [h1]
  have h2 := Int.emod_nonneg (-x) (b := y) (by omega)
  have h3 := Int.emod_lt_of_pos (-x) hy
  have h4 := Int.emod_nonneg x (b := y) (by omega)
  have h5 := Int.emod_lt_of_pos x hy
  have h6 : (x + (-x)) % y = 0 := by rw [show x + -x = 0 by omega]; exact Int.zero_emod y
  rw [Int.add_emod] at h6
  obtain ⟨c, hc⟩ := Int.dvd_of_emod_eq_zero h6
  generalize x % y = u at *
  generalize (-x) % y = w at *
  have c0 : c = 0 ∨ c = 1 := by
    have a1 : -1 < c := by
      apply Classical.byContradiction
      intro hn
      have : y * c ≤ y * (-1) := Int.mul_le_mul_of_nonneg_left (by omega) (by omega)
      omega
    have a2 : c < 2 := by
      apply Classical.byContradiction
      intro hn
      have : y * 2 ≤ y * c := Int.mul_le_mul_of_nonneg_left (by omega) (by omega)
      omega
    omega
  rcases c0 with rfl | rfl
  · rw [Int.mul_zero] at hc
    rw [if_pos (by omega)]; omega
  · rw [Int.mul_one] at hc
    by_cases hw : w = 0
    · omega
    · rw [if_neg (by omega)]; omega
theorem sp_fmod {x y : Int} {F : Int → Prop} (hy : 0 < y) (h : F (x % y)) : SpF E 0 zm_J9_floorMod_7cf53 [ziv x, ziv y] S V F := by
  refine en_J9_floorMod_7cf53 (fun hx hy0 => ⟨hy, fun x2 e => ⟨fun c => ?_, fun c => ⟨fun c2 => ?_, fun c2 => ⟨?_, ?_⟩⟩⟩⟩)
  · have h0 : ¬ x < 0 := fun q => by have := (zxor_neg hx hy0 (by omega)).mpr q; omega
    rw [e, ztmod_pos (by omega)]; exact h
  · have h0 := (zxor_neg hx hy0 (by omega)).mp c
    rw [ztmod_neg h0 hy, ← e, if_pos c2] at h
    rw [c2]; exact h
  · have h0 := (zxor_neg hx hy0 (by omega)).mp c
    have h9 := ztmod_neg h0 hy
    rw [← e, if_neg c2] at h9
    have h4 := Int.emod_nonneg x (b := y) (by omega)
    have h5 := Int.emod_lt_of_pos x hy
    unfold z32 at *
    omega
  · have h0 := (zxor_neg hx hy0 (by omega)).mp c
    rw [ztmod_neg h0 hy, ← e, if_neg c2] at h
    exact h
theorem sp_fmodl {x y : Int} {F : Int → Prop} (hy : 0 < y) (h : F (x % y)) : SpG E 0 zm_J9_floorMod_f86c9 [zjv x, zjv y] S V F := by
  refine en_J9_floorMod_f86c9 (fun hx hy0 => ⟨hy, fun x2 e => ⟨fun c => ?_, fun c => ⟨fun c2 => ?_, fun c2 => ⟨?_, ?_⟩⟩⟩⟩)
  · have h0 : ¬ x < 0 := fun q => by have := (zlxor_neg hx hy0 (by omega)).mpr q; omega
    rw [e, ztmod_pos (by omega)]; exact h
  · have h0 := (zlxor_neg hx hy0 (by omega)).mp c
    rw [ztmod_neg h0 hy, ← e, if_pos c2] at h
    rw [c2]; exact h
  · have h0 := (zlxor_neg hx hy0 (by omega)).mp c
    have h9 := ztmod_neg h0 hy
    rw [← e, if_neg c2] at h9
    have h4 := Int.emod_nonneg x (b := y) (by omega)
    have h5 := Int.emod_lt_of_pos x hy
    unfold z64 at *
    omega
  · have h0 := (zlxor_neg hx hy0 (by omega)).mp c
    rw [ztmod_neg h0 hy, ← e, if_neg c2] at h
    exact h
/-- Arrays.fill of ints -/
theorem sp_fill {a v N : Int} {F : zH → Prop} (hS : S a = (1, N)) (hN : 0 ≤ N ∧ N < 2000000000) (hF : F (zarr V a (fun j => if 0 ≤ j ∧ j < N then v else V a j))) : SpV E 0 zm_J7_fill_53178 [zrv a, ziv v] S V F := by
  refine en_J7_fill_53178 (fun hv X => ⟨by rw [hS], fun x hx => ?_⟩)
  rw [hS] at hx
  obtain rfl : x = N := hx
  have key : ∀ (t : Nat) (i : Int), 0 ≤ i → i + t = x → zl_J7_fill_53178_5 E X F S a v i x (zarr V a (fun j => if 0 ≤ j ∧ j < i then v else V a j)) := by
    intro t
    induction t with
    | zero =>
      intro i hi ht
      refine wp_J7_fill_53178_5 ⟨fun _ => ?_, fun h => absurd h (by omega)⟩
      obtain rfl : i = x := by omega
      exact hF
    | succ t ih =>
      intro i hi ht
      refine wp_J7_fill_53178_5 ⟨fun h => absurd h (by omega), fun h => ⟨by rw [hS], ⟨hi, by rw [hS]; exact h⟩, fun V4 e => ⟨⟨by omega, by omega⟩, ?_⟩⟩⟩
      have h2 := ih (i + 1) (by omega) (by omega)
      rw [e, zput_zarr V (g := fun j => if 0 ≤ j ∧ j < i + 1 then v else V a j)]
      · exact h2
      · intro j
        by_cases hj : j = i
        · rw [if_pos hj, if_pos (by omega)]
        · rw [if_neg hj]
          by_cases h3 : 0 ≤ j ∧ j < i
          · rw [if_pos h3, if_pos (by omega)]
          · rw [if_neg h3, if_neg (by omega)]
  have h0 := key x.toNat 0 (by omega) (by omega)
  rw [show zarr V a (fun j => if 0 ≤ j ∧ j < 0 then v else V a j) = V from (zarr_ext V a (fun j => if_neg (by omega))).trans (zarr_id V a)] at h0
  exact h0
/-- Arrays.fill of longs -/
theorem sp_filll {a v N : Int} {F : zH → Prop} (hS : S a = (2, N)) (hN : 0 ≤ N ∧ N < 2000000000) (hF : F (zarr V a (fun j => if 0 ≤ j ∧ j < N then v else V a j))) : SpV E 0 zm_J7_fill_d0a16 [zrv a, zjv v] S V F := by
  refine en_J7_fill_d0a16 (fun hv X => ⟨by rw [hS], fun x hx => ?_⟩)
  rw [hS] at hx
  obtain rfl : x = N := hx
  have key : ∀ (t : Nat) (i : Int), 0 ≤ i → i + t = x → zl_J7_fill_d0a16_6 E X F S a v i x (zarr V a (fun j => if 0 ≤ j ∧ j < i then v else V a j)) := by
    intro t
    induction t with
    | zero =>
      intro i hi ht
      refine wp_J7_fill_d0a16_6 ⟨fun _ => ?_, fun h => absurd h (by omega)⟩
      obtain rfl : i = x := by omega
      exact hF
    | succ t ih =>
      intro i hi ht
      refine wp_J7_fill_d0a16_6 ⟨fun h => absurd h (by omega), fun h => ⟨by rw [hS], ⟨hi, by rw [hS]; exact h⟩, fun V4 e => ⟨⟨by omega, by omega⟩, ?_⟩⟩⟩
      have h2 := ih (i + 1) (by omega) (by omega)
      rw [e, zput_zarr V (g := fun j => if 0 ≤ j ∧ j < i + 1 then v else V a j)]
      · exact h2
      · intro j
        by_cases hj : j = i
        · rw [if_pos hj, if_pos (by omega)]
        · rw [if_neg hj]
          by_cases h3 : 0 ≤ j ∧ j < i
          · rw [if_pos h3, if_pos (by omega)]
          · rw [if_neg h3, if_neg (by omega)]
  have h0 := key x.toNat 0 (by omega) (by omega)
  rw [show zarr V a (fun j => if 0 ≤ j ∧ j < 0 then v else V a j) = V from (zarr_ext V a (fun j => if_neg (by omega))).trans (zarr_id V a)] at h0
  exact h0
end JDK
