/-! A BOARD: kind, entries, what they hold -/
abbrev zB : Type := Int × Int × (Int → Int)
abbrev bk (B : zB) : Int := B.1
abbrev bn (B : zB) : Int := B.2.1
abbrev be (B : zB) : Int → Int := B.2.2
def zDok (B : zB) : Prop := (-1 ≤ bk B ∧ bk B ≤ 4) ∧ (0 ≤ bn B ∧ bn B ≤ 80) ∧ ((bk B = -1 ∨ bk B = 4) → bn B = 0) ∧ ∀ i, 0 ≤ i → i < bn B → z64 (be B i) ∧ ((bk B = 0 ∨ bk B = 1) → z32 (be B i))
/-- a lamp's steps by a board, in m colours -/
def zbst (B : zB) (m i : Int) : Int :=
  if bk B = 0 ∨ bk B = 1 then (if i < bn B then be B i % m else 0) else if bk B = 2 then (if i / 32 < bn B then zbit (be B (i / 32)) (i % 32) else 0) else if bk B = 3 then (if i / 64 < bn B then zbit (be B (i / 64)) (i % 64) else 0) else 0
theorem zbst_le (B : zB) {m : Int} (hm : 2 ≤ m) (i : Int) : 0 ≤ zbst B m i ∧ zbst B m i < m := by
  unfold zbst
  split
  · split
    · exact zmod_le _ (by omega)
    · omega
  · split
    · split
      · have := zbit_01 (be B (i / 32)) (i % 32); omega
      · omega
    · split
      · split
        · have := zbit_01 (be B (i / 64)) (i % 64); omega
        · omega
      · omega
def zBd (S : zS) (V : zH) (b : Int) (B : zB) : Prop := (S b = (3, 3) ∧ S (b + 1) = (2, 80) ∧ V b 2 = b + 1) ∧ (V b 0 = bk B ∧ V b 1 = bn B ∧ ∀ i, 0 ≤ i → i < bn B → V (b + 1) i = be B i) ∧ zDok B
theorem zBd.congr {S : zS} {V V' : zH} {b : Int} {B : zB} (H : zBd S V b B) (h : ∀ q, b ≤ q → q ≤ b + 1 → V' q = V q) : zBd S V' b B := by
  obtain ⟨⟨h1, h2, h3⟩, ⟨h4, h5, h6⟩, h7⟩ := H
  exact ⟨⟨h1, h2, by rw [h b (by omega) (by omega)]; exact h3⟩, ⟨by rw [h b (by omega) (by omega)]; exact h4, by rw [h b (by omega) (by omega)]; exact h5, fun i x y => by rw [h (b + 1) (by omega) (by omega)]; exact h6 i x y⟩, h7⟩
section BOARD
variable {E : zE} {S : zS} {V : zH} {b : Int} {B : zB}
theorem zBd.kb (H : zBd S V b B) : (S b).1 = 3 := by rw [H.1.1]
theorem sp_bitFor (H : zBd S V b B) {i w : Int} {F : Int → Prop} (hi : 0 ≤ i) (hw : w = 32 ∨ w = 64) (h : F (if i / w < bn B then zbit (be B (i / w)) (i % w) else 0)) : SpF E 0 zm_X0_bitFor [zrv b, ziv i, ziv w] S V F := by
  obtain ⟨⟨h1, h2, h3⟩, ⟨h4, h5, h6⟩, h7⟩ := id H
  have hd := h7.2.1
  have hq := zdiv_le hi (show 0 < w by omega)
  refine en_X0_bitFor (fun _ _ => ⟨hi, by omega, fun x hx => ?_⟩)
  rw [← hx] at h hq
  simp only [H.kb, h3, h2, h5, true_and]
  refine ⟨fun c => ?_, fun c => ⟨⟨by omega, by omega⟩, ?_⟩⟩
  · rw [if_neg (by omega)] at h; exact h
  · rw [if_pos c] at h
    rw [h6 x (by omega) c]
    exact h
theorem sp_stepsFor (H : zBd S V b B) {i m : Int} {F : Int → Prop} (hi : 0 ≤ i ∧ i ≤ 79) (hm : 0 < m) (h : F (zbst B m i)) : SpF E 1 zm_X0_stepsFor [zrv b, ziv i, ziv m] S V F := by
  obtain ⟨⟨h1, h2, h3⟩, ⟨h4, h5, h6⟩, h7⟩ := id H
  obtain ⟨d1, d2, d3, d4⟩ := h7
  unfold zbst at h
  have rowk : (bk B = 0 ∨ bk B = 1) → ∀ X, zl_X0_stepsFor_36 E X F S b i m V := by
    intro z X
    rw [if_pos z] at h
    refine wp_X0_stepsFor_36 ?_
    simp only [H.kb, h3, h2, h5, true_and]
    refine ⟨fun c => ?_, fun c => ⟨⟨hi.1, by omega⟩, sp_fmod hm ?_⟩⟩
    · rw [if_neg (by omega)] at h; exact h
    · rw [if_pos c] at h
      rw [h6 i hi.1 c, zl2i_id ((d4 i hi.1 c).2 z)]
      exact h
  refine en_X0_stepsFor (fun _ _ X => ?_)
  rw [h4]
  refine ⟨H.kb, fun c => rowk (Or.inl c) X, fun c => rowk (Or.inr c) X, fun c => sp_bitFor H hi.1 (Or.inl rfl) ?_, fun c => sp_bitFor H hi.1 (Or.inr rfl) ?_, fun c => ?_⟩
  · rw [if_neg (by omega), if_pos c] at h; exact h
  · rw [if_neg (by omega), if_neg (by omega), if_pos c] at h; exact h
  · rw [if_neg (by omega), if_neg (by omega), if_neg (by omega)] at h; exact h
theorem sp_lay (H : zBd S V b B) {k n : Int} {F : zH → Prop} (hk : -1 ≤ k ∧ k ≤ 4) (hn : 0 ≤ n ∧ n ≤ 80) (h0 : (k = -1 ∨ k = 4) → n = 0) (h : ∀ V', zBd S V' b (k, n, fun _ => 0) → zOff V V' b (b + 1) → F V') : SpV E 1 zm_X0_lay [zrv b, ziv k, ziv n] S V F := by
  obtain ⟨⟨h1, h2, h3⟩, ⟨h4, h5, h6⟩, h7⟩ := id H
  refine en_X0_lay (fun _ _ => ?_)
  rw [h3]
  refine ⟨H.kb, fun V2 e2 V4 e4 => sp_filll h2 ⟨by omega, by omega⟩ ?_⟩
  have ev : V4 = zput (zput V b 0 k) b 1 n := by rw [e4, e2]
  have eb : ∀ j, zarr V4 (b + 1) (fun j => if 0 ≤ j ∧ j < 80 then 0 else V4 (b + 1) j) b j = if j = 1 then n else if j = 0 then k else V b j := by
    intro j
    rw [zarr_ne _ _ (by omega), ev]
    simp only [zput, true_and]
  refine h _ ⟨⟨h1, h2, by rw [eb]; exact h3⟩, ⟨by rw [eb]; rfl, by rw [eb]; rfl, fun i x y => ?_⟩, ⟨hk, hn, h0, fun i _ _ => ⟨?_, fun _ => z32_0⟩⟩⟩ (fun q hq => ?_)
  · have : i < n := y
    rw [zarr_self, if_pos (by omega)]
  · show z64 0
    unfold z64; omega
  · rw [zarr_ne _ _ (by omega), ev, zput_row _ _ _ (by omega), zput_row _ _ _ (by omega)]
/-- what an entry keeps of a number -/
def zcut (k v : Int) : Int := if k = 0 then zi2b (zl2i v) else if k = 1 then zi2s (zl2i v) else if k = 2 then zl2i v else v
theorem zcut_ok {k v : Int} (hv : z64 v) : z64 (zcut k v) ∧ ((k = 0 ∨ k = 1) → z32 (zcut k v)) := by
  unfold zcut
  split
  · exact ⟨z32_z64 (z32_of _), fun _ => z32_of _⟩
  · split
    · exact ⟨z32_z64 (z32_of _), fun _ => z32_of _⟩
    · split
      · exact ⟨z32_z64 (z32_of _), fun _ => by omega⟩
      · exact ⟨hv, fun _ => by omega⟩
def zWrite (B : zB) (i v : Int) : zB := (bk B, bn B, zupd (be B) i (zcut (bk B) v))
theorem zWrite_ok {B : zB} (h : zDok B) {i v : Int} (hv : z64 v) : zDok (zWrite B i v) := by
  obtain ⟨d1, d2, d3, d4⟩ := h
  refine ⟨d1, d2, d3, fun j x y => ?_⟩
  by_cases hj : j = i
  · subst hj
    show z64 (zupd (be B) j (zcut (bk B) v) j) ∧ ((bk B = 0 ∨ bk B = 1) → z32 (zupd (be B) j (zcut (bk B) v) j))
    rw [zupd_self]; exact zcut_ok hv
  · show z64 (zupd (be B) i (zcut (bk B) v) j) ∧ ((bk B = 0 ∨ bk B = 1) → z32 (zupd (be B) i (zcut (bk B) v) j))
    rw [zupd_ne _ _ hj]; exact d4 j x y
theorem sp_write (H : zBd S V b B) {i v : Int} {F : zH → Prop} (hi : 0 ≤ i ∧ i < bn B) (h : ∀ V', zBd S V' b (zWrite B i v) → zOff V V' b (b + 1) → F V') : SpV E 0 zm_X0_write [zrv b, ziv i, zjv v] S V F := by
  obtain ⟨⟨h1, h2, h3⟩, ⟨h4, h5, h6⟩, h7⟩ := id H
  have hd := h7.2.1
  refine en_X0_write (fun _ hv => ?_)
  have fin : ∀ V', V' = zput V (b + 1) i (zcut (bk B) v) → F V' := by
    intro V' e
    have eb : V' b = V b := by rw [e, zput_row _ _ _ (by omega)]
    refine h V' ⟨⟨h1, h2, by rw [eb]; exact h3⟩, ⟨by rw [eb]; exact h4, by rw [eb]; exact h5, fun j x y => ?_⟩, zWrite_ok h7 hv⟩ (fun q hq => by rw [e, zput_row _ _ _ (by omega)])
    show V' (b + 1) j = zupd (be B) i (zcut (bk B) v) j
    rw [e]
    by_cases hj : j = i
    · subst hj; rw [zput_self, zupd_self]
    · rw [zput_nk _ _ _ _ hj, zupd_ne _ _ hj]; exact h6 j x y
  simp only [H.kb, h3, h2, h4, true_and]
  refine ⟨fun c => ⟨⟨hi.1, by omega⟩, fun V' e => fin V' ?_⟩, fun c => ⟨⟨hi.1, by omega⟩, fun V' e => fin V' ?_⟩, fun c => ⟨⟨hi.1, by omega⟩, fun V' e => fin V' ?_⟩, fun c => ⟨⟨hi.1, by omega⟩, fun V' e => fin V' ?_⟩⟩
  · rw [e]; unfold zcut; rw [if_pos c]
  · rw [e]; unfold zcut; rw [if_neg (by omega), if_pos c]
  · rw [e]; unfold zcut; rw [if_neg (by omega), if_neg (by omega), if_pos c]
  · rw [e]; unfold zcut; rw [if_neg (by omega), if_neg (by omega), if_neg (by omega)]
/-- button k gets the wires f -/
def zWire (P : zP) (k : Int) (f : Int → Int) : zP := (P.1, psh P, pkd P, ppa P, pad P, pot P, pco P, fun j i => if j = k then f i else pwi P j i)
theorem zWire_ok {P : zP} (ok : zPok P) {k : Int} {f : Int → Int} (hf : ∀ i, 0 ≤ i → i < pn P → 0 ≤ f i ∧ f i < pm P) : zPok (zWire P k f) := by
  obtain ⟨h1, h2, h3, h4, h5, h6⟩ := ok
  refine ⟨h1, h2, h3, h4, h5, fun j a b => ?_⟩
  have q := h6 j a b
  refine ⟨q.1, q.2.1, q.2.2.1, q.2.2.2.1, q.2.2.2.2.1, q.2.2.2.2.2.1, fun i ia ib => ?_⟩
  show 0 ≤ (if j = k then f i else pwi P j i) ∧ (if j = k then f i else pwi P j i) < pm P
  split
  · exact hf i ia ib
  · exact q.2.2.2.2.2.2 i ia ib
theorem sp_wireTo {p k : Int} {P : zP} (H : zPl S V p P) (HB : zBd S V b B) (hd : b + 1 < p ∨ p + 7 < b) {F : Int → zH → Prop} (hk : 0 ≤ k ∧ k < pb P) (hw : 0 ≤ V p 4 ∧ V p 4 ≤ 100000) (h : ∀ V', zPl S V' p (zWire P k (zbst B (pm P))) → V' p 4 = V p 4 + 1 → zOff V V' p (p + 7) → F (zsum (fun i => if zbst B (pm P) i = 0 then 0 else 1) (pn P)) V') : SpI E 2 zm_X3_wireTo [zrv p, ziv k, zrv b] S V F := by
  have o1 := H.ok.1
  have o2 := H.ok.2.1
  have o4 := H.ok.2.2.2.1
  refine en_X3_wireTo (fun _ X => ?_)
  have key := zdown (Q := fun i => ∀ g, (∀ j, (j < k * 36 ∨ k * 36 + i ≤ j) → g j = V (p + 7) j) → (∀ j, 0 ≤ j → j < i → g (k * 36 + j) = zbst B (pm P) j) → zl_X3_wireTo_5 E X F S p k b (zsum (fun i => if zbst B (pm P) i = 0 then 0 else 1) i) i (zarr V (p + 7) g)) (N := pn P) (fun g hg hg2 => ?_) (fun i h0 h1 ih g hg hg2 => ?_) 0 (by omega) (by omega)
  · have k2 := key (V (p + 7)) (fun j _ => rfl) (fun j _ _ => by omega)
    rw [zarr_id] at k2
    exact k2
  · have ep : zarr V (p + 7) g p = V p := zarr_ne _ _ (by omega)
    refine wp_X3_wireTo_5 ?_
    rw [ep]
    simp only [H.kp, H.n, true_and]
    refine ⟨fun _ => ⟨⟨by omega, by omega⟩, fun V4 e4 => ?_⟩, fun c => absurd c (by omega)⟩
    have eq : ∀ q, q ≠ p → V4 q = zarr V (p + 7) g q := fun q hq => by rw [e4, zput_row _ _ _ hq]
    have ep2 : ∀ j, V4 p j = if j = 4 then V p 4 + 1 else V p j := by
      intro j
      rw [e4]
      simp only [zput, true_and]
      rw [ep]
    have e6 : ∀ q, q ≠ p → q ≠ p + 7 → V4 q = V q := fun q q1 q2 => by rw [eq q q1, zarr_ne _ _ q2]
    refine h V4 ⟨H.1.frame (fun j x y => by rw [ep2, if_neg (by omega)]), ⟨by rw [ep2]; exact H.n, by rw [ep2]; exact H.m, by rw [ep2]; exact H.w, by rw [ep2]; exact H.b, fun i x y => by rw [e6 _ (by omega) (by omega)]; exact H.sh ⟨x, y⟩, fun j x y => ?_⟩, zWire_ok H.ok (fun i _ _ => zbst_le B o2.1 i)⟩ (by rw [ep2]; rfl) (fun q hq => e6 q (by omega) (by omega))
    obtain ⟨d1, d2, d3, d4, d5⟩ := H.bt (k := j) ⟨x, y⟩
    refine ⟨by rw [e6 _ (by omega) (by omega)]; exact d1, fun z => ⟨by rw [e6 _ (by omega) (by omega)]; exact (d2 z).1, by rw [e6 _ (by omega) (by omega)]; exact (d2 z).2⟩, fun z => by rw [e6 _ (by omega) (by omega)]; exact d3 z, by rw [e6 _ (by omega) (by omega)]; exact d4, fun i ia ib => ?_⟩
    have ib' : i < pn P := ib
    show V4 (p + 7) (j * 36 + i) = if j = k then zbst B (pm P) i else pwi P j i
    rw [eq _ (by omega), zarr_self]
    by_cases hj : j = k
    · subst hj
      rw [if_pos rfl]; exact hg2 i ia ib'
    · rw [if_neg hj, hg _ (by omega)]; exact d5 i ia ib
  · have ep : zarr V (p + 7) g p = V p := zarr_ne _ _ (by omega)
    have HBi : zBd S (zarr V (p + 7) g) b B := HB.congr (fun q _ _ => zarr_ne _ _ (by omega))
    have bb := zsum_le (f := fun i => if zbst B (pm P) i = 0 then 0 else 1) (c := 1) h0 (fun j _ _ => by split <;> omega)
    refine wp_X3_wireTo_5 ?_
    rw [ep]
    simp only [H.kp, H.n, H.m, H.v11, H.s7, HB.kb, true_and]
    refine ⟨fun c => absurd c (by omega), fun _ => sp_stepsFor HBi ⟨h0, by omega⟩ (by omega) ⟨⟨by omega, by omega⟩, ⟨by omega, by omega⟩, ⟨by omega, by omega⟩, fun V13 e13 => ?_⟩⟩
    have nx := ih (zupd g (k * 36 + i) (zbst B (pm P) i)) (fun j hj => by rw [zupd_ne _ _ (by omega)]; exact hg j (by omega)) (fun j x y => by
      by_cases hj : j = i
      · rw [hj, zupd_self]
      · rw [zupd_ne _ _ (by omega)]; exact hg2 j x (by omega))
    rw [zsum_s _ h0] at nx
    rw [e13, zput_zarr V (g := zupd g (k * 36 + i) (zbst B (pm P) i)) (fun j => rfl)]
    refine ⟨fun z => ⟨⟨by omega, by omega⟩, ?_⟩, fun z => ⟨⟨by omega, by omega⟩, ⟨by omega, by omega⟩, ?_⟩⟩
    · simp only [if_pos z, Int.add_zero] at nx
      exact nx
    · simp only [if_neg z] at nx
      exact nx
end BOARD
