/-! THE REFERENCE: can(), next() -/
section MDCAN
variable {E : zE} {S : zS} {V : zH} {o : Int} {P : zP} {s : zSig}
/-- only what the lattices use, the ROW and rows for searching have changed -/
def zTf (V V1 : zH) (o : Int) : Prop := (∀ q, q ≠ o → (q < o + 5 ∨ o + 12 < q) → V1 q = V q) ∧ ∀ j, j ≠ 10 → j ≠ 14 → j ≠ 15 → j ≠ 17 → j ≠ 18 → j ≠ 19 → V1 o j = V o j
theorem zLf.tf {V1 : zH} (h : zLf V V1 o) : zTf V V1 o := ⟨fun q a b => h.1 q a (by omega) (by omega) (by omega) (by omega), fun j a b c _ _ _ => h.2 j a b c⟩
theorem zTf.trans {V1 V2 : zH} (h : zTf V V1 o) (g : zTf V1 V2 o) : zTf V V2 o := ⟨fun q a b => (g.1 q a b).trans (h.1 q a b), fun j a b c d e f => (g.2 j a b c d e f).trans (h.2 j a b c d e f)⟩
theorem zTf.refl (V : zH) (o : Int) : zTf V V o := ⟨fun _ _ _ => rfl, fun _ _ _ _ _ _ _ => rfl⟩
theorem zTf.arr {V1 : zH} (h : zTf V V1 o) {a : Int} (g : Int → Int) (ha : o + 5 ≤ a ∧ a ≤ o + 12) : zTf V (zarr V1 a g) o := ⟨fun q a1 a2 => by rw [zarr_ne _ _ (by omega)]; exact h.1 q a1 a2, fun j a b c d e f => by rw [zarr_ne _ _ (by omega)]; exact h.2 j a b c d e f⟩
theorem zTf.put {V1 : zH} (h : zTf V V1 o) {a i x : Int} (ha : o + 5 ≤ a ∧ a ≤ o + 12) : zTf V (zput V1 a i x) o := ⟨fun q a1 a2 => by rw [zput_row _ _ _ (by omega)]; exact h.1 q a1 a2, fun j a b c d e f => by rw [zput_row _ _ _ (by omega)]; exact h.2 j a b c d e f⟩
theorem zTf.fro {V1 : zH} (h : zTf V V1 o) : zFro V V1 o := fun q hq => h.1 q (by omega) (by omega)
theorem zTf.mo {V1 : zH} (h : zTf V V1 o) (M : zMo S V o P) : zMo S V1 o P := M.frame (fun j hj => h.2 j (by omega) (by omega) (by omega) (by omega) (by omega) (by omega)) (h.1 _ (by omega) (by omega))
theorem zMd.tf {V1 : zH} {T : zT} (H : zMd S V o s) (h : zTf V V1 o) (hT : zMT V1 o T) (hP : zTP T (gP s)) : zMd S V1 o (zSetT s T) := by
  have f : ∀ j, j ≠ 10 → j ≠ 14 → j ≠ 15 → j ≠ 17 → j ≠ 18 → j ≠ 19 → V1 o j = V o j := h.2
  exact ⟨h.mo H.mo, H.b.congr (f 6 (by decide) (by decide) (by decide) (by decide) (by decide) (by decide)) (f 7 (by decide) (by decide) (by decide) (by decide) (by decide) (by decide)) (h.1 _ (by omega) (by omega)), H.h.congr (f 4 (by decide) (by decide) (by decide) (by decide) (by decide) (by decide)) (f 5 (by decide) (by decide) (by decide) (by decide) (by decide) (by decide)) (h.1 _ (by omega) (by omega)), H.k.congr (f 2 (by decide) (by decide) (by decide) (by decide) (by decide) (by decide)) (h.1 _ (by omega) (by omega)), hT, H.l.congr (f 24 (by decide) (by decide) (by decide) (by decide) (by decide) (by decide)) (h.1 _ (by omega) (by omega)), hP⟩
theorem zMd.lf {V1 : zH} (H : zMd S V o s) (h : zLf V V1 o) : zMd S V1 o s := H.tf h.tf (T := gT s) (H.t.congr (h.2 17 (by decide) (by decide) (by decide)) (h.2 18 (by decide) (by decide) (by decide)) (h.2 19 (by decide) (by decide) (by decide)) (h.1 _ (by omega) (by omega) (by omega) (by omega) (by omega))) H.tp
theorem s8_pivot (M : zMo S V o P) {k : Int} {F : Int → Prop} (hk : 0 ≤ k ∧ k ≤ 36) (h : F (zRw (V (o + 5)) k k)) : SpF E 0 zm_X8_pivot [zrv o, ziv k] S V F := by
  refine en_X8_pivot (fun _ => ?_)
  rw [M.f9, M.t5]
  exact ⟨M.ko, ⟨by omega, by omega⟩, ⟨by omega, by omega⟩, rfl, ⟨by omega, by show 37 * k + k < 1369; omega⟩, h⟩
theorem s8_tells (M : zMo S V o P) {n b : Int} {F : zH → Prop} (hb : b = 0 ∨ b = 1) (h : ∀ V', (∀ q, q ≠ o → V' q = V q) → (∀ j, V' o j = if j = 19 then 0 else if j = 18 then b else if j = 17 then n else V o j) → zTf V V' o → F V') : SpV E 0 zm_X8_tells [zrv o, ziv n, ziv b] S V F := by
  refine en_X8_tells (fun _ _ => ⟨M.ko, fun V2 e2 => ⟨hb, fun V5 e5 V7 e7 => ?_⟩⟩)
  have r : ∀ q, q ≠ o → V7 q = V q := fun q hq => by rw [e7, zput_row _ _ _ hq, e5, zput_row _ _ _ hq, e2, zput_row _ _ _ hq]
  have ro : ∀ j, V7 o j = if j = 19 then 0 else if j = 18 then b else if j = 17 then n else V o j := fun j => by rw [e7, e5, e2]; simp only [zput, true_and]
  exact h V7 r ro ⟨fun q a _ => r q a, fun j _ _ _ a b c => by rw [ro, if_neg c, if_neg b, if_neg a]⟩
theorem s8_canBe (M : zMo S V o P) {F : Int → zH → Prop} (h1 : ∀ V', zLf V V' o → zRf V' o P → zRw (V' (o + 5)) (pb P) (pb P) = 1 → F 1 V') (h0 : ∀ V', zLf V V' o → zRf V' o P → (¬ ∃ x, zSol P x) → F 0 V') : SpI E 5 zm_X8_canBe [zrv o] S V F := by
  have o4 := M.ok.2.2.2.1
  exact en_X8_canBe ⟨M.ko, s8_pushings M (fun V3 l r => s8_b (l.mo M) (s8_pivot (l.mo M) ⟨o4.1, o4.2⟩ ⟨fun z => h0 V3 l r (fun q => z (r.2.2.1 q)), fun z => h1 V3 l r z⟩))⟩
/-- a pushing of the first numbers' kind, as a ROW -/
theorem zCan.row (ok : zPok P) {d y : Int → Int} (hd : zDs (pm P) (pb P) (zQu P) d) (h : zCan P d y) : (∀ k, 0 ≤ k → k < pb P → 0 ≤ y k ∧ y k < pm P) ∧ zTP (1, pb P, 1, y) P := by
  have o2 := ok.2.1
  have b : ∀ k, 0 ≤ k → k < pb P → 0 ≤ y k ∧ y k < pm P := fun k x z => by
    have := h.2 k x z
    have := (hd.le (by omega) x z).1
    omega
  exact ⟨b, fun _ => ⟨rfl, rfl, fun k x z => ⟨(b k x z).2, fun h3 => zdvd_small (h.1.2 k x z h3) (by have := (b k x z).1; show -pm P < y k; omega) (b k x z).2⟩⟩⟩
theorem zdw_congr {n : Int} {y z a : Int → Int} (h : ∀ i, 0 ≤ i → i < n → y i = z i) : zdw n y a = zdw n z a := zsum_congr (fun i x w => by rw [h (n - 1 - i) (by omega) (by omega)])
theorem s8_isZero (M : zMo S V o P) {k : Int} {F : Int → Prop} (hk : 0 ≤ k ∧ k < pn P) (hr : ∀ i, 0 ≤ i → i < pn P → 0 ≤ zRw (V (o + 5)) k i) (h1 : pm P ∣ zdw (pn P) (zRw (V (o + 5)) k) (psh P) → F 1) (h0 : ¬ pm P ∣ zdw (pn P) (zRw (V (o + 5)) k) (psh P) → F 0) : SpF E 1 zm_X8_isZero [zrv o, ziv k] S V F := by
  have o1 := M.ok.1
  have o2 := M.ok.2.1
  have sh := M.ok.2.2.2.2.1
  refine en_X8_isZero (fun _ X => ?_)
  have tb : ∀ i, 0 ≤ i → i < pn P → (0 ≤ zRw (V (o + 5)) k (pn P - 1 - i) % pm P ∧ zRw (V (o + 5)) k (pn P - 1 - i) % pm P ≤ 11) := fun i a b => by
    have := zmod_le (zRw (V (o + 5)) k (pn P - 1 - i)) (show 0 < pm P by omega)
    omega
  have sb : ∀ c, 0 ≤ c → c ≤ pn P → 0 ≤ zsum (fun i => zRw (V (o + 5)) k (pn P - 1 - i) % pm P * psh P i) c ∧ zsum (fun i => zRw (V (o + 5)) k (pn P - 1 - i) % pm P * psh P i) c ≤ c * 121 := fun c a b => zdot_le a (fun j x y => tb j x (by omega)) (fun j x y => by have := sh j x (by omega); omega)
  have key := zdown (Q := fun c => zl_X8_isZero_4 E X F S o k (zsum (fun i => zRw (V (o + 5)) k (pn P - 1 - i) % pm P * psh P i) c) c V) (N := pn P) ?_ (fun c a b ih => ?_) 0 (by omega) (by omega)
  · rw [zsum_0] at key; exact key
  · have bb := sb (pn P) (by omega) (Int.le_refl _)
    have e : pm P ∣ zsum (fun i => zRw (V (o + 5)) k (pn P - 1 - i) % pm P * psh P i) (pn P) ↔ pm P ∣ zdw (pn P) (zRw (V (o + 5)) k) (psh P) := zdvd_iff (zsum_lin_cg (n := pn P) (x := fun i => zRw (V (o + 5)) k (pn P - 1 - i)) (y := fun i => zRw (V (o + 5)) k (pn P - 1 - i) % pm P) (g := psh P) (fun i _ _ => zdvd_emod _ _))
    refine wp_X8_isZero_4 ⟨M.ko, s8_n M ⟨fun _ => s8_m M ⟨bb.1, by omega, fun z => h0 (fun q => z (Int.emod_eq_zero_of_dvd (e.mpr q))), fun z => h1 (e.mp (Int.dvd_of_emod_eq_zero z))⟩, fun q => by omega⟩⟩
  · have bb := sb c a (by omega)
    have t1 := tb c a b
    have s1 := sh c a b
    have pp := zmul_le (a := zRw (V (o + 5)) k (pn P - 1 - c) % pm P) (b := psh P c) (A := 11) (B := 11) t1 ⟨s1.1, by omega⟩
    refine wp_X8_isZero_4 ⟨M.ko, s8_n M ⟨fun q => by omega, fun _ => ⟨⟨by omega, by omega⟩, s8_n M ?_⟩⟩⟩
    rw [M.f9, M.f0, M.t5, M.t1, M.sh ⟨a, b⟩, show 37 * k + pn P - 1 - c = 37 * k + (pn P - 1 - c) by omega]
    refine ⟨⟨by omega, by omega⟩, ⟨by omega, by omega⟩, ⟨by omega, by omega⟩, rfl, ⟨by omega, by show 37 * k + (pn P - 1 - c) < 1369; omega⟩, s8_m M ⟨hr _ (by omega) (by omega), by omega, ⟨by omega, by omega⟩, rfl, ⟨by omega, by show 4 + c < 1516; omega⟩, ⟨?_, ?_⟩, ⟨?_, ?_⟩, fun x27 e27 => ⟨⟨by omega, by omega⟩, ?_⟩⟩⟩
    · show -2147483648 ≤ zRw (V (o + 5)) k (pn P - 1 - c) % pm P * psh P c; omega
    · show zRw (V (o + 5)) k (pn P - 1 - c) % pm P * psh P c < 2147483648; omega
    · show -2147483648 ≤ _ + zRw (V (o + 5)) k (pn P - 1 - c) % pm P * psh P c; omega
    · show _ + zRw (V (o + 5)) k (pn P - 1 - c) % pm P * psh P c < 2147483648; omega
    · rw [zsum_s _ a] at ih
      rw [e27]; exact ih
/-- weights of row k, as a ROW -/
theorem s8_weigh (M : zMo S V o P) {k : Int} {F : zH → Prop} (hk : 0 ≤ k ∧ k < pn P) (h : ∀ V', zTf V V' o → V' o 17 = pn P → V' o 18 = 0 → V' o 19 = 0 → (∀ i, 0 ≤ i → i < pn P → V' (o + 9) i = zRw (V (o + 5)) k (pn P - 1 - i)) → F V') : SpV E 1 zm_X8_weigh [zrv o, ziv k] S V F := by
  have o1 := M.ok.1
  refine en_X8_weigh (fun _ X => ⟨M.ko, s8_n M (s8_tells M (Or.inl rfl) (fun V5 r5 o5 f5 => ?_))⟩)
  have Mg : ∀ g, zMo S (zarr V5 (o + 9) g) o P := fun g => ((f5.arr g ⟨by omega, by omega⟩)).mo M
  have eo : ∀ g, zarr V5 (o + 9) g o = V5 o := fun g => zarr_ne _ _ (by omega)
  have e5 : ∀ g, zarr V5 (o + 9) g (o + 5) = V (o + 5) := fun g => by rw [zarr_ne _ _ (by omega), r5 _ (by omega)]
  have key := zdown (Q := fun c => ∀ g, (∀ j, 0 ≤ j → j < c → g j = zRw (V (o + 5)) k (pn P - 1 - j)) → zl_X8_weigh_11 E X F S o k c (zarr V5 (o + 9) g)) (N := pn P) (fun g hg => ?_) (fun c a b ih g hg => ?_) 0 (by omega) (by omega)
  · have := key (V5 (o + 9)) (fun j _ _ => by omega)
    rw [zarr_id] at this; exact this
  · exact wp_X8_weigh_11 ⟨M.ko, s8_n (Mg g) ⟨fun _ => h _ (f5.arr g ⟨by omega, by omega⟩) (by rw [eo, o5]; rfl) (by rw [eo, o5]; rfl) (by rw [eo, o5]; rfl) (by rw [zarr_self]; exact hg), fun q => by omega⟩⟩
  · refine wp_X8_weigh_11 ⟨M.ko, s8_n (Mg g) ⟨fun q => by omega, fun _ => ⟨⟨by omega, by omega⟩, s8_n (Mg g) ?_⟩⟩⟩
    rw [(Mg g).f9, (Mg g).f16, M.t5, M.t9, e5, show 37 * k + pn P - 1 - c = 37 * k + (pn P - 1 - c) by omega]
    refine ⟨⟨by omega, by omega⟩, ⟨by omega, by omega⟩, ⟨by omega, by omega⟩, rfl, ⟨by omega, by show 37 * k + (pn P - 1 - c) < 1369; omega⟩, rfl, ⟨a, by show c < 36; omega⟩, fun V15 e15 => ⟨⟨by omega, by omega⟩, ?_⟩⟩
    rw [e15, zput_zarr V5 (g := zupd g c (V (o + 5) (37 * k + (pn P - 1 - c)))) (fun j => rfl)]
    refine ih _ (fun j x y => ?_)
    by_cases hj : j = c
    · rw [hj, zupd_self]; rfl
    · rw [zupd_ne _ _ hj]; exact hg j x (by omega)
/-- an element whose first number is m is nothing else -/
theorem zElm.top {m n k : Int} {K : (Int → Int) → Prop} (hL : zLat m n K) {d : Int → Int} (hd : zDs m n K d) (hk : k < n) (e : d k = m) : zElm n K d k (fun i => if i = k then m else 0) := by
  refine ⟨hL.2.2.2 _ _ hL.1 (fun i _ _ => ?_), by show (if k = k then m else 0) = d k; rw [if_pos rfl, e], fun i a b => by show (if i = k then m else 0) = 0; rw [if_neg (by omega)], fun i a b => ?_⟩
  · show m ∣ (if i = k then m else 0) - 0
    split
    · rw [Int.sub_zero]; exact Int.dvd_refl m
    · exact Int.dvd_zero m
  · show 0 ≤ (if i = k then m else 0) ∧ (if i = k then m else 0) < d i
    rw [if_neg (by omega)]
    have := (hd i a (by omega)).1
    omega
theorem md_can (H : zMd S V o s) {F : Int → zH → Prop}
    (h1 : ∀ V' d y, zDs (pm (gP s)) (pb (gP s)) (zQu (gP s)) d → zCan (gP s) d y → zMd S V' o (zSetT s (1, pb (gP s), 1, y)) → zFro V V' o → F 1 V')
    (h0 : ∀ V' d y, (¬ ∃ z, zSol (gP s) z) → zDs (pm (gP s)) (pn (gP s)) (zWt (gP s)) d → zWhy (gP s) d y → zMd S V' o (zSetT s (2, pn (gP s), 0, y)) → zFro V V' o → F 0 V') : SpI E 6 zm_X8_can [zrv o] S V F := by
  have M := H.mo
  generalize hP : gP s = P at *
  have o1 := M.ok.1
  have o2 := M.ok.2.1
  have o4 := M.ok.2.2.2.1
  refine en_X8_can (fun X => ⟨M.ko, s8_canBe M (fun V3 l3 r3 e3 => ⟨fun q => absurd q (by decide), fun _ => ?_⟩) (fun V3 l3 r3 n3 => ⟨fun _ => ?_, fun q => absurd rfl q⟩)⟩)
  · have can := r3.2.2.2 e3
    obtain ⟨yb, yt⟩ := can.row M.ok r3.1
    refine s8_b (l3.mo M) (s8_tells (l3.mo M) (Or.inr rfl) (fun V5 r5 o5 f5 => ?_))
    have f15 := l3.tf.trans f5
    have eo : ∀ g, zarr V5 (o + 9) g o = V5 o := fun g => zarr_ne _ _ (by omega)
    have Mg : ∀ g, zMo S (zarr V5 (o + 9) g) o P := fun g => ((f15.arr g ⟨by omega, by omega⟩)).mo M
    have e5 : ∀ g, zarr V5 (o + 9) g (o + 5) = V3 (o + 5) := fun g => by rw [zarr_ne _ _ (by omega), r5 _ (by omega)]
    have key := zdown (Q := fun c => ∀ g, (∀ j, 0 ≤ j → j < c → g j = zRw (V3 (o + 5)) (pb P) j) → zl_X8_can_18 E X F S o c (zarr V5 (o + 9) g)) (N := pb P) (fun g hg => ?_) (fun c a b ih g hg => ?_) 0 (by omega) (by omega)
    · have := key (V5 (o + 9)) (fun j _ _ => by omega)
      rw [zarr_id] at this; exact this
    · refine wp_X8_can_18 ⟨M.ko, s8_b (Mg g) ⟨fun _ V6 e6 => h1 V6 _ _ r3.1 can (H.tf (T := (1, pb P, 1, zRw (V3 (o + 5)) (pb P))) ?_ ⟨?_, ?_, ?_, fun i a b => ?_, ⟨by show (0 : Int) ≤ 1; omega, by show (1 : Int) ≤ 2; omega⟩, ⟨o4.1, o4.2⟩, Or.inr rfl, fun i a b => ?_⟩ (by rw [hP]; exact yt)) (zTf.fro ?_), fun q => by omega⟩⟩
      · exact ⟨fun q a1 a2 => by rw [e6, zput_row _ _ _ a1]; exact (f15.arr g ⟨by omega, by omega⟩).1 q a1 a2, fun j a b c d e f => by rw [e6, zput_nk _ _ _ _ f]; exact (f15.arr g ⟨by omega, by omega⟩).2 j a b c d e f⟩
      · rw [e6, zput_nk _ _ _ _ (by decide), eo, o5]; rfl
      · rw [e6, zput_nk _ _ _ _ (by decide), eo, o5]; rfl
      · rw [e6, zput_self]
      · rw [e6, zput_row _ _ _ (by omega), zarr_self]; exact hg i a b
      · have := yb i a b
        show 0 ≤ zRw (V3 (o + 5)) (pb P) i ∧ zRw (V3 (o + 5)) (pb P) i ≤ 11
        omega
      · exact ⟨fun q a1 a2 => by rw [e6, zput_row _ _ _ a1]; exact (f15.arr g ⟨by omega, by omega⟩).1 q a1 a2, fun j a b c d e f => by rw [e6, zput_nk _ _ _ _ f]; exact (f15.arr g ⟨by omega, by omega⟩).2 j a b c d e f⟩
    · refine wp_X8_can_18 ⟨M.ko, s8_b (Mg g) ⟨fun q => by omega, fun _ => s8_b (Mg g) ?_⟩⟩
      rw [(Mg g).f9, (Mg g).f16, M.t5, M.t9, e5]
      refine ⟨⟨by omega, by omega⟩, ⟨by omega, by omega⟩, rfl, ⟨by omega, by show 37 * pb P + c < 1369; omega⟩, rfl, ⟨a, by show c < 36; omega⟩, fun V15 e15 => ⟨⟨by omega, by omega⟩, ?_⟩⟩
      rw [e15, zput_zarr V5 (g := zupd g c (V3 (o + 5) (37 * pb P + c))) (fun j => rfl)]
      refine ih _ (fun j x y => ?_)
      by_cases hj : j = c
      · rw [hj, zupd_self]; rfl
      · rw [zupd_ne _ _ hj]; exact hg j x (by omega)
  · refine s8_weights (l3.mo M) (fun V6 l6 w6 => s8_n (l6.mo (l3.mo M)) ⟨⟨by omega, by omega⟩, ?_⟩)
    have l36 := l3.trans l6
    have M6 := l36.mo M
    obtain ⟨wd, we, -⟩ := w6
    have key := zind (P := fun t => t ≤ pn P → (∀ j, t ≤ j → j < pn P → pm P ∣ zdw (pn P) (zRw (V6 (o + 5)) j) (psh P)) → zl_X8_can_70 E X F S o (t - 1) V6) (fun _ hz => ?_) (fun k k0 ih k1 hz => ?_) (pn P) (by omega) (Int.le_refl _) (fun j _ _ => by omega)
    · exact key
    · exfalso
      exact n3 (zwhy_ex P (by omega) o4.1 (zkill wd (fun j a b => ⟨_, we j a b, hz j a b⟩)))
    · rw [show k + 1 - 1 = k by omega]
      have el := we k k0 (by omega)
      have rb : ∀ i, 0 ≤ i → i < pn P → 0 ≤ zRw (V6 (o + 5)) k i := fun i a b => by
        by_cases c : i < k
        · exact (el.2.2.2 i a c).1
        · by_cases e : i = k
          · rw [e]
            have := (wd k k0 (by omega)).1.1
            have : 0 < zRw (V6 (o + 5)) k k := this
            omega
          · rw [el.2.2.1 i (by omega) b]; omega
      refine wp_X8_can_70 ⟨M.ko, s8_isZero M6 ⟨k0, by omega⟩ rb (fun z => ⟨fun q => absurd q (by decide), fun _ => ⟨⟨by omega, by omega⟩, ?_⟩⟩) (fun z => ⟨fun _ => s8_weigh M6 ⟨k0, by omega⟩ (fun V8 f8 a17 a18 a19 a9 => ?_), fun q => absurd rfl q⟩)⟩
      · rw [show k + -1 = k - 1 by omega]
        refine ih (by omega) (fun j a b => ?_)
        by_cases c : j = k
        · rw [c]; exact z
        · exact hz j (by omega) b
      · have dk : zpd V6 o k < pm P := by
          have := (wd.le (by omega) k0 (show k < pn P by omega)).1
          rcases Int.lt_or_le (zpd V6 o k) (pm P) with q | q
          · exact q
          · exfalso
            have tp := zElm.top (zWt_lat P) wd (show k < pn P by omega) (show zpd V6 o k = pm P by omega)
            have eq := zElm.uniq (zWt_lat P) wd wd ⟨k0, by omega⟩ el tp
            rw [zdw_congr eq] at z
            exact z (zdw_m P k (psh P))
        have yb : ∀ i, 0 ≤ i → i < pn P → 0 ≤ zRw (V6 (o + 5)) k (pn P - 1 - i) ∧ zRw (V6 (o + 5)) k (pn P - 1 - i) < pm P := fun i a b => el.le (by omega) wd ⟨k0, by omega⟩ dk ⟨by omega, by omega⟩
        refine h0 V8 _ (fun i => zRw (V6 (o + 5)) k (pn P - 1 - i)) n3 wd ⟨k, _, ⟨k0, by omega⟩, el, z, fun j' R' a b c => ?_, fun _ _ _ => rfl⟩ (H.tf (l36.tf.trans f8) ⟨a17, a18, a19, a9, ⟨by show (0 : Int) ≤ 2; omega, by show (2 : Int) ≤ 2; omega⟩, ⟨by show 0 ≤ pn P; omega, o1.2⟩, Or.inl rfl, fun i a b => ?_⟩ (zTP.of0 rfl)) (l36.tf.trans f8).fro
        · have eq := zElm.uniq (zWt_lat P) wd wd ⟨by omega, b⟩ c (we j' (by omega) b)
          rw [zdw_congr eq]; exact hz j' (by omega) b
        · have := yb i a b
          show 0 ≤ zRw (V6 (o + 5)) k (pn P - 1 - i) ∧ zRw (V6 (o + 5)) k (pn P - 1 - i) ≤ 11
          omega
/-- the row is made less, below c -/
theorem s8_lower (M : zMo S V o P) (R : zRf V o P) {c : Int} {F : zH → Prop} (hc : 0 ≤ c ∧ c ≤ pb P) (hx : ∀ k, 0 ≤ k → k < pb P → 0 ≤ V (o + 9) k ∧ V (o + 9) k < pm P)
    (h : ∀ g, (∀ k, 0 ≤ k → k < pb P → 0 ≤ g k ∧ g k < pm P) → zQu P (fun j => g j - V (o + 9) j) → (∀ k, c ≤ k → g k = V (o + 9) k) → (∀ k, 0 ≤ k → k < c → g k < zpd V o k) → F (zarr V (o + 9) g)) : SpV E 1 zm_X8_lower [zrv o, ziv c] S V F := by
  have o2 := M.ok.2.1
  have o4 := M.ok.2.2.2.1
  have hL := zQu_lat P
  have eo : ∀ g, zarr V (o + 9) g o = V o := fun g => zarr_ne _ _ (by omega)
  have e5 : ∀ g, zarr V (o + 9) g (o + 5) = V (o + 5) := fun g => zarr_ne _ _ (by omega)
  have Mg : ∀ g, zMo S (zarr V (o + 9) g) o P := fun g => ((zTf.refl V o).arr g ⟨by omega, by omega⟩).mo M
  refine en_X8_lower (fun _ X => ⟨⟨by omega, by omega⟩, ?_⟩)
  have key := zind (P := fun t => t ≤ c → ∀ g, (∀ k, 0 ≤ k → k < pb P → 0 ≤ g k ∧ g k < pm P) → zQu P (fun j => g j - V (o + 9) j) → (∀ k, c ≤ k → g k = V (o + 9) k) → (∀ k, t ≤ k → k < c → g k < zpd V o k) → zl_X8_lower_4 E X F S o (t - 1) (zarr V (o + 9) g)) (fun _ g g1 g2 g3 g4 => ?_) (fun j j0 ih j1 g g1 g2 g3 g4 => ?_) c hc.1 (Int.le_refl _) (V (o + 9)) hx (hL.2.2.2 _ _ hL.1 (fun i _ _ => by rw [Int.sub_zero, Int.sub_self]; exact Int.dvd_zero _)) (fun _ _ => rfl) (fun k _ _ => by omega)
  · rw [zarr_id] at key; exact key
  · exact wp_X8_lower_4 ⟨fun _ => h g g1 g2 g3 g4, fun q => by omega⟩
  · rw [show j + 1 - 1 = j by omega]
    obtain ⟨dp, dm⟩ := (R.1 j j0 (by omega)).1
    have dm' := zdvd_le dm (show 0 < pm P by omega)
    have el := R.2.1 j j0 (by omega)
    have gj := g1 j j0 (by omega)
    refine wp_X8_lower_4 ⟨fun q => by omega, fun _ => ?_⟩
    rw [(Mg g).f16, M.t9, zarr_self]
    refine ⟨M.ko, rfl, ⟨j0, by show j < 36; omega⟩, s8_pivot (Mg g) ⟨j0, by omega⟩ ?_⟩
    rw [e5]
    refine ⟨gj.1, dp, fun q eq => ?_⟩
    have q0 := zdiv_le gj.1 dp
    rw [← eq] at q0
    have em : g j - q * zpd V o j = g j % zpd V o j := by rw [eq, Int.emod_def, Int.mul_comm (g j / zpd V o j)]
    have rem := zmod_le (g j) dp
    have rb : ∀ i, 0 ≤ i → i ≤ j → 0 ≤ zRw (V (o + 5)) j i ∧ zRw (V (o + 5)) j i ≤ 12 := fun i a b => by
      by_cases e : i = j
      · rw [e]
        have d1 : 0 < zRw (V (o + 5)) j j := dp
        have d2 : zRw (V (o + 5)) j j ≤ pm P := dm'
        omega
      · have x1 := el.2.2.2 i a (by omega)
        have x2 := (R.1.le (by omega) a (show i < pb P by omega)).1
        omega
    have done : ∀ g', (∀ i, (i < 0 ∨ j < i) → g' i = g i) → (∀ i, 0 ≤ i → i ≤ j → g' i = (g i - q * zRw (V (o + 5)) j i) % pm P) → zl_X8_lower_4 E X F S o (j + -1) (zarr V (o + 9) g') := by
      intro g' f1 f2
      have fj : g' j = g j % zpd V o j := by
        rw [f2 j j0 (Int.le_refl _)]
        show (g j - q * zpd V o j) % pm P = _
        rw [em, Int.emod_eq_of_lt rem.1 (by omega)]
      rw [show j + -1 = j - 1 by omega]
      refine ih (by omega) g' (fun k a b => ?_) ?_ (fun k a => by rw [f1 k (by omega)]; exact g3 k a) (fun k a b => ?_)
      · by_cases e : k ≤ j
        · rw [f2 k a e]; exact zmod_le _ (by omega)
        · rw [f1 k (by omega)]; exact g1 k a b
      · refine hL.2.2.2 _ _ (hL.comb (-q) g2 el.1) (fun i a b => ?_)
        show pm P ∣ g' i - V (o + 9) i - (g i - V (o + 9) i + -q * zRw (V (o + 5)) j i)
        rw [Int.neg_mul, show ∀ p u v w : Int, p - u - (v - u + -w) = p - (v - w) from fun p u v w => by omega]
        by_cases e : i ≤ j
        · rw [f2 i a e]; exact zdvd_emod _ _
        · rw [f1 i (by omega), el.2.2.1 i (by omega) b, Int.mul_zero, Int.sub_zero, Int.sub_self]; exact Int.dvd_zero _
      · by_cases e : k = j
        · rw [e, fj]; exact rem.2
        · rw [f1 k (by omega)]; exact g4 k (by omega) b
    have lp := zdown (Q := fun i => ∀ g', (∀ l, (l < 0 ∨ i ≤ l) → g' l = g l) → (∀ l, 0 ≤ l → l < i → g' l = (g l - q * zRw (V (o + 5)) j l) % pm P) → zl_X8_lower_24 E X F S o j q i (zarr V (o + 9) g')) (N := j + 1) (fun g' f1 f2 => ?_) (fun i a b ihi g' f1 f2 => ?_) 0 (by omega) (by omega)
    · exact lp g (fun _ _ => rfl) (fun l _ _ => by omega)
    · exact wp_X8_lower_24 ⟨fun _ => ⟨⟨by omega, by omega⟩, done g' (fun l hl => f1 l (by omega)) (fun l la lb => f2 l la (by omega))⟩, fun q => by omega⟩
    · refine wp_X8_lower_24 ⟨fun q => by omega, fun _ => ⟨fun z => ⟨⟨by omega, by omega⟩, done g' (fun l hl => f1 l (by omega)) (fun l la lb => ?_)⟩, fun z => ?_⟩⟩
      · by_cases e : l < i
        · exact f2 l la e
        · have gl := g1 l la (by omega)
          rw [f1 l (by omega), z, Int.zero_mul, Int.sub_zero, Int.emod_eq_of_lt gl.1 gl.2]
      · have ei : g' i = g i := f1 i (by omega)
        have b1 := g1 i a (by omega)
        have b2 := rb i a (by omega)
        have bb := zmul_le (a := q) (b := zRw (V (o + 5)) j i) (A := 12) (B := 12) ⟨q0.1, by omega⟩ b2
        have rw5 : zarr V (o + 9) g' (o + 5) (37 * j + i) = zRw (V (o + 5)) j i := by rw [e5]; rfl
        rw [(Mg g').f16, (Mg g').f9, M.t9, M.t5, rw5, zarr_self, ei]
        refine ⟨M.ko, rfl, ⟨a, by show i < 36; omega⟩, ⟨by omega, by omega⟩, ⟨by omega, by omega⟩, rfl, ⟨by omega, by show 37 * j + i < 1369; omega⟩, ⟨by omega, by omega⟩, ⟨by omega, by omega⟩, s8_m (Mg g') (sp_fmod (by omega) (fun V18 e18 => ⟨⟨by omega, by omega⟩, ?_⟩))⟩
        rw [e18, zput_zarr V (g := zupd g' i ((g i - q * zRw (V (o + 5)) j i) % pm P)) (fun j => rfl)]
        refine ihi _ (fun l hl => by rw [zupd_ne _ _ (by omega)]; exact f1 l (by omega)) (fun l la lb => ?_)
        by_cases hl : l = i
        · rw [hl, zupd_self]
        · rw [zupd_ne _ _ (by omega)]; exact f2 l la (by omega)
theorem s8_follows (M : zMo S V o P) (R : zRf V o P) {F : Int → zH → Prop} (hx : ∀ k, 0 ≤ k → k < pb P → 0 ≤ V (o + 9) k ∧ V (o + 9) k < pm P)
    (h0 : zNxNo (pm P) (pb P) (zpd V o) (V (o + 9)) → F 0 V)
    (h1 : ∀ g, (∀ k, 0 ≤ k → k < pb P → 0 ≤ g k ∧ g k < pm P) → zNx (pm P) (pb P) (zQu P) (zpd V o) (V (o + 9)) g → F 1 (zarr V (o + 9) g)) : SpI E 2 zm_X8_follows [zrv o, ziv (pb P)] S V F := by
  have o2 := M.ok.2.1
  have o4 := M.ok.2.2.2.1
  have hL := zQu_lat P
  have eo : ∀ g, zarr V (o + 9) g o = V o := fun g => zarr_ne _ _ (by omega)
  have e5 : ∀ g, zarr V (o + 9) g (o + 5) = V (o + 5) := fun g => zarr_ne _ _ (by omega)
  have Mg : ∀ g, zMo S (zarr V (o + 9) g) o P := fun g => ((zTf.refl V o).arr g ⟨by omega, by omega⟩).mo M
  have Rg : ∀ g, zRf (zarr V (o + 9) g) o P := fun g => by
    unfold zRf zpd
    rw [e5]; exact R
  refine en_X8_follows (fun _ X => ?_)
  have step : ∀ k, 0 ≤ k → k < pb P → (∀ i, 0 ≤ i → i < k → pm P ≤ V (o + 9) i + zpd V o i) → V (o + 9) k + zpd V o k < pm P → zl_X8_follows_41 E X F S o k 0 V := by
    intro k k0 k1 hb hk
    have el := R.2.1 k k0 k1
    obtain ⟨dp, dm⟩ := (R.1 k k0 k1).1
    have rb : ∀ i, 0 ≤ i → i ≤ k → 0 ≤ zRw (V (o + 5)) k i ∧ zRw (V (o + 5)) k i ≤ 12 := fun i a b => by
      by_cases e : i = k
      · rw [e]
        have d1 : 0 < zRw (V (o + 5)) k k := dp
        have d2 : zRw (V (o + 5)) k k ≤ pm P := zdvd_le dm (by omega)
        omega
      · have x1 := el.2.2.2 i a (by omega)
        have x2 := (R.1.le (by omega) a (show i < pb P by omega)).1
        omega
    have lp := zdown (Q := fun i => ∀ g, (∀ l, (l < 0 ∨ i ≤ l) → g l = V (o + 9) l) → (∀ l, 0 ≤ l → l < i → g l = (V (o + 9) l + zRw (V (o + 5)) k l) % pm P) → zl_X8_follows_41 E X F S o k i (zarr V (o + 9) g)) (N := k + 1) (fun g f1 f2 => ?_) (fun i a b ihi g f1 f2 => ?_) 0 (by omega) (by omega)
    · have := lp (V (o + 9)) (fun _ _ => rfl) (fun l _ _ => by omega)
      rw [zarr_id] at this; exact this
    · have gb : ∀ l, 0 ≤ l → l < pb P → 0 ≤ g l ∧ g l < pm P := fun l a b => by
        by_cases e : l ≤ k
        · rw [f2 l a (by omega)]; exact zmod_le _ (by omega)
        · rw [f1 l (by omega)]; exact hx l a b
      have gk : g k = V (o + 9) k + zpd V o k := by
        rw [f2 k k0 (by omega)]
        have x1 := hx k k0 k1
        exact Int.emod_eq_of_lt (by show 0 ≤ V (o + 9) k + zpd V o k; omega) hk
      have gq : zQu P (fun j => g j - V (o + 9) j) := hL.2.2.2 _ _ el.1 (fun i a b => by
        show pm P ∣ g i - V (o + 9) i - zRw (V (o + 5)) k i
        by_cases e : i ≤ k
        · rw [f2 i a (by omega), show ∀ p u v : Int, p - u - v = p - (u + v) from fun p u v => by omega]; exact zdvd_emod _ _
        · rw [f1 i (by omega), el.2.2.1 i (by omega) b, Int.sub_self, Int.sub_zero]; exact Int.dvd_zero _)
      refine wp_X8_follows_41 ⟨fun _ => ⟨M.ko, s8_lower (Mg g) (Rg g) ⟨k0, by omega⟩ (by rw [zarr_self]; exact gb) (fun g' t1 t2 t3 t4 => ?_)⟩, fun q => by omega⟩
      rw [zarr_self] at t2 t3
      have t4' : ∀ i, 0 ≤ i → i < k → g' i < zpd V o i := fun i a b => by
        have := t4 i a b
        unfold zpd at this
        rw [e5] at this; exact this
      rw [zarr_zarr]
      refine h1 g' t1 ⟨k, ⟨k0, k1⟩, ⟨hk, hb⟩, hL.2.2.2 _ _ (hL.2.1 _ _ t2 gq) (fun i _ _ => ?_), by rw [t3 k (Int.le_refl _), gk], fun i a b => by rw [t3 i (by omega), f1 i (by omega)], fun i a b => ⟨(t1 i a (by omega)).1, t4' i a b⟩⟩
      show pm P ∣ g' i - V (o + 9) i - (g' i - g i + (g i - V (o + 9) i))
      rw [show ∀ p u v : Int, p - u - (p - v + (v - u)) = 0 from fun p u v => by omega]; exact Int.dvd_zero _
    · have ei : g i = V (o + 9) i := f1 i (by omega)
      have b1 := hx i a (by omega)
      have b2 := rb i a (by omega)
      have rw5 : zarr V (o + 9) g (o + 5) (37 * k + i) = zRw (V (o + 5)) k i := by rw [e5]; rfl
      refine wp_X8_follows_41 ⟨fun q => by omega, fun _ => ?_⟩
      rw [(Mg g).f16, (Mg g).f9, M.t9, M.t5, rw5, zarr_self, ei]
      refine ⟨M.ko, rfl, ⟨a, by show i < 36; omega⟩, ⟨by omega, by omega⟩, ⟨by omega, by omega⟩, rfl, ⟨by omega, by show 37 * k + i < 1369; omega⟩, ⟨by omega, by omega⟩, s8_m (Mg g) ⟨by omega, by omega, fun V17 e17 => ⟨⟨by omega, by omega⟩, ?_⟩⟩⟩
      rw [e17, zput_zarr V (g := zupd g i ((V (o + 9) i + zRw (V (o + 5)) k i) % pm P)) (fun j => rfl)]
      refine ihi _ (fun l hl => by rw [zupd_ne _ _ (by omega)]; exact f1 l (by omega)) (fun l la lb => ?_)
      by_cases hl : l = i
      · rw [hl, zupd_self]
      · rw [zupd_ne _ _ (by omega)]; exact f2 l la (by omega)
  refine zdown (Q := fun k => (∀ i, 0 ≤ i → i < k → pm P ≤ V (o + 9) i + zpd V o i) → zl_X8_follows_2 E X F S o (pb P) k V) (N := pb P) (fun hb => ?_) (fun k a b ih hb => ?_) 0 (by omega) (by omega) (fun i _ _ => by omega)
  · exact wp_X8_follows_2 ⟨fun _ => ⟨fun q => absurd rfl q, fun _ => h0 hb⟩, fun q => by omega⟩
  · have b1 := hx k a b
    have dl : 1 ≤ zRw (V (o + 5)) k k ∧ zRw (V (o + 5)) k k ≤ pm P := (R.1.le (by omega) a b).1
    refine wp_X8_follows_2 ⟨fun q => by omega, fun _ => ?_⟩
    rw [M.f16, M.t9]
    refine ⟨M.ko, rfl, ⟨a, by show k < 36; omega⟩, s8_pivot M ⟨a, by omega⟩ ⟨⟨by omega, by omega⟩, s8_m M ⟨fun z => ⟨fun _ => step k a b hb z, fun q => by omega⟩, fun z => ⟨⟨by omega, by omega⟩, ih (fun i x y => ?_)⟩⟩⟩⟩
    by_cases e : i = k
    · rw [e]; exact z
    · exact hb i x (by omega)
theorem md_next (H : zMd S V o s) {F : Int → zH → Prop} (hn : tg (gT s) = 0 → F (-1) V)
    (h0 : tg (gT s) = 1 → ∀ V' d, zDs (pm (gP s)) (pb (gP s)) (zQu (gP s)) d → zNxNo (pm (gP s)) (pb (gP s)) d (tr (gT s)) → zMd S V' o s → zFro V V' o → F 0 V')
    (h1 : tg (gT s) = 1 → ∀ V' d y, zDs (pm (gP s)) (pb (gP s)) (zQu (gP s)) d → zNx (pm (gP s)) (pb (gP s)) (zQu (gP s)) d (tr (gT s)) y → zMd S V' o (zSetT s (1, pb (gP s), 1, y)) → zFro V V' o → F 1 V') : SpI E 5 zm_X8_next [zrv o] S V F := by
  have M := H.mo
  have o2 := M.ok.2.1
  have o4 := M.ok.2.2.2.1
  obtain ⟨t17, t18, t19, t9, tok⟩ := H.t
  refine en_X8_next ?_
  rw [t19]
  refine ⟨M.ko, fun z => ?_, fun z => hn z⟩
  have g1 : tg (gT s) = 1 := by
    rcases tok.2.2.1 with q | q
    · exact absurd q z
    · exact q
  obtain ⟨k1, n1, b1⟩ := H.tp g1
  have xb : ∀ k, 0 ≤ k → k < pb (gP s) → V (o + 9) k = tr (gT s) k ∧ 0 ≤ tr (gT s) k ∧ tr (gT s) k < pm (gP s) := fun k a b => ⟨t9 k a (by omega), (tok.2.2.2 k a (by omega)).1, (b1 k a b).1⟩
  refine s8_pushings M (fun V4 l4 r4 => s8_b (l4.mo M) (s8_follows (l4.mo M) r4 (fun k a b => ?_) (fun hno => ⟨fun _ => h0 g1 V4 _ r4.1 (fun i a b => ?_) (H.lf l4) l4.fro, fun q => absurd rfl q⟩) (fun g gb nx => ⟨fun q => absurd q (by decide), fun _ => ?_⟩)))
  · have := xb k a b
    rw [l4.1 _ (by omega) (by omega) (by omega) (by omega) (by omega), this.1]; exact this.2
  · have := hno i a b
    rw [l4.1 _ (by omega) (by omega) (by omega) (by omega) (by omega), (xb i a b).1] at this; exact this
  · have e9 : ∀ i, 0 ≤ i → i < pb (gP s) → V4 (o + 9) i = tr (gT s) i := fun i a b => by rw [l4.1 _ (by omega) (by omega) (by omega) (by omega) (by omega), (xb i a b).1]
    have nx' : zNx (pm (gP s)) (pb (gP s)) (zQu (gP s)) (zpd V4 o) (tr (gT s)) g := by
      obtain ⟨k, hk, ⟨c1, c2⟩, c3, c4, c5, c6⟩ := nx
      exact ⟨k, hk, ⟨by rw [← e9 k hk.1 hk.2]; exact c1, fun i a b => by rw [← e9 i a (by omega)]; exact c2 i a b⟩, (zQu_lat _).2.2.2 _ _ c3 (fun i a b => by rw [e9 i a b, Int.sub_self]; exact Int.dvd_zero _), by rw [c4, e9 k hk.1 hk.2], fun i a b => by rw [c5 i a b, e9 i (by omega) b], c6⟩
    have st : ∀ k, 0 ≤ k → k < pb (gP s) → pkd (gP s) k = 3 → g k = 0 := fun k a b c => by
      have q1 : zQu (gP s) (fun j => g j - V4 (o + 9) j) := by
        obtain ⟨k, hk, c0, c3, _⟩ := nx
        exact c3
      have := q1.2 k a b c
      have z0 := (b1 k a b).2 c
      dsimp only at this
      rw [e9 k a b, z0, Int.sub_zero] at this
      exact zdvd_small this (by have := (gb k a b).1; omega) (gb k a b).2
    have fT := l4.tf.arr (a := o + 9) g ⟨by omega, by omega⟩
    have eo : zarr V4 (o + 9) g o = V4 o := zarr_ne _ _ (by omega)
    refine h1 g1 _ _ g r4.1 nx' (H.tf fT ⟨?_, ?_, ?_, fun i a b => by rw [zarr_self], ⟨by show (0 : Int) ≤ 1; omega, by show (1 : Int) ≤ 2; omega⟩, ⟨o4.1, o4.2⟩, Or.inr rfl, fun i a b => ?_⟩ (fun _ => ⟨rfl, rfl, fun k a b => ⟨(gb k a b).2, st k a b⟩⟩)) fT.fro
    · rw [eo, l4.2 17 (by decide) (by decide) (by decide), t17, n1]
    · rw [eo, l4.2 18 (by decide) (by decide) (by decide), t18, k1]
    · rw [eo, l4.2 19 (by decide) (by decide) (by decide), t19, g1]
    · have := gb i a b
      show 0 ≤ g i ∧ g i ≤ 11
      omega
end MDCAN
