/-! THE REFERENCE'S LATTICES: whole(), reduce() -/
theorem zTr.iff {m n : Int} {K K' : (Int → Int) → Prop} {R : Int → Int → Int} {k : Int} (h : zTr m n K R k) (e : ∀ z, K z ↔ K' z) : zTr m n K' R k := by
  obtain ⟨h1, h2, h3, h4, h5⟩ := h
  exact ⟨h1, (e _).mp h2, h3, h4, fun z hz => h5 z ((e z).mpr hz)⟩
theorem zLat.iff {m n : Int} {K K' : (Int → Int) → Prop} (h : zLat m n K) (e : ∀ z, K z ↔ K' z) : zLat m n K' :=
  ⟨(e _).mp h.1, fun a b ha hb => (e _).mp (h.2.1 a b ((e a).mpr ha) ((e b).mpr hb)), fun k a ha => (e _).mp (h.2.2.1 k a ((e a).mpr ha)), fun a b ha c => (e _).mp (h.2.2.2 a b ((e a).mpr ha) c)⟩
/-- a row is made less at j -/
theorem zTr.red {m n : Int} {K : (Int → Int) → Prop} (hL : zLat m n K) (hm : 0 < m) {R : Int → Int → Int} {R' : Int → Int} {j k q : Int} (hj : 0 ≤ j ∧ j < k) (hk : k < n) (hRk : zTr m n K R k) (hRj : zTr m n K R j) (e0 : ∀ i, 0 ≤ i → i < j → R' i = (R k i - q * R j i) % m) (e1 : R' j = R k j - q * R j j) (b1 : 0 ≤ R' j ∧ R' j < m) (e2 : ∀ i, j < i → i < n → R' i = R k i) : zTr m n K (fun _ => R') k := by
  obtain ⟨h1, h2, h3, h4, h5⟩ := hRk
  have ek := e2 k (by omega) hk
  refine ⟨by show 0 < R' k ∧ R' k ∣ m; rw [ek]; exact h1, ?_, fun i a b => by show R' i = 0; rw [e2 i (by omega) b]; exact h3 i a b, fun i a b => ?_, by show ∀ z, K z → (∀ i, k < i → i < n → m ∣ z i) → R' k ∣ z k; rw [ek]; exact h5⟩
  · refine hL.2.2.2 _ _ (hL.comb (-q) h2 hRj.2.1) (fun i a b => ?_)
    show m ∣ R' i - (R k i + -q * R j i)
    rw [Int.neg_mul, ← Int.sub_eq_add_neg]
    by_cases c1 : i < j
    · rw [e0 i a c1]; exact zdvd_emod m _
    · by_cases c2 : i = j
      · rw [c2, e1, Int.sub_self]; exact Int.dvd_zero m
      · rw [e2 i (by omega) b, hRj.2.2.1 i (by omega) b, Int.mul_zero, Int.sub_zero, Int.sub_self]; exact Int.dvd_zero m
  · show 0 ≤ R' i ∧ R' i < m
    by_cases c1 : i < j
    · rw [e0 i a c1]; exact zmod_le _ hm
    · by_cases c2 : i = j
      · rw [c2]; exact b1
      · rw [e2 i (by omega) (by omega)]; exact h4 i a b
section REDU
variable {E : zE} {S : zS} {V : zH} {o : Int} {P : zP}
/-- only the rows v, f, u, old and dims, times1, times2 have changed -/
def zLf (V V1 : zH) (o : Int) : Prop := (∀ q, q ≠ o → q ≠ o + 5 → q ≠ o + 6 → q ≠ o + 7 → q ≠ o + 8 → V1 q = V q) ∧ ∀ j, j ≠ 10 → j ≠ 14 → j ≠ 15 → V1 o j = V o j
theorem zLf.mo {V1 : zH} (h : zLf V V1 o) (M : zMo S V o P) : zMo S V1 o P := M.frame (fun j hj => h.2 j (by omega) (by omega) (by omega)) (h.1 _ (by omega) (by omega) (by omega) (by omega) (by omega))
theorem zLf.refl (V : zH) (o : Int) : zLf V V o := ⟨fun _ _ _ _ _ _ => rfl, fun _ _ _ _ => rfl⟩
theorem zLf.trans {V1 V2 : zH} (h : zLf V V1 o) (g : zLf V1 V2 o) : zLf V V2 o := ⟨fun q a b c d e => (g.1 q a b c d e).trans (h.1 q a b c d e), fun j a b c => (g.2 j a b c).trans (h.2 j a b c)⟩
theorem zIm.lf {V1 : zH} (h : zIm V V1 o) : zLf V V1 o := ⟨fun q a b _ d e => h.1 q a b d e, fun j _ b c => h.2 j b c⟩
theorem zLf.put {V1 : zH} (h : zLf V V1 o) {a i x : Int} (ha : a = o + 5 ∨ a = o + 6 ∨ a = o + 7 ∨ a = o + 8) : zLf V (zput V1 a i x) o := ⟨fun q a1 a2 a3 a4 a5 => by rw [zput_row _ _ _ (by omega)]; exact h.1 q a1 a2 a3 a4 a5, fun j a b c => by rw [zput_row _ _ _ (by omega)]; exact h.2 j a b c⟩
theorem zLf.arr {V1 : zH} (h : zLf V V1 o) (g : Int → Int) : zLf V (zarr V1 (o + 5) g) o := ⟨fun q a1 a2 a3 a4 a5 => by rw [zarr_ne _ _ a2]; exact h.1 q a1 a2 a3 a4 a5, fun j a b c => by rw [zarr_ne _ _ (by omega)]; exact h.2 j a b c⟩
theorem zLf.fro {V1 : zH} (h : zLf V V1 o) : zFro V V1 o := fun q hq => h.1 q (by omega) (by omega) (by omega) (by omega) (by omega)
theorem s8_whole {n : Int} {F : zH → Prop} (M : zMo S V o P) (hn : 0 ≤ n ∧ n ≤ 37) (hF : ∀ V', zLf V V' o → V' o 10 = n → (∀ k i, 0 ≤ k → k < n → 0 ≤ i → i < 37 → zRw (V' (o + 5)) k i = if i = k then 1 else 0) → (∀ i, 0 ≤ i → i < n → V' (o + 6) i = 0) → F V') : SpV E 0 zm_X8_whole [zrv o, ziv n] S V F := by
  refine en_X8_whole (fun _ X => ⟨M.ko, fun V2 e2 => ?_⟩)
  have l2 : zLf V V2 o := ⟨fun q a _ _ _ _ => by rw [e2, zput_row _ _ _ a], fun j a _ _ => by rw [e2, zput_nk _ _ _ _ a]⟩
  have d2 : V2 o 10 = n := by rw [e2, zput_self]
  have two := zdown (Q := fun k => ∀ V3, zLf V V3 o → V3 o 10 = n → (∀ j, 0 ≤ j → j < 1369 → V3 (o + 5) j = if j % 38 = 0 ∧ j / 38 < k then 1 else 0) → (∀ i, 0 ≤ i → i < k → V3 (o + 6) i = 0) → zl_X8_whole_29 E X F S o k V3) (N := n) (fun V3 h1 h2 h3 h4 => ?_) (fun k a b ih V3 h1 h2 h3 h4 => ?_) 0 (by omega) (by omega)
  · have one := zdown (Q := fun k => ∀ V3, zLf V V3 o → V3 o 10 = n → (∀ j, 0 ≤ j → j < k → V3 (o + 5) j = 0) → zl_X8_whole_7 E X F S o k V3) (N := 1369) (fun V3 h1 h2 h3 => ?_) (fun k a b ih V3 h1 h2 h3 => ?_) 0 (by omega) (by omega)
    · exact one V2 l2 d2 (fun j _ _ => by omega)
    · exact wp_X8_whole_7 ⟨fun _ => two V3 h1 h2 (fun j a b => by rw [h3 j a b, if_neg (by omega)]) (fun i _ _ => by omega), fun q => by omega⟩
    · have M3 := h1.mo M
      refine wp_X8_whole_7 ⟨fun q => by omega, fun _ => ?_⟩
      rw [M3.f9, M.t5]
      refine ⟨M.ko, rfl, ⟨a, b⟩, fun V5 e5 => ⟨⟨by omega, by omega⟩, ih V5 (by rw [e5]; exact h1.put (by omega)) (by rw [e5, zput_row _ _ _ (by omega)]; exact h2) (fun j ja jb => ?_)⟩⟩
      rw [e5]
      by_cases hj : j = k
      · rw [hj, zput_self]
      · rw [zput_nk _ _ _ _ hj]; exact h3 j ja (by omega)
  · refine wp_X8_whole_29 ?_
    rw [h2]
    refine ⟨M.ko, fun _ => hF V3 h1 h2 (fun k i k0 k1 i0 i1 => ?_) h4, fun q => by omega⟩
    show V3 (o + 5) (37 * k + i) = _
    rw [h3 _ (by omega) (by omega)]
    by_cases c : i = k
    · rw [if_pos (by omega), if_pos c]
    · rw [if_neg (by omega), if_neg c]
  · have M3 := h1.mo M
    refine wp_X8_whole_29 ?_
    rw [h2, M3.f9, M3.f11, M.t5, M.t6]
    refine ⟨M.ko, fun q => by omega, fun _ => ⟨⟨by omega, by omega⟩, ⟨by omega, by omega⟩, rfl, ⟨by omega, by show 37 * k + k < 1369; omega⟩, fun V7 e7 => ⟨rfl, ⟨a, by show k < 37; omega⟩, fun V11 e11 => ⟨⟨by omega, by omega⟩, ih V11 (by rw [e11, e7]; exact (h1.put (by omega)).put (by omega)) (by rw [e11, zput_row _ _ _ (by omega), e7, zput_row _ _ _ (by omega)]; exact h2) (fun j ja jb => ?_) (fun j ja jb => ?_)⟩⟩⟩⟩
    · rw [e11, zput_row _ _ _ (by omega), e7]
      by_cases hj : j = 37 * k + k
      · rw [hj, zput_self, if_pos (by omega)]
      · rw [zput_nk _ _ _ _ hj, h3 j ja jb]
        by_cases c : j % 38 = 0 ∧ j / 38 < k
        · rw [if_pos c, if_pos (by omega)]
        · rw [if_neg c, if_neg (by omega)]
    · rw [e11]
      by_cases hj : j = k
      · rw [hj, zput_self]
      · rw [zput_nk _ _ _ _ hj, e7, zput_row _ _ _ (by omega)]; exact h4 j ja (by omega)
theorem s8_reduce {n : Int} {K : (Int → Int) → Prop} {F : zH → Prop} (M : zMo S V o P) (hn : V o 10 = n) (hn0 : 0 ≤ n ∧ n ≤ 37) (hL : zLat (pm P) n K) (hR : ∀ k, 0 ≤ k → k < n → zTr (pm P) n K (zRw (V (o + 5))) k)
    (hF : ∀ g, (∀ k, 0 ≤ k → k < n → zTr (pm P) n K (zRw g) k) → (∀ k, 0 ≤ k → k < n → zRw g k k = zRw (V (o + 5)) k k) → (∀ k i, 0 ≤ i → i < k → k < n → zRw g k i < zRw g i i) → F (zarr V (o + 5) g)) : SpV E 1 zm_X8_reduce [zrv o] S V F := by
  have o2 := M.ok.2.1
  generalize hm : pm P = m at *
  refine en_X8_reduce (fun X => ?_)
  have fo : ∀ g, zarr V (o + 5) g o = V o := fun g => zarr_ne _ _ (by omega)
  have Mg : ∀ g, zMo S (zarr V (o + 5) g) o P := fun g => M.frame (fun j _ => by rw [fo]) (zarr_ne _ _ (by omega))
  have key := zdown (Q := fun k => ∀ g, (∀ j, 0 ≤ j → j < n → zTr m n K (zRw g) j) → (∀ j, 0 ≤ j → j < n → zRw g j j = zRw (V (o + 5)) j j) → (∀ j i, 0 ≤ i → i < j → j < k → zRw g j i < zRw g i i) → zl_X8_reduce_2 E X F S o k (zarr V (o + 5) g)) (N := n) (fun g h1 h2 h3 => ?_) (fun k k0 k1 ih g h1 h2 h3 => ?_) 0 (by omega) (by omega)
  · have := key (V (o + 5)) hR (fun _ _ _ => rfl) (fun j i _ _ _ => by omega)
    rw [zarr_id] at this; exact this
  · refine wp_X8_reduce_2 ?_
    rw [fo, hn]
    exact ⟨M.ko, fun _ => hF g h1 h2 h3, fun q => by omega⟩
  · refine wp_X8_reduce_2 ?_
    rw [fo, hn]
    refine ⟨M.ko, fun q => by omega, fun _ => ⟨⟨by omega, by omega⟩, ?_⟩⟩
    refine zind (P := fun t => t ≤ k → ∀ g, (∀ j, 0 ≤ j → j < n → zTr m n K (zRw g) j) → (∀ j, 0 ≤ j → j < n → zRw g j j = zRw (V (o + 5)) j j) → (∀ j i, 0 ≤ i → i < j → j < k → zRw g j i < zRw g i i) → (∀ i, t ≤ i → i < k → zRw g k i < zRw g i i) → zl_X8_reduce_14 E X F S o k (t - 1) (zarr V (o + 5) g)) (fun _ g h1 h2 h3 h4 => ?_) (fun j j0 ihj jk g h1 h2 h3 h4 => ?_) k k0 (Int.le_refl k) g h1 h2 h3 (fun i _ _ => by omega)
    · refine wp_X8_reduce_14 ⟨fun _ => ⟨⟨by omega, by omega⟩, ih g h1 h2 (fun j i a b c => ?_)⟩, fun q => by omega⟩
      by_cases hj : j = k
      · rw [hj]; exact h4 i a (by omega)
      · exact h3 j i a b (by omega)
    · rw [show j + 1 - 1 = j by omega]
      have hRk := h1 k k0 k1
      have hRj := h1 j j0 (by omega)
      have jm := zdvd_le hRj.1.2 (show 0 < m by omega)
      have jp : 0 < g (37 * j + j) := hRj.1.1
      have jm' : g (37 * j + j) ≤ m := jm
      have bk : ∀ i, 0 ≤ i → i ≤ j → 0 ≤ g (37 * k + i) ∧ g (37 * k + i) < m := fun i a b => hRk.2.2.2.1 i a (by omega)
      have bj : ∀ i, 0 ≤ i → i ≤ j → 0 ≤ g (37 * j + i) ∧ g (37 * j + i) ≤ 12 := fun i a b => by
        by_cases c : i = j
        · rw [c]; omega
        · have : 0 ≤ g (37 * j + i) ∧ g (37 * j + i) < m := hRj.2.2.2.1 i a (by omega)
          omega
      have bkj := bk j j0 (by omega)
      refine wp_X8_reduce_14 ⟨fun q => by omega, fun _ => ?_⟩
      rw [fo, M.f9, M.t5, zarr_self]
      refine ⟨M.ko, ⟨by omega, by omega⟩, ⟨by omega, by omega⟩, rfl, ⟨by omega, by show 37 * k + j < 1369; omega⟩, ⟨by omega, by omega⟩, ⟨by omega, by omega⟩, ⟨by omega, by show 37 * j + j < 1369; omega⟩, bkj.1, jp, fun q e13 => ?_⟩
      have q0 := zdiv_le bkj.1 jp
      rw [← e13] at q0
      have em : g (37 * k + j) - q * g (37 * j + j) = g (37 * k + j) % g (37 * j + j) := by rw [e13, Int.emod_def, Int.mul_comm (g (37 * k + j) / g (37 * j + j))]
      have rem := zmod_le (g (37 * k + j)) jp
      have done : ∀ g', (∀ j', (j' < 37 * k ∨ 37 * k + j < j') → g' j' = g j') → (∀ i, 0 ≤ i → i < j → g' (37 * k + i) = (g (37 * k + i) - q * g (37 * j + i)) % m) → g' (37 * k + j) = g (37 * k + j) - q * g (37 * j + j) → zl_X8_reduce_14 E X F S o k (j + -1) (zarr V (o + 5) g') := by
        intro g' f1 f2 f3
        rw [show j + -1 = j - 1 by omega]
        have row : zTr m n K (fun _ => zRw g' k) k := zTr.red (q := q) hL (by omega) ⟨j0, by omega⟩ k1 hRk hRj f2 f3 (by show 0 ≤ g' (37 * k + j) ∧ g' (37 * k + j) < m; rw [f3, em]; omega) (fun i a b => f1 (37 * k + i) (by omega))
        refine ihj (by omega) g' (fun i a b => ?_) (fun i a b => ?_) (fun j' i a b c => ?_) (fun i a b => ?_)
        · by_cases hi : i = k
          · rw [hi]; exact row
          · exact (h1 i a b).congr hL ⟨a, b⟩ (fun l la lb => f1 (37 * i + l) (by omega))
        · rw [← h2 i a b]; exact f1 (37 * i + i) (by omega)
        · show g' (37 * j' + i) < g' (37 * i + i)
          rw [f1 _ (by omega), f1 _ (by omega)]; exact h3 j' i a b c
        · show g' (37 * k + i) < g' (37 * i + i)
          by_cases c : i = j
          · rw [c, f3, f1 (37 * j + j) (by omega), em]; exact rem.2
          · rw [f1 _ (by omega), f1 _ (by omega)]; exact h4 i (by omega) b
      have lp := zdown (Q := fun i => ∀ g', (∀ j', (j' < 37 * k ∨ 37 * k + i ≤ j') → g' j' = g j') → (∀ l, 0 ≤ l → l < i → g' (37 * k + l) = if l = j then g (37 * k + j) - q * g (37 * j + j) else (g (37 * k + l) - q * g (37 * j + l)) % m) → zl_X8_reduce_45 E X F S o k j q i (zarr V (o + 5) g')) (N := j + 1) (fun g' f1 f2 => ?_) (fun i a b ihi g' f1 f2 => ?_) 0 (by omega) (by omega)
      · exact lp g (fun _ _ => rfl) (fun l _ _ => by omega)
      · exact wp_X8_reduce_45 ⟨fun _ => ⟨⟨by omega, by omega⟩, done g' (fun j' hj' => f1 j' (by omega)) (fun l la lb => by rw [f2 l la (by omega), if_neg (by omega)]) (by rw [f2 j j0 (by omega), if_pos rfl])⟩, fun q => by omega⟩
      · refine wp_X8_reduce_45 ⟨fun q => by omega, fun _ => ⟨fun z => ⟨⟨by omega, by omega⟩, done g' (fun j' hj' => f1 j' (by omega)) (fun l la lb => ?_) ?_⟩, fun z => ?_⟩⟩
        · by_cases c : l < i
          · rw [f2 l la c, if_neg (by omega)]
          · rw [f1 _ (by omega), z, Int.zero_mul, Int.sub_zero, Int.emod_eq_of_lt (bk l la (by omega)).1 (bk l la (by omega)).2]
        · rw [f1 _ (by omega), z, Int.zero_mul, Int.sub_zero]
        · have ej : g' (37 * j + i) = g (37 * j + i) := f1 _ (by omega)
          have ek : g' (37 * k + i) = g (37 * k + i) := f1 _ (by omega)
          have b1 := bk i a (by omega)
          have b2 := bj i a (by omega)
          have bb := zmul_le (a := q) (b := g (37 * j + i)) (A := 12) (B := 12) ⟨q0.1, by omega⟩ b2
          rw [fo, M.f9, M.t5, zarr_self, ej, ek]
          refine ⟨M.ko, ⟨by omega, by omega⟩, ⟨by omega, by omega⟩, rfl, ⟨by omega, by show 37 * k + i < 1369; omega⟩, ⟨by omega, by omega⟩, ⟨by omega, by omega⟩, ⟨by omega, by show 37 * j + i < 1369; omega⟩, ⟨by omega, by omega⟩, ⟨by omega, by omega⟩, fun ne => s8_m (Mg g') ?_, fun e => sp_fmod (by omega) (fun V25 e25 => ⟨⟨by omega, by omega⟩, ?_⟩)⟩
          · rw [hm]
            refine sp_fmod (by omega) (fun V20 e20 => ⟨⟨by omega, by omega⟩, ?_⟩)
            rw [e20, zput_zarr V (g := zupd g' (37 * k + i) ((g (37 * k + i) - q * g (37 * j + i)) % m)) (fun j => rfl)]
            refine ihi _ (fun j' hj' => by rw [zupd_ne _ _ (by omega)]; exact f1 j' (by omega)) (fun l la lb => ?_)
            by_cases hl : l = i
            · rw [hl, zupd_self, if_neg ne]
            · rw [zupd_ne _ _ (by omega)]; exact f2 l la (by omega)
          · rw [e25, zput_zarr V (g := zupd g' (37 * k + i) ((g (37 * k + i) - q * g (37 * j + i)) % 1000)) (fun j => rfl)]
            refine ihi _ (fun j' hj' => by rw [zupd_ne _ _ (by omega)]; exact f1 j' (by omega)) (fun l la lb => ?_)
            by_cases hl : l = i
            · rw [hl, zupd_self, if_pos e, e, em, Int.emod_eq_of_lt rem.1 (by omega)]
            · rw [zupd_ne _ _ (by omega)]; exact f2 l la (by omega)
end REDU
