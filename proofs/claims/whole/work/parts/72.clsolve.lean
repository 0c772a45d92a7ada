/-! THE CLASS'S SOLVER: what can be shown, and what is told -/
theorem zRed.mono {m N : Int} {ld : Int → Int} {R : Int → Int → Int} {lo hi lo' hi' : Int} {a b : Int → Int} (h : zRed m N ld R lo hi a b) (h1 : lo' ≤ lo) (h2 : hi ≤ hi') : zRed m N ld R lo' hi' a b := fun Q q1 q2 q3 => h Q q1 (fun k a c x y z w => q2 k a c (by omega) (by omega) z w) q3
theorem zRed.trans {m N : Int} {ld : Int → Int} {R : Int → Int → Int} {lo hi : Int} {a b c : Int → Int} (h : zRed m N ld R lo hi a b) (g : zRed m N ld R lo hi b c) : zRed m N ld R lo hi a c := fun Q q1 q2 q3 => g Q q1 q2 (h Q q1 q2 q3)
theorem zHow.lr {m h t : Int} {A R : Int → Int → Int} {ld : Int → Int} (H : zHow m h t A ld R) {lo hi : Int} (h0 : 0 ≤ lo) (h1 : hi ≤ h + t) : zLR m (h + t) ld R lo hi := by
  intro c a b
  obtain ⟨q1, q2⟩ := H.1 c (by omega) (by omega)
  refine ⟨q1, fun z => ?_⟩
  obtain ⟨r1, r2, r3, r4, r5⟩ := q2 z
  refine ⟨r3, r4, fun i ia ib => ?_⟩
  by_cases hi : i = c
  · rw [hi, r3]; exact q1
  · exact r5 i (by omega) ib
theorem zHow.row {m h t : Int} {A R : Int → Int → Int} {ld : Int → Int} (H : zHow m h t A ld R) {c : Int} (hc : 0 ≤ c ∧ c < h + t) (z : ld c ≠ 0) : zLin m h t A (R c) := ((H.1 c hc.1 hc.2).2 z).2.1
/-- rows are added: a sum stays one -/
theorem zRed.lin {m h t : Int} {A R : Int → Int → Int} {ld : Int → Int} (hh : 0 ≤ h) (ht : 0 ≤ t) (H : zHow m h t A ld R) {lo hi : Int} (h0 : 0 ≤ lo) (h1 : hi ≤ h + t) {a b s : Int → Int} (hr : zRed m (h + t) ld R lo hi a b) (ha : zLin m h t A (fun j => a j + s j)) : zLin m h t A (fun j => b j + s j) :=
  hr (fun a => zLin m h t A (fun j => a j + s j)) (fun a b x y => zLin.cg hh x (fun j ja jb => by show m ∣ b j + s j - (a j + s j); have := y j ja jb; rw [show b j + s j - (a j + s j) = b j - a j by omega]; exact this) ht) (fun k a c x y z w => zLin.cg hh (w.add ((H.row ⟨by omega, by omega⟩ z).mul k)) (fun j _ _ => by show m ∣ a j + k * R c j + s j - (a j + s j + k * R c j); rw [show a j + k * R c j + s j - (a j + s j + k * R c j) = 0 by omega]; exact Int.dvd_zero m) ht) ha
section CLSOLVE
variable {E : zE} {S : zS} {V : zH}
theorem sp_reduceHead {fm la wk m h t a : Int} {A : Int → Int → Int} {F : Int → zH → Prop} (HA : zFA S V fm la wk) (HB : zFB V fm la m h t A) (hm : 2 ≤ m ∧ m ≤ 12) (hh : 0 ≤ h ∧ h ≤ 36) (ht : 0 ≤ t ∧ t ≤ 36) (ha : S a = (1, 72)) (hfa : fm ≠ a) (hla : la ≠ a ∧ la + 1 ≠ a) (hr : ∀ i, 0 ≤ i → i < h + t → 0 ≤ V a i ∧ V a i < m)
    (h1 : ∀ g, (∀ i, 0 ≤ i → i < h + t → 0 ≤ g i ∧ g i < m) → (∀ i, 0 ≤ i → i < h → g i = 0) → zRed m (h + t) (V la) (zRo (V (la + 1))) 0 (h + t) (V a) g → F 1 (zarr V a g))
    (h0 : ∀ g c, 0 ≤ c → c < h → (∀ i, 0 ≤ i → i < h + t → 0 ≤ g i ∧ g i < m) → (∀ i, 0 ≤ i → i < c → g i = 0) → g c ≠ 0 → (V la c ≠ 0 → g c < V la c) → zRed m (h + t) (V la) (zRo (V (la + 1))) 0 (h + t) (V a) g → F 0 (zarr V a g)) : SpI E 2 zm_X1_reduceHead [zrv fm, zrv a] S V F := by
  obtain ⟨⟨s0, s1, s2, s3, s4⟩, ⟨v4, v5, v6, v7⟩, z0⟩ := id HA
  obtain ⟨⟨b0, b1, b2⟩, how⟩ := HB
  have kf : (S fm).1 = 4 := by rw [s0]
  refine en_X1_reduceHead (fun X => ?_)
  have key := zdown (Q := fun c => ∀ g, (∀ i, 0 ≤ i → i < h + t → 0 ≤ g i ∧ g i < m) → (∀ i, 0 ≤ i → i < c → g i = 0) → zRed m (h + t) (V la) (zRo (V (la + 1))) 0 (h + t) (V a) g → zl_X1_reduceHead_2 E X F S fm a c (zarr V a g)) (N := h) (fun g g1 g2 g3 => ?_) (fun c c0 c1 ih g g1 g2 g3 => ?_) 0 (by omega) (by omega)
  · have k := key (V a) hr (fun i _ _ => by omega) (zRed.refl _)
    rw [zarr_id] at k; exact k
  · refine wp_X1_reduceHead_2 ?_
    rw [zarr_ne _ _ hfa, b1]
    exact ⟨kf, fun _ => h1 g g1 g2 g3, fun q => by omega⟩
  · refine wp_X1_reduceHead_2 ?_
    rw [zarr_ne _ _ hfa, b1, ha, zarr_self]
    refine ⟨kf, fun q => by omega, fun _ => ⟨rfl, ⟨c0, by show c < 72; omega⟩, fun z => ⟨⟨by omega, by omega⟩, ih g g1 (fun i x y => ?_) g3⟩, fun z => ⟨⟨by omega, by omega⟩, ?_⟩⟩⟩
    · by_cases hi : i = c
      · rw [hi]; exact z
      · exact g2 i x (by omega)
    · have FA' : zFA S (zarr V a g) fm la wk := HA.congr (zarr_ne _ _ hfa) (zarr_ne _ _ hla.2)
      refine sp_reduce (m := m) (wd := h + t) (NA := 72) FA' (by rw [zarr_ne _ _ hfa]; exact b0) (by rw [zarr_ne _ _ hfa]; exact b2) hm ⟨by omega, by omega⟩ ha ⟨by omega, by omega, by omega⟩ hfa hla.1 ⟨c0, by omega, by omega⟩ (Or.inl (fun e => hla.2 e.symm)) (by rw [zarr_ne _ _ hla.1, zarr_ne _ _ hla.2]; exact how.lr c0 (by omega)) (fun i x y => by rw [zarr_self, Int.zero_add]; exact g1 i (by omega) y) (fun g' k1 k2 k3 k4 => ?_)
      simp only [zarr_self, Int.zero_add, zarr_ne _ _ hla.1, zarr_ne _ _ hla.2] at k1 k2 k3 k4 ⊢
      rw [zarr_zarr]
      have r' : ∀ i, 0 ≤ i → i < h + t → 0 ≤ g' i ∧ g' i < m := fun i x y => by
        by_cases hi : i < c
        · rw [k1 i (Or.inl hi)]; exact g1 i x y
        · exact k2 i (by omega) y
      have z' : ∀ i, 0 ≤ i → i < c → g' i = 0 := fun i x y => by rw [k1 i (Or.inl y)]; exact g2 i x y
      have rel : zRed m (h + t) (V la) (zRo (V (la + 1))) 0 (h + t) (V a) g' := g3.trans (k4.mono c0 (by omega))
      refine ⟨fun y => ih g' r' (fun i x w => ?_) rel, fun y => h0 g' c c0 c1 r' z' y (fun w => k3 c (by omega) (by omega) w) rel⟩
      by_cases hi : i = c
      · rw [hi]; exact y
      · exact z' i x (by omega)
theorem sp_solve {p lo so kb : Int} {P : zP} {F : Int → zH → Prop} (HP : zPl S V p P) (HS : zSo S V p lo so kb P) (hlo : p + 7 < lo) (HT : zTab V so P)
    (h1 : ∀ g, (∀ i, 0 ≤ i → i < pn P + V so 6 → 0 ≤ g i ∧ g i < pm P) → zCan P (zcd V so P) (zlift (V so 6) (V (so + 1)) (fun r => g (pn P + r))) → F 1 (zarr V (so + 3) g))
    (h0 : ∀ g, (¬ ∃ x, zSol P x) → F 0 (zarr V (so + 3) g)) : SpI E 3 zm_X5_solve [zrv so] S V F := by
  obtain ⟨⟨q1, q1'⟩, q2, -⟩ := id HS
  obtain ⟨⟨s0, s1, s2, s3⟩, ⟨f0, f3, f7, f8, f9⟩, FA⟩ := id q2
  have ks : (S so).1 = 8 := by rw [s0]
  have o1 := HP.ok.1
  have o2 := HP.ok.2.1
  have o4 := HP.ok.2.2.2.1
  have fb := HT.fr.1
  have how := HT.how
  refine en_X5_solve (fun X => ⟨ks, ?_⟩)
  rw [f9]
  refine sp_fill s3 ⟨by omega, by omega⟩ ?_
  generalize hg0 : (fun j => if 0 ≤ j ∧ j < 72 then 0 else V (so + 3) j) = g0
  have e0 : ∀ i, 0 ≤ i → i < 72 → g0 i = 0 := fun i a b => by rw [← hg0]; exact if_pos ⟨a, b⟩
  -- what the head's columns are about
  have key := zdown (Q := fun i => ∀ g, (∀ j, 0 ≤ j → j < i → g j = (pm P - psh P j) % pm P) → (∀ j, i ≤ j → j < 72 → g j = 0) → zl_X5_solve_10 E X F S so i (zarr V (so + 3) g)) (N := pn P) (fun g g1 g2 => ?_) (fun i i0 i1 ih g g1 g2 => ?_) 0 (by omega) (by omega)
  · exact key g0 (fun j _ _ => by omega) e0
  · have eo : zarr V (so + 3) g so = V so := zarr_ne _ _ (by omega)
    have ep : zarr V (so + 3) g p = V p := zarr_ne _ _ (by omega)
    have e4 : zarr V (so + 3) g (so + 4) = V (so + 4) := zarr_ne _ _ (by omega)
    have e6 : zarr V (so + 3) g (so + 6) = V (so + 6) := zarr_ne _ _ (by omega)
    have e7 : zarr V (so + 3) g (so + 7) = V (so + 7) := zarr_ne _ _ (by omega)
    refine wp_X5_solve_10 ?_
    rw [eo, f0, ep, HP.n, f3, f9]
    refine ⟨ks, HP.kp, fun _ => ⟨by rw [FA.1.1], ?_⟩, fun q => by omega⟩
    have rg : ∀ i, 0 ≤ i → i < pn P + V so 6 → 0 ≤ g i ∧ g i < pm P := fun i a b => by
      by_cases hi : i < pn P
      · rw [g1 i a hi]; exact zmod_le _ (by omega)
      · rw [g2 i (by omega) (by omega)]; omega
    -- g plus what is shown is a sum
    have lin0 : zLin (pm P) (pn P) (V so 6) (fun r i => zstp P (V (so + 1) r) i) (fun j => g j + if j < pn P then psh P j else 0) := by
      refine zLin.cg (by omega) zLin.zero (fun j a b => ?_) (by omega)
      show pm P ∣ g j + (if j < pn P then psh P j else 0) - 0
      by_cases hj : j < pn P
      · rw [if_pos hj, g1 j a hj]
        have h1 := zdvd_emod (pm P) (pm P - psh P j)
        have h2 := zdvd_add h1 (Int.dvd_refl (pm P))
        rw [show (pm P - psh P j) % pm P - (pm P - psh P j) + pm P = (pm P - psh P j) % pm P + psh P j - 0 by omega] at h2
        exact h2
      · rw [if_neg hj, g2 j (by omega) (by omega)]; exact Int.dvd_zero _
    have FA' : zFA S (zarr V (so + 3) g) (so + 4) (so + 6) (so + 5) := FA.congr e4 (by rw [show so + 6 + 1 = so + 7 by omega]; exact e7)
    have FB' : zFB (zarr V (so + 3) g) (so + 4) (so + 6) (pm P) (pn P) (V so 6) (fun r i => zstp P (V (so + 1) r) i) := HT.2.2.congr e4 e6 (by rw [show so + 6 + 1 = so + 7 by omega]; exact e7)
    refine sp_reduceHead FA' FB' o2 ⟨by omega, by omega⟩ ⟨by omega, by omega⟩ s3 (by omega) ⟨by omega, by omega⟩ (fun i a b => by rw [zarr_self]; exact rg i a b) (fun g' k1 k2 k3 => ?_) (fun g' c c0 c1 k1 k2 k3 k4 k5 => ?_)
    · rw [zarr_self, e6, show so + 6 + 1 = so + 7 by omega, e7] at k3
      rw [zarr_zarr]
      have lin1 := k3.lin (by omega) (by omega) how (by omega) (by omega) lin0
      have eo' : zarr V (so + 3) g' so = V so := zarr_ne _ _ (by omega)
      have e4' : zarr V (so + 3) g' (so + 4) = V (so + 4) := zarr_ne _ _ (by omega)
      have e6' : zarr V (so + 3) g' (so + 6) = V (so + 6) := zarr_ne _ _ (by omega)
      have e7' : zarr V (so + 3) g' (so + 7) = V (so + 7) := zarr_ne _ _ (by omega)
      refine ⟨fun _ => ?_, fun q => absurd q (by decide)⟩
      rw [eo', f3, f9, e4', HT.f1, HT.f2]
      refine ⟨by rw [FA.1.1], ?_⟩
      have FA2 : zFA S (zarr V (so + 3) g') (so + 4) (so + 6) (so + 5) := FA.congr e4' (by rw [show so + 6 + 1 = so + 7 by omega]; exact e7')
      refine sp_reduce (m := pm P) (wd := pn P + V so 6) (NA := 72) FA2 (by rw [e4']; exact HT.f0) (by rw [e4']; exact HT.f2) o2 ⟨by omega, by omega⟩ s3 ⟨by omega, by omega, by omega⟩ (by omega) (by omega) ⟨by omega, by omega, by omega⟩ (Or.inl (by omega)) (by rw [e6', show so + 6 + 1 = so + 7 by omega, e7']; exact how.lr (by omega) (by omega)) (fun i x y => by rw [zarr_self, Int.zero_add]; exact k1 i (by omega) y) (fun g2' l1 l2 l3 l4 => ?_)
      simp only [zarr_self, Int.zero_add, e6', show so + 6 + 1 = so + 7 by omega, e7'] at l1 l2 l3 l4
      rw [zarr_zarr]
      have lin2 := l4.lin (by omega) (by omega) how (by omega) (by omega) lin1
      have hd0 : ∀ i, 0 ≤ i → i < pn P → g2' i = 0 := fun i a b => by rw [l1 i (Or.inl b)]; exact k2 i a b
      refine h1 g2' (fun i a b => ?_) ⟨⟨fun i a b => ?_, fun k a b c => ?_⟩, fun k a b => ?_⟩
      · by_cases hi : i < pn P
        · rw [hd0 i a hi]; omega
        · exact l2 i (by omega) b
      · rw [HT.fr.lift_sum (fun r => g2' (pn P + r)) (fun k => zstp P k i)]
        have q := lin2 i a b
        have q' : pm P ∣ g2' i + (if i < pn P then psh P i else 0) - zsum (fun r => (g2' (pn P + r) + if pn P + r < pn P then psh P (pn P + r) else 0) * zstp P (V (so + 1) r) i) (V so 6) := q
        rw [hd0 i a b, if_pos b, zsum_congr (g := fun r => g2' (pn P + r) * zstp P (V (so + 1) r) i) (fun r ra rb => by rw [if_neg (by omega), Int.add_zero])] at q'
        have := (Int.dvd_neg).mpr q'
        rw [show ∀ u w : Int, -(0 + u - w) = w - u from fun u w => by omega] at this
        exact this
      · rw [HT.fr.lift0 _ c]; exact Int.dvd_zero _
      · by_cases y : pkd P k = 3
        · rw [HT.fr.lift0 _ y]
          have e : zcd V so P k = pm P := if_pos y
          rw [e]; omega
        · obtain ⟨r, r1, r2⟩ := HT.fr.2.2.2 k a b y
          rw [← r2, HT.fr.lift _ r1, zcd_free HT r1]
          have w1 := l2 (pn P + r) (by omega) (by omega)
          have w2 := l3 (pn P + r) (by omega) (by omega)
          unfold zlead
          split
          · exact w1
          · next hne => exact ⟨w1.1, w2 hne⟩
    · rw [zarr_self, e6, show so + 6 + 1 = so + 7 by omega, e7] at k5
      rw [e6] at k4
      rw [zarr_zarr]
      have lin1 := k5.lin (by omega) (by omega) how (by omega) (by omega) lin0
      refine ⟨fun q => absurd rfl q, fun _ => h0 g' ?_⟩
      rintro ⟨x, hx⟩
      -- a solution as a sum
      have linx : zLin (pm P) (pn P) (V so 6) (fun r i => zstp P (V (so + 1) r) i) (fun j => if j < pn P then psh P j else x (V (so + 1) (j - pn P))) := by
        intro j a b
        show pm P ∣ (if j < pn P then psh P j else x (V (so + 1) (j - pn P))) - zsum (fun r => (if pn P + r < pn P then psh P (pn P + r) else x (V (so + 1) (pn P + r - pn P))) * zstp P (V (so + 1) r) j) (V so 6)
        rw [if_pos b, zsum_congr (g := fun r => x (V (so + 1) r) * zstp P (V (so + 1) r) j) (fun r ra rb => by rw [if_neg (by omega), show pn P + r - pn P = r by omega])]
        have u1 := HT.fr.of x (fun k => zstp P k j) (pm P) hx.2
        have u2 := zdvd_sub u1 (hx.1 j a b)
        rw [show ∀ u w z : Int, u - w - (u - z) = z - w from fun u w z => by omega] at u2
        exact u2
      have lin3 := lin1.add (linx.mul (-1))
      have d := how.2.1 _ lin3 c c0 (by omega) (fun i a b => by
        show pm P ∣ g' i + (if i < pn P then psh P i else 0) + -1 * (if i < pn P then psh P i else x (V (so + 1) (i - pn P)))
        rw [if_pos (by omega), if_pos (by omega), k2 i a b, show 0 + psh P i + -1 * psh P i = 0 by omega]; exact Int.dvd_zero _)
      have d' : zlead (pm P) (V (so + 6) c) ∣ g' c + (if c < pn P then psh P c else 0) + -1 * (if c < pn P then psh P c else x (V (so + 1) (c - pn P))) := d
      rw [if_pos c1, if_pos c1, show g' c + psh P c + -1 * psh P c = g' c by omega] at d'
      have b1 := k1 c c0 (by omega)
      have lt : g' c < zlead (pm P) (V (so + 6) c) := by
        unfold zlead
        split
        · exact b1.2
        · next hne => exact k4 hne
      have := zdvd_le d' (by omega)
      omega
  · have eo : zarr V (so + 3) g so = V so := zarr_ne _ _ (by omega)
    have P' : zPl S (zarr V (so + 3) g) p P := HP.congr (fun q a b => zarr_ne _ _ (by omega))
    have b5 := HP.ok.2.2.2.2.1 i i0 i1
    refine wp_X5_solve_10 ?_
    rw [eo, f0, P'.n, P'.m, P'.v5, HP.s1, P'.sh ⟨i0, i1⟩, f9, s3]
    refine ⟨ks, HP.kp, fun q => by omega, fun _ => ⟨rfl, ⟨i0, by show i < 36; omega⟩, ⟨by omega, by omega⟩, by omega, by omega, rfl, ⟨i0, by show i < 72; omega⟩, fun V18 e18 => ⟨⟨by omega, by omega⟩, ?_⟩⟩⟩
    rw [e18, zput_zarr V (g := zupd g i ((pm P - psh P i) % pm P)) (fun j => rfl)]
    refine ih _ (fun j a b => ?_) (fun j a b => by rw [zupd_ne _ _ (by omega)]; exact g2 j (by omega) b)
    by_cases hj : j = i
    · rw [hj, zupd_self]
    · rw [zupd_ne _ _ hj]; exact g1 j a (by omega)
theorem sp_told {t T0 k n : Int} {T : zT} {F : zH → Prop} (H : zTo S V t T) (hk : 0 ≤ k ∧ k ≤ 2) (hn : 0 ≤ n ∧ n ≤ 36) (hF : ∀ V', zTo S V' t (k, n, 0, fun _ => 0) → (∀ j, 0 ≤ j → j < 36 → V' (t + 1) j = 0) → zOff V V' t (t + 1) → F V') : SpV E 1 zm_X6_begin [zrv t, ziv k, ziv n] S V F := by
  obtain ⟨⟨h1, h2, h3⟩, ⟨h4, h5, h6, h7⟩, h8⟩ := H
  refine en_X6_begin (fun _ _ => ⟨by rw [h1], fun V2 e2 V4 e4 V6 e6 => ?_⟩)
  rw [h3]
  refine sp_fill h2 ⟨by omega, by omega⟩ ?_
  have o6 : ∀ j, V6 t j = if j = 2 then 0 else if j = 1 then n else if j = 0 then k else V t j := fun j => by rw [e6, e4, e2]; simp only [zput, true_and]
  have r6 : ∀ q, q ≠ t → V6 q = V q := fun q hq => by rw [e6, zput_row _ _ _ hq, e4, zput_row _ _ _ hq, e2, zput_row _ _ _ hq]
  have et : zarr V6 (t + 1) (fun j => if 0 ≤ j ∧ j < 36 then 0 else V6 (t + 1) j) t = V6 t := zarr_ne _ _ (by omega)
  refine hF _ ⟨⟨h1, h2, by rw [et, o6]; exact h3⟩, ⟨by rw [et, o6]; rfl, by rw [et, o6]; rfl, by rw [et, o6]; rfl, fun i a b => ?_⟩, hk, hn, Or.inl rfl, fun i _ _ => ⟨Int.le_refl 0, by show (0 : Int) ≤ 11; omega⟩⟩ (fun j a b => by rw [zarr_self, if_pos ⟨a, b⟩]) (fun q hq => by rw [zarr_ne _ _ (by omega), r6 q (by omega)])
  have b' : i < n := b
  rw [zarr_self, if_pos (by omega)]
theorem zlift_s {bo t : Int → Int} {r : Int} (hr : 0 ≤ r) (k : Int) : zlift (r + 1) bo t k = zlift r bo t k + if bo r = k then t r else 0 := zsum_s _ hr
theorem sp_tellTail {p lo so kb t a : Int} {P : zP} {T : zT} {F : zH → Prop} (HP : zPl S V p P) (HS : zSo S V p lo so kb P) (HT : zTab V so P) (hT : zTo S V t T) (hd : (t + 1 < p ∨ p + 7 < t) ∧ (t + 1 < so ∨ so + 8 < t)) (ha : S a = (1, 72)) (hat : a ≠ t ∧ a ≠ t + 1) (hr : ∀ r, 0 ≤ r → r < V so 6 → 0 ≤ V a (pn P + r) ∧ V a (pn P + r) ≤ 11)
    (hF : ∀ V', zTo S V' t (1, pb P, 0, zlift (V so 6) (V (so + 1)) (fun r => V a (pn P + r))) → zOff V V' t (t + 1) → F V') : SpV E 2 zm_X5_tellTail [zrv so, zrv a, zrv t] S V F := by
  obtain ⟨⟨q1, q1'⟩, q2, -⟩ := id HS
  obtain ⟨⟨s0, s1, s2, s3⟩, ⟨f0, f3, f7, f8, f9⟩, FA⟩ := id q2
  have ks : (S so).1 = 8 := by rw [s0]
  have o1 := HP.ok.1
  have o4 := HP.ok.2.2.2.1
  have fb := HT.fr.1
  refine en_X5_tellTail (fun X => ?_)
  rw [f0, HP.b]
  refine ⟨ks, HP.kp, by rw [hT.1.1], sp_told (T0 := 0) hT (by omega) (by omega) (fun V1 t1 z1 o1' => ?_)⟩
  have e1 : ∀ q, q ≠ t → q ≠ t + 1 → V1 q = V q := fun q a b => o1' q (by omega)
  have key := zdown (Q := fun r => ∀ g, (∀ k, 0 ≤ k → k < 36 → g k = zlift r (V (so + 1)) (fun r => V a (pn P + r)) k) → zl_X5_tellTail_14 E X F S so a t r (zarr V1 (t + 1) g)) (N := V so 6) (fun g gg => ?_) (fun r r0 r1 ih g gg => ?_) 0 (by omega) (by omega)
  · have k := key (V1 (t + 1)) (fun k x y => by rw [z1 k x y]; rfl)
    rw [zarr_id] at k; exact k
  · have eso : zarr V1 (t + 1) g so = V so := by rw [zarr_ne _ _ (by omega), e1 so (by omega) (by omega)]
    have et : zarr V1 (t + 1) g t = V1 t := zarr_ne _ _ (by omega)
    refine wp_X5_tellTail_14 ?_
    rw [eso]
    refine ⟨ks, fun _ => hF _ ⟨⟨hT.1.1, hT.1.2.1, by rw [et]; exact t1.1.2.2⟩, ⟨by rw [et]; exact t1.2.1.1, by rw [et]; exact t1.2.1.2.1, by rw [et]; exact t1.2.1.2.2.1, fun i x y => ?_⟩, ⟨by show (0 : Int) ≤ 1; omega, by show (1 : Int) ≤ 2; omega⟩, o4, Or.inl rfl, fun i x y => ?_⟩ (fun q hq => by rw [zarr_ne _ _ (by omega), o1' q (by omega)]), fun q => by omega⟩
    · have y' : i < pb P := y
      rw [zarr_self]; exact gg i x (by omega)
    · have y' : i < pb P := y
      show 0 ≤ zlift (V so 6) (V (so + 1)) (fun r => V a (pn P + r)) i ∧ zlift (V so 6) (V (so + 1)) (fun r => V a (pn P + r)) i ≤ 11
      by_cases w : pkd P i = 3
      · rw [HT.fr.lift0 _ w]; omega
      · obtain ⟨r, r1, r2⟩ := HT.fr.2.2.2 i x y' w
        rw [← r2, HT.fr.lift _ r1]; exact hr r r1.1 r1.2
  · have eso : zarr V1 (t + 1) g so = V so := by rw [zarr_ne _ _ (by omega), e1 so (by omega) (by omega)]
    have es1 : zarr V1 (t + 1) g (so + 1) = V (so + 1) := by rw [zarr_ne _ _ (by omega), e1 _ (by omega) (by omega)]
    have et : zarr V1 (t + 1) g t 3 = t + 1 := by rw [zarr_ne _ _ (by omega)]; exact t1.1.2.2
    have ep : zarr V1 (t + 1) g p = V p := by rw [zarr_ne _ _ (by omega), e1 p (by omega) (by omega)]
    have ea : zarr V1 (t + 1) g a = V a := by rw [zarr_ne _ _ hat.2, e1 a hat.1 hat.2]
    have bo := (HT.fr.2.1 r r0 r1).1
    refine wp_X5_tellTail_14 ?_
    rw [eso, f0, f7, s1, es1, et, ep, HP.n, ea, ha, hT.1.2.1]
    refine ⟨ks, fun q => by omega, fun _ => ⟨by rw [hT.1.1], rfl, ⟨r0, by show r < 36; omega⟩, HP.kp, ⟨by omega, by omega⟩, rfl, ⟨by omega, by show pn P + r < 72; omega⟩, rfl, ⟨bo.1, by show V (so + 1) r < 36; omega⟩, fun V12 e12 => ⟨⟨by omega, by omega⟩, ?_⟩⟩⟩
    rw [e12, zput_zarr V1 (g := zupd g (V (so + 1) r) (V a (pn P + r))) (fun j => rfl)]
    refine ih _ (fun k x y => ?_)
    rw [zlift_s r0]
    by_cases hk : k = V (so + 1) r
    · rw [hk, zupd_self, if_pos rfl]
      have : zlift r (V (so + 1)) (fun r => V a (pn P + r)) (V (so + 1) r) = 0 := zsum_zero (fun s sa sb => if_neg (fun e => by have := HT.fr.inj ⟨sa, by omega⟩ ⟨r0, r1⟩ e; omega))
      rw [this, Int.zero_add]
    · rw [zupd_ne _ _ hk, if_neg (fun e => hk e.symm), Int.add_zero]; exact gg k x y
end CLSOLVE
