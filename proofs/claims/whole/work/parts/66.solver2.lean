/-! THE CLASS'S SOLVER: refresh -/
section SOLVER2
variable {E : zE} {S : zS} {V : zH} {p lo so kb : Int} {P : zP}
theorem zFx.congr {V' : zH} {fm la wk m h t op : Int} (H : zFx S V fm la wk m h t op) (e0 : V' fm = V fm) (e1 : V' (la + 1) = V (la + 1)) : zFx S V' fm la wk m h t op := by
  obtain ⟨h1, h2, h3, h4⟩ := H
  exact ⟨h1.congr e0 e1, by rw [e0]; exact h2, h3, h4⟩
theorem sp_refresh {F : zH → Prop} (HP : zPl S V p P) (HS : zSo S V p lo so kb P) (hlo : p + 7 < lo) (hw : 0 ≤ V p 4)
    (hF : ∀ V', zSo S V' p lo so kb P → zTab V' so P → V' so 1 = V' p 4 → zOff V V' so (so + 8) → F V') : SpV E 4 zm_X5_refresh [zrv so] S V F := by
  obtain ⟨⟨h1, h1'⟩, h2, h3, h4, h5, h6⟩ := id HS
  obtain ⟨⟨s0, s1, s2, s3⟩, ⟨f0, f3, f7, f8, f9⟩, FA⟩ := id h2
  have ks : (S so).1 = 8 := by rw [s0]
  have o1 := HP.ok.1
  have o2 := HP.ok.2.1
  have o4 := HP.ok.2.2.2.1
  refine en_X5_refresh (fun X => ?_)
  rw [f0, HP.b]
  refine ⟨ks, HP.kp, fun z => ?_, fun z => hF V HS (h4 z) z (zOff.refl V _ _)⟩
  intro V4 e4 V6 e6
  refine ⟨⟨by omega, by omega⟩, fun x9 e9 => ?_⟩
  have o6 : ∀ j, V6 so j = if j = 6 then 0 else if j = 1 then V p 4 else V so j := fun j => by rw [e6, e4]; simp only [zput, true_and]
  have r6 : ∀ q, q ≠ so → V6 q = V q := fun q hq => by rw [e6, zput_row _ _ _ hq, e4, zput_row _ _ _ hq]
  -- what is left of the heap
  have fin : ∀ V1, (∀ q, q < so ∨ so + 8 < q → V1 q = V q) → (∀ j, j ≠ 1 → j ≠ 6 → V1 so j = V so j) → V1 so 1 = V p 4 → zFA S V1 (so + 4) (so + 6) (so + 5) → zTab V1 so P → F V1 := by
    intro V1 q1 q2 q3 q4 q5
    have ep : V1 p = V p := q1 p (by omega)
    refine hF V1 ⟨⟨h1, h1'⟩, ⟨⟨s0, s1, s2, s3⟩, ⟨by rw [q2 0 (by decide) (by decide)]; exact f0, by rw [q2 3 (by decide) (by decide)]; exact f3, by rw [q2 7 (by decide) (by decide)]; exact f7, by rw [q2 8 (by decide) (by decide)]; exact f8, by rw [q2 9 (by decide) (by decide)]; exact f9⟩, q4⟩, by rw [q3, ep, q2 2 (by decide) (by decide)]; omega, fun _ => q5, ?_, ?_⟩ q5 (by rw [q3, ep]) q1
    · rw [q2 4 (by decide) (by decide), q2 2 (by decide) (by decide), q3]
      rcases h5 with y | ⟨y1, y2, y3⟩
      · exact Or.inl y
      · have hd := y1.2.1
        unfold zDj at hd
        exact Or.inr ⟨y1, y2.congr (q1 _ (by omega)) (q1 _ (by omega)), fun _ y => by omega⟩
    · rw [q2 5 (by decide) (by decide), q2 4 (by decide) (by decide)]
      rcases h6 with y | ⟨y1, y2⟩
      · exact Or.inl y
      · have hd := y1.2.1
        unfold zDj at hd
        exact Or.inr ⟨y1, y2.congr (q1 _ (by omega))⟩
  -- the loops that put the steps
  have puts : ∀ (V2 : zH) (f : Int), (∀ q, q < so ∨ so + 8 < q → V2 q = V q) → (∀ j, j ≠ 1 → j ≠ 6 → V2 so j = V so j) → V2 so 1 = V p 4 → V2 so 6 = f → zFree P f (V2 (so + 1)) → zFx S V2 (so + 4) (so + 6) (so + 5) (pm P) (pn P) f f → zFu V2 (so + 6) (pm P) → (∀ r i, 0 ≤ r → r < f → 0 ≤ i → i < 72 → V2 (so + 5) (r * 72 + i) = if i = pn P + r then 1 else 0) → zl_X5_refresh_111 E X F S so 0 V2 := by
    intro V2 f q1 q2 q3 q4 q5 q6 q7 q8
    have fb := q5.1
    have sep : ∀ gS gw q, q ≠ so + 2 → q ≠ so + 5 → zarr (zarr V2 (so + 2) gS) (so + 5) gw q = V2 q := fun gS gw q a b => by rw [zarr_ne _ _ b, zarr_ne _ _ a]
    have P2 : ∀ gS gw, zPl S (zarr (zarr V2 (so + 2) gS) (so + 5) gw) p P := fun gS gw => HP.congr (fun q a b => by rw [sep gS gw q (by omega) (by omega), q1 q (by omega)])
    have key := zdown (Q := fun r => ∀ gS gw, (∀ r', 0 ≤ r' → r' < r → ∀ i, 0 ≤ i → i < pn P → gS (r' * 36 + i) = zstp P (V2 (so + 1) r') i) → (∀ r' i, 0 ≤ r' → r' < f → 0 ≤ i → i < 72 → gw (r' * 72 + i) = if i = pn P + r' then 1 else if r' < r ∧ i < pn P then zstp P (V2 (so + 1) r') i else 0) → zl_X5_refresh_111 E X F S so r (zarr (zarr V2 (so + 2) gS) (so + 5) gw)) (N := f) (fun gS gw a1 a2 => ?_) (fun r r0 r1 ih gS gw a1 a2 => ?_) 0 (by omega) (by omega)
    · have k := key (V2 (so + 2)) (V2 (so + 5)) (fun r' _ _ => by omega) (fun r' i a b c d => by rw [q8 r' i a b c d, if_neg (show ¬ (r' < 0 ∧ i < pn P) by omega)])
      rw [zarr_id, zarr_id] at k; exact k
    · refine wp_X5_refresh_111 ?_
      have es : ∀ j, zarr (zarr V2 (so + 2) gS) (so + 5) gw so j = V2 so j := fun j => by rw [sep gS gw so (by omega) (by omega)]
      rw [es, es, q4, q2 3 (by decide) (by decide), f3]
      refine ⟨ks, fun _ => ⟨by rw [q6.1.1.1], ?_⟩, fun q => by omega⟩
      have Hx : zFx S (zarr (zarr V2 (so + 2) gS) (so + 5) gw) (so + 4) (so + 6) (so + 5) (pm P) (pn P) f f := q6.congr (sep gS gw _ (by omega) (by omega)) (sep gS gw _ (by omega) (by omega))
      have hb := zbegin_ok (m := pm P) (h := pn P) (t := f) (A := fun r i => zstp P (V2 (so + 1) r) i) (W := zRo gw) o2.1 (by omega) (by omega) (fun r _ _ j _ _ => zstp_le HP.ok _ j) (fun r a b j ja jb => by
        show gw (r * 72 + j) = _
        rw [a2 r j a b ja (by omega), if_neg (by omega), if_pos ⟨by omega, jb⟩]) (fun r a b j ja jb => by
        show gw (r * 72 + (pn P + j)) = _
        rw [a2 r (pn P + j) a b (by omega) (by omega)]
        by_cases hj : j = r
        · rw [if_pos (by omega), if_pos hj]
        · rw [if_neg (by omega), if_neg hj, if_neg (by omega)])
      refine sp_build Hx (fun v a b => by rw [sep gS gw _ (by omega) (by omega)]; exact q7 v a b) (by rw [zarr_self]; exact hb.1) (by rw [zarr_self]; exact hb.2) (fun V' x1 x2 x3 => ?_)
      have ev : ∀ q, q ≠ so + 4 → q ≠ so + 5 → q ≠ so + 6 → q ≠ so + 7 → V' q = zarr (zarr V2 (so + 2) gS) (so + 5) gw q := fun q b1 b2 b3 b4 => x3 q b1 b2 b3 (by omega)
      have eso : V' so = V2 so := by rw [ev so (by omega) (by omega) (by omega) (by omega), sep gS gw so (by omega) (by omega)]
      have es1 : V' (so + 1) = V2 (so + 1) := by rw [ev _ (by omega) (by omega) (by omega) (by omega), sep gS gw _ (by omega) (by omega)]
      have es2 : V' (so + 2) = gS := by rw [ev _ (by omega) (by omega) (by omega) (by omega), zarr_ne _ _ (by omega), zarr_self]
      refine fin V' (fun q hq => by rw [ev q (by omega) (by omega) (by omega) (by omega), sep gS gw q (by omega) (by omega), q1 q hq]) (fun j j1 j6 => by rw [eso, q2 j j1 j6]) (by rw [eso, q3]) x1 ?_
      unfold zTab
      rw [eso, es1, es2, q4]
      exact ⟨q5, a1, x2⟩
    · refine wp_X5_refresh_111 ?_
      have es : ∀ gS gw j, zarr (zarr V2 (so + 2) gS) (so + 5) gw so j = V2 so j := fun gS gw j => by rw [sep gS gw so (by omega) (by omega)]
      rw [es, q4]
      refine ⟨ks, fun q => by omega, fun _ => ?_⟩
      have bo := (q5.2.1 r r0 r1)
      have inner := zdown (Q := fun i => ∀ gS gw, (∀ r', 0 ≤ r' → (r' < r → ∀ i, 0 ≤ i → i < pn P → gS (r' * 36 + i) = zstp P (V2 (so + 1) r') i)) → (∀ j, 0 ≤ j → j < i → gS (r * 36 + j) = zstp P (V2 (so + 1) r) j) → (∀ r' j, 0 ≤ r' → r' < f → 0 ≤ j → j < 72 → gw (r' * 72 + j) = if j = pn P + r' then 1 else if (r' < r ∧ j < pn P) ∨ (r' = r ∧ j < i) then zstp P (V2 (so + 1) r') j else 0) → zl_X5_refresh_121 E X F S so r i (zarr (zarr V2 (so + 2) gS) (so + 5) gw)) (N := pn P) (fun gS gw b1 b2 b3 => ?_) (fun i i0 i1 ihi gS gw b1 b2 b3 => ?_) 0 (by omega) (by omega)
      · refine inner gS gw a1 (fun j _ _ => by omega) (fun r' j a b c d => ?_)
        rw [a2 r' j a b c d]
        by_cases z : r' < r ∧ j < pn P
        · rw [if_pos z, if_pos (show (r' < r ∧ j < pn P) ∨ (r' = r ∧ j < 0) from Or.inl z)]
        · rw [if_neg z, if_neg (show ¬ ((r' < r ∧ j < pn P) ∨ (r' = r ∧ j < 0)) by omega)]
      · refine wp_X5_refresh_121 ?_
        rw [es, q2 0 (by decide) (by decide), f0, (P2 gS gw).n]
        refine ⟨ks, HP.kp, fun _ => ⟨⟨by omega, by omega⟩, ih gS gw (fun r' a b i ia ib => ?_) (fun r' j a b c d => ?_)⟩, fun q => by omega⟩
        · by_cases z : r' = r
          · rw [z]; exact b2 i ia ib
          · exact b1 r' a (by omega) i ia ib
        · rw [b3 r' j a b c d]
          by_cases y : j = pn P + r'
          · rw [if_pos y, if_pos y]
          · rw [if_neg y, if_neg y]
            by_cases z : r' < r + 1 ∧ j < pn P
            · rw [if_pos z, if_pos (by omega)]
            · rw [if_neg z, if_neg (by omega)]
      · refine wp_X5_refresh_121 ?_
        rw [es, es, es, es, q2 0 (by decide) (by decide), q2 3 (by decide) (by decide), q2 7 (by decide) (by decide), q2 8 (by decide) (by decide), f0, f3, f7, f8, s1, s2, (P2 gS gw).n, sep gS gw (so + 1) (by omega) (by omega)]
        refine ⟨ks, HP.kp, fun q => by omega, fun _ => ⟨rfl, ⟨r0, by show r < 36; omega⟩, sp_step (P2 gS gw) bo.1 ⟨i0, i1⟩ ⟨⟨by omega, by omega⟩, ⟨by omega, by omega⟩, rfl, ⟨by omega, by show r * 36 + i < 1296; omega⟩, fun V13 e13 => ⟨by rw [q6.1.1.1], ?_⟩⟩⟩⟩
        have e13' : V13 = zarr (zarr V2 (so + 2) (zupd gS (r * 36 + i) (zstp P (V2 (so + 1) r) i))) (so + 5) gw := by
          rw [e13, zarr_comm V2 gS gw (by omega), zput_zarr (zarr V2 (so + 5) gw) (g := zupd gS (r * 36 + i) (zstp P (V2 (so + 1) r) i)) (fun j => rfl), zarr_comm V2 gw _ (by omega)]
        rw [e13']
        have Hx : zFx S (zarr (zarr V2 (so + 2) (zupd gS (r * 36 + i) (zstp P (V2 (so + 1) r) i))) (so + 5) gw) (so + 4) (so + 6) (so + 5) (pm P) (pn P) f f := q6.congr (sep _ gw _ (by omega) (by omega)) (sep _ gw _ (by omega) (by omega))
        refine sp_putHead Hx ⟨r0, by omega⟩ ⟨i0, by omega⟩ ⟨⟨by omega, by omega⟩, ?_⟩
        rw [zarr_self, zarr_zarr]
        refine ihi _ _ (fun r' a b j ja jb => ?_) (fun j ja jb => ?_) (fun r' j a b c d => ?_)
        · rw [zupd_ne _ _ (by omega)]; exact b1 r' a b j ja jb
        · by_cases hj : j = i
          · rw [hj, zupd_self]
          · rw [zupd_ne _ _ (by omega)]; exact b2 j ja (by omega)
        · by_cases y : r' = r ∧ j = i
          · obtain ⟨y1, y2⟩ := y
            rw [y1, y2, zupd_self, if_neg (by omega), if_pos (by omega)]
          · rw [zupd_ne _ _ (by omega), b3 r' j a b c d]
            by_cases y2 : j = pn P + r'
            · rw [if_pos y2, if_pos y2]
            · rw [if_neg y2, if_neg y2]
              by_cases z : (r' < r ∧ j < pn P) ∨ (r' = r ∧ j < i)
              · rw [if_pos z, if_pos (by omega)]
              · rw [if_neg z, if_neg (by omega)]
  -- the buttons that can be pushed
  have first : ∀ n, 0 ≤ n → n ≤ pb P → ∀ (f : Int) gb, (0 ≤ f ∧ f ≤ pb P - n) → (∀ r, 0 ≤ r → r < f → (n ≤ gb r ∧ gb r < pb P) ∧ pkd P (gb r) ≠ 3) → (∀ r s, 0 ≤ r → r < s → s < f → gb s < gb r) → (∀ k, n ≤ k → k < pb P → pkd P k ≠ 3 → ∃ r, (0 ≤ r ∧ r < f) ∧ gb r = k) → zl_X5_refresh_41 E X F S so (n - 1) (zarr (zarr V6 so (zupd (V6 so) 6 f)) (so + 1) gb) := by
    refine zind (P := fun n => n ≤ pb P → ∀ (f : Int) gb, (0 ≤ f ∧ f ≤ pb P - n) → (∀ r, 0 ≤ r → r < f → (n ≤ gb r ∧ gb r < pb P) ∧ pkd P (gb r) ≠ 3) → (∀ r s, 0 ≤ r → r < s → s < f → gb s < gb r) → (∀ k, n ≤ k → k < pb P → pkd P k ≠ 3 → ∃ r, (0 ≤ r ∧ r < f) ∧ gb r = k) → zl_X5_refresh_41 E X F S so (n - 1) (zarr (zarr V6 so (zupd (V6 so) 6 f)) (so + 1) gb)) (fun _ f gb b0 b1 b2 b3 => ?_) (fun n hn ih hnb f gb b0 b1 b2 b3 => ?_)
    · have es : ∀ j, zarr (zarr V6 so (zupd (V6 so) 6 f)) (so + 1) gb so j = if j = 6 then f else if j = 1 then V p 4 else V so j := fun j => by
        rw [zarr_ne _ _ (by omega), zarr_self]
        unfold zupd
        rw [o6]
        by_cases hj : j = 6
        · rw [if_pos hj, if_pos hj]
        · rw [if_neg hj, if_neg hj, if_neg hj]
      have rs : ∀ q, q ≠ so → q ≠ so + 1 → zarr (zarr V6 so (zupd (V6 so) 6 f)) (so + 1) gb q = V q := fun q a b => by rw [zarr_ne _ _ b, zarr_ne _ _ a, r6 q a]
      refine wp_X5_refresh_41 ⟨fun _ => ?_, fun q => by omega⟩
      have e0 : zarr (zarr V6 so (zupd (V6 so) 6 f)) (so + 1) gb so 0 = p := by rw [es]; exact f0
      have e3 : zarr (zarr V6 so (zupd (V6 so) 6 f)) (so + 1) gb so 3 = so + 4 := by rw [es]; exact f3
      have e6' : zarr (zarr V6 so (zupd (V6 so) 6 f)) (so + 1) gb so 6 = f := by rw [es]; rfl
      rw [e0, e3, e6', rs p (by omega) (by omega), HP.m, HP.n]
      refine ⟨ks, HP.kp, by rw [FA.1.1], sp_fbegin (FA.congr (rs _ (by omega) (by omega)) (rs _ (by omega) (by omega))) ⟨by omega, by omega, by omega⟩ o2 ⟨by omega, by omega⟩ ⟨by omega, by omega⟩ (fun V' x1 x2 x3 x4 => ?_)⟩
      have ev : ∀ q, q ≠ so + 4 → q ≠ so + 5 → q ≠ so + 8 → V' q = zarr (zarr V6 so (zupd (V6 so) 6 f)) (so + 1) gb q := fun q a b c => x4 q a b (by omega)
      have es1 : V' (so + 1) = gb := by rw [ev _ (by omega) (by omega) (by omega), zarr_self]
      have eso : ∀ j, V' so j = if j = 6 then f else if j = 1 then V p 4 else V so j := fun j => by rw [ev so (by omega) (by omega) (by omega), es]
      refine puts V' f (fun q hq => by rw [ev q (by omega) (by omega) (by omega), rs q (by omega) (by omega)]) (fun j j1 j6 => by rw [eso, if_neg j6, if_neg j1]) (by rw [eso]; rfl) (by rw [eso]; rfl) ?_ x1 x2 x3
      rw [es1]
      exact ⟨by omega, b1, b2, fun k a b c => b3 k a b c⟩
    · have es : ∀ j, zarr (zarr V6 so (zupd (V6 so) 6 f)) (so + 1) gb so j = if j = 6 then f else if j = 1 then V p 4 else V so j := fun j => by
        rw [zarr_ne _ _ (by omega), zarr_self]
        unfold zupd
        rw [o6]
        by_cases hj : j = 6
        · rw [if_pos hj, if_pos hj]
        · rw [if_neg hj, if_neg hj, if_neg hj]
      have rs : ∀ q, q ≠ so → q ≠ so + 1 → zarr (zarr V6 so (zupd (V6 so) 6 f)) (so + 1) gb q = V q := fun q a b => by rw [zarr_ne _ _ b, zarr_ne _ _ a, r6 q a]
      have P6 : zPl S (zarr (zarr V6 so (zupd (V6 so) 6 f)) (so + 1) gb) p P := HP.congr (fun q a b => rs q (by omega) (by omega))
      have e0 : zarr (zarr V6 so (zupd (V6 so) 6 f)) (so + 1) gb so 0 = p := by rw [es]; exact f0
      have e7 : zarr (zarr V6 so (zupd (V6 so) 6 f)) (so + 1) gb so 7 = so + 1 := by rw [es]; exact f7
      have e6' : zarr (zarr V6 so (zupd (V6 so) 6 f)) (so + 1) gb so 6 = f := by rw [es]; rfl
      rw [show n + 1 - 1 = n by omega]
      refine wp_X5_refresh_41 ⟨fun q => by omega, fun _ => ?_⟩
      rw [e0, P6.v6, HP.s2, (P6.bt ⟨hn, by omega⟩).1, e7, e6', s1]
      refine ⟨ks, HP.kp, rfl, ⟨hn, by show n < 36; omega⟩, fun y => ⟨⟨by omega, by omega⟩, ?_⟩, fun y => ⟨rfl, ⟨b0.1, by show f < 36; omega⟩, fun V15 e15 => ⟨⟨by omega, by omega⟩, fun V18 e18 => ⟨⟨by omega, by omega⟩, ?_⟩⟩⟩⟩
      · rw [show n + -1 = n - 1 by omega]
        refine ih (by omega) f gb (by omega) (fun r a b => ⟨by have := (b1 r a b).1; omega, (b1 r a b).2⟩) b2 (fun k a b c => ?_)
        by_cases hk : k = n
        · rw [hk] at c; exact absurd y c
        · exact b3 k (by omega) b c
      · rw [show n + -1 = n - 1 by omega]
        have e18' : V18 = zarr (zarr V6 so (zupd (V6 so) 6 (f + 1))) (so + 1) (zupd gb f n) := by
          rw [e18, e15, zput_zarr (zarr V6 so (zupd (V6 so) 6 f)) (g := zupd gb f n) (fun j => rfl), zarr_comm V6 _ _ (by omega), zput_zarr (zarr V6 (so + 1) (zupd gb f n)) (g := zupd (V6 so) 6 (f + 1)) (fun j => by unfold zupd; by_cases hj : j = 6 <;> simp [hj]), zarr_comm V6 _ _ (by omega)]
        rw [e18']
        refine ih (by omega) (f + 1) (zupd gb f n) (by omega) (fun r a b => ?_) (fun r s a b c => ?_) (fun k a b c => ?_)
        · by_cases hr : r = f
          · rw [hr, zupd_self]; exact ⟨by omega, y⟩
          · rw [zupd_ne _ _ hr]
            have := b1 r a (by omega)
            exact ⟨by omega, this.2⟩
        · rw [zupd_ne _ _ (show r ≠ f by omega)]
          by_cases hs : s = f
          · rw [hs, zupd_self]
            have := (b1 r a (by omega)).1; omega
          · rw [zupd_ne _ _ hs]; exact b2 r s a b (by omega)
        · by_cases hk : k = n
          · exact ⟨f, by omega, by rw [zupd_self]; exact hk.symm⟩
          · obtain ⟨r, r1, r2⟩ := b3 k (by omega) b c
            exact ⟨r, by omega, by rw [zupd_ne _ _ (by omega)]; exact r2⟩
  have k := first (pb P) (by omega) (by omega) 0 (V6 (so + 1)) (by omega) (fun r _ _ => by omega) (fun r s _ _ _ => by omega) (fun k _ _ _ => by omega)
  have e : zupd (V6 so) 6 0 = V6 so := by
    funext j
    unfold zupd
    by_cases hj : j = 6
    · rw [if_pos hj, o6, if_pos hj]
    · rw [if_neg hj]
  rw [e, zarr_id, zarr_id] at k
  rw [e9]; exact k
end SOLVER2
