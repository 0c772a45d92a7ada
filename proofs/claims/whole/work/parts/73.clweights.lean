/-! THE CLASS'S SOLVER: the table of WEIGHTS -/
section CLWEIGHTS
variable {E : zE} {S : zS} {V : zH}
theorem sp_w25 {p lo so kb wf : Int} {P : zP} {mc ms k n : Nat} {X : zX} {F : Int → zS → zH → Prop} (HP : zPl S V p P) (HS : zSo S V p lo so kb P) (hlo : p + 7 < lo ∧ 0 < p) (HT : zTab V so P) (hst : V so 1 = V p 4) (hp4 : 0 ≤ V p 4) (hwf : V so 4 = wf ∧ 0 < wf) (hk : k ≤ mc ∧ n ≤ ms)
    (hF : ∀ V', zSo S V' p lo so kb P → zTab V' so P → V' so 1 = V' p 4 → V' so 4 = wf → zFA S V' wf (wf + 1) (so + 5) → zTabW V' so P → (∀ q, (q < so ∨ so + 8 < q) → (q < wf ∨ wf + 3 < q) → V' q = V q) → F wf S V') : zl_X5_freshWeights_25 E X F mc ms k n S so V := by
  obtain ⟨⟨h1, h1'⟩, h2, h3, h4, h5, h6⟩ := id HS
  obtain ⟨⟨s0, s1, s2, s3⟩, ⟨f0, f3, f7, f8, f9⟩, FA⟩ := id h2
  obtain ⟨hw4, hw0⟩ := hwf
  have ks : (S so).1 = 8 := by rw [s0]
  have o1 := HP.ok.1
  have o2 := HP.ok.2.1
  have o4 := HP.ok.2.2.2.1
  have fb := HT.fr.1
  obtain ⟨w1, WA, w3⟩ : (lo ≤ wf ∧ zDj so 8 wf 3 ∧ (kb = 0 ∨ zDj wf 3 kb 7)) ∧ zFA S V wf (wf + 1) (so + 5) ∧ (V so 1 = V p 4 → V so 2 = V so 1 → zTabW V so P) := by
    rcases h5 with z | z
    · omega
    · rw [hw4] at z; exact z
  have wd : so + 8 < wf ∨ wf + 3 < so := w1.2.1
  refine wp_X5_freshWeights_25 ?_
  rw [hw4, f0, HP.m, HP.n]
  refine ⟨ks, fun z => ⟨hk, hF V HS HT hst hw4 WA (w3 hst z) (fun _ _ _ => rfl)⟩, fun z V4 e4 => ⟨HP.kp, by rw [WA.1.1], hk, ?_⟩⟩
  have o4' : ∀ j, V4 so j = if j = 2 then V so 1 else V so j := fun j => by rw [e4]; simp only [zput, true_and]
  have r4 : ∀ q, q ≠ so → V4 q = V q := fun q hq => by rw [e4, zput_row _ _ _ hq]
  refine sp_fbegin (WA.congr (r4 _ (by omega)) (r4 _ (by omega))) ⟨by omega, by omega, by omega⟩ o2 ⟨by omega, by omega⟩ ⟨by omega, by omega⟩ (fun V1 x1 x2 x3 x4 => ?_)
  have e1 : ∀ q, q ≠ wf → q ≠ so + 5 → q ≠ wf + 3 → V1 q = V4 q := fun q a b c => x4 q a b (by omega)
  have keep : ∀ gw q, q ≠ so → q ≠ wf → q ≠ so + 5 → q ≠ wf + 3 → zarr V1 (so + 5) gw q = V q := fun gw q a b c d => by rw [zarr_ne _ _ c, e1 q b c d, r4 q a]
  have kso : ∀ gw j, zarr V1 (so + 5) gw so j = if j = 2 then V so 1 else V so j := fun gw j => by rw [zarr_ne _ _ (by omega), e1 so (by omega) (by omega) (by omega), o4']
  have P1 : ∀ gw, zPl S (zarr V1 (so + 5) gw) p P := fun gw => HP.congr (fun q a b => keep gw q (by omega) (by omega) (by omega) (by omega))
  have X1 : ∀ gw, zFx S (zarr V1 (so + 5) gw) wf (wf + 1) (so + 5) (pm P) (V so 6) (pn P) (pn P) := fun gw => x1.wk gw
  -- lamps, then free buttons
  have key := zdown (Q := fun l => ∀ gw, (∀ l' i, 0 ≤ l' → l' < pn P → 0 ≤ i → i < 72 → gw (l' * 72 + i) = if i = V so 6 + l' then 1 else if l' < l ∧ i < V so 6 then zstp P (V (so + 1) i) l' else 0) → zl_X5_freshWeights_71 E X F mc ms k n S so l (zarr V1 (so + 5) gw)) (N := pn P) (fun gw gg => ?_) (fun l l0 l1 ih gw gg => ?_) 0 (by omega) (by omega)
  · have q := key (V1 (so + 5)) (fun l' i a b c d => by rw [x3 l' i a b c d, if_neg (show ¬ (l' < 0 ∧ i < V so 6) by omega)])
    rw [zarr_id] at q; exact q
  · refine wp_X5_freshWeights_71 ?_
    have e40 : zarr V1 (so + 5) gw so 4 = wf := by rw [kso]; exact hw4
    have e00 : zarr V1 (so + 5) gw so 0 = p := by rw [kso]; exact f0
    rw [e40, e00, (P1 gw).n]
    refine ⟨ks, HP.kp, fun _ => ⟨by rw [WA.1.1], hk, ?_⟩, fun q => by omega⟩
    have hb := zbegin_ok (m := pm P) (h := V so 6) (t := pn P) (A := fun i r => zstp P (V (so + 1) r) i) (W := zRo gw) o2.1 (by omega) (by omega) (fun r _ _ j _ _ => zstp_le HP.ok _ r) (fun r a b j ja jb => by
      show gw (r * 72 + j) = _
      rw [gg r j a b ja (by omega), if_neg (by omega), if_pos ⟨by omega, jb⟩]) (fun r a b j ja jb => by
      show gw (r * 72 + (V so 6 + j)) = _
      rw [gg r (V so 6 + j) a b (by omega) (by omega)]
      by_cases hj : j = r
      · rw [if_pos (by omega), if_pos hj]
      · rw [if_neg (by omega), if_neg hj, if_neg (by omega)])
    refine sp_build (X1 gw) (fun v a b => by rw [zarr_ne _ _ (by omega)]; exact x2 v a b) (by rw [zarr_self]; exact hb.1) (by rw [zarr_self]; exact hb.2) (fun V' y1 y2 y3 => ?_)
    have ev : ∀ q, q ≠ so → q ≠ so + 5 → (q < wf ∨ wf + 3 < q) → V' q = V q := fun q a b c => by rw [y3 q (by omega) b (by omega) (by omega), keep gw q a (by omega) b (by omega)]
    have eso : ∀ j, V' so j = if j = 2 then V so 1 else V so j := fun j => by rw [y3 so (by omega) (by omega) (by omega) (by omega), kso]
    have es1 : V' (so + 1) = V (so + 1) := ev _ (by omega) (by omega) (by omega)
    have e6 : V' so 6 = V so 6 := by rw [eso]; rfl
    have e4f : V' so 4 = wf := by rw [eso]; exact hw4
    have tabw : zTabW V' so P := by
      unfold zTabW
      rw [e4f, e6, es1]; exact y2
    have tab : zTab V' so P := by
      unfold zTab
      rw [e6, es1, ev (so + 2) (by omega) (by omega) (by omega)]
      exact ⟨HT.1, HT.2.1, HT.2.2.congr (ev _ (by omega) (by omega) (by omega)) (ev _ (by omega) (by omega) (by omega)) (ev _ (by omega) (by omega) (by omega))⟩
    have ep : V' p = V p := ev p (by omega) (by omega) (by omega)
    rw [e4f]
    refine hF V' ⟨⟨h1, h1'⟩, ⟨⟨s0, s1, s2, s3⟩, ⟨by rw [eso]; exact f0, by rw [eso]; exact f3, by rw [eso]; exact f7, by rw [eso]; exact f8, by rw [eso]; exact f9⟩, FA.congr (ev _ (by omega) (by omega) (by omega)) (ev _ (by omega) (by omega) (by omega))⟩, ?_, fun _ => tab, Or.inr ?_, ?_⟩ tab ?_ e4f y1 tabw (fun q a b => ev q (by omega) (by omega) b)
    · rw [ep, eso, eso, if_pos rfl, if_neg (by decide)]; omega
    · rw [e4f]
      exact ⟨w1, y1, fun _ _ => tabw⟩
    · have e5 : V' so 5 = V so 5 := by rw [eso]; rfl
      rw [e5, e4f]
      rcases h6 with y | ⟨u1, u2⟩
      · exact Or.inl y
      · rw [hw4] at u1
        have d1 : so + 8 < V so 5 ∨ V so 5 + 6 < so := u1.2.1
        have d2 : wf + 3 < V so 5 ∨ V so 5 + 6 < wf := by
          rcases u1.2.2.2 with z | z
          · omega
          · exact z
        exact Or.inr ⟨u1, u2.congr (ev _ (by omega) (by omega) (by omega))⟩
    · rw [ep, eso]; exact hst
  · refine wp_X5_freshWeights_71 ?_
    have e40 : zarr V1 (so + 5) gw so 4 = wf := by rw [kso]; exact hw4
    have e00 : zarr V1 (so + 5) gw so 0 = p := by rw [kso]; exact f0
    rw [e40, e00, (P1 gw).n]
    refine ⟨ks, HP.kp, fun q => by omega, fun _ => ?_⟩
    have inner := zdown (Q := fun r => ∀ gw, (∀ l' i, 0 ≤ l' → l' < pn P → 0 ≤ i → i < 72 → gw (l' * 72 + i) = if i = V so 6 + l' then 1 else if (l' < l ∧ i < V so 6) ∨ (l' = l ∧ i < r) then zstp P (V (so + 1) i) l' else 0) → zl_X5_freshWeights_84 E X F mc ms k n S so l r (zarr V1 (so + 5) gw)) (N := V so 6) (fun gw gg => ?_) (fun r r0 r1 ihr gw gg => ?_) 0 (by omega) (by omega)
    · refine inner gw (fun l' i a b c d => ?_)
      rw [gg l' i a b c d]
      by_cases y : i = V so 6 + l'
      · rw [if_pos y, if_pos y]
      · rw [if_neg y, if_neg y]
        by_cases z : l' < l ∧ i < V so 6
        · rw [if_pos z, if_pos (show (l' < l ∧ i < V so 6) ∨ (l' = l ∧ i < 0) from Or.inl z)]
        · rw [if_neg z, if_neg (show ¬ ((l' < l ∧ i < V so 6) ∨ (l' = l ∧ i < 0)) by omega)]
    · refine wp_X5_freshWeights_84 ?_
      have e6 : zarr V1 (so + 5) gw so 6 = V so 6 := by rw [kso]; rfl
      rw [e6]
      refine ⟨ks, fun _ => ⟨⟨by omega, by omega⟩, ih gw (fun l' i a b c d => ?_)⟩, fun q => by omega⟩
      rw [gg l' i a b c d]
      by_cases y : i = V so 6 + l'
      · rw [if_pos y, if_pos y]
      · rw [if_neg y, if_neg y]
        by_cases z : l' < l + 1 ∧ i < V so 6
        · rw [if_pos z, if_pos (by omega)]
        · rw [if_neg z, if_neg (by omega)]
    · refine wp_X5_freshWeights_84 ?_
      have e6 : zarr V1 (so + 5) gw so 6 = V so 6 := by rw [kso]; rfl
      have e8 : zarr V1 (so + 5) gw so 8 = so + 2 := by rw [kso]; exact f8
      have e4f : zarr V1 (so + 5) gw so 4 = wf := by rw [kso]; exact hw4
      rw [e6, e8, e4f, s2, keep gw (so + 2) (by omega) (by omega) (by omega) (by omega), HT.2.1 r r0 r1 l l0 l1]
      refine ⟨ks, fun q => by omega, fun _ => ⟨⟨by omega, by omega⟩, ⟨by omega, by omega⟩, rfl, ⟨by omega, by show r * 36 + l < 1296; omega⟩, by rw [WA.1.1], hk, sp_putHead (X1 gw) ⟨l0, by omega⟩ ⟨r0, by omega⟩ ⟨⟨by omega, by omega⟩, ?_⟩⟩⟩
      rw [zarr_self, zarr_zarr]
      refine ihr _ (fun l' i a b c d => ?_)
      by_cases y : l' = l ∧ i = r
      · obtain ⟨y1, y2⟩ := y
        rw [y1, y2, zupd_self, if_neg (by omega), if_pos (by omega)]
      · rw [zupd_ne _ _ (by omega), gg l' i a b c d]
        by_cases y2 : i = V so 6 + l'
        · rw [if_pos y2, if_pos y2]
        · rw [if_neg y2, if_neg y2]
          by_cases z : (l' < l ∧ i < V so 6) ∨ (l' = l ∧ i < r)
          · rw [if_pos z, if_pos (by omega)]
          · rw [if_neg z, if_neg (by omega)]
theorem cl_freshWeights {x w so : Int} {s : zSig} {mc ms : Nat} {F : Int → zS → zH → Prop} (H : zCl S V x s w) (R : zRdy S V x so s) (hS : (S (x + 31)).1 ≠ 0) (hm : V so 4 = 0 → 4 ≤ mc ∧ 5276 ≤ ms)
    (h : ∀ S' V' wf, zExt S S' → zCl S' V' x s w → zRdy S' V' x so s → (V' so 4 = wf ∧ 0 < wf) → zFA S' V' wf (wf + 1) (so + 5) → zTabW V' so (gP s) → zFrm V V' x → F wf S' V') : SaR E 4 mc ms zm_X5_freshWeights [zrv so] S V F := by
  obtain ⟨⟨e7, so0⟩, HS, HT, hst⟩ := R
  have hw := H.wi
  have hkp := H.ke.pos
  obtain ⟨⟨l1, l1'⟩, h2, h3, h4, h5, h6⟩ := id HS
  have ks : (S so).1 = 8 := by rw [h2.1.1]
  -- what is left, from the label on
  have fin : ∀ S2 V2 wf (k n : Nat) X, zExt S S2 → zCl S2 V2 x s w → zSo S2 V2 (x + 1) (x + 32) so (V2 x 6) (gP s) → zTab V2 so (gP s) → V2 so 1 = V2 (x + 1) 4 → (V2 so 4 = wf ∧ 0 < wf) → V2 x 7 = so → zFrm V V2 x → k ≤ mc ∧ n ≤ ms → zl_X5_freshWeights_25 E X F mc ms k n S2 so V2 := by
    intro S2 V2 wf k n X ex C2 So2 T2 st2 w2 e72 fr2 hk
    have C2w := C2.wi
    refine sp_w25 C2.pl So2 ⟨by omega, by omega⟩ T2 st2 C2w.2.1 w2 hk (fun V' y1 y2 y3 y4 y5 y6 y7 => ?_)
    obtain ⟨⟨m1, m1'⟩, -, -, -, m5, -⟩ := id So2
    have wlo : x + 32 ≤ wf ∧ (V2 x 6 = 0 ∨ zDj wf 3 (V2 x 6) 7) := by
      rcases m5 with z | z
      · omega
      · rw [w2.1] at z; exact ⟨z.1.1, z.1.2.2⟩
    have exx : V' x = V2 x := y7 x (by omega) (by omega)
    have C' : zCl S2 V' x s w := C2.solver (fun q q1 q2 => y7 q (by omega) (by omega)) (fun j _ => by rw [exx]) (fun z6 q a b => y7 q (by rcases m1' with z | z <;> unfold zDj at * <;> omega) (by rcases wlo.2 with z | z <;> unfold zDj at * <;> omega)) (Or.inr (by rw [exx, e72]; exact y1))
    exact h S2 V' wf ex C' ⟨⟨by rw [exx]; exact e72, so0⟩, by rw [exx]; exact y1, y2, y3⟩ ⟨y4, w2.2⟩ y5 y6 (fun q a b => by rw [y7 q (by omega) (by omega)]; exact fr2 q a b)
  refine en_X5_freshWeights (fun X => ⟨ks, fun z => fin S V (V so 4) 0 0 X (zExt.refl S) H HS HT hst ⟨rfl, z⟩ e7 (zFrm.refl V x) ⟨by omega, by omega⟩, fun z => ⟨by have := hm z; omega, fun r hr q S1 V1 s1 v1 => ?_⟩⟩)
  have hm' := hm z
  have top := fun q' hq' => (q.2 q' hq').1
  have rx := top _ hS
  have E1 : zExt S S1 := zExt.new q.1 s1
  have e1 : ∀ q', q' ≠ r → V1 q' = V q' := fun q' hq' => by rw [v1, zVn_row _ hq']
  have rso : so + 8 < r := by
    have := top (so + 6 + 2) (by rw [h2.2.2.1.2.2.2.1]; decide)
    omega
  have ek : S1 (so + 5) = (1, 2592) := E1.s h2.2.2.1.2.2.2.2 (by decide)
  have e13 : V1 so 3 = so + 4 := by rw [e1 so (by omega)]; exact h2.2.1.2.1
  have e16 : V1 (so + 4) 6 = so + 5 := by rw [e1 _ (by omega)]; exact h2.2.2.2.1.2.2.1
  rw [e13, e16]
  refine ⟨by rw [E1.s h2.2.2.1.1 (by decide)], 3, 5268, by omega, sp_formInit (T := r) (by rw [s1, zSn_self]) ek hr (fun j => by rw [v1, zVn_self]) (fun q' hq' => ?_) (by rw [s1, zSn_self]; decide) (by omega) (by omega) (fun S2 V2 fa sl vl tp nn => ?_)⟩
  · by_cases zq : q' = r
    · omega
    · rw [s1, zSn_ne _ _ zq] at hq'
      have := top q' hq'; omega
  · have E2 : zExt S S2 := fun q' hq' => by rw [sl q' (by have := top q' hq'; omega)]; exact E1 q' hq'
    have e2 : ∀ q', q' < r ∨ r + 3 < q' → V2 q' = V q' := fun q' hq' => by rw [vl q' (by omega) (by omega), e1 q' (by omega)]
    refine ⟨by rw [E2.s h2.1.1 (by decide)], fun V3 e3 => ?_⟩
    have f3 : ∀ q', q' ≠ so → V3 q' = V2 q' := fun q' hq' => by rw [e3, zput_row _ _ _ hq']
    have r3 : ∀ q', q' ≠ so → (q' < r ∨ r + 3 < q') → V3 q' = V q' := fun q' a b => by rw [f3 q' a, e2 q' b]
    have eso : ∀ j, V3 so j = if j = 4 then r else V so j := fun j => by rw [e3]; simp only [zput, true_and]; rw [e2 so (by omega)]
    have es1 : V3 (so + 1) = V (so + 1) := r3 _ (by omega) (by omega)
    have e6 : V3 so 6 = V so 6 := by rw [eso]; rfl
    have ep : V3 (x + 1) = V (x + 1) := r3 _ (by omega) (by omega)
    have exx : V3 x = V x := r3 x (by omega) (by omega)
    have kl : 0 < V x 6 → V x 6 + 7 < r := fun z6 => by
      have hke := H.ke
      cases hK : gK s with
      | none => rw [hK] at hke; exact absurd hke (by show ¬ V x 6 = 0; omega)
      | some Q =>
        rw [hK] at hke
        exact top (V x 6 + 7) (by rw [hke.2.s7]; decide)
    have tab : zTab V3 so (gP s) := by
      unfold zTab
      rw [e6, es1, r3 (so + 2) (by omega) (by omega)]
      exact ⟨HT.1, HT.2.1, HT.2.2.congr (r3 _ (by omega) (by omega)) (r3 _ (by omega) (by omega)) (r3 _ (by omega) (by omega))⟩
    have w2 : V so 2 = -1 := by
      rcases h5 with y | y
      · exact y.2
      · omega
    have So3 : zSo S2 V3 (x + 1) (x + 32) so (V x 6) (gP s) := by
      have A2 := h2.ext E2
      obtain ⟨a1, ⟨a2, a3, a4, a5, a6⟩, a7⟩ := A2
      refine ⟨⟨l1, l1'⟩, ⟨a1, ⟨by rw [eso]; exact a2, by rw [eso]; exact a3, by rw [eso]; exact a4, by rw [eso]; exact a5, by rw [eso]; exact a6⟩, a7.congr (r3 _ (by omega) (by omega)) (r3 _ (by omega) (by omega))⟩, ?_, fun _ => tab, Or.inr ⟨?_, ?_, fun y1 y2 => ?_⟩, ?_⟩
      · rw [ep, eso, eso, if_neg (by decide), if_neg (by decide)]; exact h3
      · rw [eso, if_pos rfl]
        refine ⟨by omega, Or.inl (by omega), ?_⟩
        rcases hkp with y | y
        · exact Or.inl y
        · exact Or.inr (Or.inr (by have := kl y.1; omega))
      · rw [eso, if_pos rfl]
        exact fa.congr (f3 _ (by omega)) (f3 _ (by omega))
      · exfalso
        rw [eso, if_neg (by decide), eso, if_neg (by decide), w2, hst] at y2
        omega
      · have e5 : V3 so 5 = V so 5 := by rw [eso]; rfl
        rw [e5]
        rcases h6 with y | ⟨y1, y2⟩
        · exact Or.inl y
        · have d1 : so + 8 < V so 5 ∨ V so 5 + 6 < so := y1.2.1
          have d2 := top (V so 5 + 6) (by rw [y2.1.2.2.2.2.2.2]; decide)
          refine Or.inr ⟨⟨y1.1, y1.2.1, y1.2.2.1, Or.inr (Or.inr (by rw [eso, if_pos rfl]; omega))⟩, (y2.ext E2).congr (r3 _ (by omega) (by omega))⟩
    have C3 : zCl S2 V3 x s w := (H.ext E2).solver (fun q' q1 q2 => r3 q' (by omega) (by omega)) (fun j _ => by rw [exx]) (fun z6 q' a b => by
      have := kl z6
      rcases l1' with y | y
      · omega
      · unfold zDj at y; exact r3 q' (by omega) (by omega)) (Or.inr (by rw [exx, e7]; exact So3))
    exact fin S2 V3 r _ _ X E2 C3 (by rw [exx]; exact So3) tab (by rw [ep, eso]; exact hst) ⟨by rw [eso]; rfl, hr⟩ (by rw [exx]; exact e7) (fun q' a b => r3 q' (by omega) (by omega)) ⟨by omega, by omega⟩
end CLWEIGHTS
/-- the class's first numbers of WEIGHTS, lamp 0 the last -/
def zcw (V : zH) (so : Int) (P : zP) (j : Int) : Int := zlead (pm P) (V (V so 4 + 1) (V so 6 + (pn P - 1 - j)))
theorem zTabW.how {V : zH} {so : Int} {P : zP} (H : zTabW V so P) : zHow (pm P) (V so 6) (pn P) (fun i r => zstp P (V (so + 1) r) i) (V (V so 4 + 1)) (zRo (V (V so 4 + 2))) := by
  have := H.2
  rw [show V so 4 + 1 + 1 = V so 4 + 2 by omega] at this
  exact this
theorem zTabW.wt {V : zH} {so : Int} {P : zP} (T : zTab V so P) {v : Int → Int} (hv : zLin (pm P) (V so 6) (pn P) (fun i r => zstp P (V (so + 1) r) i) v) (hz : ∀ i, 0 ≤ i → i < V so 6 → pm P ∣ v i) : zWt P (fun j => v (V so 6 + (pn P - 1 - j))) := by
  intro k a b c
  obtain ⟨r, r1, r2⟩ := T.fr.2.2.2 k a b c
  have h1 := zdvd_sub (hz r r1.1 r1.2) (hv r r1.1 r1.2)
  have h2 : pm P ∣ v r - (v r - zsum (fun i => v (V so 6 + i) * zstp P (V (so + 1) r) i) (pn P)) := h1
  rw [show ∀ u w : Int, u - (u - w) = w from fun u w => by omega, r2] at h2
  rw [zsum_congr (g := fun i => v (V so 6 + i) * zstp P k i) (fun i ia ib => by show v (V so 6 + (pn P - 1 - (pn P - 1 - i))) * zstp P k i = _; rw [show pn P - 1 - (pn P - 1 - i) = i by omega])]
  exact h2
theorem zTabW.tw {V : zH} {so : Int} {P : zP} (T : zTab V so P) {y : Int → Int} (hy : zWt P y) : zLin (pm P) (V so 6) (pn P) (fun i r => zstp P (V (so + 1) r) i) (fun j => if j < V so 6 then 0 else y (pn P - 1 - (j - V so 6))) := by
  intro r a b
  have hf := T.fr.2.1 r a b
  show pm P ∣ (if r < V so 6 then 0 else y (pn P - 1 - (r - V so 6))) - zsum (fun i => (if V so 6 + i < V so 6 then 0 else y (pn P - 1 - (V so 6 + i - V so 6))) * zstp P (V (so + 1) r) i) (pn P)
  rw [if_pos b, zsum_congr (g := fun i => y (pn P - 1 - i) * zstp P (V (so + 1) r) i) (fun i ia ib => by rw [if_neg (by omega), show V so 6 + i - V so 6 = i by omega])]
  have := (Int.dvd_neg).mpr (hy (V (so + 1) r) hf.1.1 hf.1.2 hf.2)
  rw [← Int.zero_sub] at this
  exact this
theorem zcw_ok {V : zH} {so : Int} {P : zP} (T : zTab V so P) (H : zTabW V so P) (ok : zPok P) : zDs (pm P) (pn P) (zWt P) (zcw V so P) := by
  have o1 := ok.1
  have o2 := ok.2.1
  have f0 := T.fr.1
  intro j a b
  have hw := H.how
  obtain ⟨q1, q2⟩ := hw.1 (V so 6 + (pn P - 1 - j)) (by omega) (by omega)
  unfold zcw
  have dm : zlead (pm P) (V (V so 4 + 1) (V so 6 + (pn P - 1 - j))) ∣ pm P := by
    unfold zlead
    split
    · exact Int.dvd_refl _
    · next h => exact (q2 h).1
  have dp : 0 < zlead (pm P) (V (V so 4 + 1) (V so 6 + (pn P - 1 - j))) := by unfold zlead; split <;> omega
  refine ⟨⟨dp, dm⟩, ?_, fun y hy hz => ?_⟩
  · by_cases w : V (V so 4 + 1) (V so 6 + (pn P - 1 - j)) = 0
    · refine ⟨fun i => if i = j then pm P else 0, fun k _ _ _ => zsum_dvd (fun i _ _ => ?_), ?_, fun i x y => if_neg (by omega)⟩
      · show pm P ∣ (if pn P - 1 - i = j then pm P else 0) * zstp P k i
        split
        · exact Int.dvd_mul_right _ _
        · rw [Int.zero_mul]; exact Int.dvd_zero _
      · show (if j = j then pm P else 0) = _
        rw [if_pos rfl]; unfold zlead; rw [if_pos w]
    · obtain ⟨p1, p2, p3, p4, p5⟩ := q2 w
      refine ⟨fun i => zRo (V (V so 4 + 2)) (V so 6 + (pn P - 1 - j)) (V so 6 + (pn P - 1 - i)), zTabW.wt T p2 (fun i x y => by rw [p4 i x (by omega)]; exact Int.dvd_zero _), ?_, fun i x y => p4 _ (by omega) (by omega)⟩
      show zRo (V (V so 4 + 2)) (V so 6 + (pn P - 1 - j)) (V so 6 + (pn P - 1 - j)) = _
      rw [p3]; unfold zlead; rw [if_neg w]
  · have := hw.2.1 _ (zTabW.tw T hy) (V so 6 + (pn P - 1 - j)) (by omega) (by omega) (fun i x w => ?_)
    · have t' : zlead (pm P) (V (V so 4 + 1) (V so 6 + (pn P - 1 - j))) ∣ (if V so 6 + (pn P - 1 - j) < V so 6 then 0 else y (pn P - 1 - (V so 6 + (pn P - 1 - j) - V so 6))) := this
      rw [if_neg (by omega), show pn P - 1 - (V so 6 + (pn P - 1 - j) - V so 6) = j by omega] at t'; exact t'
    · show pm P ∣ (if i < V so 6 then 0 else y (pn P - 1 - (i - V so 6)))
      by_cases u : i < V so 6
      · rw [if_pos u]; exact Int.dvd_zero _
      · rw [if_neg u]; exact hz _ (by omega) (by omega)
