/-! THE CLASS'S SOLVER: made when it is first asked -/
section SOLVER3
variable {E : zE} {S : zS} {V : zH} {x w : Int} {s : zSig}
theorem sp_formInit {fm wk T : Int} {mc ms : Nat} {F : zS → zH → Prop} (hS : S fm = (4, 8)) (hW : S wk = (1, 2592)) (h0 : 0 < fm) (hz : ∀ j, V fm j = 0) (ht : ∀ q, (S q).1 ≠ 0 → q ≤ T) (hT : (S T).1 ≠ 0) (hfT : fm ≤ T) (hm : 3 ≤ mc ∧ 5268 ≤ ms)
    (hF : ∀ S' V', zFA S' V' fm (T + 1) wk → (∀ q, q ≤ T → S' q = S q) → (∀ q, q ≠ fm → (q ≤ T ∨ T + 3 < q) → V' q = V q) → (∀ q, (S' q).1 ≠ 0 → q ≤ T + 3) → (S' (T + 3)).1 ≠ 0 → F S' V') : SaV E 1 mc ms zm_X1_init [zrv fm, zrv wk] S V F := by
  refine en_X1_init ⟨by rw [hS], h0, fun V3 e3 => ⟨by omega, fun r1 _ q1 S1 V1 s1 v1 W1 w1 => ?_⟩⟩
  obtain rfl := ztop_next ht hT q1
  obtain ⟨t1, n1⟩ := ztop_new ht s1 (by decide)
  refine ⟨by omega, fun r2 _ q2 S2 V2 s2 v2 W2 w2 => ?_⟩
  obtain rfl := ztop_next t1 n1 q2
  obtain ⟨t2, n2⟩ := ztop_new t1 s2 (by decide)
  refine ⟨by omega, fun r3 _ q3 S3 V3' s3 v3 W3 w3 W4 w4 => ⟨by omega, ?_⟩⟩
  obtain rfl := ztop_next t2 n2 q3
  obtain ⟨t3, n3⟩ := ztop_new t2 s3 (by decide)
  have eS : ∀ q, S3 q = if q = T + 3 then (1, 12) else if q = T + 2 then (1, 5184) else if q = T + 1 then (1, 72) else S q := fun q => by
    rw [s3, s2, s1]
    simp only [zSn, show T + 1 + 1 = T + 2 by omega, show T + 2 + 1 = T + 3 by omega]
  have own : ∀ j, W4 fm j = if j = 6 then wk else if j = 7 then T + 3 else if j = 5 then T + 2 else if j = 4 then T + 1 else if j = 0 then 2 else 0 := fun j => by
    rw [w4, w3]; simp only [zput, true_and]
    rw [v3, zVn_ne _ _ (by omega), w2]; simp only [zput, true_and]
    rw [v2, zVn_ne _ _ (by omega), w1]; simp only [zput, true_and]
    rw [v1, zVn_ne _ _ (by omega), e3]; simp only [zput, true_and]
    rw [hz j, show T + 1 + 1 = T + 2 by omega, show T + 2 + 1 = T + 3 by omega]
  have rows : ∀ j, W4 (T + 2) j = 0 := fun j => by
    rw [w4, zput_row _ _ _ (by omega), w3, zput_row _ _ _ (by omega), v3, zVn_row _ (by omega), w2, zput_row _ _ _ (by omega), v2, show T + 1 + 1 = T + 2 by omega, zVn_self]
  refine hF S3 W4 ⟨⟨?_, ?_, ?_, ?_, ?_⟩, ⟨by rw [own]; rfl, by rw [own]; exact (show T + 2 = T + 1 + 1 by omega), by rw [own]; rfl, by rw [own]; exact (show T + 3 = T + 1 + 2 by omega)⟩, fun c i _ _ _ => by rw [show T + 1 + 1 = T + 2 by omega]; exact rows _⟩ (fun q hq => ?_) (fun q q1 q2 => ?_) (fun q hq => by have := t3 q hq; omega) ?_
  · rw [eS]; simp (disch := omega) only [if_neg]; exact hS
  · rw [eS]; simp (disch := omega) only [if_neg, if_true]
  · rw [eS, show T + 1 + 1 = T + 2 by omega]; simp (disch := omega) only [if_neg, if_true]
  · rw [eS, show T + 1 + 2 = T + 3 by omega]; simp only [if_true]
  · have hwT : wk ≤ T := ht wk (by rw [hW]; decide)
    rw [eS]; simp (disch := omega) only [if_neg]; exact hW
  · rw [eS]; simp (disch := omega) only [if_neg]
  · rw [w4, zput_row _ _ _ q1, w3, zput_row _ _ _ q1, v3, zVn_row _ (by omega), w2, zput_row _ _ _ q1, v2, zVn_row _ (by omega), w1, zput_row _ _ _ q1, v1, zVn_row _ (by omega), e3, zput_row _ _ _ q1]
  · rw [eS]; simp only [if_true]; decide
theorem sp_solverInit {r p : Int} {mc ms : Nat} {F : zS → zH → Prop} (hS : S r = (8, 10)) (h0 : 0 < r) (hz : ∀ j, V r j = 0) (ht : ∀ q, (S q).1 ≠ 0 → q ≤ r) (hm : 8 ≤ mc ∧ 9272 ≤ ms)
    (hF : ∀ S' V', zSoA S' V' p r → V' r 1 = -1 → V' r 2 = -1 → V' r 4 = 0 → V' r 5 = 0 → (∀ q, q ≤ r → S' q = S q) → (∀ q, (q < r ∨ r + 8 < q) → V' q = V q) → F S' V') : SaV E 2 mc ms zm_X5_init [zrv r, zrv p] S V F := by
  refine en_X5_init ⟨by rw [hS], h0, fun V3 e3 V5 e5 => ⟨by omega, fun r1 _ q1 S1 V1 s1 v1 W1 w1 => ?_⟩⟩
  obtain rfl := ztop_next ht (by rw [hS]; decide) q1
  obtain ⟨t1, n1⟩ := ztop_new ht s1 (by decide)
  refine ⟨by omega, fun r2 _ q2 S2 V2 s2 v2 W2 w2 => ?_⟩
  obtain rfl := ztop_next t1 n1 q2
  obtain ⟨t2, n2⟩ := ztop_new t1 s2 (by decide)
  refine ⟨by omega, fun r3 _ q3 S3 V3' s3 v3 W3 w3 W4 w4 => ⟨by omega, fun r4 _ q4 S4 V4 s4 v4 => ⟨by omega, fun r5 _ q5 S5 V5' s5 v5 => ?_⟩⟩⟩
  obtain rfl := ztop_next t2 n2 q3
  obtain ⟨t3, n3⟩ := ztop_new t2 s3 (by decide)
  obtain rfl := ztop_next t3 n3 q4
  obtain ⟨t4, n4⟩ := ztop_new t3 s4 (by decide)
  obtain rfl := ztop_next t4 n4 q5
  obtain ⟨t5, n5⟩ := ztop_new t4 s5 (by decide)
  have eS : ∀ q, S5 q = if q = r + 5 then (1, 2592) else if q = r + 4 then (4, 8) else if q = r + 3 then (1, 72) else if q = r + 2 then (1, 1296) else if q = r + 1 then (1, 36) else S q := fun q => by
    rw [s5, s4, s3, s2, s1]
    simp only [zSn, show r + 1 + 1 = r + 2 by omega, show r + 2 + 1 = r + 3 by omega, show r + 3 + 1 = r + 4 by omega, show r + 4 + 1 = r + 5 by omega]
  have own : ∀ j, V5' r j = if j = 0 then p else if j = 9 then r + 3 else if j = 8 then r + 2 else if j = 7 then r + 1 else if j = 2 then -1 else if j = 1 then -1 else 0 := fun j => by
    rw [v5, zVn_ne _ _ (by omega), v4, zVn_ne _ _ (by omega), w4, w3]; simp only [zput, true_and]
    rw [v3, zVn_ne _ _ (by omega), w2]; simp only [zput, true_and]
    rw [v2, zVn_ne _ _ (by omega), w1]; simp only [zput, true_and]
    rw [v1, zVn_ne _ _ (by omega), e5, e3]; simp only [zput, true_and]
    rw [hz j, show r + 1 + 1 = r + 2 by omega, show r + 2 + 1 = r + 3 by omega]
  have oth : ∀ q, (q < r ∨ r + 5 < q) → V5' q = V q := fun q hq => by
    rw [v5, zVn_row _ (by omega), v4, zVn_row _ (by omega), w4, zput_row _ _ _ (by omega), w3, zput_row _ _ _ (by omega), v3, zVn_row _ (by omega), w2, zput_row _ _ _ (by omega), v2, zVn_row _ (by omega), w1, zput_row _ _ _ (by omega), v1, zVn_row _ (by omega), e5, zput_row _ _ _ (by omega), e3, zput_row _ _ _ (by omega)]
  have z4 : ∀ j, V5' (r + 4) j = 0 := fun j => by
    rw [v5, zVn_ne _ _ (by omega), v4, show r + 1 + 1 + 1 + 1 = r + 4 by omega, zVn_self]
  have a4 : r + 1 + 1 + 1 + 1 = r + 4 := by omega
  have a5 : r + 1 + 1 + 1 + 1 + 1 = r + 5 := by omega
  rw [a4, a5] at *
  refine ⟨3, 5268, by omega, sp_formInit (T := r + 5) (by rw [eS]; simp (disch := omega) only [if_neg, if_true]) (by rw [eS]; simp only [if_true]) (by omega) z4 (fun q hq => by have := t5 q hq; omega) (by rw [eS]; simp only [if_true]; decide) (by omega) (by omega) (fun S' V' fa sl vl tp nn => ?_)⟩
  have kr : S' r = (8, 10) := by rw [sl r (by omega), eS]; simp (disch := omega) only [if_neg]; exact hS
  refine ⟨by rw [kr], fun V9 e9 => ⟨by omega, ?_⟩⟩
  have o9 : ∀ j, V9 r j = if j = 3 then r + 4 else V5' r j := fun j => by rw [e9]; simp only [zput, true_and]; rw [vl r (by omega) (by omega)]
  have r9 : ∀ q, q ≠ r → V9 q = V' q := fun q hq => by rw [e9, zput_row _ _ _ hq]
  rw [show r + 5 + 1 = r + 6 by omega] at fa
  refine hF S' V9 ⟨⟨kr, ?_, ?_, ?_⟩, ⟨by rw [o9, own]; rfl, by rw [o9]; rfl, by rw [o9, own]; rfl, by rw [o9, own]; rfl, by rw [o9, own]; rfl⟩, fa.congr (r9 _ (by omega)) (r9 _ (by omega))⟩ (by rw [o9, own]; rfl) (by rw [o9, own]; rfl) (by rw [o9, own]; rfl) (by rw [o9, own]; rfl) (fun q hq => ?_) (fun q hq => ?_)
  · rw [sl _ (by omega), eS]; simp (disch := omega) only [if_neg, if_true]
  · rw [sl _ (by omega), eS]; simp (disch := omega) only [if_neg, if_true]
  · rw [sl _ (by omega), eS]; simp (disch := omega) only [if_neg, if_true]
  · rw [sl q (by omega), eS]; simp (disch := omega) only [if_neg]
  · rw [r9 q (by omega), vl q (by omega) (by omega), oth q (by omega)]
/-- only far cells and the solver's field have changed -/
theorem zCl.solver {V' : zH} (H : zCl S V x s w) (near : ∀ q, q < x + 32 → q ≠ x → V' q = V q) (hx : ∀ j, j ≠ 7 → V' x j = V x j) (hk : 0 < V x 6 → ∀ q, V x 6 ≤ q → q ≤ V x 6 + 7 → V' q = V q) (hs : V' x 7 = 0 ∨ zSo S V' (x + 1) (x + 32) (V' x 7) (V x 6) (gP s)) : zCl S V' x s w := by
  obtain ⟨q1, q2, q3, q4⟩ := H.wi
  refine ⟨⟨H.xa.1, by rw [hx 0 (by decide)]; exact H.v0, by rw [hx 1 (by decide)]; exact H.v1, by rw [hx 2 (by decide)]; exact H.v2, by rw [hx 3 (by decide)]; exact H.v3⟩, H.pl.congr (fun q _ _ => near q (by omega) (by omega)), H.bd.congr (fun q _ _ => near q (by omega) (by omega)), H.hi.congr (fun q _ _ => near q (by omega) (by omega)), H.to.congr (fun q _ _ => near q (by omega) (by omega)), ?_, H.tp, ⟨q1, by rw [near (x + 1) (by omega) (by omega)]; exact q2, by rw [near (x + 1) (by omega) (by omega)]; exact q3, fun z => ?_⟩, ?_, ?_⟩
  · obtain ⟨⟨l1, l2⟩, l3, l4, l5⟩ := H.li
    exact ⟨⟨l1, by rw [hx 4 (by decide)]; exact l2⟩, by rw [hx 5 (by decide)]; exact l3, l4, fun i a b => by rw [near (x + 17) (by omega) (by omega)]; exact l5 i a b⟩
  · rw [hx 6 (by decide)] at z ⊢
    rw [hk z (V x 6) (by omega) (by omega)]; exact q4 z
  · rw [hx 6 (by decide)]
    have hke := H.ke
    cases hK : gK s with
    | none => rw [hK] at hke; exact hke
    | some Q => rw [hK] at hke; exact ⟨hke.1, hke.2.congr (hk hke.1.1)⟩
  · rw [hx 6 (by decide)]; exact hs
/-- the tables are those of the plate -/
def zRdy (S : zS) (V : zH) (x so : Int) (s : zSig) : Prop := (V x 7 = so ∧ 0 < so) ∧ zSo S V (x + 1) (x + 32) so (V x 6) (gP s) ∧ zTab V so (gP s) ∧ V so 1 = V (x + 1) 4
theorem cl_fresh (H : zCl S V x s w) (hS : (S (x + 31)).1 ≠ 0) {mc ms : Nat} (hm : V x 7 = 0 → 9 ≤ mc ∧ 9282 ≤ ms) {F : Int → zS → zH → Prop}
    (h : ∀ S' V' so, zExt S S' → zCl S' V' x s w → zRdy S' V' x so s → zFrm V V' x → F so S' V') : SaR E 5 mc ms zm_X7_freshSolver [zrv x] S V F := by
  have hw := H.wi
  have hkp := H.ke.pos
  refine en_X7_freshSolver ⟨H.kx, fun z => ?_, fun z => ⟨by have := hm z; omega, fun r hr q S1 V1 s1 v1 => ?_⟩⟩
  · rcases H.sv with y | y
    · omega
    · refine ⟨by rw [y.2.1.1.1], sp_refresh H.pl y (by omega) hw.2.1 (fun V' so' tb st off => ⟨by omega, ?_⟩)⟩
      have y1 := y.1
      have ex : V' x = V x := off x (by omega)
      rw [ex]
      have C : zCl S V' x s w := H.solver (fun q q1 q2 => off q (by omega)) (fun j _ => by rw [ex]) (fun z6 q a b => off q (by rcases y1.2 with y2 | y2 <;> unfold zDj at * <;> omega)) (Or.inr (by rw [ex]; exact so'))
      exact h S V' (V x 7) (zExt.refl S) C ⟨⟨by rw [ex], z⟩, by rw [ex]; exact so', tb, st⟩ (fun q _ _ => off q (by omega))
  · have hm' := hm z
    have top := fun q' hq' => (q.2 q' hq').1
    have rx := top _ hS
    have E1 : zExt S S1 := zExt.new q.1 s1
    have rS : S1 r = (8, 10) := by rw [s1, zSn_self]
    have v1x : V1 x = V x := by rw [v1, zVn_row _ (by omega)]
    refine ⟨8, 9272, by omega, sp_solverInit (p := V1 x 0) rS hr (fun j => by rw [v1, zVn_self]) (fun q' hq' => ?_) (by omega) (fun S2 V2 sA i1 i2 i4 i5 sl vl => ?_)⟩
    · by_cases zq : q' = r
      · omega
      · rw [s1, zSn_ne _ _ zq] at hq'
        have := top q' hq'; omega
    · rw [v1x, H.v0] at sA
      have E2 : zExt S S2 := fun q' hq' => by rw [sl q' (by have := top q' hq'; omega)]; exact E1 q' hq'
      have e2 : ∀ q', q' < r ∨ r + 8 < q' → V2 q' = V q' := fun q' hq' => by rw [vl q' hq', v1, zVn_row _ (by omega)]
      refine ⟨(H.ext E2).kx, fun V3 e3 => ⟨by rw [sA.1.1], by omega, ?_⟩⟩
      have f3 : ∀ q', q' ≠ x → V3 q' = V2 q' := fun q' hq' => by rw [e3, zput_row _ _ _ hq']
      have ex : ∀ j, V3 x j = if j = 7 then r else V x j := fun j => by rw [e3]; simp only [zput, true_and]; rw [e2 x (by omega)]
      have r3 : V3 r = V2 r := f3 r (by omega)
      have kl : 0 < V x 6 → V x 6 + 7 < r := fun z6 => by
        have hke := H.ke
        cases hK : gK s with
        | none => rw [hK] at hke; exact absurd hke (by show ¬ V x 6 = 0; omega)
        | some Q =>
          rw [hK] at hke
          exact top (V x 6 + 7) (by rw [hke.2.s7]; decide)
      have So3 : zSo S2 V3 (x + 1) (x + 32) r (V x 6) (gP s) := by
        have p4 : V3 (x + 1) 4 = V (x + 1) 4 := by rw [f3 _ (by omega), e2 _ (by omega)]
        refine ⟨⟨by omega, ?_⟩, sA.congr r3 (f3 _ (by omega)) (f3 _ (by omega)), by rw [r3, i1, i2, p4]; omega, fun y => ?_, Or.inl ⟨by rw [r3]; exact i4, by rw [r3]; exact i2⟩, Or.inl (by rw [r3]; exact i5)⟩
        · rcases hkp with y | y
          · exact Or.inl y
          · exact Or.inr (Or.inr (kl y.1))
        · rw [r3, i1, p4] at y; omega
      have H3 : zPl S2 V3 (x + 1) (gP s) := (H.pl.ext E2).congr (fun q' _ _ => by rw [f3 q' (by omega), e2 q' (by omega)])
      refine sp_refresh H3 So3 (by omega) (by rw [f3 _ (by omega), e2 _ (by omega)]; exact hw.2.1) (fun V' so' tb st off => ?_)
      have ex' : V' x = V3 x := off x (by omega)
      have e7 : V' x 7 = r := by rw [ex', ex]; rfl
      rw [e7]
      have e6 : V' x 6 = V x 6 := by rw [ex', ex]; rfl
      have C : zCl S2 V' x s w := (H.ext E2).solver (fun q' q1 q2 => by rw [off q' (by omega), f3 q' q2, e2 q' (by omega)]) (fun j hj => by rw [ex', ex, if_neg hj]) (fun z6 q' a b => by have := kl z6; have := hkp; rw [off q' (by omega), f3 q' (by omega), e2 q' (by omega)]) (Or.inr (by rw [e7]; exact so'))
      exact h S2 V' r E2 C ⟨⟨e7, hr⟩, by rw [e6]; exact so', tb, st⟩ (fun q' _ _ => by rw [off q' (by omega), f3 q' (by omega), e2 q' (by omega)])
end SOLVER3
