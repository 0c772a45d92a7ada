/-! THE CLASS: can(), next() -/
def zSetT (s : zSig) (T : zT) : zSig := (gP s, gB s, (gn s, gH s), gK s, T, (gl s, gL s))
/-- y tells why not: the first WEIGHTS of the base that speak against it -/
def zWhy (P : zP) (d y : Int → Int) : Prop :=
  ∃ j R, (0 ≤ j ∧ j < pn P) ∧ zElm (pn P) (zWt P) d j R ∧ ¬ pm P ∣ zdw (pn P) R (psh P) ∧ (∀ j' R', j < j' → j' < pn P → zElm (pn P) (zWt P) d j' R' → pm P ∣ zdw (pn P) R' (psh P)) ∧ ∀ i, 0 ≤ i → i < pn P → y i = R (pn P - 1 - i)
theorem zElm.congr {n : Int} {K : (Int → Int) → Prop} {d d' : Int → Int} {k : Int} {R : Int → Int} (h : zElm n K d k R) (hk : 0 ≤ k ∧ k < n) (e : ∀ i, 0 ≤ i → i < n → d i = d' i) : zElm n K d' k R :=
  ⟨h.1, h.2.1.trans (e k hk.1 hk.2), h.2.2.1, fun i a b => by rw [← e i a (by omega)]; exact h.2.2.2 i a b⟩
theorem zWhy.uniq {P : zP} {d d' y y' : Int → Int} (hd : zDs (pm P) (pn P) (zWt P) d) (hd' : zDs (pm P) (pn P) (zWt P) d') (h : zWhy P d y) (g : zWhy P d' y') : ∀ i, 0 ≤ i → i < pn P → y i = y' i := by
  obtain ⟨j, R, hj, h1, h2, h3, h4⟩ := h
  obtain ⟨l, T, hl, g1, g2, g3, g4⟩ := g
  have ed := hd.uniq hd'
  have jl : j = l := by
    rcases Int.lt_trichotomy j l with z | z | z
    · exact absurd (h3 l T z hl.2 (g1.congr hl (fun i a b => (ed i a b).symm))) g2
    · exact z
    · exact absurd (g3 j R z hj.2 (h1.congr hj ed)) h2
  subst jl
  intro i a b
  rw [h4 i a b, g4 i a b]
  exact zElm.uniq (zWt_lat P) hd hd' hj h1 g1 _ (by omega) (by omega)
/-- if the whole base weighs nothing, all WEIGHTS do -/
theorem zkill {P : zP} {d : Int → Int} (hd : zDs (pm P) (pn P) (zWt P) d) (hR : ∀ j, 0 ≤ j → j < pn P → ∃ R, zElm (pn P) (zWt P) d j R ∧ pm P ∣ zdw (pn P) R (psh P)) : ∀ y, zWt P y → pm P ∣ zdw (pn P) y (psh P) := by
  have L := zWt_lat P
  have key : ∀ k, 0 ≤ k → k ≤ pn P → ∀ y, zWt P y → (∀ i, k ≤ i → i < pn P → pm P ∣ y i) → pm P ∣ zdw (pn P) y (psh P) := by
    refine zind (P := fun k => k ≤ pn P → ∀ y, zWt P y → (∀ i, k ≤ i → i < pn P → pm P ∣ y i) → pm P ∣ zdw (pn P) y (psh P)) (fun _ y hy hz => ?_) (fun k hk ih hn y hy hz => ?_)
    · have := zdw_cg (m := pm P) (n := pn P) (y := fun _ => 0) (z := y) (fun i a b => by rw [Int.sub_zero]; exact hz i a b) (psh P)
      have z0 : zdw (pn P) (fun _ => 0) (psh P) = 0 := zsum_zero (fun i _ _ => Int.zero_mul _)
      rw [z0, Int.sub_zero] at this; exact this
    · obtain ⟨R, ⟨r1, r2, r3, r4⟩, r5⟩ := hR k hk (by omega)
      obtain ⟨c, hc⟩ := (hd k hk (by omega)).2.2 y hy (fun i a b => hz i (by omega) b)
      have := ih (by omega) (fun j => y j + (-c) * R j) (L.comb (-c) hy r1) (fun i a b => by
        show pm P ∣ y i + -c * R i
        by_cases hi : i = k
        · rw [hi, hc, r2, Int.mul_comm (d k) c, Int.neg_mul, Int.add_right_neg]; exact Int.dvd_zero _
        · rw [r3 i (by omega) b, Int.mul_zero, Int.add_zero]; exact hz i (by omega) b)
      rw [zdw_add, zdw_mul] at this
      have q := zdvd_add this (zdvd_mul c r5)
      rw [show ∀ u v : Int, u + -c * v + c * v = u from fun u v => by rw [Int.neg_mul]; omega] at q
      exact q
  intro y hy
  by_cases hn : 0 ≤ pn P
  · exact key (pn P) hn (by omega) y hy (fun i a b => by omega)
  · unfold zdw
    rw [zsum_neg _ (by omega)]; exact Int.dvd_zero _
section CLCAN
variable {E : zE} {S : zS} {V : zH} {x w so : Int} {s : zSig}
theorem zSo.vec {p lo kb : Int} {P : zP} {V' : zH} (H : zSo S V p lo so kb P) (hp : p ≠ so + 3) (e : ∀ q, q ≠ so + 3 → V' q = V q) : zSo S V' p lo so kb P := by
  obtain ⟨h1, h2, h3, h4, h5, h6⟩ := H
  refine ⟨h1, h2.congr (e _ (by omega)) (e _ (by omega)) (e _ (by omega)), by rw [e so (by omega), e p hp]; exact h3, fun z => ?_, ?_, ?_⟩
  · rw [e so (by omega), e p hp] at z
    obtain ⟨t1, t2, t3⟩ := h4 z
    unfold zTab
    rw [e so (by omega), e (so + 1) (by omega), e (so + 2) (by omega)]
    exact ⟨t1, t2, t3.congr (e _ (by omega)) (e _ (by omega)) (e _ (by omega))⟩
  · rw [e so (by omega), e p hp]
    rcases h5 with y | ⟨y1, y2, y3⟩
    · exact Or.inl y
    · have d1 : so + 8 < V so 4 ∨ V so 4 + 3 < so := y1.2.1
      refine Or.inr ⟨y1, y2.congr (e _ (by omega)) (e _ (by omega)), fun z1 z2 => ?_⟩
      unfold zTabW
      rw [e so (by omega), e (so + 1) (by omega)]
      exact zFB.congr (y3 z1 z2) (e _ (by omega)) (e _ (by omega)) (e _ (by omega))
  · rw [e so (by omega)]
    rcases h6 with y | ⟨y1, y2⟩
    · exact Or.inl y
    · have d1 : so + 8 < V so 5 ∨ V so 5 + 6 < so := y1.2.1
      exact Or.inr ⟨y1, y2.congr (e _ (by omega))⟩
theorem zTab.vec {P : zP} {V' : zH} (H : zTab V so P) (e : ∀ q, q ≠ so + 3 → V' q = V q) : zTab V' so P := by
  obtain ⟨t1, t2, t3⟩ := H
  unfold zTab
  rw [e so (by omega), e (so + 1) (by omega), e (so + 2) (by omega)]
  exact ⟨t1, t2, t3.congr (e _ (by omega)) (e _ (by omega)) (e _ (by omega))⟩
theorem zRdy.lo (R : zRdy S V x so s) : x + 32 ≤ so := R.2.1.1.1
/-- the Solver's vector alone has changed -/
theorem zCl.vec (H : zCl S V x s w) (R : zRdy S V x so s) {V' : zH} (e : ∀ q, q ≠ so + 3 → V' q = V q) : zCl S V' x s w ∧ zRdy S V' x so s := by
  have hlo := R.lo
  obtain ⟨⟨r1, r2⟩, r3, r4, r5⟩ := R
  have ex : V' x = V x := e x (by omega)
  have So' := r3.vec (V' := V') (by omega) e
  refine ⟨H.solver (fun q a b => e q (by omega)) (fun j _ => by rw [ex]) (fun z6 q a b => e q ?_) (Or.inr (by rw [ex, r1]; exact So')), ⟨⟨by rw [ex]; exact r1, r2⟩, by rw [ex]; exact So', r4.vec e, by rw [e so (by omega), e (x + 1) (by omega)]; exact r5⟩⟩
  rcases r3.1.2 with y | y
  · omega
  · unfold zDj at y; omega
/-- the ROW alone has changed -/
theorem zCl.told (H : zCl S V x s w) {V' : zH} {T : zT} (o : zOff V V' (x + 15) (x + 16)) (hT : zTo S V' (x + 15) T) (hP : zTP T (gP s)) : zCl S V' x (zSetT s T) w := by
  obtain ⟨q1, q2, q3, q4⟩ := H.wi
  have ex : V' x = V x := o x (by omega)
  refine ⟨⟨H.xa.1, by rw [ex]; exact H.v0, by rw [ex]; exact H.v1, by rw [ex]; exact H.v2, by rw [ex]; exact H.v3⟩, H.pl.congr (fun q _ _ => o q (by omega)), H.bd.congr (fun q _ _ => o q (by omega)), H.hi.congr (fun q _ _ => o q (by omega)), hT, H.li.congr ex (o _ (by omega)), hP, ⟨q1, by rw [o (x + 1) (by omega)]; exact q2, by rw [o (x + 1) (by omega)]; exact q3, fun z => ?_⟩, by rw [ex]; exact H.ke.congr (fun q hq => o q (by omega)), ?_⟩
  · rw [ex] at z ⊢
    rcases H.ke.pos with y | y
    · omega
    · rw [o _ (by omega)]; exact q4 z
  · rw [ex]
    rcases H.sv with y | y
    · exact Or.inl y
    · exact Or.inr (y.congr (fun q hq _ => o q (by omega)) (Or.inl ⟨by rw [o (x + 1) (by omega)], zSteq.refl _⟩))
theorem zRdy.told (R : zRdy S V x so s) {V' : zH} {T : zT} (o : zOff V V' (x + 15) (x + 16)) : zRdy S V' x so (zSetT s T) := by
  have hlo := R.lo
  obtain ⟨⟨r1, r2⟩, r3, r4, r5⟩ := R
  have ex : V' x = V x := o x (by omega)
  refine ⟨⟨by rw [ex]; exact r1, r2⟩, ?_, r4.congr (zSteq.refl _) (fun q _ _ => o q (by omega)), by rw [o so (by omega), o (x + 1) (by omega)]; exact r5⟩
  rw [ex]
  exact r3.congr (fun q hq _ => o q (by omega)) (Or.inl ⟨by rw [o (x + 1) (by omega)], zSteq.refl _⟩)
/-- the ROW told as a pushing, from the Solver's vector -/
theorem cl_tellPushing (H : zCl S V x s w) (R : zRdy S V x so s) (hr : ∀ r, 0 ≤ r → r < V so 6 → 0 ≤ V (so + 3) (pn (gP s) + r) ∧ V (so + 3) (pn (gP s) + r) ≤ 11) {F : zH → Prop}
    (h : ∀ V', zCl S V' x (zSetT s (1, pb (gP s), 0, zlift (V so 6) (V (so + 1)) (fun r => V (so + 3) (pn (gP s) + r)))) w → zRdy S V' x so (zSetT s (1, pb (gP s), 0, zlift (V so 6) (V (so + 1)) (fun r => V (so + 3) (pn (gP s) + r)))) → zOff V V' (x + 15) (x + 16) → F V') : SpV E 3 zm_X5_tellPushing [zrv so, zrv (x + 15)] S V F := by
  have hlo := R.lo
  obtain ⟨⟨r1, r2⟩, r3, r4, r5⟩ := id R
  obtain ⟨⟨s0, s1, s2, s3⟩, ⟨f0, f3, f7, f8, f9⟩, FA⟩ := id r3.2.1
  refine en_X5_tellPushing ?_
  rw [f9]
  refine ⟨by rw [s0], sp_tellTail H.pl r3 r4 H.to ⟨by omega, by omega⟩ s3 ⟨by omega, by omega⟩ hr (fun V' t o => ?_)⟩
  rw [show x + 15 + 1 = x + 16 by omega] at o
  exact h V' (H.told o t (zTP.of0 rfl)) (R.told o) o
theorem sp_tellByLamps {p lo kb t a c NA : Int} {P : zP} {T : zT} {F : zH → Prop} (HP : zPl S V p P) (HS : zSo S V p lo so kb P) (hT : zTo S V t T) (hd : (t + 1 < p ∨ p + 7 < t) ∧ (t + 1 < so ∨ so + 8 < t)) (ha : S a = (1, NA)) (hat : a ≠ t ∧ a ≠ t + 1) (hc : 0 ≤ c ∧ c + pn P ≤ NA) (hr : ∀ i, 0 ≤ i → i < pn P → 0 ≤ V a (c + i) ∧ V a (c + i) ≤ 11)
    (hF : ∀ V', zTo S V' t (2, pn P, 0, fun i => V a (c + i)) → zOff V V' t (t + 1) → F V') : SpV E 2 zm_X5_tellByLamps [zrv so, zrv a, ziv c, zrv t] S V F := by
  obtain ⟨⟨q1, q1'⟩, q2, -⟩ := id HS
  obtain ⟨⟨s0, s1, s2, s3⟩, ⟨f0, f3, f7, f8, f9⟩, FA⟩ := id q2
  have o1 := HP.ok.1
  refine en_X5_tellByLamps (fun _ => ?_)
  rw [f0, HP.n]
  refine ⟨by rw [s0], HP.kp, by rw [hT.1.1], sp_told (T0 := 0) hT (by omega) (by omega) (fun V1 t1 z1 o1' => ?_)⟩
  have e1 : ∀ q, q ≠ t → q ≠ t + 1 → V1 q = V q := fun q a b => o1' q (by omega)
  rw [e1 so (by omega) (by omega), f0, e1 p (by omega) (by omega), HP.n, ha, t1.1.2.2, hT.1.2.1]
  refine ⟨HP.kp, rfl, rfl, ⟨hc.1, by omega, by omega, hc.2, by show 0 + pn P ≤ 36; omega⟩, fun V10 e10 => ?_⟩
  have e10' : ∀ j, V10 (t + 1) j = if 0 ≤ j ∧ j < 0 + pn P then V a (c + (j - 0)) else V1 (t + 1) j := fun j => by
    rw [e10, zcpy_arr V1 (fun j => rfl), zarr_self, e1 a hat.1 hat.2]
  have r10 : ∀ q, q ≠ t + 1 → V10 q = V1 q := fun q hq => by rw [e10, zcpy_row _ _ _ _ _ hq]
  refine hF V10 ⟨⟨hT.1.1, hT.1.2.1, by rw [r10 t (by omega)]; exact t1.1.2.2⟩, ⟨by rw [r10 t (by omega)]; exact t1.2.1.1, by rw [r10 t (by omega)]; exact t1.2.1.2.1, by rw [r10 t (by omega)]; exact t1.2.1.2.2.1, fun i x y => ?_⟩, ⟨by show (0 : Int) ≤ 2; omega, by show (2 : Int) ≤ 2; omega⟩, ⟨by show 0 ≤ pn P; omega, o1.2⟩, Or.inl rfl, fun i x y => hr i x y⟩ (fun q hq => by rw [r10 q (by omega), o1' q hq])
  have y' : i < pn P := y
  rw [e10', if_pos (by omega), show c + (i - 0) = c + i by omega]
end CLCAN
