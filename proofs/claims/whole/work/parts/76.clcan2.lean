/-! THE CLASS: can(), next() -/
section CLCAN2
variable {E : zE} {S : zS} {V : zH} {x w so : Int} {s : zSig}
/-- the class's base of WEIGHTS -/
theorem zcw_el {P : zP} (T : zTab V so P) (H : zTabW V so P) (ok : zPok P) {j : Int} (hj : 0 ≤ j ∧ j < pn P) : (V (V so 4 + 1) (V so 6 + (pn P - 1 - j)) ≠ 0 → zElm (pn P) (zWt P) (zcw V so P) j (fun i => zRo (V (V so 4 + 2)) (V so 6 + (pn P - 1 - j)) (V so 6 + (pn P - 1 - i)))) ∧ (V (V so 4 + 1) (V so 6 + (pn P - 1 - j)) = 0 → zElm (pn P) (zWt P) (zcw V so P) j (fun i => if i = j then pm P else 0)) := by
  have o1 := ok.1
  have o2 := ok.2.1
  have f0 := T.fr.1
  have hw := H.how
  obtain ⟨q1, q2⟩ := hw.1 (V so 6 + (pn P - 1 - j)) (by omega) (by omega)
  refine ⟨fun w => ?_, fun w => ?_⟩
  · obtain ⟨p1, p2, p3, p4, p5⟩ := q2 w
    refine ⟨zTabW.wt T p2 (fun i x y => by rw [p4 i x (by omega)]; exact Int.dvd_zero _), ?_, fun i x y => p4 _ (by omega) (by omega), fun i x y => ?_⟩
    · show zRo (V (V so 4 + 2)) (V so 6 + (pn P - 1 - j)) (V so 6 + (pn P - 1 - j)) = zcw V so P j
      rw [p3]; unfold zcw zlead; rw [if_neg w]
    · have r5 := p5 (V so 6 + (pn P - 1 - i)) (by omega) (by omega)
      refine ⟨r5.1, ?_⟩
      unfold zcw zlead
      split
      · exact r5.2
      · next hne => exact hw.2.2 _ (by omega) (by omega) w _ (by omega) (by omega) hne
  · refine ⟨fun k _ _ _ => zsum_dvd (fun i _ _ => ?_), ?_, fun i x y => if_neg (by omega), fun i x y => ?_⟩
    · show pm P ∣ (if pn P - 1 - i = j then pm P else 0) * zstp P k i
      split
      · exact Int.dvd_mul_right _ _
      · rw [Int.zero_mul]; exact Int.dvd_zero _
    · show (if j = j then pm P else 0) = zcw V so P j
      rw [if_pos rfl]; unfold zcw zlead; rw [if_pos w]
    · have := ((zcw_ok T H ok) i x (by omega)).1.1
      show 0 ≤ (if i = j then pm P else 0) ∧ (if i = j then pm P else 0) < zcw V so P i
      rw [if_neg (by omega)]; omega
theorem zdw_m (P : zP) (j : Int) (a : Int → Int) : pm P ∣ zdw (pn P) (fun i => if i = j then pm P else 0) a := zsum_dvd (fun i _ _ => by
  show pm P ∣ (if pn P - 1 - i = j then pm P else 0) * a i
  split
  · exact Int.dvd_mul_right _ _
  · rw [Int.zero_mul]; exact Int.dvd_zero _)
/-- weighing a row of the table -/
theorem zdw_row {P : zP} (R : Int → Int) (c : Int) : zsum (fun i => R (c + i) * psh P i) (pn P) = zdw (pn P) (fun i => R (c + (pn P - 1 - i))) (psh P) := by
  unfold zdw
  exact zsum_congr (fun i a b => by show _ = R (c + (pn P - 1 - (pn P - 1 - i))) * psh P i; rw [show pn P - 1 - (pn P - 1 - i) = i by omega])
theorem cl_tellWhy (H : zCl S V x s w) (R : zRdy S V x so s) (hS : (S (x + 31)).1 ≠ 0) {mc ms : Nat} (hm : V so 4 = 0 → 4 ≤ mc ∧ 5276 ≤ ms) (hno : ¬ ∃ z, zSol (gP s) z) {F : zS → zH → Prop}
    (h : ∀ S' V' d y, zExt S S' → zDs (pm (gP s)) (pn (gP s)) (zWt (gP s)) d → zWhy (gP s) d y → zCl S' V' x (zSetT s (2, pn (gP s), 0, y)) w → zFrm V V' x → F S' V') : SaV E 5 mc ms zm_X5_tellWhy [zrv so, zrv (x + 15)] S V F := by
  have ks : (S so).1 = 8 := by rw [R.2.1.2.1.1.1]
  refine en_X5_tellWhy (fun X => ⟨ks, mc, ms, by omega, cl_freshWeights H R hS hm (fun S1 V1 wf e1 C1 R1 w1 fa tw fr => ?_)⟩)
  have hlo := R1.lo
  have HP := C1.pl
  obtain ⟨⟨r1, r2⟩, r3, T1, r5⟩ := id R1
  obtain ⟨w4, w0⟩ := w1
  generalize hP : gP s = P at *
  have o1 := HP.ok.1
  have o2 := HP.ok.2.1
  have o4 := HP.ok.2.2.2.1
  have f0 := T1.fr.1
  have how := tw.how
  obtain ⟨⟨b0, b1, b2⟩, -⟩ := id tw
  rw [w4] at how b0 b1 b2
  obtain ⟨⟨s0, s1, s2, s3, s4⟩, ⟨v4, v5, v6, v7⟩, z0⟩ := id fa
  have dW := zcw_ok T1 tw HP.ok
  have wlo : x + 32 ≤ wf := by
    rcases r3.2.2.2.2.1 with y | y
    · omega
    · rw [w4] at y; exact y.1.1
  have kf : (S1 wf).1 = 4 := by rw [s0]
  refine ⟨kf, fun x9 e9 => ?_⟩
  rw [b1] at e9
  rw [e9]
  -- column f + i, lamp i
  have key := zdown (Q := fun i => (∀ i', 0 ≤ i' → i' < i → V1 (wf + 1) (V1 so 6 + i') ≠ 0 → pm P ∣ zsum (fun l => V1 (wf + 2) ((V1 so 6 + i') * 72 + (V1 so 6 + l)) * psh P l) (pn P)) → zl_X5_tellWhy_10 E X F mc ms (0 + mc) (0 + ms) S1 so (x + 15) wf (V1 so 6 + i) V1) (N := pn P) (fun hj => ?_) (fun i i0 i1 ih hj => ?_) 0 (by omega) (by omega)
  · have := key (fun i' _ _ => by omega)
    rw [Int.add_zero] at this; exact this
  · exfalso
    refine hno (zwhy_ex P (by omega) (by omega) (zkill dW (fun j ja jb => ?_)))
    obtain ⟨el1, el2⟩ := zcw_el T1 tw HP.ok (j := j) ⟨ja, jb⟩
    rw [w4] at el1 el2
    by_cases z : V1 (wf + 1) (V1 so 6 + (pn P - 1 - j)) = 0
    · exact ⟨_, el2 z, zdw_m P j _⟩
    · refine ⟨_, el1 z, ?_⟩
      have := hj (pn P - 1 - j) (by omega) (by omega) z
      have e := zdw_row (P := P) (fun q => V1 (wf + 2) ((V1 so 6 + (pn P - 1 - j)) * 72 + q)) (V1 so 6)
      rw [e] at this
      exact this
  · refine wp_X5_tellWhy_10 ?_
    rw [b2, v4, v5, s1]
    refine ⟨kf, fun q => by omega, fun _ => ⟨⟨by omega, by omega⟩, en_X1_tailOf (fun _ => ?_)⟩⟩
    rw [b1]
    refine ⟨⟨by omega, by omega⟩, kf, ⟨by omega, by omega⟩, rfl, ⟨by omega, by show V1 so 6 + i < 72; omega⟩, fun z => ⟨⟨by omega, by omega⟩, ?_⟩, fun z => ?_⟩
    · have := ih (fun i' a b zz => ?_)
      · rw [show V1 so 6 + (i + 1) = V1 so 6 + i + 1 by omega] at this; exact this
      · by_cases hi : i' = i
        · rw [hi] at zz; exact absurd z zz
        · exact hj i' a (by omega) zz
    · obtain ⟨p1, p2, p3, p4, p5⟩ := (how.1 (V1 so 6 + i) (by omega) (by omega)).2 z
      have f00 : V1 so 0 = x + 1 := r3.2.1.2.1.1
      have rg : ∀ l, 0 ≤ l → l < pn P → 0 ≤ V1 (wf + 2) ((V1 so 6 + i) * 72 + V1 so 6 + l) ∧ V1 (wf + 2) ((V1 so 6 + i) * 72 + V1 so 6 + l) ≤ 11 := fun l la lb => by
        have e : V1 (wf + 2) ((V1 so 6 + i) * 72 + V1 so 6 + l) = zRo (V1 (wf + 2)) (V1 so 6 + i) (V1 so 6 + l) := by
          unfold zRo; rw [show (V1 so 6 + i) * 72 + V1 so 6 + l = (V1 so 6 + i) * 72 + (V1 so 6 + l) by omega]
        rw [e]
        rcases Int.lt_trichotomy l i with y | y | y
        · rw [p4 _ (by omega) (by omega)]; omega
        · rw [y, p3]
          have := (how.1 (V1 so 6 + i) (by omega) (by omega)).1; omega
        · have := p5 (V1 so 6 + l) (by omega) (by omega); omega
      rw [f00]
      refine ⟨by rw [r3.2.1.1.1], HP.kp, sp_weighShown HP (N := 5184) (by rw [show wf + 1 + 1 = wf + 2 by omega] at s2 ⊢; exact s2) ⟨by omega, by omega, by omega⟩ (fun l la lb => by rw [show wf + 1 + 1 = wf + 2 by omega]; exact rg l la lb) ?_⟩
      rw [show wf + 1 + 1 = wf + 2 by omega]
      have es : zsum (fun l => V1 (wf + 2) ((V1 so 6 + i) * 72 + V1 so 6 + l) * psh P l) (pn P) = zsum (fun l => V1 (wf + 2) ((V1 so 6 + i) * 72 + (V1 so 6 + l)) * psh P l) (pn P) := zsum_congr (fun l _ _ => by rw [show (V1 so 6 + i) * 72 + V1 so 6 + l = (V1 so 6 + i) * 72 + (V1 so 6 + l) by omega])
      rw [es]
      refine ⟨fun y => ⟨⟨by omega, by omega⟩, ?_⟩, fun y => ?_⟩
      · have := ih (fun i' a b zz => ?_)
        · rw [show V1 so 6 + (i + 1) = V1 so 6 + i + 1 by omega] at this; exact this
        · by_cases hi : i' = i
          · rw [hi]; exact Int.dvd_of_emod_eq_zero y
          · exact hj i' a (by omega) zz
      · rw [← hP] at r3 HP
        refine sp_tellByLamps (NA := 5184) HP r3 C1.to ⟨by omega, by omega⟩ (by rw [show wf + 1 + 1 = wf + 2 by omega] at s2; exact s2) ⟨by omega, by omega⟩ ⟨by omega, by rw [hP]; omega⟩ (fun l la lb => rg l la (by rw [hP] at lb; exact lb)) (fun V' t o => ?_)
        rw [show x + 15 + 1 = x + 16 by omega] at o
        obtain ⟨el1, -⟩ := zcw_el T1 tw (by rw [← hP]; exact HP.ok) (j := pn P - 1 - i) ⟨by omega, by omega⟩
        rw [w4, show pn P - 1 - (pn P - 1 - i) = i by omega] at el1
        rw [hP] at t
        refine h S1 V' (zcw V1 so P) _ e1 dW ⟨pn P - 1 - i, _, ⟨by omega, by omega⟩, el1 z, ?_, fun j' R' ja jb hR' => ?_, fun l la lb => ?_⟩ (C1.told o t (zTP.of0 rfl)) (fun q a b => by rw [o q (by omega)]; exact fr q a b)
        · intro dv
          have e := zdw_row (P := P) (fun q => V1 (wf + 2) ((V1 so 6 + i) * 72 + q)) (V1 so 6)
          have dv' : pm P ∣ zdw (pn P) (fun l => V1 (wf + 2) ((V1 so 6 + i) * 72 + (V1 so 6 + (pn P - 1 - l)))) (psh P) := dv
          rw [← e] at dv'
          exact y (Int.emod_eq_zero_of_dvd dv')
        · obtain ⟨m1, m2⟩ := zcw_el T1 tw (by rw [← hP]; exact HP.ok) (j := j') ⟨by omega, jb⟩
          rw [w4] at m1 m2
          by_cases z2 : V1 (wf + 1) (V1 so 6 + (pn P - 1 - j')) = 0
          · have u := zElm.uniq (zWt_lat P) dW dW ⟨by omega, jb⟩ hR' (m2 z2)
            have q := zdw_cg (m := pm P) (n := pn P) (y := fun i => if i = j' then pm P else 0) (z := R') (fun l la lb => by rw [u l la lb, Int.sub_self]; exact Int.dvd_zero _) (psh P)
            have := zdvd_add q (zdw_m P j' (psh P))
            rw [Int.sub_add_cancel] at this; exact this
          · have u := zElm.uniq (zWt_lat P) dW dW ⟨by omega, jb⟩ hR' (m1 z2)
            have q := zdw_cg (m := pm P) (n := pn P) (y := fun i => zRo (V1 (wf + 2)) (V1 so 6 + (pn P - 1 - j')) (V1 so 6 + (pn P - 1 - i))) (z := R') (fun l la lb => by rw [u l la lb, Int.sub_self]; exact Int.dvd_zero _) (psh P)
            have w := hj (pn P - 1 - j') (by omega) (by omega) z2
            have e := zdw_row (P := P) (fun q => V1 (wf + 2) ((V1 so 6 + (pn P - 1 - j')) * 72 + q)) (V1 so 6)
            rw [e] at w
            have := zdvd_add q w
            have t2 : pm P ∣ zdw (pn P) R' (psh P) - zdw (pn P) (fun i => zRo (V1 (wf + 2)) (V1 so 6 + (pn P - 1 - j')) (V1 so 6 + (pn P - 1 - i))) (psh P) + zdw (pn P) (fun i => zRo (V1 (wf + 2)) (V1 so 6 + (pn P - 1 - j')) (V1 so 6 + (pn P - 1 - i))) (psh P) := this
            rw [Int.sub_add_cancel] at t2; exact t2
        · show V1 (wf + 2) ((V1 so 6 + i) * 72 + V1 so 6 + l) = V1 (wf + 2) ((V1 so 6 + i) * 72 + (V1 so 6 + (pn P - 1 - (pn P - 1 - l))))
          rw [show (V1 so 6 + i) * 72 + (V1 so 6 + (pn P - 1 - (pn P - 1 - l))) = (V1 so 6 + i) * 72 + V1 so 6 + l by omega]
theorem cl_can (H : zCl S V x s w) (hS : (S (x + 31)).1 ≠ 0) {mc ms : Nat} (hm : (V x 7 = 0 → 13 ≤ mc ∧ 14558 ≤ ms) ∧ 4 ≤ mc ∧ 5276 ≤ ms) {F : Int → zS → zH → Prop}
    (h1 : ∀ S' V' d y, zExt S S' → zDs (pm (gP s)) (pb (gP s)) (zQu (gP s)) d → zCan (gP s) d y → zCl S' V' x (zSetT s (1, pb (gP s), 1, y)) w → zFrm V V' x → F 1 S' V')
    (h0 : ∀ S' V' d y, (¬ ∃ z, zSol (gP s) z) → zExt S S' → zDs (pm (gP s)) (pn (gP s)) (zWt (gP s)) d → zWhy (gP s) d y → zCl S' V' x (zSetT s (2, pn (gP s), 0, y)) w → zFrm V V' x → F 0 S' V') : SaI E 6 mc ms zm_X7_can [zrv x] S V F := by
  have o2 := H.pl.ok.2.1
  have hm1 := hm.1
  refine en_X7_can ⟨H.kx, (if V x 7 = 0 then 9 else 0), (if V x 7 = 0 then 9282 else 0), ⟨by split <;> omega, by split <;> omega⟩, cl_fresh H hS (fun z => by rw [if_pos z, if_pos z]; omega) (fun S1 V1 so e1 C1 R1 fr1 => ?_)⟩
  have hlo := R1.lo
  obtain ⟨⟨r1, r2⟩, r3, T1, r5⟩ := id R1
  refine ⟨by rw [r3.2.1.1.1], ⟨by split <;> omega, by split <;> omega⟩, sp_solve C1.pl r3 (by omega) T1 (fun g gr gc => ?_) (fun g gn => ?_)⟩
  · obtain ⟨C2, R2⟩ := C1.vec R1 (V' := zarr V1 (so + 3) g) (fun q hq => zarr_ne _ _ hq)
    have f0 := T1.fr.1
    refine ⟨fun q => absurd q (by decide), fun _ => ⟨C1.kx, ?_⟩⟩
    have e6 : zarr V1 (so + 3) g so 6 = V1 so 6 := by rw [zarr_ne _ _ (by omega)]
    have es1 : zarr V1 (so + 3) g (so + 1) = V1 (so + 1) := zarr_ne _ _ (by omega)
    rw [C2.v3]
    refine cl_tellPushing C2 R2 (fun r a b => ?_) (fun V3 C3 R3 o3 => ?_)
    · rw [e6] at b
      rw [zarr_self]
      have := gr (pn (gP s) + r) (by have := C1.pl.ok.1; omega) (by omega)
      omega
    · rw [C3.v3]
      refine ⟨C3.t, fun V4 e4 => ?_⟩
      rw [e6, es1, zarr_self] at C3
      have oT : zTo S1 V3 (x + 15) (1, pb (gP s), 0, zlift (V1 so 6) (V1 (so + 1)) (fun r => g (pn (gP s) + r))) := C3.to
      have o4 : zOff V3 V4 (x + 15) (x + 16) := fun q hq => by rw [e4, zput_row _ _ _ (by omega)]
      have C4 := C3.told (T := (1, pb (gP s), 1, zlift (V1 so 6) (V1 (so + 1)) (fun r => g (pn (gP s) + r)))) o4 (by
        obtain ⟨⟨u1, u2, u3⟩, ⟨u4, u5, u6, u7⟩, u8, u9, u10, u11⟩ := oT
        rw [e4]
        exact ⟨⟨u1, u2, by rw [zput_nk _ _ _ _ (by decide)]; exact u3⟩, ⟨by rw [zput_nk _ _ _ _ (by decide)]; exact u4, by rw [zput_nk _ _ _ _ (by decide)]; exact u5, zput_self _ _ _ _, fun i a b => by rw [zput_row _ _ _ (by omega)]; exact u7 i a b⟩, u8, u9, Or.inr rfl, u11⟩) (fun _ => ⟨rfl, rfl, fun k a b => ⟨?_, fun c => T1.fr.lift0 _ c⟩⟩)
      · exact h1 S1 V4 (zcd V1 so (gP s)) _ e1 (zcd_ok T1 C1.pl.ok) gc C4 (fun q a b => by rw [o4 q (by omega), o3 q (by omega), zarr_ne _ _ (by omega)]; exact fr1 q a b)
      · have := gc.2 k a b
        have l := zDs.le (by omega) (zcd_ok T1 C1.pl.ok) a b
        show zlift (V1 so 6) (V1 (so + 1)) (fun r => g (pn (gP s) + r)) k < pm (gP s)
        omega
  · obtain ⟨C2, R2⟩ := C1.vec R1 (V' := zarr V1 (so + 3) g) (fun q hq => zarr_ne _ _ hq)
    refine ⟨fun _ => ⟨C1.kx, 4, 5276, ⟨by split <;> omega, by split <;> omega⟩, ?_⟩, fun q => absurd rfl q⟩
    rw [C2.v3]
    refine cl_tellWhy C2 R2 (by rw [e1 _ hS]; exact hS) (fun _ => by omega) gn (fun S3 V3 d y e3 hd hy C3 fr3 => ⟨⟨by split <;> omega, by split <;> omega⟩, h0 S3 V3 d y gn (e1.trans e3) hd hy C3 (fun q a b => by rw [fr3 q a b, zarr_ne _ _ (by omega)]; exact fr1 q a b)⟩)
end CLCAN2
