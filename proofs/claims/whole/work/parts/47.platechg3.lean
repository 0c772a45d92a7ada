/-! THE CLASS'S PLATE: a copy, a button more, a button less, a board's wires -/
section PLATECHG3
variable {E : zE} {S : zS} {V : zH} {p f : Int} {P Q : zP}
theorem zcpy36 (V : zH) {src dst N : Int} : zcpy V src 0 dst 0 N = zarr V dst (fun j => if 0 ≤ j ∧ j < N then V src j else V dst j) :=
  zcpy_arr V (fun j => by
    by_cases h : 0 ≤ j ∧ j < N
    · rw [if_pos h, if_pos (by omega)]; congr 1; omega
    · rw [if_neg h, if_neg (by omega)])
theorem sp_copyFrom (HA : zPA S V p) (HQ : zPl S V f Q) (hd : p + 7 < f ∨ f + 7 < p) {F : zH → Prop} (hw : 0 ≤ V p 4 ∧ V p 4 ≤ 100000) (h : ∀ V', zPl S V' p Q → V' p 4 = V p 4 + 1 → zOff V V' p (p + 7) → F V') : SpV E 1 zm_X3_copyFrom [zrv p, zrv f] S V F := by
  obtain ⟨a0, a1, a2, a3, a4, a5, a6, a7, v5, v6, v7, v8, v9, v10, v11⟩ := id HA
  have o1 := HQ.ok.1
  have o4 := HQ.ok.2.2.2.1
  refine en_X3_copyFrom ?_
  have ka : (S p).1 = 6 := by rw [a0]
  simp only [HQ.kp, ka, v5, v6, v7, v8, v9, v10, v11, HQ.v5, HQ.v6, HQ.v7, HQ.v8, HQ.v9, HQ.v10, HQ.v11, a1, a2, a3, a4, a5, a6, a7, HQ.s1, HQ.s2, HQ.s3, HQ.s4, HQ.s5, HQ.s6, HQ.s7, HQ.n, HQ.m, HQ.w, HQ.b, true_and]
  intro V3 e3 V5 e5 V7 e7 V9 e9
  refine ⟨⟨by omega, by omega⟩, fun V12 e12 => ⟨by omega, fun V17 e17 => ⟨by omega, fun V22 e22 => ⟨by omega, fun V27 e27 => ⟨by omega, fun V32 e32 => ⟨by omega, fun V37 e37 => ⟨by omega, fun V42 e42 => ⟨by omega, fun V47 e47 => ?_⟩⟩⟩⟩⟩⟩⟩⟩
  have ev : V12 = zput (zput (zput (zput (zput V p 0 (pn Q)) p 1 (pm Q)) p 2 (pw Q)) p 3 (pb Q)) p 4 (V p 4 + 1) := by rw [e12, e9, e7, e5, e3]
  have hp : ∀ j, V12 p j = if j = 4 then V p 4 + 1 else if j = 3 then pb Q else if j = 2 then pw Q else if j = 1 then pm Q else if j = 0 then pn Q else V p j := by
    intro j
    rw [ev]
    simp only [zput, true_and]
  have hq : ∀ q, q ≠ p → V12 q = V q := by
    intro q hq
    rw [ev]
    simp only [zput_row _ _ _ hq]
  rw [zcpy36] at e17 e22 e27 e32 e37 e42 e47
  have w1 : ∀ q, q ≠ p + 1 → V17 q = V12 q := fun q z => by rw [e17, zarr_ne _ _ z]
  have w2 : ∀ q, q ≠ p + 2 → V22 q = V17 q := fun q z => by rw [e22, zarr_ne _ _ z]
  have w3 : ∀ q, q ≠ p + 3 → V27 q = V22 q := fun q z => by rw [e27, zarr_ne _ _ z]
  have w4 : ∀ q, q ≠ p + 4 → V32 q = V27 q := fun q z => by rw [e32, zarr_ne _ _ z]
  have w5 : ∀ q, q ≠ p + 5 → V37 q = V32 q := fun q z => by rw [e37, zarr_ne _ _ z]
  have w6 : ∀ q, q ≠ p + 6 → V42 q = V37 q := fun q z => by rw [e42, zarr_ne _ _ z]
  have w7 : ∀ q, q ≠ p + 7 → V47 q = V42 q := fun q z => by rw [e47, zarr_ne _ _ z]
  have r1 : ∀ j, 0 ≤ j → j < 36 → V47 (p + 1) j = V (f + 1) j := fun j x y => by
    rw [w7 _ (by omega), w6 _ (by omega), w5 _ (by omega), w4 _ (by omega), w3 _ (by omega), w2 _ (by omega), e17, zarr_self, if_pos ⟨x, y⟩, hq _ (by omega)]
  have r2 : ∀ j, 0 ≤ j → j < 36 → V47 (p + 2) j = V (f + 2) j := fun j x y => by
    rw [w7 _ (by omega), w6 _ (by omega), w5 _ (by omega), w4 _ (by omega), w3 _ (by omega), e22, zarr_self, if_pos ⟨x, y⟩, w1 _ (by omega), hq _ (by omega)]
  have r3 : ∀ j, 0 ≤ j → j < 36 → V47 (p + 3) j = V (f + 3) j := fun j x y => by
    rw [w7 _ (by omega), w6 _ (by omega), w5 _ (by omega), w4 _ (by omega), e27, zarr_self, if_pos ⟨x, y⟩, w2 _ (by omega), w1 _ (by omega), hq _ (by omega)]
  have r4 : ∀ j, 0 ≤ j → j < 36 → V47 (p + 4) j = V (f + 4) j := fun j x y => by
    rw [w7 _ (by omega), w6 _ (by omega), w5 _ (by omega), e32, zarr_self, if_pos ⟨x, y⟩, w3 _ (by omega), w2 _ (by omega), w1 _ (by omega), hq _ (by omega)]
  have r5 : ∀ j, 0 ≤ j → j < 36 → V47 (p + 5) j = V (f + 5) j := fun j x y => by
    rw [w7 _ (by omega), w6 _ (by omega), e37, zarr_self, if_pos ⟨x, y⟩, w4 _ (by omega), w3 _ (by omega), w2 _ (by omega), w1 _ (by omega), hq _ (by omega)]
  have r6 : ∀ j, 0 ≤ j → j < 36 → V47 (p + 6) j = V (f + 6) j := fun j x y => by
    rw [w7 _ (by omega), e42, zarr_self, if_pos ⟨x, y⟩, w5 _ (by omega), w4 _ (by omega), w3 _ (by omega), w2 _ (by omega), w1 _ (by omega), hq _ (by omega)]
  have r7 : ∀ j, 0 ≤ j → j < 1296 → V47 (p + 7) j = V (f + 7) j := fun j x y => by
    rw [e47, zarr_self, if_pos ⟨x, y⟩, w6 _ (by omega), w5 _ (by omega), w4 _ (by omega), w3 _ (by omega), w2 _ (by omega), w1 _ (by omega), hq _ (by omega)]
  have r0 : ∀ j, V47 p j = V12 p j := fun j => by
    rw [w7 _ (by omega), w6 _ (by omega), w5 _ (by omega), w4 _ (by omega), w3 _ (by omega), w2 _ (by omega), w1 _ (by omega)]
  refine h V47 ⟨HA.frame (fun j a b => ?_), ⟨?_, ?_, ?_, ?_, fun i a b => ?_, fun k a b => ?_⟩, HQ.ok⟩ ?_ (fun q hq2 => ?_)
  · rw [r0, hp]; simp (disch := omega) only [if_neg]
  · rw [r0, hp]; rfl
  · rw [r0, hp]; rfl
  · rw [r0, hp]; rfl
  · rw [r0, hp]; rfl
  · rw [r1 i a (by omega)]; exact HQ.sh ⟨a, b⟩
  · obtain ⟨d1, d2, d3, d4, d5⟩ := HQ.bt ⟨a, b⟩
    exact ⟨by rw [r2 k a (by omega)]; exact d1, fun z => ⟨by rw [r3 k a (by omega)]; exact (d2 z).1, by rw [r4 k a (by omega)]; exact (d2 z).2⟩, fun z => by rw [r5 k a (by omega)]; exact d3 z, by rw [r6 k a (by omega)]; exact d4, fun i ia ib => by rw [r7 _ (by omega) (by omega)]; exact d5 i ia ib⟩
  · rw [r0, hp]; rfl
  · rw [w7 _ (by omega), w6 _ (by omega), w5 _ (by omega), w4 _ (by omega), w3 _ (by omega), w2 _ (by omega), w1 _ (by omega), hq q (by omega)]
/-- a button more -/
def zupd (f : Int → Int) (k x : Int) : Int → Int := fun j => if j = k then x else f j
theorem zupd_self (f : Int → Int) (k x : Int) : zupd f k x k = x := by simp [zupd]
theorem zupd_ne (f : Int → Int) {k j : Int} (x : Int) (h : j ≠ k) : zupd f k x j = f j := by simp [zupd, h]
def zAddB (P : zP) (kind a b other : Int) : zP :=
  ((pn P, pm P, pw P, pb P + 1), psh P, zupd (pkd P) (pb P) kind, zupd (ppa P) (pb P) a, zupd (pad P) (pb P) b, zupd (pot P) (pb P) other, zupd (pco P) (pb P) 1, fun k i => if k = pb P then 0 else pwi P k i)
theorem zAddB_ok {P : zP} (ok : zPok P) {kind a b other : Int} (hb : pb P < 36) (ht : zTakes P kind a b other) : zPok (zAddB P kind a b other) := by
  obtain ⟨h1, h2, h3, h4, h5, h6⟩ := ok
  refine ⟨h1, h2, h3, ⟨by show 0 ≤ pb P + 1; omega, by show pb P + 1 ≤ 36; omega⟩, h5, fun k ka kb => ?_⟩
  have kb' : k < pb P + 1 := kb
  by_cases hk : k = pb P
  · subst hk
    have e1 : pkd (zAddB P kind a b other) (pb P) = kind := zupd_self _ _ _
    have e2 : ppa (zAddB P kind a b other) (pb P) = a := zupd_self _ _ _
    have e3 : pad (zAddB P kind a b other) (pb P) = b := zupd_self _ _ _
    have e4 : pot (zAddB P kind a b other) (pb P) = other := zupd_self _ _ _
    have e5 : pco (zAddB P kind a b other) (pb P) = 1 := zupd_self _ _ _
    unfold zBok
    rw [e1, e2, e3, e4, e5]
    unfold zTakes at ht
    refine ⟨by omega, fun z => ?_, fun z => ?_, fun z => ?_, fun z => ?_, by omega, fun i _ _ => ?_⟩
    · show 0 ≤ a ∧ a < pn P
      rcases ht with q | ⟨q1, q2 | ⟨q2, q3⟩ | q2⟩ <;> omega
    · show zLineOk (pn P) (pw P) a
      rcases ht with q | ⟨q1, q2 | ⟨q2, q3⟩ | q2⟩
      · omega
      · omega
      · exact q3
      · omega
    · show 0 ≤ b ∧ b < pm P
      rcases ht with q | ⟨q1, q2⟩
      · omega
      · exact q1
    · rcases ht with q | ⟨q1, q2 | ⟨q2, q3⟩ | q2⟩ <;> omega
    · show 0 ≤ (if pb P = pb P then 0 else pwi P (pb P) i) ∧ (if pb P = pb P then 0 else pwi P (pb P) i) < pm P
      rw [if_pos rfl]; omega
  · have q := h6 k ka (by omega)
    unfold zBok at q ⊢
    have e1 : pkd (zAddB P kind a b other) k = pkd P k := zupd_ne _ _ hk
    have e2 : ppa (zAddB P kind a b other) k = ppa P k := zupd_ne _ _ hk
    have e3 : pad (zAddB P kind a b other) k = pad P k := zupd_ne _ _ hk
    have e4 : pot (zAddB P kind a b other) k = pot P k := zupd_ne _ _ hk
    have e5 : pco (zAddB P kind a b other) k = pco P k := zupd_ne _ _ hk
    have e6 : ∀ i, pwi (zAddB P kind a b other) k i = pwi P k i := fun i => if_neg hk
    rw [e1, e2, e3, e4, e5]
    refine ⟨q.1, q.2.1, q.2.2.1, q.2.2.2.1, q.2.2.2.2.1, q.2.2.2.2.2.1, fun i ia ib => ?_⟩
    rw [e6]; exact q.2.2.2.2.2.2 i ia ib
theorem sp_addButton (H : zPl S V p P) {kind a b other : Int} {F : Int → zH → Prop} (hb : pb P < 36) (ht : zTakes P kind a b other) (hw : 0 ≤ V p 4 ∧ V p 4 ≤ 100000) (h : ∀ V', zPl S V' p (zAddB P kind a b other) → V' p 4 = V p 4 + 1 → zOff V V' p (p + 7) → F (pb P) V') : SpI E 0 zm_X3_addButton [zrv p, ziv kind, ziv a, ziv b, ziv other] S V F := by
  have o1 := H.ok.1
  have o4 := H.ok.2.2.2.1
  refine en_X3_addButton (fun _ _ _ _ X => ?_)
  simp only [H.kp, H.b, H.v6, H.v7, H.v8, H.v9, H.v10, H.s2, H.s3, H.s4, H.s5, H.s6, true_and]
  intro x hx
  subst hx
  refine ⟨⟨by omega, by omega⟩, fun V6 e6 => ⟨⟨by omega, by omega⟩, fun V10 e10 => ⟨⟨by omega, by omega⟩, fun V14 e14 => ⟨⟨by omega, by omega⟩, fun V18 e18 => ⟨⟨by omega, by omega⟩, fun V22 e22 => ?_⟩⟩⟩⟩⟩
  have u1 : ∀ q, q ≠ p + 2 → V6 q = V q := fun q z => by rw [e6, zput_row _ _ _ z]
  have u2 : ∀ q, q ≠ p + 3 → V10 q = V6 q := fun q z => by rw [e10, zput_row _ _ _ z]
  have u3 : ∀ q, q ≠ p + 4 → V14 q = V10 q := fun q z => by rw [e14, zput_row _ _ _ z]
  have u4 : ∀ q, q ≠ p + 5 → V18 q = V14 q := fun q z => by rw [e18, zput_row _ _ _ z]
  have u5 : ∀ q, q ≠ p + 6 → V22 q = V18 q := fun q z => by rw [e22, zput_row _ _ _ z]
  have ko : ∀ g, zPA S (zarr V22 (p + 7) g) p := fun g => H.1.frame (fun j _ _ => by rw [zarr_ne _ _ (by omega), u5 _ (by omega), u4 _ (by omega), u3 _ (by omega), u2 _ (by omega), u1 _ (by omega)])
  have key := zdown (Q := fun i => ∀ g, (∀ j, (j < pb P * 36 ∨ pb P * 36 + 36 ≤ j) → g j = V (p + 7) j) → (∀ j, pb P * 36 ≤ j → j < pb P * 36 + i → g j = 0) → zl_X3_addButton_50 E X F S p (pb P) i (zarr V22 (p + 7) g)) (N := 36) (fun g hg hg2 => ?_) (fun i h0 h1 ih g hg hg2 => ?_) 0 (by omega) (by omega)
  · have k2 := key (V22 (p + 7)) (fun j _ => by rw [u5 _ (by omega), u4 _ (by omega), u3 _ (by omega), u2 _ (by omega), u1 _ (by omega)]) (fun j _ _ => by omega)
    rw [zarr_id] at k2
    exact k2
  · obtain ⟨a0, -, -, -, -, -, -, -, -⟩ := ko g
    have kp : (S p).1 = 6 := by rw [a0]
    have w3 : zarr V22 (p + 7) g p 3 = pb P := by rw [zarr_ne _ _ (by omega), u5 _ (by omega), u4 _ (by omega), u3 _ (by omega), u2 _ (by omega), u1 _ (by omega)]; exact H.b
    have w4 : zarr V22 (p + 7) g p 4 = V p 4 := by rw [zarr_ne _ _ (by omega), u5 _ (by omega), u4 _ (by omega), u3 _ (by omega), u2 _ (by omega), u1 _ (by omega)]
    refine wp_X3_addButton_50 ⟨fun _ => ?_, fun c => absurd c (by omega)⟩
    rw [w3, w4]
    refine ⟨kp, ⟨by omega, by omega⟩, fun V4 e4 => ⟨⟨by omega, by omega⟩, fun V7 e7 => ?_⟩⟩
    have ep : ∀ j, V7 p j = if j = 4 then V p 4 + 1 else if j = 3 then pb P + 1 else V p j := by
      intro j
      rw [e7, e4]
      simp only [zput, true_and]
      rw [zarr_ne _ _ (by omega), u5 _ (by omega), u4 _ (by omega), u3 _ (by omega), u2 _ (by omega), u1 _ (by omega)]
    have eq : ∀ q, q ≠ p → V7 q = zarr V22 (p + 7) g q := by
      intro q hq
      rw [e7, e4, zput_row _ _ _ hq, zput_row _ _ _ hq]
    have E1 : V7 (p + 1) = V (p + 1) := by rw [eq _ (by omega), zarr_ne _ _ (by omega), u5 _ (by omega), u4 _ (by omega), u3 _ (by omega), u2 _ (by omega), u1 _ (by omega)]
    have E2 : ∀ j, V7 (p + 2) j = zupd (V (p + 2)) (pb P) kind j := fun j => by
      rw [eq _ (by omega), zarr_ne _ _ (by omega), u5 _ (by omega), u4 _ (by omega), u3 _ (by omega), u2 _ (by omega), e6]; simp [zput, zupd]
    have E3 : ∀ j, V7 (p + 3) j = zupd (V (p + 3)) (pb P) a j := fun j => by
      rw [eq _ (by omega), zarr_ne _ _ (by omega), u5 _ (by omega), u4 _ (by omega), u3 _ (by omega), e10]; simp [zput, zupd, u1 (p + 3) (by omega)]
    have E4 : ∀ j, V7 (p + 4) j = zupd (V (p + 4)) (pb P) b j := fun j => by
      rw [eq _ (by omega), zarr_ne _ _ (by omega), u5 _ (by omega), u4 _ (by omega), e14]; simp [zput, zupd, u2 (p + 4) (by omega), u1 (p + 4) (by omega)]
    have E5 : ∀ j, V7 (p + 5) j = zupd (V (p + 5)) (pb P) other j := fun j => by
      rw [eq _ (by omega), zarr_ne _ _ (by omega), u5 _ (by omega), e18]; simp [zput, zupd, u3 (p + 5) (by omega), u2 (p + 5) (by omega), u1 (p + 5) (by omega)]
    have E6 : ∀ j, V7 (p + 6) j = zupd (V (p + 6)) (pb P) 1 j := fun j => by
      rw [eq _ (by omega), zarr_ne _ _ (by omega), e22]; simp [zput, zupd, u4 (p + 6) (by omega), u3 (p + 6) (by omega), u2 (p + 6) (by omega), u1 (p + 6) (by omega)]
    have E7 : V7 (p + 7) = g := by rw [eq _ (by omega), zarr_self]
    refine h V7 ⟨H.1.frame (fun j x y => ?_), ⟨?_, ?_, ?_, ?_, fun i x y => ?_, fun k x y => ?_⟩, zAddB_ok H.ok hb ht⟩ ?_ (fun q hq => ?_)
    · rw [ep, if_neg (by omega), if_neg (by omega)]
    · rw [ep]; exact H.n
    · rw [ep]; exact H.m
    · rw [ep]; exact H.w
    · rw [ep]; rfl
    · rw [E1]; exact H.sh ⟨x, y⟩
    · have y' : k < pb P + 1 := y
      by_cases hk : k = pb P
      · subst hk
        refine ⟨by rw [E2]; exact (zupd_self _ _ _).trans (zupd_self _ _ _).symm, fun _ => ⟨by rw [E3]; exact (zupd_self _ _ _).trans (zupd_self _ _ _).symm, by rw [E4]; exact (zupd_self _ _ _).trans (zupd_self _ _ _).symm⟩, fun _ => by rw [E5]; exact (zupd_self _ _ _).trans (zupd_self _ _ _).symm, by rw [E6]; exact (zupd_self _ _ _).trans (zupd_self _ _ _).symm, fun i x2 y2 => ?_⟩
        have y3 : i < pn P := y2
        rw [E7, hg2 _ (by omega) (by omega)]
        exact (if_pos rfl).symm
      · obtain ⟨d1, d2, d3, d4, d5⟩ := H.bt (k := k) ⟨x, by omega⟩
        have f1 : pkd (zAddB P kind a b other) k = pkd P k := zupd_ne _ _ hk
        refine ⟨by rw [E2, zupd_ne _ _ hk, f1]; exact d1, fun z => ?_, fun z => ?_, by rw [E6, zupd_ne _ _ hk]; exact d4.trans (zupd_ne _ _ hk).symm, fun i x2 y2 => ?_⟩
        · rw [f1] at z
          exact ⟨by rw [E3, zupd_ne _ _ hk]; exact (d2 z).1.trans (zupd_ne _ _ hk).symm, by rw [E4, zupd_ne _ _ hk]; exact (d2 z).2.trans (zupd_ne _ _ hk).symm⟩
        · rw [f1] at z
          rw [E5, zupd_ne _ _ hk]; exact (d3 z).trans (zupd_ne _ _ hk).symm
        · have y3 : i < pn P := y2
          rw [E7, hg _ (by omega), d5 i x2 y3]
          exact (if_neg hk).symm
    · rw [ep]; rfl
    · rw [eq _ (by omega), zarr_ne _ _ (by omega), u5 _ (by omega), u4 _ (by omega), u3 _ (by omega), u2 _ (by omega), u1 _ (by omega)]
  · obtain ⟨a0, -, -, -, -, -, -, a7, -, -, -, -, -, -, v11⟩ := ko g
    have kp : (S p).1 = 6 := by rw [a0]
    refine wp_X3_addButton_50 ⟨fun c => absurd c (by omega), fun _ => ?_⟩
    rw [v11, a7]
    refine ⟨kp, ⟨by omega, by omega⟩, ⟨by omega, by omega⟩, rfl, ⟨by omega, by omega⟩, fun V14 e14' => ⟨⟨by omega, by omega⟩, ?_⟩⟩
    rw [e14', zput_zarr V22 (g := zupd g (pb P * 36 + i) 0) (fun j => rfl)]
    refine ih _ (fun j hj => ?_) (fun j x y => ?_)
    · rw [zupd_ne _ _ (by omega)]; exact hg j hj
    · by_cases hj : j = pb P * 36 + i
      · rw [hj, zupd_self]
      · rw [zupd_ne _ _ hj]; exact hg2 j x (by omega)
/-- the last button is taken away -/
def zDelB (P : zP) : zP := ((pn P, pm P, pw P, pb P - 1), P.2)
theorem zDelB_ok {P : zP} (ok : zPok P) (hb : 0 < pb P) : zPok (zDelB P) :=
  ⟨ok.1, ok.2.1, ok.2.2.1, ⟨by show 0 ≤ pb P - 1; omega, by have := ok.2.2.2.1; show pb P - 1 ≤ 36; omega⟩, ok.2.2.2.2.1, fun k a b => ok.2.2.2.2.2 k a (by have : k < pb P - 1 := b; omega)⟩
theorem sp_removeLast (H : zPl S V p P) {F : zH → Prop} (hb : 0 < pb P) (hw : 0 ≤ V p 4 ∧ V p 4 ≤ 100000) (h : ∀ V', zPl S V' p (zDelB P) → V' p 4 = V p 4 + 1 → zOff V V' p (p + 7) → F V') : SpV E 0 zm_X3_removeLastButton [zrv p] S V F := by
  have o4 := H.ok.2.2.2.1
  refine en_X3_removeLastButton ?_
  simp only [H.kp, H.b, true_and]
  refine ⟨fun c => absurd c (by omega), fun _ => ⟨⟨by omega, by omega⟩, fun V4 e4 => ⟨⟨by omega, by omega⟩, fun V7 e7 => ?_⟩⟩⟩
  have ep : ∀ j, V7 p j = if j = 4 then V p 4 + 1 else if j = 3 then pb P - 1 else V p j := by
    intro j
    rw [e7, e4]
    simp only [zput, true_and]
  have eq : ∀ q, q ≠ p → V7 q = V q := by
    intro q hq
    rw [e7, e4, zput_row _ _ _ hq, zput_row _ _ _ hq]
  refine h V7 ⟨H.1.frame (fun j x y => ?_), ⟨?_, ?_, ?_, ?_, fun i x y => ?_, fun k x y => ?_⟩, zDelB_ok H.ok hb⟩ ?_ (fun q hq => ?_)
  · rw [ep, if_neg (by omega), if_neg (by omega)]
  · rw [ep]; exact H.n
  · rw [ep]; exact H.m
  · rw [ep]; exact H.w
  · rw [ep]; rfl
  · rw [eq _ (by omega)]; exact H.sh ⟨x, y⟩
  · have y' : k < pb P - 1 := y
    obtain ⟨d1, d2, d3, d4, d5⟩ := H.bt (k := k) ⟨x, by omega⟩
    exact ⟨by rw [eq _ (by omega)]; exact d1, fun z => ⟨by rw [eq _ (by omega)]; exact (d2 z).1, by rw [eq _ (by omega)]; exact (d2 z).2⟩, fun z => by rw [eq _ (by omega)]; exact d3 z, by rw [eq _ (by omega)]; exact d4, fun i ia ib => by rw [eq _ (by omega)]; exact d5 i ia ib⟩
  · rw [ep]; rfl
  · rw [eq _ (by omega)]
end PLATECHG3
