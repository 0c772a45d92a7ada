/-! BOTH SIDES ARE MADE -/
def zs0 : zSig := (zP00, zGone, (0, fun _ => zP00), none, (0, 0, 0, fun _ => 0), (0, fun _ => 0))
section INIT
variable {E : zE} {S : zS} {V : zH}
theorem sp_boardInit {r : Int} {mc ms : Nat} {F : zS → zH → Prop} (hS : S r = (3, 3)) (hz : ∀ j, V r j = 0) (h0 : 0 < r) (ht : ∀ q, (S q).1 ≠ 0 → q ≤ r) (hm : 1 ≤ mc ∧ 80 ≤ ms)
    (h : ∀ S' V', zBd S' V' r zGone → (∀ q, q ≤ r → S' q = S q) → (∀ q, q < r ∨ r + 1 < q → V' q = V q) → (∀ q, (S' q).1 ≠ 0 → q ≤ r + 1) → (S' (r + 1)).1 ≠ 0 → F S' V') : SaV E 1 mc ms zm_X0_init [zrv r] S V F := by
  refine en_X0_init ⟨by rw [hS], h0, fun V3 e3 => ⟨by omega, fun r1 _ q1 S1 V1 s1 v1 W1 w1 => ⟨by omega, ?_⟩⟩⟩
  obtain rfl := ztop_next ht (by rw [hS]; decide) q1
  obtain ⟨t1, n1⟩ := ztop_new ht s1 (by decide)
  have own : ∀ j, W1 r j = if j = 2 then r + 1 else if j = 0 then -1 else 0 := fun j => by
    rw [w1]; simp only [zput, true_and]
    rw [v1, zVn_ne _ _ (by omega), e3]; simp only [zput, true_and]
    rw [hz j]
  refine h S1 W1 ⟨⟨by rw [s1, zSn_ne _ _ (by omega)]; exact hS, by rw [s1, zSn_self], by rw [own]; rfl⟩, ⟨by rw [own]; rfl, by rw [own]; rfl, fun i a b => absurd b (by show ¬ i < 0; omega)⟩, ⟨by show (-1 : Int) ≤ -1; omega, by show (-1 : Int) ≤ 4; omega⟩, ⟨by show (0 : Int) ≤ 0; omega, by show (0 : Int) ≤ 80; omega⟩, fun _ => rfl, fun i a b => absurd b (by show ¬ i < 0; omega)⟩ (fun q hq => by rw [s1, zSn_ne _ _ (by omega)]) (fun q hq => ?_) t1 n1
  rw [w1, zput_row _ _ _ (by omega), v1, zVn_row _ (by omega), e3, zput_row _ _ _ (by omega)]
theorem sp_histInit {r : Int} {mc ms : Nat} {F : zS → zH → Prop} (hS : S r = (5, 5)) (hz : ∀ j, V r j = 0) (h0 : 0 < r) (ht : ∀ q, (S q).1 ≠ 0 → q ≤ r) (hm : 3 ≤ mc ∧ 2280 ≤ ms)
    (h : ∀ S' V', (∀ P H, zHi S' V' r P 0 H) → (∀ q, q ≤ r → S' q = S q) → (∀ q, q < r ∨ r + 3 < q → V' q = V q) → (∀ q, (S' q).1 ≠ 0 → q ≤ r + 3) → (S' (r + 3)).1 ≠ 0 → F S' V') : SaV E 1 mc ms zm_X2_init [zrv r] S V F := by
  refine en_X2_init ⟨by rw [hS], h0, by omega, fun r1 _ q1 S1 V1 s1 v1 W1 w1 => ?_⟩
  obtain rfl := ztop_next ht (by rw [hS]; decide) q1
  obtain ⟨t1, n1⟩ := ztop_new ht s1 (by decide)
  refine ⟨by omega, fun r2 _ q2 S2 V2 s2 v2 W2 w2 => ?_⟩
  obtain rfl := ztop_next t1 n1 q2
  obtain ⟨t2, n2⟩ := ztop_new t1 s2 (by decide)
  refine ⟨by omega, fun r3 _ q3 S3 V3 s3 v3 W3 w3 => ⟨by omega, ?_⟩⟩
  obtain rfl := ztop_next t2 n2 q3
  obtain ⟨t3, n3⟩ := ztop_new t2 s3 (by decide)
  have eS : ∀ q, S3 q = if q = r + 3 then (1, 2160) else if q = r + 2 then (1, 60) else if q = r + 1 then (1, 60) else S q := fun q => by
    rw [s3, s2, s1]
    simp only [zSn, show r + 1 + 1 = r + 2 by omega, show r + 2 + 1 = r + 3 by omega]
  have own : ∀ j, W3 r j = if j = 4 then r + 3 else if j = 3 then r + 2 else if j = 2 then r + 1 else 0 := fun j => by
    rw [w3]; simp only [zput, true_and]
    rw [v3, zVn_ne _ _ (by omega), w2]; simp only [zput, true_and]
    rw [v2, zVn_ne _ _ (by omega), w1]; simp only [zput, true_and]
    rw [v1, zVn_ne _ _ (by omega), hz j, show r + 1 + 1 = r + 2 by omega, show r + 2 + 1 = r + 3 by omega]
  refine h S3 W3 (fun P H => ⟨⟨⟨?_, ?_, ?_, ?_⟩, by rw [own]; rfl, by rw [own]; rfl, by rw [own]; rfl⟩, ⟨by rw [own]; rfl, ⟨by omega, by omega⟩, by rw [own]; simp (disch := omega) only [if_neg]; omega⟩, fun j a b => by omega⟩) (fun q hq => ?_) (fun q hq => ?_) (fun q hq => by have := t3 q hq; omega) (by rw [eS]; simp only [if_true]; decide)
  · rw [eS]; simp (disch := omega) only [if_neg]; exact hS
  · rw [eS]; simp (disch := omega) only [if_neg, if_true]
  · rw [eS]; simp (disch := omega) only [if_neg, if_true]
  · rw [eS]; simp only [if_true]
  · rw [eS]; simp (disch := omega) only [if_neg]
  · rw [w3, zput_row _ _ _ (by omega), v3, zVn_row _ (by omega), w2, zput_row _ _ _ (by omega), v2, zVn_row _ (by omega), w1, zput_row _ _ _ (by omega), v1, zVn_row _ (by omega)]
theorem sp_toldInit {r : Int} {mc ms : Nat} {F : zS → zH → Prop} (hS : S r = (9, 4)) (hz : ∀ j, V r j = 0) (h0 : 0 < r) (ht : ∀ q, (S q).1 ≠ 0 → q ≤ r) (hm : 1 ≤ mc ∧ 36 ≤ ms)
    (h : ∀ S' V', zTo S' V' r (0, 0, 0, fun _ => 0) → (∀ q, q ≤ r → S' q = S q) → (∀ q, q < r ∨ r + 1 < q → V' q = V q) → (∀ q, (S' q).1 ≠ 0 → q ≤ r + 1) → (S' (r + 1)).1 ≠ 0 → F S' V') : SaV E 1 mc ms zm_X6_init [zrv r] S V F := by
  refine en_X6_init ⟨by rw [hS], h0, fun V3 e3 => ⟨by omega, fun r1 _ q1 S1 V1 s1 v1 W1 w1 => ⟨by omega, ?_⟩⟩⟩
  obtain rfl := ztop_next ht (by rw [hS]; decide) q1
  obtain ⟨t1, n1⟩ := ztop_new ht s1 (by decide)
  have own : ∀ j, W1 r j = if j = 3 then r + 1 else 0 := fun j => by
    rw [w1]; simp only [zput, true_and]
    rw [v1, zVn_ne _ _ (by omega), e3]; simp only [zput, true_and]
    rw [hz j]
    by_cases c : j = 3
    · rw [if_pos c, if_pos c]
    · rw [if_neg c, if_neg c]; split <;> rfl
  refine h S1 W1 ⟨⟨by rw [s1, zSn_ne _ _ (by omega)]; exact hS, by rw [s1, zSn_self], by rw [own]; rfl⟩, ⟨by rw [own]; rfl, by rw [own]; rfl, by rw [own]; rfl, fun i a b => absurd b (by show ¬ i < 0; omega)⟩, ⟨by show (0 : Int) ≤ 0; omega, by show (0 : Int) ≤ 2; omega⟩, ⟨by show (0 : Int) ≤ 0; omega, by show (0 : Int) ≤ 36; omega⟩, Or.inl rfl, fun i a b => absurd b (by show ¬ i < 0; omega)⟩ (fun q hq => by rw [s1, zSn_ne _ _ (by omega)]) (fun q hq => ?_) t1 n1
  rw [w1, zput_row _ _ _ (by omega), v1, zVn_row _ (by omega), e3, zput_row _ _ _ (by omega)]
theorem cl_init {x : Int} {mc ms : Nat} {F : zS → zH → Prop} (hS : S x = (10, 8)) (hz : ∀ j, V x j = 0) (h0 : 0 < x) (ht : ∀ q, (S q).1 ≠ 0 → q ≤ x) (hm : 17 ≤ mc ∧ 3968 ≤ ms)
    (h : ∀ S' V', zCl S' V' x zs0 0 → (∀ q, (S' q).1 ≠ 0 → q ≤ x + 17) → (S' (x + 17)).1 ≠ 0 → F S' V') : SaV E 2 mc ms zm_X7_init [zrv x] S V F := by
  refine en_X7_init ⟨by rw [hS], h0, by omega, fun r1 _ q1 S1 V1 s1 v1 => ?_⟩
  obtain rfl := ztop_next ht (by rw [hS]; decide) q1
  obtain ⟨t1, n1⟩ := ztop_new ht s1 (by decide)
  refine ⟨7, 1512, by omega, sp_plateInit (by rw [s1, zSn_self]) (fun j => by rw [v1, zVn_self]) (by omega) t1 ⟨by omega, by omega⟩ (fun S2 V2 pl w4 sl2 vl2 t2 => ?_)⟩
  have sx2 : S2 x = (10, 8) := by rw [sl2 x (by omega), s1, zSn_ne _ _ (by omega)]; exact hS
  have vx2 : ∀ j, V2 x j = 0 := fun j => by rw [vl2 x (by omega), v1, zVn_ne _ _ (by omega)]; exact hz j
  refine ⟨by rw [sx2], fun V3 e3 => ⟨by omega, fun r2 _ q2 S3 V4 s3 v4 => ?_⟩⟩
  have n2 : (S2 (x + 1 + 7)).1 ≠ 0 := by rw [pl.s7]; decide
  obtain rfl := ztop_next t2 n2 q2
  obtain ⟨t3, n3⟩ := ztop_new t2 s3 (by decide)
  rw [show x + 1 + 7 + 1 = x + 9 by omega] at *
  -- the board
  refine ⟨1, 80, by omega, sp_boardInit (by rw [s3, zSn_self]) (fun j => by rw [v4, zVn_self]) (by omega) t3 ⟨by omega, by omega⟩ (fun S5 V5 bd sl5 vl5 t5 n5 => ?_)⟩
  have E5 : zExt S2 S5 := fun q hq => by rw [sl5 q (by have := t2 q hq; omega), s3, zSn_ne _ _ (by have := t2 q hq; omega)]
  have f5 : ∀ q, q < x + 9 → q ≠ x → V5 q = V2 q := fun q a b => by rw [vl5 q (by omega), v4, zVn_row _ (by omega), e3, zput_row _ _ _ b]
  have vx5 : ∀ j, V5 x j = if j = 0 then x + 1 else 0 := fun j => by
    rw [vl5 x (by omega), v4, zVn_ne _ _ (by omega), e3]; simp only [zput, true_and]; rw [vx2]
  refine ⟨by rw [E5.s sx2 (by decide)], fun V6 e6 => ⟨by omega, fun r3 _ q3 S7 V8 s7 v8 => ?_⟩⟩
  obtain rfl := ztop_next t5 n5 q3
  obtain ⟨t7, n7⟩ := ztop_new t5 s7 (by decide)
  rw [show x + 9 + 1 + 1 = x + 11 by omega] at *
  -- the history
  refine ⟨3, 2280, by omega, sp_histInit (by rw [s7, zSn_self]) (fun j => by rw [v8, zVn_self]) (by omega) t7 ⟨by omega, by omega⟩ (fun S9 V9 hi sl9 vl9 t9 n9 => ?_)⟩
  have E9 : zExt S5 S9 := fun q hq => by rw [sl9 q (by have := t5 q hq; omega), s7, zSn_ne _ _ (by have := t5 q hq; omega)]
  have f9 : ∀ q, q < x + 11 → q ≠ x → V9 q = V5 q := fun q a b => by rw [vl9 q (by omega), v8, zVn_row _ (by omega), e6, zput_row _ _ _ b]
  have vx9 : ∀ j, V9 x j = if j = 1 then x + 9 else if j = 0 then x + 1 else 0 := fun j => by
    rw [vl9 x (by omega), v8, zVn_ne _ _ (by omega), e6]; simp only [zput, true_and]; rw [vx5]
  have sx9 := E9.s (E5.s sx2 (by decide)) (by decide)
  refine ⟨by rw [sx9], fun V10 e10 => ⟨by omega, fun r4 _ q4 S11 V12 s11 v12 => ?_⟩⟩
  obtain rfl := ztop_next t9 n9 q4
  obtain ⟨t11, n11⟩ := ztop_new t9 s11 (by decide)
  rw [show x + 11 + 3 + 1 = x + 15 by omega] at *
  -- the ROW
  refine ⟨1, 36, by omega, sp_toldInit (by rw [s11, zSn_self]) (fun j => by rw [v12, zVn_self]) (by omega) t11 ⟨by omega, by omega⟩ (fun S13 V13 to sl13 vl13 t13 n13 => ?_)⟩
  have E13 : zExt S9 S13 := fun q hq => by rw [sl13 q (by have := t9 q hq; omega), s11, zSn_ne _ _ (by have := t9 q hq; omega)]
  have f13 : ∀ q, q < x + 15 → q ≠ x → V13 q = V9 q := fun q a b => by rw [vl13 q (by omega), v12, zVn_row _ (by omega), e10, zput_row _ _ _ b]
  have vx13 : ∀ j, V13 x j = if j = 2 then x + 11 else if j = 1 then x + 9 else if j = 0 then x + 1 else 0 := fun j => by
    rw [vl13 x (by omega), v12, zVn_ne _ _ (by omega), e10]; simp only [zput, true_and]; rw [vx9]
  have sx13 := E13.s sx9 (by decide)
  refine ⟨by rw [sx13], fun V14 e14 => ⟨by omega, fun r5 _ q5 S15 V16 s15 v16 V17 e17 => ⟨by omega, ?_⟩⟩⟩
  obtain rfl := ztop_next t13 n13 q5
  obtain ⟨t15, n15⟩ := ztop_new t13 s15 (by decide)
  rw [show x + 15 + 1 + 1 = x + 17 by omega] at *
  have E15 : zExt S13 S15 := zExt.new q5.1 s15
  have f17 : ∀ q, q < x + 17 → q ≠ x → V17 q = V13 q := fun q a b => by rw [e17, zput_row _ _ _ b, v16, zVn_row _ (by omega), e14, zput_row _ _ _ b]
  have vx17 : ∀ j, V17 x j = if j = 4 then x + 17 else if j = 3 then x + 15 else if j = 2 then x + 11 else if j = 1 then x + 9 else if j = 0 then x + 1 else 0 := fun j => by
    rw [e17]; simp only [zput, true_and]
    rw [v16, zVn_ne _ _ (by omega), e14]; simp only [zput, true_and]
    rw [vx13]
  have EA : zExt S2 S15 := ((E5.trans E9).trans E13).trans E15
  have EB : zExt S5 S15 := (E9.trans E13).trans E15
  have EC : zExt S9 S15 := E13.trans E15
  refine h S15 V17 ⟨⟨E15.s sx13 (by decide), by rw [vx17]; rfl, by rw [vx17]; rfl, by rw [vx17]; rfl, by rw [vx17]; rfl⟩, (pl.ext EA).congr (fun q a b => by rw [f17 q (by omega) (by omega), f13 q (by omega) (by omega), f9 q (by omega) (by omega), f5 q (by omega) (by omega)]), (bd.ext EB).congr (fun q a b => by rw [f17 q (by omega) (by omega), f13 q (by omega) (by omega), f9 q (by omega) (by omega)]), ((hi _ _).ext EC).congr (fun q a b => by rw [f17 q (by omega) (by omega), f13 q (by omega) (by omega)]), (to.ext E15).congr (fun q a b => by rw [f17 q (by omega) (by omega)]), ⟨⟨by rw [s15, zSn_self], by rw [vx17]; rfl⟩, by rw [vx17]; rfl, ⟨by show (0 : Int) ≤ 0; omega, by show (0 : Int) ≤ 36; omega⟩, fun i a b => absurd b (by show ¬ i < 0; omega)⟩, zTP.of0 rfl, ⟨h0, ?_, ?_, ?_⟩, by rw [vx17]; rfl, Or.inl (by rw [vx17]; rfl)⟩ t15 n15
  · rw [f17 _ (by omega) (by omega), f13 _ (by omega) (by omega), f9 _ (by omega) (by omega), f5 _ (by omega) (by omega), w4]; omega
  · rw [f17 _ (by omega) (by omega), f13 _ (by omega) (by omega), f9 _ (by omega) (by omega), f5 _ (by omega) (by omega), w4]; omega
  · intro q
    rw [vx17] at q
    simp (disch := omega) only [if_neg] at q
    exact absurd q (by omega)
theorem md_init {o : Int} {mc ms : Nat} {F : zS → zH → Prop} (hS : S o = (11, 25)) (hz : ∀ j, V o j = 0) (h0 : 0 < o) (ht : ∀ q, (S q).1 ≠ 0 → q ≤ o) (hm : 13 ≤ mc ∧ 161232 ≤ ms)
    (h : ∀ S' V', zMd S' V' o zs0 → zExt S S' → (∀ q, (q < o ∨ o + 13 < q) → V' q = V q) → F S' V') : SaV E 1 mc ms zm_X8_init [zrv o] S V F := by
  refine en_X8_init ⟨by rw [hS], h0, by omega, fun r1 _ q1 S1 V1 s1 v1 W1 w1 => ?_⟩
  obtain rfl := ztop_next ht (by rw [hS]; decide) q1
  obtain ⟨t1, n1⟩ := ztop_new ht s1 (by decide)
  refine ⟨by omega, fun r2 _ q2 S2 V2 s2 v2 W2 w2 => ?_⟩
  obtain rfl := ztop_next t1 n1 q2
  obtain ⟨t2, n2⟩ := ztop_new t1 s2 (by decide)
  refine ⟨by omega, fun r3 _ q3 S3 V3 s3 v3 W3 w3 W3' w3' => ?_⟩
  obtain rfl := ztop_next t2 n2 q3
  obtain ⟨t3, n3⟩ := ztop_new t2 s3 (by decide)
  refine ⟨by omega, fun r4 _ q4 S4 V4 s4 v4 W4 w4 => ?_⟩
  obtain rfl := ztop_next t3 n3 q4
  obtain ⟨t4, n4⟩ := ztop_new t3 s4 (by decide)
  refine ⟨by omega, fun r5 _ q5 S5 V5 s5 v5 W5 w5 => ?_⟩
  obtain rfl := ztop_next t4 n4 q5
  obtain ⟨t5, n5⟩ := ztop_new t4 s5 (by decide)
  refine ⟨by omega, fun r6 _ q6 S6 V6 s6 v6 W6 w6 => ?_⟩
  obtain rfl := ztop_next t5 n5 q6
  obtain ⟨t6, n6⟩ := ztop_new t5 s6 (by decide)
  refine ⟨by omega, fun r7 _ q7 S7 V7 s7 v7 W7 w7 => ?_⟩
  obtain rfl := ztop_next t6 n6 q7
  obtain ⟨t7, n7⟩ := ztop_new t6 s7 (by decide)
  refine ⟨by omega, fun r8 _ q8 S8 V8 s8 v8 W8 w8 => ?_⟩
  obtain rfl := ztop_next t7 n7 q8
  obtain ⟨t8, n8⟩ := ztop_new t7 s8 (by decide)
  refine ⟨by omega, fun r9 _ q9 S9 V9 s9 v9 W9 w9 => ?_⟩
  obtain rfl := ztop_next t8 n8 q9
  obtain ⟨t9, n9⟩ := ztop_new t8 s9 (by decide)
  refine ⟨by omega, fun r10 _ q10 S10 V10 s10 v10 W10 w10 => ?_⟩
  obtain rfl := ztop_next t9 n9 q10
  obtain ⟨t10, n10⟩ := ztop_new t9 s10 (by decide)
  refine ⟨by omega, fun r11 _ q11 S11 V11 s11 v11 W11 w11 => ?_⟩
  obtain rfl := ztop_next t10 n10 q11
  obtain ⟨t11, n11⟩ := ztop_new t10 s11 (by decide)
  refine ⟨by omega, fun r12 _ q12 S12 V12 s12 v12 W12 w12 => ?_⟩
  obtain rfl := ztop_next t11 n11 q12
  obtain ⟨t12, n12⟩ := ztop_new t11 s12 (by decide)
  refine ⟨by omega, fun r13 _ q13 S13 V13 s13 v13 W13 w13 => ⟨by omega, ?_⟩⟩
  obtain rfl := ztop_next t12 n12 q13
  have eS : ∀ q, S13 q = if q = o + 13 then (1, 36) else if q = o + 12 then (2, 65536) else if q = o + 11 then (1, 36) else if q = o + 10 then (1, 36) else if q = o + 9 then (1, 36) else if q = o + 8 then (1, 37) else if q = o + 7 then (1, 37) else if q = o + 6 then (1, 37) else if q = o + 5 then (1, 1369) else if q = o + 4 then (2, 80) else if q = o + 3 then (1, 90960) else if q = o + 2 then (1, 1516) else if q = o + 1 then (1, 1516) else S q := fun q => by
    rw [s13, s12, s11, s10, s9, s8, s7, s6, s5, s4, s3, s2, s1]
    simp only [zSn, show o + 1 + 1 = o + 2 by omega, show o + 2 + 1 = o + 3 by omega, show o + 3 + 1 = o + 4 by omega, show o + 4 + 1 = o + 5 by omega, show o + 5 + 1 = o + 6 by omega, show o + 6 + 1 = o + 7 by omega, show o + 7 + 1 = o + 8 by omega, show o + 8 + 1 = o + 9 by omega, show o + 9 + 1 = o + 10 by omega, show o + 10 + 1 = o + 11 by omega, show o + 11 + 1 = o + 12 by omega, show o + 12 + 1 = o + 13 by omega]
  have own : ∀ j, W13 o j = if j = 23 then o + 13 else if j = 22 then o + 12 else if j = 21 then o + 11 else if j = 20 then o + 10 else if j = 16 then o + 9 else if j = 13 then o + 8 else if j = 12 then o + 7 else if j = 11 then o + 6 else if j = 9 then o + 5 else if j = 8 then o + 4 else if j = 6 then -1 else if j = 3 then o + 3 else if j = 1 then o + 2 else if j = 0 then o + 1 else 0 := fun j => by
    rw [w13]; simp only [zput, true_and]
    rw [v13, zVn_ne _ _ (by omega), w12]; simp only [zput, true_and]
    rw [v12, zVn_ne _ _ (by omega), w11]; simp only [zput, true_and]
    rw [v11, zVn_ne _ _ (by omega), w10]; simp only [zput, true_and]
    rw [v10, zVn_ne _ _ (by omega), w9]; simp only [zput, true_and]
    rw [v9, zVn_ne _ _ (by omega), w8]; simp only [zput, true_and]
    rw [v8, zVn_ne _ _ (by omega), w7]; simp only [zput, true_and]
    rw [v7, zVn_ne _ _ (by omega), w6]; simp only [zput, true_and]
    rw [v6, zVn_ne _ _ (by omega), w5]; simp only [zput, true_and]
    rw [v5, zVn_ne _ _ (by omega), w4]; simp only [zput, true_and]
    rw [v4, zVn_ne _ _ (by omega), w3', w3]; simp only [zput, true_and]
    rw [v3, zVn_ne _ _ (by omega), w2]; simp only [zput, true_and]
    rw [v2, zVn_ne _ _ (by omega), w1]; simp only [zput, true_and]
    rw [v1, zVn_ne _ _ (by omega), hz j, show o + 1 + 1 = o + 2 by omega, show o + 2 + 1 = o + 3 by omega, show o + 3 + 1 = o + 4 by omega, show o + 4 + 1 = o + 5 by omega, show o + 5 + 1 = o + 6 by omega, show o + 6 + 1 = o + 7 by omega, show o + 7 + 1 = o + 8 by omega, show o + 8 + 1 = o + 9 by omega, show o + 9 + 1 = o + 10 by omega, show o + 10 + 1 = o + 11 by omega, show o + 11 + 1 = o + 12 by omega, show o + 12 + 1 = o + 13 by omega]
  have low : ∀ q, (q < o ∨ o + 13 < q) → W13 q = V q := fun q hq => by
    rw [w13, zput_row _ _ _ (by omega), v13, zVn_row _ (by omega), w12, zput_row _ _ _ (by omega), v12, zVn_row _ (by omega), w11, zput_row _ _ _ (by omega), v11, zVn_row _ (by omega), w10, zput_row _ _ _ (by omega), v10, zVn_row _ (by omega), w9, zput_row _ _ _ (by omega), v9, zVn_row _ (by omega), w8, zput_row _ _ _ (by omega), v8, zVn_row _ (by omega), w7, zput_row _ _ _ (by omega), v7, zVn_row _ (by omega), w6, zput_row _ _ _ (by omega), v6, zVn_row _ (by omega), w5, zput_row _ _ _ (by omega), v5, zVn_row _ (by omega), w4, zput_row _ _ _ (by omega), v4, zVn_row _ (by omega), w3', zput_row _ _ _ (by omega), w3, zput_row _ _ _ (by omega), v3, zVn_row _ (by omega), w2, zput_row _ _ _ (by omega), v2, zVn_row _ (by omega), w1, zput_row _ _ _ (by omega), v1, zVn_row _ (by omega)]
  have MA : zMA S13 W13 o := by
    refine ⟨⟨?_, ?_, ?_, ?_, ?_, ?_, ?_, ?_, ?_, ?_, ?_, ?_, ?_, ?_⟩, by rw [own]; rfl, by rw [own]; rfl, by rw [own]; rfl, by rw [own]; rfl, by rw [own]; rfl, by rw [own]; rfl, by rw [own]; rfl, by rw [own]; rfl, by rw [own]; rfl, by rw [own]; rfl, by rw [own]; rfl, by rw [own]; rfl, by rw [own]; rfl⟩
    · rw [eS]; simp (disch := omega) only [if_neg]; exact hS
    · rw [eS]; simp (disch := omega) only [if_neg, if_true]
    · rw [eS]; simp (disch := omega) only [if_neg, if_true]
    · rw [eS]; simp (disch := omega) only [if_neg, if_true]
    · rw [eS]; simp (disch := omega) only [if_neg, if_true]
    · rw [eS]; simp (disch := omega) only [if_neg, if_true]
    · rw [eS]; simp (disch := omega) only [if_neg, if_true]
    · rw [eS]; simp (disch := omega) only [if_neg, if_true]
    · rw [eS]; simp (disch := omega) only [if_neg, if_true]
    · rw [eS]; simp (disch := omega) only [if_neg, if_true]
    · rw [eS]; simp (disch := omega) only [if_neg, if_true]
    · rw [eS]; simp (disch := omega) only [if_neg, if_true]
    · rw [eS]; simp (disch := omega) only [if_neg, if_true]
    · rw [eS]; simp only [if_true]
  refine md_set MA (by omega) (fun V' f g h5 h19 C => h S13 V' ⟨⟨MA.frame (fun j hj => g j (by omega) (by omega)), C zP00, zP00_ok⟩, ⟨by rw [g 6 (by decide) (by decide), own]; rfl, fun q => absurd rfl q, ⟨by show (-1 : Int) ≤ -1; omega, by show (-1 : Int) ≤ 4; omega⟩, ⟨by show (0 : Int) ≤ 0; omega, by show (0 : Int) ≤ 80; omega⟩, fun _ => rfl, fun i a b => absurd b (by show ¬ i < 0; omega)⟩, ⟨h5, ⟨by show (0 : Int) ≤ 0; omega, by show (0 : Int) ≤ 60; omega⟩, by rw [g 4 (by decide) (by decide), own]; simp (disch := omega) only [if_neg]; omega, fun j a b => absurd b (by show ¬ j < 0; omega)⟩, ?_, ⟨by rw [g 17 (by decide) (by decide), own]; rfl, by rw [g 18 (by decide) (by decide), own]; rfl, h19, fun i a b => absurd b (by show ¬ i < 0; omega), ⟨by show (0 : Int) ≤ 0; omega, by show (0 : Int) ≤ 2; omega⟩, ⟨by show (0 : Int) ≤ 0; omega, by show (0 : Int) ≤ 36; omega⟩, Or.inl rfl, fun i a b => absurd b (by show ¬ i < 0; omega)⟩, ⟨by rw [g 24 (by decide) (by decide), own]; rfl, ⟨by show (0 : Int) ≤ 0; omega, by show (0 : Int) ≤ 36; omega⟩, fun i a b => absurd b (by show ¬ i < 0; omega)⟩, zTP.of0 rfl⟩ (fun q hq => ?_) (fun q hq => by rw [f q (by omega) (by omega)]; exact low q hq))
  · show V' o 2 = 0
    rw [g 2 (by decide) (by decide), own]; rfl
  · have := ht q hq
    rw [eS]; simp (disch := omega) only [if_neg]
end INIT
