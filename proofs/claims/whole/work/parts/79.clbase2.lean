/-! THE CLASS: base(), element(), primes() as calls -/
theorem zdq {m d : Int} (hm : 0 < m) (hd : 0 < d) (h : d ∣ m) : (1 ≤ m / d ∧ m / d ≤ m) ∧ d * (m / d) = m := by
  obtain ⟨e, he⟩ := id h
  have h2 := Int.mul_ediv_cancel_left (a := d) e (by omega)
  rw [← he] at h2
  have q := zdiv_le (show 0 ≤ m by omega) hd
  refine ⟨⟨?_, by omega⟩, by rw [h2]; exact he.symm⟩
  rcases Int.lt_or_le 0 e with u | u
  · omega
  · exfalso
    have := Int.mul_le_mul_of_nonneg_left u (show 0 ≤ d by omega)
    rw [Int.mul_zero] at this; omega
section CLBASE2
variable {E : zE} {S : zS} {V : zH} {x w so : Int} {s : zSig}
theorem zTabW.lr {P : zP} (T : zTab V so P) (H : zTabW V so P) (ok : zPok P) {i : Int} (hi : 0 ≤ i ∧ i < pn P) : (zcw V so P (pn P - 1 - i) < pm P) ↔ V (V so 4 + 1) (V so 6 + i) ≠ 0 := by
  have f0 := T.fr.1
  have l := (H.how.1 (V so 6 + i) (by omega) (by omega)).1
  unfold zcw
  rw [show pn P - 1 - (pn P - 1 - i) = i by omega]
  exact zlead_lt l
theorem zTabW.count {P : zP} (T : zTab V so P) (H : zTabW V so P) (ok : zPok P) : zsum (fun r => if V (V so 4 + 1) (V so 6 + r) = 0 then 0 else 1) (pn P) = zBase (pm P) (pn P) (zcw V so P) := by
  have o1 := ok.1
  unfold zBase
  rw [zsum_rev (pn P) (by omega) (fun k => if zcw V so P k < pm P then 1 else 0)]
  refine zsum_congr (fun i a b => ?_)
  have := zTabW.lr T H ok ⟨a, b⟩
  by_cases z : V (V so 4 + 1) (V so 6 + i) = 0
  · rw [if_pos z, if_neg (fun q => this.mp q z)]
  · rw [if_neg z, if_pos (this.mpr z)]
theorem zTabW.at {P : zP} (T : zTab V so P) (H : zTabW V so P) (ok : zPok P) {i : Int} (hi : 0 ≤ i ∧ i < pn P) (hz : V (V so 4 + 1) (V so 6 + i) ≠ 0) : zAt (pm P) (pn P) (zcw V so P) (zsum (fun r => if V (V so 4 + 1) (V so 6 + r) = 0 then 0 else 1) i) (pn P - 1 - i) := by
  have o1 := ok.1
  refine ⟨by omega, (zTabW.lr T H ok hi).mpr hz, ?_⟩
  rw [zsum_rev (pn P) (by omega) (fun j => if pn P - 1 - i < j ∧ zcw V so P j < pm P then 1 else 0)]
  have hz2 := zsum_from (fun l => if pn P - 1 - i < pn P - 1 - l ∧ zcw V so P (pn P - 1 - l) < pm P then 1 else 0) hi.1 (pn P - i) (by omega)
  rw [show i + (pn P - i) = pn P by omega] at hz2
  rw [hz2, zsum_zero (f := fun j => if pn P - 1 - i < pn P - 1 - (i + j) ∧ zcw V so P (pn P - 1 - (i + j)) < pm P then 1 else 0) (fun j a b => if_neg (by omega)), Int.add_zero]
  refine zsum_congr (fun l a b => ?_)
  have := zTabW.lr T H ok (i := l) ⟨a, by omega⟩
  by_cases z : V (V so 4 + 1) (V so 6 + l) = 0
  · rw [if_neg (fun q => this.mp q.2 z), if_pos z]
  · rw [if_pos ⟨by omega, this.mpr z⟩, if_neg z]
theorem cl_base (H : zCl S V x s w) (hS : (S (x + 31)).1 ≠ 0) {mc ms : Nat} (hm : (V x 7 = 0 → 13 ≤ mc ∧ 14558 ≤ ms) ∧ 4 ≤ mc ∧ 5276 ≤ ms) {what : Int} {F : Int → zS → zH → Prop}
    (h0 : what = 0 → ∀ S' V' d, zExt S S' → zDs (pm (gP s)) (pb (gP s)) (zQu (gP s)) d → zCl S' V' x s w → zFrm V V' x → F (zBase (pm (gP s)) (pb (gP s)) d) S' V')
    (h1 : what = 1 → ∀ S' V' d, zExt S S' → zDs (pm (gP s)) (pn (gP s)) (zWt (gP s)) d → zCl S' V' x s w → zFrm V V' x → F (zBase (pm (gP s)) (pn (gP s)) d) S' V')
    (h2 : ¬ (what = 0 ∨ what = 1) → F (-1) S V) : SaI E 6 mc ms zm_X7_base [zrv x, ziv what] S V F := by
  have o1 := H.pl.ok.1
  have o4 := H.pl.ok.2.2.2.1
  have hm1 := hm.1
  refine en_X7_base (fun _ => ⟨fun z => ⟨H.kx, mc, ms, by omega, cl_fresh H hS (fun z => by have := hm1 z; omega) (fun S1 V1 so e1 C1 R1 fr1 => ?_)⟩, fun z => ⟨H.kx, (if V x 7 = 0 then 9 else 0), (if V x 7 = 0 then 9282 else 0), ⟨by split <;> omega, by split <;> omega⟩, cl_fresh H hS (fun z => by rw [if_pos z, if_pos z]; omega) (fun S1 V1 so e1 C1 R1 fr1 => ?_)⟩, fun z => ⟨by omega, h2 (by omega)⟩⟩)
  · obtain ⟨⟨r1, r2⟩, r3, T1, r5⟩ := id R1
    have f0 := T1.fr.1
    refine ⟨by rw [r3.2.1.1.1], by omega, en_X5_countQuiet ?_⟩
    rw [r3.2.1.2.1.2.1]
    refine ⟨by rw [r3.2.1.1.1], by rw [r3.2.1.2.2.1.1], sp_countElements r3.2.1.2.2 T1.2.2 ⟨by omega, by omega⟩ ⟨by omega, by omega⟩ ?_⟩
    rw [T1.count C1.pl.ok]
    exact h0 z S1 V1 _ e1 (zcd_ok T1 C1.pl.ok) C1 fr1
  · obtain ⟨⟨r1, r2⟩, r3, T1, r5⟩ := id R1
    refine ⟨by rw [r3.2.1.1.1], 4, 5276, ⟨by split <;> omega, by split <;> omega⟩, en_X5_countWeights ⟨by rw [r3.2.1.1.1], 4, 5276, by omega, cl_freshWeights C1 R1 (by rw [e1 _ hS]; exact hS) (fun _ => by omega) (fun S2 V2 wf e2 C2 R2 w2 fa tw fr2 => ?_)⟩⟩
    obtain ⟨-, -, T2, -⟩ := id R2
    have f0 := T2.fr.1
    obtain ⟨w4, w0⟩ := w2
    have tw' := tw
    unfold zTabW at tw'
    rw [w4] at tw'
    have cnt := zTabW.count T2 tw C2.pl.ok
    rw [w4] at cnt
    refine ⟨by rw [fa.1.1], by omega, sp_countElements fa tw' ⟨by omega, by omega⟩ ⟨by omega, by omega⟩ ⟨⟨by split <;> omega, by split <;> omega⟩, ?_⟩⟩
    rw [cnt]
    exact h1 z S2 V2 _ (e1.trans e2) (zcw_ok T2 tw C2.pl.ok) C2 (fun q a b => by rw [fr2 q a b]; exact fr1 q a b)
/-- what an element's numbers are below -/
theorem zElm.le {m n k : Int} {K : (Int → Int) → Prop} {d R : Int → Int} (hm : 0 < m) (hd : zDs m n K d) (h : zElm n K d k R) (hk : 0 ≤ k ∧ k < n) (hl : d k < m) {i : Int} (hi : 0 ≤ i ∧ i < n) : 0 ≤ R i ∧ R i < m := by
  rcases Int.lt_trichotomy i k with u | u | u
  · have h1 := h.2.2.2 i hi.1 u
    have h2 := (zDs.le hm hd hi.1 hi.2).1
    omega
  · have h2 := (zDs.le hm hd hk.1 hk.2).1
    rw [u, h.2.1]; omega
  · rw [h.2.2.1 i u hi.2]; omega
theorem cl_element (H : zCl S V x s w) (hS : (S (x + 31)).1 ≠ 0) {mc ms : Nat} (hm : (V x 7 = 0 → 13 ≤ mc ∧ 14558 ≤ ms) ∧ 4 ≤ mc ∧ 5276 ≤ ms) {what i : Int} {F : Int → zS → zH → Prop}
    (h01 : what = 0 → 0 ≤ i → ∀ S' V' d k R, zExt S S' → zDs (pm (gP s)) (pb (gP s)) (zQu (gP s)) d → zAt (pm (gP s)) (pb (gP s)) d i k → zElm (pb (gP s)) (zQu (gP s)) d k R → zCl S' V' x (zSetT s (1, pb (gP s), 0, R)) w → zFrm V V' x → F 1 S' V')
    (h00 : what = 0 → 0 ≤ i → ∀ S' V' d, zExt S S' → zDs (pm (gP s)) (pb (gP s)) (zQu (gP s)) d → zBase (pm (gP s)) (pb (gP s)) d ≤ i → zCl S' V' x s w → zFrm V V' x → F (-1) S' V')
    (h11 : what = 1 → 0 ≤ i → ∀ S' V' d k R, zExt S S' → zDs (pm (gP s)) (pn (gP s)) (zWt (gP s)) d → zAt (pm (gP s)) (pn (gP s)) d i k → zElm (pn (gP s)) (zWt (gP s)) d k R → zCl S' V' x (zSetT s (2, pn (gP s), 0, fun l => R (pn (gP s) - 1 - l))) w → zFrm V V' x → F 1 S' V')
    (h10 : what = 1 → 0 ≤ i → ∀ S' V' d, zExt S S' → zDs (pm (gP s)) (pn (gP s)) (zWt (gP s)) d → zBase (pm (gP s)) (pn (gP s)) d ≤ i → zCl S' V' x s w → zFrm V V' x → F (-1) S' V')
    (h2 : ¬ (0 ≤ i ∧ (what = 0 ∨ what = 1)) → F (-1) S V) : SaI E 6 mc ms zm_X7_element [zrv x, ziv what, ziv i] S V F := by
  have o1 := H.pl.ok.1
  have o2 := H.pl.ok.2.1
  have o4 := H.pl.ok.2.2.2.1
  have hm1 := hm.1
  refine en_X7_element (fun _ _ X => ⟨fun z => ⟨by omega, h2 (by omega)⟩, fun hi => ?_⟩)
  have run : what = 0 ∨ what = 1 → zl_X7_element_15 E X F mc ms 0 0 S x what i V := by
    intro hw
    refine wp_X7_element_15 ⟨H.kx, (if V x 7 = 0 then 9 else 0), (if V x 7 = 0 then 9282 else 0), ⟨by split <;> omega, by split <;> omega⟩, cl_fresh H hS (fun z => by rw [if_pos z, if_pos z]; omega) (fun S1 V1 so e1 C1 R1 fr1 => ?_)⟩
    have hlo := R1.lo
    obtain ⟨⟨r1, r2⟩, r3, T1, r5⟩ := id R1
    obtain ⟨⟨s0, s1, s2, s3⟩, ⟨f0, f3, f7, f8, f9⟩, FA⟩ := id r3.2.1
    have ks : (S1 so).1 = 8 := by rw [s0]
    have fb := T1.fr.1
    rw [C1.v3]
    refine ⟨fun z => ⟨C1.kx, ks, 4, 5276, ⟨by split <;> omega, by split <;> omega⟩, en_X5_tellWeights (fun _ => ⟨ks, 4, 5276, by omega, cl_freshWeights C1 R1 (by rw [e1 _ hS]; exact hS) (fun _ => by omega) (fun S2 V2 wf e2 C2 R2 w2 fa tw fr2 => ?_)⟩)⟩, fun z => ⟨C1.kx, ks, ⟨by split <;> omega, by split <;> omega⟩, en_X5_tellQuiet (fun _ => ?_)⟩⟩
    · have hlo2 := R2.lo
      obtain ⟨-, q3, T2, -⟩ := id R2
      have f0 := T2.fr.1
      obtain ⟨w4, w0⟩ := w2
      have tw' := tw
      unfold zTabW at tw'
      rw [w4] at tw'
      have wlo : x + 32 ≤ wf := by
        rcases q3.2.2.2.2.1 with y | y
        · omega
        · rw [w4] at y; exact y.1.1
      have dW := zcw_ok T2 tw C2.pl.ok
      have hfr : zFrm V V2 x := fun q a b => by rw [fr2 q a b]; exact fr1 q a b
      obtain ⟨⟨u0, u1, u2, u3, u4⟩, ⟨v4, v5, v6, v7⟩, z0⟩ := id fa
      refine ⟨by rw [u0], by omega, sp_columnOf fa tw' ⟨by omega, by omega⟩ ⟨by omega, by omega⟩ (fun l la lb lz le => ⟨fun _ => en_X1_tailOf (fun _ => ?_), fun q => absurd q (by omega)⟩) (fun _ le => ⟨fun q => absurd rfl q, fun _ => ⟨fun _ => ⟨⟨by split <;> omega, by split <;> omega⟩, ?_⟩, fun q => absurd rfl q⟩⟩) hi⟩
      · rw [tw'.1.2.1]
        refine ⟨⟨by omega, by omega⟩, by rw [u0], ⟨by omega, by omega⟩, by rw [q3.2.1.1.1], ?_⟩
        rw [v5, show wf + 1 + 1 = wf + 2 by omega]
        rw [show wf + 1 + 1 = wf + 2 by omega] at u2
        have elm := (zcw_el T2 tw C2.pl.ok (j := pn (gP s) - 1 - l) ⟨by omega, by omega⟩).1
        rw [w4, show pn (gP s) - 1 - (pn (gP s) - 1 - l) = l by omega] at elm
        have el := elm lz
        have at' := zTabW.at T2 tw C2.pl.ok (i := l) ⟨la, lb⟩ (by rw [w4]; exact lz)
        rw [w4, le] at at'
        have eqv : ∀ l', 0 ≤ l' → l' < pn (gP s) → V2 (wf + 2) ((V2 so 6 + l) * 72 + V2 so 6 + l') = zRo (V2 (wf + 2)) (V2 so 6 + l) (V2 so 6 + (pn (gP s) - 1 - (pn (gP s) - 1 - l'))) := fun l' a b => by
          unfold zRo
          rw [show (V2 so 6 + l) * 72 + (V2 so 6 + (pn (gP s) - 1 - (pn (gP s) - 1 - l'))) = (V2 so 6 + l) * 72 + V2 so 6 + l' by omega]
        refine sp_tellByLamps (NA := 5184) C2.pl q3 C2.to ⟨by omega, by omega⟩ u2 ⟨by omega, by omega⟩ ⟨by omega, by omega⟩ (fun l' a b => ?_) (fun V' t o => ⟨fun q => absurd q (by decide), fun _ => ⟨⟨by split <;> omega, by split <;> omega⟩, ?_⟩⟩)
        · rw [eqv l' a b]
          have := zElm.le (by omega) dW el ⟨by omega, by omega⟩ at'.2.1 (i := pn (gP s) - 1 - l') ⟨by omega, by omega⟩
          have this' : 0 ≤ zRo (V2 (wf + 2)) (V2 so 6 + l) (V2 so 6 + (pn (gP s) - 1 - (pn (gP s) - 1 - l'))) ∧ zRo (V2 (wf + 2)) (V2 so 6 + l) (V2 so 6 + (pn (gP s) - 1 - (pn (gP s) - 1 - l'))) < pm (gP s) := this
          omega
        · rw [show x + 15 + 1 = x + 16 by omega] at o
          have hw1 : what = 1 := by omega
          refine h11 hw1 hi S2 V' _ _ _ (e1.trans e2) dW at' el (C2.told o ?_ (zTP.of0 rfl)) (fun q a b => by rw [o q (by omega)]; exact hfr q a b)
          obtain ⟨t1, ⟨t2, t3, t4, t5⟩, t6, t7, t8, t9⟩ := t
          exact ⟨t1, ⟨t2, t3, t4, fun l' a b => (t5 l' a b).trans (eqv l' a b)⟩, t6, t7, t8, fun l' a b => by have := t9 l' a b; rw [show tr (2, pn (gP s), 0, fun i => V2 (wf + 2) ((V2 so 6 + l) * 72 + V2 so 6 + i)) l' = _ from eqv l' a b] at this; exact this⟩
      · have cnt := zTabW.count T2 tw C2.pl.ok
        rw [w4] at cnt
        rw [cnt] at le
        exact h10 (by omega) hi S2 V2 _ (e1.trans e2) dW le C2 hfr
    · rw [f3, f9, FA.2.1.2.1, T1.f1, show so + 6 + 1 = so + 7 by omega, s3]
      have s7 : S1 (so + 7) = (1, 5184) := by have := FA.1.2.2.1; rw [show so + 6 + 1 = so + 7 by omega] at this; exact this
      rw [s7]
      refine ⟨ks, by rw [FA.1.1], sp_columnOf FA T1.2.2 ⟨by omega, by omega⟩ ⟨by omega, by omega⟩ (fun r ra rb rz re => ⟨fun _ => en_X1_tailOf (fun _ => ?_), fun q => absurd q (by omega)⟩) (fun _ le => ⟨fun q => absurd rfl q, fun _ => ⟨fun _ => ?_, fun q => absurd rfl q⟩⟩) hi⟩
      · rw [T1.f1]
        refine ⟨⟨by omega, by omega⟩, by rw [FA.1.1], ⟨by omega, by omega⟩, rfl, rfl, ⟨by omega, by omega, by omega, by show (pn (gP s) + r) * 72 + pn (gP s) + V1 so 6 ≤ 5184; omega, by show pn (gP s) + V1 so 6 ≤ 72; omega⟩, fun V11 e11 => ?_⟩
        have v11 : ∀ j, V11 (so + 3) j = if pn (gP s) ≤ j ∧ j < pn (gP s) + V1 so 6 then V1 (so + 7) ((pn (gP s) + r) * 72 + pn (gP s) + (j - pn (gP s))) else V1 (so + 3) j := fun j => by
          rw [e11, zcpy_arr V1 (fun j => rfl), zarr_self]
        have r11 : ∀ q, q ≠ so + 3 → V11 q = V1 q := fun q hq => by rw [e11, zcpy_row _ _ _ _ _ hq]
        obtain ⟨C2, R2⟩ := C1.vec R1 (V' := V11) r11
        have el := zcd_el T1 C1.pl.ok (r := r) ⟨ra, rb⟩ rz
        have at' := T1.at C1.pl.ok (r := r) ⟨ra, rb⟩ rz
        rw [re] at at'
        have dQ := zcd_ok T1 C1.pl.ok
        have es6 : V11 so 6 = V1 so 6 := by rw [r11 so (by omega)]
        have es1 : V11 (so + 1) = V1 (so + 1) := r11 _ (by omega)
        have tv : ∀ r', 0 ≤ r' → r' < V1 so 6 → V11 (so + 3) (pn (gP s) + r') = zRo (V1 (so + 7)) (pn (gP s) + r) (pn (gP s) + r') := fun r' a b => by
          rw [v11, if_pos (by omega)]
          unfold zRo
          rw [show (pn (gP s) + r) * 72 + pn (gP s) + (pn (gP s) + r' - pn (gP s)) = (pn (gP s) + r) * 72 + (pn (gP s) + r') by omega]
        refine cl_tellPushing C2 R2 (fun r' a b => ?_) (fun V3 C3 R3 o3 => ⟨fun q => absurd q (by decide), fun _ => ?_⟩)
        · rw [es6] at b
          rw [tv r' a b]
          have bo := (T1.fr.2.1 r' a b).1
          have := zElm.le (by omega) dQ el (T1.fr.2.1 r ra rb).1 at'.2.1 (i := V1 (so + 1) r') bo
          rw [T1.fr.lift _ ⟨a, b⟩] at this
          omega
        · rw [es6, es1] at C3
          have ef : zlift (V1 so 6) (V1 (so + 1)) (fun r' => V11 (so + 3) (pn (gP s) + r')) = zlift (V1 so 6) (V1 (so + 1)) (fun r' => zRo (V1 (so + 7)) (pn (gP s) + r) (pn (gP s) + r')) := by
            funext k
            exact zlift_congr tv k
          rw [ef] at C3
          exact h01 z hi S1 V3 _ _ _ e1 dQ at' el C3 (fun q a b => by rw [o3 q (by omega), r11 q (by omega)]; exact fr1 q a b)
      · rw [T1.count C1.pl.ok] at le
        exact h00 z hi S1 V1 _ e1 (zcd_ok T1 C1.pl.ok) le C1 fr1
  exact ⟨fun z => run (Or.inl z), fun z => ⟨fun z1 => run (Or.inr z1), fun z1 => ⟨by omega, h2 (by omega)⟩⟩⟩
/-- a prime that primes() takes -/
def zPrm (p : Int) : Prop := p = 2 ∨ p = 3 ∨ p = 5 ∨ p = 7 ∨ p = 11
theorem sp_howOften {p n : Int} {F : Int → Prop} (hp : zPrm p) (hn : 1 ≤ n ∧ n ≤ 12) (h : F (zoft p n)) : SpF E 0 zm_X5_howOften [ziv p, ziv n] S V F := by
  have p2 : 2 ≤ p ∧ p ≤ 11 := by unfold zPrm at hp; omega
  refine en_X5_howOften (fun _ _ X => ?_)
  have key : ∀ (k : Nat) (c l : Int), (1 ≤ l ∧ l < 2 ^ (k + 1)) → c = 3 - k → k ≤ 3 → c + zoftN p (k + 1) l = zoft p n → zl_X5_howOften_4 E X F S p l c V := by
    intro k
    induction k with
    | zero =>
      intro c l hl hc hk hz
      have l1 : l = 1 := by have := hl.2; rw [show (2 : Int) ^ (0 + 1) = 2 from rfl] at this; omega
      have : zoftN p (0 + 1) l = 0 := by
        unfold zoftN
        rw [if_neg]
        rw [Int.emod_eq_of_lt (by omega) (by omega)]; omega
      rw [this, Int.add_zero] at hz
      exact wp_X5_howOften_4 ⟨fun _ => by rw [hz]; exact h, fun q => by omega⟩
    | succ k ih =>
      intro c l hl hc hk hz
      have h2 : (2 : Int) ^ (k + 1 + 1) = 2 ^ (k + 1) * 2 := Int.pow_succ 2 (k + 1)
      refine wp_X5_howOften_4 ⟨fun q => by omega, fun q => ⟨by omega, by omega, fun y => ?_, fun y x5 e5 => ⟨⟨by omega, by omega⟩, ?_⟩⟩⟩
      · have : zoftN p (k + 1 + 1) l = 0 := by
          unfold zoftN
          rw [if_neg y]
        rw [this, Int.add_zero] at hz
        rw [hz]; exact h
      · have el : l = p * x5 := by
          have := Int.mul_ediv_add_emod l p
          rw [y, Int.add_zero, ← e5] at this
          exact this.symm
        have x5p : 1 ≤ x5 := by
          rcases Int.lt_or_le x5 1 with w | w
          · exfalso
            have := Int.mul_le_mul_of_nonneg_left (show x5 ≤ 0 by omega) (show 0 ≤ p by omega)
            rw [Int.mul_zero] at this; omega
          · exact w
        have x5l : 2 * x5 ≤ l := by rw [el]; exact Int.mul_le_mul_of_nonneg_right p2.1 (by omega)
        refine ih (c + 1) x5 ⟨x5p, by omega⟩ (by omega) (by omega) ?_
        have : zoftN p (k + 1 + 1) l = 1 + zoftN p (k + 1) x5 := by
          show (if l % p = 0 then 1 + zoftN p (k + 1) (l / p) else 0) = _
          rw [if_pos y, ← e5]
        rw [this] at hz
        omega
  exact key 3 0 n ⟨hn.1, by show n < 16; omega⟩ (by omega) (by omega) (by rw [Int.zero_add]; rfl)
/-- primes of all pushings, of QUIET -/
def zPrA (P : zP) (p : Int) : Int := zsum (fun k => if pkd P k = 3 then 0 else 1) (pb P) * zoft p (pm P)
def zPrQ (P : zP) (d : Int → Int) (p : Int) : Int := zsum (fun k => zoft p (pm P / d k)) (pb P)
theorem zTab.fcount {P : zP} (T : zTab V so P) : V so 6 = zsum (fun k => if pkd P k = 3 then 0 else 1) (pb P) := by
  rw [← T.fr.sum (fun _ => 1)]
  have h : ∀ n, 0 ≤ n → zsum (fun _ => 1) n = n := zind (P := fun n => zsum (fun _ => 1) n = n) rfl (fun n hn ih => by rw [zsum_s _ hn, ih])
  rw [h _ T.fr.1.1]
theorem sp_primesAll {p lo kb pr : Int} {P : zP} {F : Int → Prop} (HP : zPl S V p P) (HS : zSo S V p lo so kb P) (T : zTab V so P) (hp : zPrm pr) (h : F (zPrA P pr)) : SpF E 1 zm_X5_primesOfAll [zrv so, ziv pr] S V F := by
  have o2 := HP.ok.2.1
  have o4 := HP.ok.2.2.2.1
  have f0 := T.fr.1
  have bo := zoft_le pr 4 (pm P)
  refine en_X5_primesOfAll (fun _ => ?_)
  rw [HS.2.1.2.1.1, HP.m]
  have ml := zmul_le (a := V so 6) (b := zoft pr (pm P)) (A := 36) (B := 4) ⟨by omega, by omega⟩ ⟨bo.1, bo.2⟩
  refine ⟨by rw [HS.2.1.1.1], HP.kp, sp_howOften hp ⟨by omega, by omega⟩ ⟨⟨by omega, by omega⟩, ?_⟩⟩
  rw [T.fcount]; exact h
theorem sp_primesQuiet {p lo kb pr : Int} {P : zP} {F : Int → Prop} (HP : zPl S V p P) (HS : zSo S V p lo so kb P) (T : zTab V so P) (hp : zPrm pr) (h : F (zPrQ P (zcd V so P) pr)) : SpF E 1 zm_X5_primesOfQuiet [zrv so, ziv pr] S V F := by
  have o1 := HP.ok.1
  have o2 := HP.ok.2.1
  have o4 := HP.ok.2.2.2.1
  have f0 := T.fr.1
  have ks : (S so).1 = 8 := by rw [HS.2.1.1.1]
  obtain ⟨-, ⟨g0, g3, g7, g8, g9⟩, FA⟩ := id HS.2.1
  have kf : (S (so + 4)).1 = 4 := by rw [FA.1.1]
  have p2 : 2 ≤ pr := by unfold zPrm at hp; omega
  have hq : zsum (fun r => zoft pr (pm P / zlead (pm P) (V (so + 6) (pn P + r)))) (V so 6) = zPrQ P (zcd V so P) pr := by
    rw [zsum_congr (g := fun r => zoft pr (pm P / zcd V so P (V (so + 1) r))) (fun r a b => by rw [zcd_free T ⟨a, b⟩]), T.fr.sum (fun k => zoft pr (pm P / zcd V so P k))]
    refine zsum_congr (fun k a b => ?_)
    by_cases z : pkd P k = 3
    · have e : zcd V so P k = pm P := if_pos z
      rw [if_pos z, e, Int.ediv_self (by omega), zoft_1 p2]
    · rw [if_neg z]
  refine en_X5_primesOfQuiet (fun _ X => ?_)
  rw [g3, T.f1]
  refine ⟨ks, kf, fun x3 e3 => ?_⟩
  rw [e3]
  have key := zdown (Q := fun r => zl_X5_primesOfQuiet_10 E X F S so pr (zsum (fun r => zoft pr (pm P / zlead (pm P) (V (so + 6) (pn P + r)))) r) (pn P + r) V) (N := V so 6) ?_ (fun r r0 r1 ih => ?_) 0 (by omega) (by omega)
  · rw [Int.add_zero] at key; exact key
  · refine wp_X5_primesOfQuiet_10 ?_
    rw [g3, T.f2]
    exact ⟨ks, kf, fun _ => by rw [hq]; exact h, fun q => by omega⟩
  · have bb := zsum_le (f := fun r => zoft pr (pm P / zlead (pm P) (V (so + 6) (pn P + r)))) (c := 4) r0 (fun j _ _ => zoft_le pr 4 _)
    have b1 := zoft_le pr 4 (pm P / zlead (pm P) (V (so + 6) (pn P + r)))
    obtain ⟨l1, l2⟩ := T.how.1 (pn P + r) (by omega) (by omega)
    rw [zsum_s _ r0, show pn P + (r + 1) = pn P + r + 1 by omega] at ih
    refine wp_X5_primesOfQuiet_10 ?_
    rw [g3, T.f2]
    refine ⟨ks, kf, fun q => by omega, fun _ => en_X1_orderAt (fun _ => ?_)⟩
    rw [FA.2.1.1, FA.1.2.1, T.f0]
    have fin : SpF E 0 zm_X5_howOften [ziv pr, ziv (pm P / zlead (pm P) (V (so + 6) (pn P + r)))] S V (fun x6 => (z32 ((zsum (fun r => zoft pr (pm P / zlead (pm P) (V (so + 6) (pn P + r)))) r) + x6)) ∧ ∀ x9 : Int, x9 = (zsum (fun r => zoft pr (pm P / zlead (pm P) (V (so + 6) (pn P + r)))) r) + x6 → (z32 ((pn P + r) + 1)) ∧ zl_X5_primesOfQuiet_10 E X F S so pr x9 ((pn P + r) + 1) V) := by
      have db : 1 ≤ pm P / zlead (pm P) (V (so + 6) (pn P + r)) ∧ pm P / zlead (pm P) (V (so + 6) (pn P + r)) ≤ 12 := by
        have d := (zcd_ok T HP.ok) (V (so + 1) r) (T.fr.2.1 r r0 r1).1.1 (T.fr.2.1 r r0 r1).1.2
        rw [zcd_free T ⟨r0, r1⟩] at d
        have q := zdq (show 0 < pm P by omega) d.1.1 d.1.2
        omega
      refine sp_howOften hp db ⟨?_, fun x9 e9 => ⟨⟨by omega, by omega⟩, by rw [e9]; exact ih⟩⟩
      have b1' : 0 ≤ zoft pr (pm P / zlead (pm P) (V (so + 6) (pn P + r))) ∧ zoft pr (pm P / zlead (pm P) (V (so + 6) (pn P + r))) ≤ 4 := b1
      exact ⟨by omega, by omega⟩
    refine ⟨kf, rfl, ⟨by omega, by show pn P + r < 72; omega⟩, fun z => ⟨by omega, by omega, ?_⟩, fun z => ?_⟩
    · have e : zlead (pm P) (V (so + 6) (pn P + r)) = V (so + 6) (pn P + r) := if_neg z
      rw [e] at fin; exact fin
    · have e : zlead (pm P) (V (so + 6) (pn P + r)) = pm P := if_pos z
      rw [e, Int.ediv_self (by omega)] at fin; exact fin
theorem cl_primes (H : zCl S V x s w) (hS : (S (x + 31)).1 ≠ 0) {mc ms : Nat} (hm : V x 7 = 0 → 9 ≤ mc ∧ 9282 ≤ ms) {what pr : Int} {F : Int → zS → zH → Prop}
    (h : zPrm pr → (0 ≤ what ∧ what ≤ 3) → ∀ S' V' d, zExt S S' → zDs (pm (gP s)) (pb (gP s)) (zQu (gP s)) d → zCl S' V' x s w → zFrm V V' x → F (if what = 0 then zPrA (gP s) pr - zPrQ (gP s) d pr else if what = 1 then zPrQ (gP s) d pr else if what = 2 then zPrA (gP s) pr else pn (gP s) * zoft pr (pm (gP s)) - (zPrA (gP s) pr - zPrQ (gP s) d pr)) S' V')
    (h0 : ¬ (zPrm pr ∧ (0 ≤ what ∧ what ≤ 3)) → F (-1) S V) : SaI E 6 mc ms zm_X7_primes [zrv x, ziv what, ziv pr] S V F := by
  have o1 := H.pl.ok.1
  have o2 := H.pl.ok.2.1
  have o4 := H.pl.ok.2.2.2.1
  refine en_X7_primes (fun _ _ X => ?_)
  have bA : 0 ≤ zPrA (gP s) pr ∧ zPrA (gP s) pr ≤ 144 := by
    have a1 := zsum_le (f := fun k => if pkd (gP s) k = 3 then 0 else 1) (c := 1) o4.1 (fun j _ _ => by split <;> omega)
    have a2 := zoft_le pr 4 (pm (gP s))
    exact zmul_le (a := zsum (fun k => if pkd (gP s) k = 3 then 0 else 1) (pb (gP s))) (b := zoft pr (pm (gP s))) (A := 36) (B := 4) ⟨a1.1, by omega⟩ ⟨a2.1, a2.2⟩
  have bQ : ∀ d, 0 ≤ zPrQ (gP s) d pr ∧ zPrQ (gP s) d pr ≤ 144 := fun d => by
    have a1 := zsum_le (f := fun k => zoft pr (pm (gP s) / d k)) (c := 4) o4.1 (fun j _ _ => zoft_le pr 4 _)
    unfold zPrQ; omega
  have run : zPrm pr → zl_X7_primes_29 E X F mc ms 0 0 S x what pr V := by
    intro hp
    refine wp_X7_primes_29 ⟨fun z => ⟨H.kx, mc, ms, by omega, cl_fresh H hS hm (fun S1 V1 so e1 C1 R1 fr1 => ?_)⟩, fun z => ⟨H.kx, mc, ms, by omega, cl_fresh H hS hm (fun S1 V1 so e1 C1 R1 fr1 => ?_)⟩, fun z => ⟨H.kx, mc, ms, by omega, cl_fresh H hS hm (fun S1 V1 so e1 C1 R1 fr1 => ?_)⟩, fun z => ⟨H.kx, mc, ms, by omega, cl_fresh H hS hm (fun S1 V1 so e1 C1 R1 fr1 => ?_)⟩, fun z => ⟨by omega, h0 (by omega)⟩⟩
    all_goals
      obtain ⟨⟨r1, r2⟩, r3, T1, r5⟩ := id R1
      have fin := h hp (by omega) S1 V1 _ e1 (zcd_ok T1 C1.pl.ok) C1 fr1
      have ks : (S1 so).1 = 8 := by rw [r3.2.1.1.1]
      have bq := bQ (zcd V1 so (gP s))
    · rw [if_pos z] at fin
      exact ⟨ks, by omega, en_X5_primesOfPatterns (fun _ => ⟨ks, sp_primesAll C1.pl r3 T1 hp (sp_primesQuiet C1.pl r3 T1 hp ⟨⟨by omega, by omega⟩, fin⟩)⟩)⟩
    · rw [if_neg (by omega), if_pos z] at fin
      exact ⟨ks, by omega, sp_primesQuiet C1.pl r3 T1 hp fin⟩
    · rw [if_neg (by omega), if_neg (by omega), if_pos z] at fin
      exact ⟨ks, by omega, sp_primesAll C1.pl r3 T1 hp fin⟩
    · rw [if_neg (by omega), if_neg (by omega), if_neg (by omega)] at fin
      refine ⟨ks, by omega, en_X5_primesOfWeights (fun _ => ?_)⟩
      rw [r3.2.1.2.1.1, C1.pl.m, C1.pl.n]
      have a2 := zoft_le pr 4 (pm (gP s))
      have ml := zmul_le (a := pn (gP s)) (b := zoft pr (pm (gP s))) (A := 36) (B := 4) ⟨by omega, by omega⟩ ⟨a2.1, a2.2⟩
      exact ⟨ks, C1.p, sp_howOften hp ⟨by omega, by omega⟩ ⟨⟨by omega, by omega⟩, en_X5_primesOfPatterns (fun _ => ⟨ks, sp_primesAll C1.pl r3 T1 hp (sp_primesQuiet C1.pl r3 T1 hp ⟨⟨by omega, by omega⟩, ⟨by omega, by omega⟩, fin⟩)⟩)⟩⟩
  have no : ¬ zPrm pr → F (-1) S V := fun q => h0 (fun r => q r.1)
  exact ⟨fun z => run (by unfold zPrm; omega), fun z => ⟨fun z1 => run (by unfold zPrm; omega), fun z1 => ⟨fun z2 => run (by unfold zPrm; omega), fun z2 => ⟨fun z3 => run (by unfold zPrm; omega), fun z3 => ⟨fun z4 => run (by unfold zPrm; omega), fun z4 => ⟨by omega, no (by unfold zPrm; omega)⟩⟩⟩⟩⟩⟩
end CLBASE2
