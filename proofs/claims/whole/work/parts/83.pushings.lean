/-! THE REFERENCE'S LATTICES: pushings(), weights() -/
abbrev zpd (V : zH) (o : Int) : Int → Int := fun k => zRw (V (o + 5)) k k
theorem zdvd_iff {m x y : Int} (h : m ∣ x - y) : m ∣ x ↔ m ∣ y := ⟨fun a => by have := zdvd_sub a h; rw [show x - (x - y) = y by omega] at this; exact this, fun a => by have := zdvd_add h a; rw [Int.sub_add_cancel] at this; exact this⟩
/-- pushings (and how often what is shown): the lamps below i, the STUCK buttons below j -/
def zKp (P : zP) (i j : Int) (z : Int → Int) : Prop := (∀ l, 0 ≤ l → l < i → pm P ∣ zsum (fun k => z k * zstp P k l) (pb P) - z (pb P) * psh P l) ∧ ∀ k, 0 ≤ k → k < j → pkd P k = 3 → pm P ∣ z k
theorem zKp.lat (P : zP) (hb : 0 ≤ pb P) (i j : Int) (hj : j ≤ pb P) : zLat (pm P) (pb P + 1) (zKp P i j) := by
  refine ⟨⟨fun l _ _ => ?_, fun k _ _ _ => Int.dvd_zero _⟩, fun a b ha hb => ⟨fun l x y => ?_, fun k x y z => zdvd_add (ha.2 k x y z) (hb.2 k x y z)⟩, fun c a ha => ⟨fun l x y => ?_, fun k x y z => zdvd_mul c (ha.2 k x y z)⟩, fun a b ha e => ⟨fun l x y => ?_, fun k x y z => ?_⟩⟩
  · show pm P ∣ zsum (fun k => (0 : Int) * zstp P k l) (pb P) - 0 * psh P l
    rw [zsum_zero (fun k _ _ => Int.zero_mul _), Int.zero_mul]; exact Int.dvd_zero _
  · have := zdvd_add (ha.1 l x y) (hb.1 l x y)
    show pm P ∣ zsum (fun k => (a k + b k) * zstp P k l) (pb P) - (a (pb P) + b (pb P)) * psh P l
    rw [zsum_lin_add, Int.add_mul]
    rw [show ∀ p q r s : Int, p + q - (r + s) = p - r + (q - s) from fun p q r s => by omega]; exact this
  · have := zdvd_mul c (ha.1 l x y)
    show pm P ∣ zsum (fun k => c * a k * zstp P k l) (pb P) - c * a (pb P) * psh P l
    rw [zsum_lin_mul, Int.mul_assoc, ← Int.mul_sub]; exact this
  · have h1 := zsum_lin_cg (g := fun k => zstp P k l) (n := pb P) (x := a) (y := b) (fun k ka kb => e k ka (by omega))
    have h2 := zdvd_mul (psh P l) (e (pb P) hb (by omega))
    have h3 := zdvd_add (zdvd_sub h1 h2) (ha.1 l x y)
    rw [Int.mul_sub, Int.mul_comm (psh P l) (b (pb P)), Int.mul_comm (psh P l) (a (pb P))] at h3
    rw [show ∀ p q r s t : Int, p - q - (r - s) + (q - s) = p - r from fun p q r s t => by omega] at h3
    · exact h3
    · exact 0
  · have := zdvd_add (e k x (by omega)) (ha.2 k x y z)
    rw [Int.sub_add_cancel] at this; exact this
theorem zKp.lamp {P : zP} (hb : 0 ≤ pb P) {i : Int} (hi : 0 ≤ i) {f : Int → Int} (f0 : ∀ k, 0 ≤ k → k < pb P → f k = zstp P k i) (f1 : f (pb P) = (pm P - psh P i) % pm P) (z : Int → Int) : zKf (pm P) (pb P + 1) (zKp P i 0) f z ↔ zKp P (i + 1) 0 z := by
  have key : pm P ∣ zdf (pb P + 1) f z ↔ pm P ∣ zsum (fun k => z k * zstp P k i) (pb P) - z (pb P) * psh P i := by
    unfold zdf
    rw [zsum_s _ hb, zsum_congr (f := fun k => f k * z k) (g := fun k => z k * zstp P k i) (fun k a b => by rw [f0 k a b, Int.mul_comm]), f1]
    have h := zdvd_mul (z (pb P)) (zdvd_emod (pm P) (pm P - psh P i))
    have h2 := zdvd_add h (Int.dvd_mul_left (z (pb P)) (pm P))
    rw [Int.mul_sub, Int.mul_sub] at h2
    refine zdvd_iff ?_
    rw [Int.mul_comm ((pm P - psh P i) % pm P) (z (pb P))]
    rw [show ∀ A p q r : Int, A + p - (A - q) = p - (r - q) + r from fun A p q r => by omega]
    · exact h2
  constructor
  · intro h
    refine ⟨fun l a b => ?_, fun k a b => by omega⟩
    by_cases c : l = i
    · rw [c]; exact key.mp h.2
    · exact h.1.1 l a (by omega)
  · intro h
    exact ⟨⟨fun l a b => h.1 l a (by omega), fun k a b => by omega⟩, key.mpr (h.1 i hi (by omega))⟩
theorem zKp.stuck {P : zP} {k : Int} (hk : 0 ≤ k ∧ k < pb P) {f : Int → Int} (f1 : f k = 1) (f0 : ∀ j, 0 ≤ j → j < pb P + 1 → j ≠ k → f j = 0) (h3 : pkd P k = 3) (z : Int → Int) : zKf (pm P) (pb P + 1) (zKp P (pn P) k) f z ↔ zKp P (pn P) (k + 1) z := by
  have e : zdf (pb P + 1) f z = z k := by
    unfold zdf
    rw [zsum_one (i := k) hk.1 (by omega) (fun j a b c => by rw [f0 j a b c, Int.zero_mul]), f1, Int.one_mul]
  constructor
  · intro h
    refine ⟨h.1.1, fun j a b c => ?_⟩
    by_cases d : j = k
    · rw [d, ← e]; exact h.2
    · exact h.1.2 j a (by omega) c
  · intro h
    exact ⟨⟨h.1, fun j a b c => h.2 j a (by omega) c⟩, by rw [e]; exact h.2 k hk.1 (by omega) h3⟩
theorem zKp.free {P : zP} {k : Int} (h3 : pkd P k ≠ 3) (z : Int → Int) : zKp P (pn P) k z ↔ zKp P (pn P) (k + 1) z := by
  constructor
  · intro h
    refine ⟨h.1, fun j a b c => ?_⟩
    by_cases d : j = k
    · rw [d] at c; exact absurd c h3
    · exact h.2 j a (by omega) c
  · intro h
    exact ⟨h.1, fun j a b c => h.2 j a (by omega) c⟩
/-- the rows as pushings() leaves them -/
def zRf (V : zH) (o : Int) (P : zP) : Prop :=
  zDs (pm P) (pb P) (zQu P) (zpd V o) ∧ (∀ k, 0 ≤ k → k < pb P → zElm (pb P) (zQu P) (zpd V o) k (zRw (V (o + 5)) k)) ∧ ((∃ x, zSol P x) → zRw (V (o + 5)) (pb P) (pb P) = 1) ∧ (zRw (V (o + 5)) (pb P) (pb P) = 1 → zCan P (zpd V o) (zRw (V (o + 5)) (pb P)))
theorem zRf.of {V : zH} {o : Int} {P : zP} (hb : 0 ≤ pb P) (hT : ∀ k, 0 ≤ k → k < pb P + 1 → zTr (pm P) (pb P + 1) (zKp P (pn P) (pb P)) (zRw (V (o + 5))) k) (hr : ∀ k i, 0 ≤ i → i < k → k < pb P + 1 → zRw (V (o + 5)) k i < zRw (V (o + 5)) i i) : zRf V o P := by
  have qk : ∀ z, zKp P (pn P) (pb P) z → z (pb P) = 0 → zQu P z := fun z hz h0 => ⟨fun l a b => by have := hz.1 l a b; rw [h0, Int.zero_mul, Int.sub_zero] at this; exact this, hz.2⟩
  have kq : ∀ (z : Int → Int) (c : Int), zKp P (pn P) (pb P) (fun j => if j = pb P then c else z j) ↔ ((∀ l, 0 ≤ l → l < pn P → pm P ∣ zsum (fun k => z k * zstp P k l) (pb P) - c * psh P l) ∧ ∀ k, 0 ≤ k → k < pb P → pkd P k = 3 → pm P ∣ z k) := fun z c => by
    have e : ∀ l, zsum (fun k => (if k = pb P then c else z k) * zstp P k l) (pb P) = zsum (fun k => z k * zstp P k l) (pb P) := fun l => zsum_congr (fun k a b => by rw [if_neg (by omega)])
    constructor
    · intro h
      refine ⟨fun l a b => ?_, fun k a b d => ?_⟩
      · have := h.1 l a b
        dsimp only at this
        rw [e, if_pos rfl] at this; exact this
      · have := h.2 k a b d
        dsimp only at this
        rw [if_neg (by omega)] at this; exact this
    · intro h
      refine ⟨fun l a b => ?_, fun k a b d => ?_⟩
      · dsimp only
        rw [e, if_pos rfl]; exact h.1 l a b
      · dsimp only
        rw [if_neg (by omega)]; exact h.2 k a b d
  have rq : ∀ k, 0 ≤ k → k < pb P → zQu P (zRw (V (o + 5)) k) := fun k a b => qk _ (hT k a (by omega)).2.1 ((hT k a (by omega)).2.2.1 (pb P) b (by omega))
  refine ⟨fun k a b => ⟨(hT k a (by omega)).1, ⟨_, rq k a b, rfl, fun i c d => (hT k a (by omega)).2.2.1 i c (by omega)⟩, fun z hz hz0 => ?_⟩, fun k a b => ⟨rq k a b, rfl, fun i c d => (hT k a (by omega)).2.2.1 i c (by omega), fun i c d => ⟨((hT k a (by omega)).2.2.2.1 i c d).1, hr k i c d (by omega)⟩⟩, fun hx => ?_, fun h1 => ?_⟩
  · have := (hT k a (by omega)).2.2.2.2 (fun j => if j = pb P then 0 else z j) ((kq z 0).mpr ⟨fun l x y => by rw [Int.zero_mul, Int.sub_zero]; exact hz.1 l x y, hz.2⟩) (fun i x y => by
      by_cases c : i = pb P
      · rw [if_pos c]; exact Int.dvd_zero _
      · rw [if_neg c]; exact hz0 i x (by omega))
    rw [if_neg (by omega)] at this; exact this
  · obtain ⟨x, hx⟩ := hx
    have := (hT (pb P) hb (by omega)).2.2.2.2 (fun j => if j = pb P then 1 else x j) ((kq x 1).mpr ⟨fun l a b => by rw [Int.one_mul]; exact hx.1 l a b, hx.2⟩) (fun i a b => by omega)
    rw [if_pos rfl] at this
    have := zdvd_le this (by omega)
    have := (hT (pb P) hb (by omega)).1.1
    omega
  · have hK := (hT (pb P) hb (by omega)).2.1
    refine ⟨⟨fun l a b => ?_, hK.2⟩, fun k a b => ⟨((hT (pb P) hb (by omega)).2.2.2.1 k a b).1, hr (pb P) k a b (by omega)⟩⟩
    have := hK.1 l a b
    rw [h1, Int.one_mul] at this; exact this
section PUSHINGS
variable {E : zE} {S : zS} {V : zH} {o : Int} {P : zP}
theorem s8_pushings {F : zH → Prop} (M : zMo S V o P) (hF : ∀ V', zLf V V' o → zRf V' o P → F V') : SpV E 4 zm_X8_pushings [zrv o] S V F := by
  have o1 := M.ok.1
  have o2 := M.ok.2.1
  have o4 := M.ok.2.2.2.1
  have hL : ∀ i j, j ≤ pb P → zLat (pm P) (pb P + 1) (zKp P i j) := fun i j hj => zKp.lat P o4.1 i j hj
  refine en_X8_pushings (fun X => ⟨M.ko, s8_b M ⟨⟨by omega, by omega⟩, s8_whole M ⟨by omega, by omega⟩ (fun V6 l6 d6 r6 f6 => ?_)⟩⟩)
  -- STUCK buttons
  have stuck := zdown (Q := fun k => ∀ V1, zLf V V1 o → V1 o 10 = pb P + 1 → (∀ j, 0 ≤ j → j < pb P + 1 → zTr (pm P) (pb P + 1) (zKp P (pn P) k) (zRw (V1 (o + 5))) j) → (∀ j, 0 ≤ j → j < pb P + 1 → V1 (o + 6) j = 0) → zl_X8_pushings_110 E X F S o (pb P) k V1) (N := pb P) (fun V1 h1 h2 h3 h4 => ?_) (fun k a b ih V1 h1 h2 h3 h4 => ?_)
  · -- f is cleared
    have clr := zdown (Q := fun k => ∀ V1, zLf V V1 o → V1 o 10 = pb P + 1 → (∀ j, 0 ≤ j → j < pb P + 1 → zTr (pm P) (pb P + 1) (zKp P (pn P) 0) (zRw (V1 (o + 5))) j) → (∀ j, 0 ≤ j → j < k → V1 (o + 6) j = 0) → zl_X8_pushings_83 E X F S o (pb P) k V1) (N := pb P) (fun V1 h1 h2 h3 h4 => ?_) (fun k a b ih V1 h1 h2 h3 h4 => ?_)
    · -- lamps
      have lamps := zdown (Q := fun i => ∀ V1, zLf V V1 o → V1 o 10 = pb P + 1 → (∀ j, 0 ≤ j → j < pb P + 1 → zTr (pm P) (pb P + 1) (zKp P i 0) (zRw (V1 (o + 5))) j) → zl_X8_pushings_14 E X F S o (pb P) i V1) (N := pn P) (fun V1 h1 h2 h3 => ?_) (fun i a b ih V1 h1 h2 h3 => ?_)
      · refine lamps 0 (by omega) (by omega) V6 l6 d6 (fun j a b => ⟨?_, ⟨fun l x y => by omega, fun k x y => by omega⟩, fun i x y => ?_, fun i x y => ?_, fun z _ _ => ?_⟩)
        · rw [r6 j j a b a (by omega), if_pos rfl]; exact ⟨by omega, Int.one_dvd _⟩
        · rw [r6 j i a b (by omega) (by omega), if_neg (by omega)]
        · rw [r6 j i a b (by omega) (by omega), if_neg (by omega)]; omega
        · rw [r6 j j a b a (by omega), if_pos rfl]; exact Int.one_dvd _
      · refine wp_X8_pushings_14 ⟨M.ko, s8_n (h1.mo M) ⟨fun _ => clr 0 (by omega) (by omega) V1 h1 h2 h3 (fun j _ _ => by omega), fun q => by omega⟩⟩
      · refine wp_X8_pushings_14 ⟨M.ko, s8_n (h1.mo M) ⟨fun q => by omega, fun _ => ?_⟩⟩
        have fill := zdown (Q := fun k => ∀ V2, zLf V V2 o → V2 o 10 = pb P + 1 → V2 (o + 5) = V1 (o + 5) → (∀ j, 0 ≤ j → j < k → V2 (o + 6) j = zstp P j i) → zl_X8_pushings_24 E X F S o (pb P) i k V2) (N := pb P) (fun V2 g1 g2 g3 g4 => ?_) (fun k c d ihk V2 g1 g2 g3 g4 => ?_) 0 (by omega) (by omega)
        · exact fill V1 h1 h2 rfl (fun j _ _ => by omega)
        · have M2 := g1.mo M
          have sh := M.ok.2.2.2.2.1 i a b
          refine wp_X8_pushings_24 ⟨fun _ => ⟨M.ko, s8_m M2 ?_⟩, fun q => by omega⟩
          rw [M2.f0, M2.f11, M.t1, M.t6, M2.sh ⟨a, b⟩]
          refine ⟨⟨by omega, by omega⟩, rfl, ⟨by omega, by show 4 + i < 1516; omega⟩, ⟨by omega, by omega⟩, s8_m M2 ⟨by omega, by omega, rfl, ⟨by omega, by show pb P < 37; omega⟩, fun V15 e15 => ?_⟩⟩
          have l15 : zLf V V15 o := by rw [e15]; exact g1.put (by omega)
          have fk : ∀ j, 0 ≤ j → j < pb P → V15 (o + 6) j = zstp P j i := fun j x y => by rw [e15, zput_nk _ _ _ _ (by omega)]; exact g4 j x y
          have fb : V15 (o + 6) (pb P) = (pm P - psh P i) % pm P := by rw [e15, zput_self]
          refine s8_impose (l15.mo M) (n := pb P + 1) (by rw [e15, zput_row _ _ _ (by omega)]; exact g2) ⟨by omega, by omega⟩ (hL i 0 o4.1) (fun j x y => by rw [e15, zput_row _ _ _ (by omega), g3]; exact h3 j x y) (fun j x y => ?_) (fun V18 g k1 k2 _ _ _ _ => ⟨⟨by omega, by omega⟩, ih V18 (l15.trans k1.lf) ?_ (fun j x y => (k2 j x y).iff (zKp.lamp o4.1 a fk fb))⟩)
          · by_cases c : j = pb P
            · rw [c, fb]; exact zmod_le _ (by omega)
            · rw [fk j x (by omega)]; exact zstp_le M.ok j i
          · rw [k1.2 10 (by decide) (by decide), e15, zput_row _ _ _ (by omega)]; exact g2
        · have M2 := g1.mo M
          refine wp_X8_pushings_24 ⟨fun q => by omega, fun _ => ⟨M.ko, s8_steps M2 ⟨c, d⟩ ⟨a, b⟩ ?_⟩⟩
          rw [M2.f11, M.t6]
          refine ⟨rfl, ⟨c, by show k < 37; omega⟩, fun V25 e25 => ⟨⟨by omega, by omega⟩, ihk V25 (by rw [e25]; exact g1.put (by omega)) (by rw [e25, zput_row _ _ _ (by omega)]; exact g2) (by rw [e25, zput_row _ _ _ (by omega)]; exact g3) (fun j x y => ?_)⟩⟩
          rw [e25]
          by_cases hj : j = k
          · rw [hj, zput_self]
          · rw [zput_nk _ _ _ _ hj]; exact g4 j x (by omega)
    · have M1 := h1.mo M
      refine wp_X8_pushings_83 ⟨fun _ => ?_, fun q => by omega⟩
      rw [M1.f11, M.t6]
      refine ⟨M.ko, rfl, ⟨by omega, by show pb P < 37; omega⟩, fun V5 e5 => stuck 0 (by omega) (by omega) V5 (by rw [e5]; exact h1.put (by omega)) (by rw [e5, zput_row _ _ _ (by omega)]; exact h2) (by rw [e5, zput_row _ _ _ (by omega)]; exact h3) (fun j x y => ?_)⟩
      rw [e5]
      by_cases hj : j = pb P
      · rw [hj, zput_self]
      · rw [zput_nk _ _ _ _ hj]; exact h4 j x (by omega)
    · have M1 := h1.mo M
      refine wp_X8_pushings_83 ⟨fun q => by omega, fun _ => ?_⟩
      rw [M1.f11, M.t6]
      refine ⟨M.ko, rfl, ⟨a, by show k < 37; omega⟩, fun V5 e5 => ⟨⟨by omega, by omega⟩, ih V5 (by rw [e5]; exact h1.put (by omega)) (by rw [e5, zput_row _ _ _ (by omega)]; exact h2) (by rw [e5, zput_row _ _ _ (by omega)]; exact h3) (fun j x y => ?_)⟩⟩
      rw [e5]
      by_cases hj : j = k
      · rw [hj, zput_self]
      · rw [zput_nk _ _ _ _ hj]; exact h4 j x (by omega)
  · refine wp_X8_pushings_110 ⟨fun _ => ⟨M.ko, s8_reduce (h1.mo M) h2 ⟨by omega, by omega⟩ (hL _ _ (Int.le_refl _)) h3 (fun g t1 t2 t3 => hF _ (h1.arr g) (zRf.of o4.1 (by rw [zarr_self]; exact t1) (by rw [zarr_self]; exact t3)))⟩, fun q => by omega⟩
  · have M1 := h1.mo M
    refine wp_X8_pushings_110 ⟨fun q => by omega, fun _ => ⟨M.ko, s8_isStuck M1 ⟨a, b⟩ (fun k3 => ⟨fun q => absurd q (by decide), fun _ => ?_⟩) (fun k3 => ⟨fun _ => ⟨⟨by omega, by omega⟩, ih V1 h1 h2 (fun j x y => (h3 j x y).iff (zKp.free k3)) h4⟩, fun q => absurd rfl q⟩)⟩⟩
    rw [M1.f11, M.t6]
    refine ⟨rfl, ⟨a, by show k < 37; omega⟩, fun V12 e12 => ?_⟩
    have l12 : zLf V V12 o := by rw [e12]; exact h1.put (by omega)
    have fk : V12 (o + 6) k = 1 := by rw [e12, zput_self]
    have f0 : ∀ j, 0 ≤ j → j < pb P + 1 → j ≠ k → V12 (o + 6) j = 0 := fun j x y c => by rw [e12, zput_nk _ _ _ _ c]; exact h4 j x y
    refine s8_impose (l12.mo M) (n := pb P + 1) (by rw [e12, zput_row _ _ _ (by omega)]; exact h2) ⟨by omega, by omega⟩ (hL _ k (by omega)) (fun j x y => by rw [e12, zput_row _ _ _ (by omega)]; exact h3 j x y) (fun j x y => ?_) (fun V15 g k1 k2 _ _ _ _ => ?_)
    · by_cases c : j = k
      · rw [c, fk]; omega
      · rw [f0 j x y c]; omega
    · have l15 := l12.trans k1.lf
      rw [(l15.mo M).f11, M.t6]
      refine ⟨rfl, ⟨a, by show k < 37; omega⟩, fun V18 e18 => ⟨⟨by omega, by omega⟩, ih V18 (by rw [e18]; exact l15.put (by omega)) (by rw [e18, zput_row _ _ _ (by omega), k1.2 10 (by decide) (by decide), e12, zput_row _ _ _ (by omega)]; exact h2) (fun j x y => by rw [e18, zput_row _ _ _ (by omega)]; exact (k2 j x y).iff (zKp.stuck ⟨a, b⟩ fk f0 k3)) (fun j x y => ?_)⟩⟩
      rw [e18]
      by_cases c : j = k
      · rw [c, zput_self]
      · rw [zput_nk _ _ _ _ c, k1.1 _ (by omega) (by omega) (by omega) (by omega)]; exact f0 j x y c
end PUSHINGS
/-- the rows as weights() leaves them -/
def zWf (V : zH) (o : Int) (P : zP) : Prop :=
  zDs (pm P) (pn P) (zWt P) (zpd V o) ∧ (∀ k, 0 ≤ k → k < pn P → zElm (pn P) (zWt P) (zpd V o) k (zRw (V (o + 5)) k)) ∧ ∀ d, zDs (pm P) (pb P) (zQu P) d → ∀ p, zPrm p → zsum (fun j => zoft p (zpd V o j)) (pn P) = zsum (fun k => if pkd P k = 3 then 0 else zoft p (d k)) (pb P)
theorem zdf_dw {n : Int} (hn : 0 ≤ n) {f y a : Int → Int} (h : ∀ i, 0 ≤ i → i < n → f (n - 1 - i) = a i) : zdf n f y = zdw n y a := by
  unfold zdf zdw
  rw [zsum_rev n hn]
  exact zsum_congr (fun i x z => by rw [h i x z, Int.mul_comm])
theorem zWj.step {P : zP} (hn : 0 ≤ pn P) {k : Int} (hk : 0 ≤ k) {f : Int → Int} (h3 : pkd P k ≠ 3) (f0 : ∀ i, 0 ≤ i → i < pn P → f (pn P - 1 - i) = zstp P k i) (z : Int → Int) : zKf (pm P) (pn P) (zWj P k) f z ↔ zWj P (k + 1) z := by
  have e := zdf_dw (y := z) hn f0
  constructor
  · intro h j a b c
    by_cases d : j = k
    · rw [d, ← e]; exact h.2
    · exact h.1 j a (by omega) c
  · intro h
    exact ⟨fun j a b c => h j a (by omega) c, by rw [e]; exact h k hk (by omega) h3⟩
theorem zWj.free {P : zP} {k : Int} (h3 : pkd P k = 3) (z : Int → Int) : zWj P k z ↔ zWj P (k + 1) z := by
  constructor
  · intro h j a b c
    by_cases d : j = k
    · rw [d] at c; exact absurd h3 c
    · exact h j a (by omega) c
  · exact fun h j a b c => h j a (by omega) c
section WEIGHTS
variable {E : zE} {S : zS} {V : zH} {o : Int} {P : zP}
theorem s8_weights {F : zH → Prop} (M : zMo S V o P) (hF : ∀ V', zLf V V' o → zWf V' o P → F V') : SpV E 4 zm_X8_weights [zrv o] S V F := by
  have o1 := M.ok.1
  have o2 := M.ok.2.1
  have o4 := M.ok.2.2.2.1
  refine en_X8_weights (fun X => ⟨M.ko, s8_n M (s8_whole M ⟨by omega, by omega⟩ (fun V6 l6 d6 r6 f6 => ?_))⟩)
  have lp := zdown (Q := fun k => ∀ V1, zLf V V1 o → V1 o 10 = pn P → (∀ j, 0 ≤ j → j < pn P → zTr (pm P) (pn P) (zWj P k) (zRw (V1 (o + 5))) j) → (∀ i, 0 ≤ i → i < pn P → 0 ≤ V1 (o + 6) i ∧ V1 (o + 6) i < pm P) → (∀ d, zDs (pm P) (pb P) (zQu P) d → ∀ p, zPrm p → zsum (fun j => zoft p (zRw (V1 (o + 5)) j j)) (pn P) = zsum (fun k => if pkd P k = 3 then 0 else zoft p (d k)) k) → zl_X8_weights_10 E X F S o k V1) (N := pb P) (fun V1 h1 h2 h3 h4 h5 => ?_) (fun k a b ih V1 h1 h2 h3 h4 h5 => ?_) 0 (by omega) (by omega)
  · refine lp V6 l6 d6 (fun j a b => ⟨?_, fun k _ _ => by omega, fun i x y => ?_, fun i x y => ?_, fun z _ _ => ?_⟩) (fun i a b => by rw [f6 i a b]; omega) (fun d hd p hp => ?_)
    · rw [r6 j j a b a (by omega), if_pos rfl]; exact ⟨by omega, Int.one_dvd _⟩
    · rw [r6 j i a b (by omega) (by omega), if_neg (by omega)]
    · rw [r6 j i a b (by omega) (by omega), if_neg (by omega)]; omega
    · rw [r6 j j a b a (by omega), if_pos rfl]; exact Int.one_dvd _
    · rw [zsum_0]
      exact zsum_zero (fun j a b => by rw [r6 j j a b a (by omega), if_pos rfl, zoft_1 (by unfold zPrm at hp; omega)])
  · refine wp_X8_weights_10 ⟨M.ko, s8_b (h1.mo M) ⟨fun _ => s8_reduce (h1.mo M) h2 ⟨by omega, by omega⟩ (zWj.lat P _) h3 (fun g t1 t2 t3 => hF _ (h1.arr g) ?_), fun q => by omega⟩⟩
    unfold zWf zpd
    rw [zarr_self]
    refine ⟨fun k a b => (t1 k a b).pv, fun k a b => ⟨(t1 k a b).2.1, rfl, (t1 k a b).2.2.1, fun i x y => ⟨((t1 k a b).2.2.2.1 i x y).1, t3 k i x y b⟩⟩, fun d hd p hp => ?_⟩
    rw [← h5 d hd p hp]
    exact zsum_congr (fun j a b => by rw [t2 j a b])
  · have M1 := h1.mo M
    refine wp_X8_weights_10 ⟨M.ko, s8_b M1 ⟨fun q => by omega, fun _ => s8_isStuck M1 ⟨a, b⟩ (fun k3 => ⟨fun q => absurd q (by decide), fun _ => ⟨⟨by omega, by omega⟩, ih V1 h1 h2 (fun j x y => (h3 j x y).iff (zWj.free k3)) h4 (fun d hd p hp => ?_)⟩⟩) (fun k3 => ⟨fun _ => ?_, fun q => absurd rfl q⟩)⟩⟩
    · rw [h5 d hd p hp, zsum_s _ a, if_pos k3, Int.add_zero]
    · have fill := zdown (Q := fun i => ∀ V2, zLf V V2 o → V2 o 10 = pn P → V2 (o + 5) = V1 (o + 5) → (∀ j, 0 ≤ j → j < i → V2 (o + 6) (pn P - 1 - j) = zstp P k j) → zl_X8_weights_31 E X F S o k i V2) (N := pn P) (fun V2 g1 g2 g3 g4 => ?_) (fun i c d ihi V2 g1 g2 g3 g4 => ?_) 0 (by omega) (by omega)
      · exact fill V1 h1 h2 rfl (fun j _ _ => by omega)
      · have M2 := g1.mo M
        have fb : ∀ j, 0 ≤ j → j < pn P → 0 ≤ V2 (o + 6) j ∧ V2 (o + 6) j < pm P := fun j x y => by
          have := g4 (pn P - 1 - j) (by omega) (by omega)
          rw [show pn P - 1 - (pn P - 1 - j) = j by omega] at this
          rw [this]; exact zstp_le M.ok _ _
        refine wp_X8_weights_31 ⟨M.ko, s8_n M2 ⟨fun _ => s8_impose M2 g2 ⟨by omega, by omega⟩ (zWj.lat P k) (fun j x y => by rw [g3]; exact h3 j x y) fb (fun V6 g k1 k2 k3' k4 k5 k6 => ⟨⟨by omega, by omega⟩, ih V6 (g1.trans k1.lf) (by rw [k1.2 10 (by decide) (by decide)]; exact g2) (fun j x y => (k2 j x y).iff (zWj.step (by omega) a k3 g4)) (fun i x y => by rw [k1.1 _ (by omega) (by omega) (by omega) (by omega)]; exact fb i x y) (fun d hd p hp => ?_)⟩), fun q => by omega⟩⟩
        have e : ∀ y, zdf (pn P) (V2 (o + 6)) y = zdw (pn P) y (fun i => zstp P k i) := fun y => zdf_dw (by omega) g4
        have pv := zPv_dual P (by omega) ⟨a, b⟩ k3 k3' (by obtain ⟨u, u1, u2⟩ := k4; exact ⟨u, u1, by rw [← e]; exact u2⟩) (fun y hy => by rw [← e]; exact k5 y hy)
        have ed := (hd k a b).uniq pv
        have h5' := h5 d hd p hp
        rw [k6 p hp, g3, h5', zsum_s _ a, if_neg k3, ed]
      · have M2 := g1.mo M
        refine wp_X8_weights_31 ⟨M.ko, s8_n M2 ⟨fun q => by omega, fun _ => s8_n M2 ⟨⟨by omega, by omega⟩, ⟨by omega, by omega⟩, s8_steps M2 ⟨a, b⟩ ⟨c, d⟩ ?_⟩⟩⟩
        rw [M2.f11, M.t6]
        refine ⟨rfl, ⟨by omega, by show pn P - 1 - i < 37; omega⟩, fun V16 e16 => ⟨⟨by omega, by omega⟩, ihi V16 (by rw [e16]; exact g1.put (by omega)) (by rw [e16, zput_row _ _ _ (by omega)]; exact g2) (by rw [e16, zput_row _ _ _ (by omega)]; exact g3) (fun j x y => ?_)⟩⟩
        rw [e16]
        by_cases hj : j = i
        · rw [hj, zput_self]
        · rw [zput_nk _ _ _ _ (by omega)]; exact g4 j x (by omega)
end WEIGHTS
