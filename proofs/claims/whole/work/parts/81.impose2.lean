/-! THE REFERENCE'S LATTICES: impose() -/
def zRw (g : Int → Int) : Int → Int → Int := fun k i => g (37 * k + i)
theorem zdf_s {n k : Int} (hk : 0 ≤ k ∧ k < n) (f : Int → Int) {z : Int → Int} (hz : ∀ i, k < i → i < n → z i = 0) : zdf n f z = zsum (fun i => f i * z i) (k + 1) := by
  unfold zdf
  have h := zsum_from (fun i => f i * z i) (show 0 ≤ k + 1 by omega) (n - (k + 1)) (by omega)
  rw [show k + 1 + (n - (k + 1)) = n by omega] at h
  rw [h, zsum_zero (f := fun j => f (k + 1 + j) * z (k + 1 + j)) (fun j a b => by rw [hz _ (by omega) (by omega), Int.mul_zero]), Int.add_zero]
section IMPOSE
variable {E : zE} {S : zS} {V : zH} {o : Int} {P : zP}
/-- only the rows v, u, old and times1, times2 have changed -/
def zIm (V V1 : zH) (o : Int) : Prop := (∀ q, q ≠ o → q ≠ o + 5 → q ≠ o + 7 → q ≠ o + 8 → V1 q = V q) ∧ ∀ j, j ≠ 14 → j ≠ 15 → V1 o j = V o j
theorem zIm.mo {V1 : zH} (h : zIm V V1 o) (M : zMo S V o P) : zMo S V1 o P := M.frame (fun j hj => h.2 j (by omega) (by omega)) (h.1 _ (by omega) (by omega) (by omega) (by omega))
theorem zIm.put {V1 : zH} (h : zIm V V1 o) {a i x : Int} (ha : a = o + 5 ∨ a = o + 7 ∨ a = o + 8) : zIm V (zput V1 a i x) o := ⟨fun q a1 a2 a3 a4 => by rw [zput_row _ _ _ (by omega)]; exact h.1 q a1 a2 a3 a4, fun j a b => by rw [zput_row _ _ _ (by omega)]; exact h.2 j a b⟩
theorem s8_impose {n : Int} {K : (Int → Int) → Prop} {F : zH → Prop} (M : zMo S V o P) (hn : V o 10 = n) (hn0 : 0 ≤ n ∧ n ≤ 37) (hL : zLat (pm P) n K) (hR : ∀ k, 0 ≤ k → k < n → zTr (pm P) n K (zRw (V (o + 5))) k) (hf : ∀ i, 0 ≤ i → i < n → 0 ≤ V (o + 6) i ∧ V (o + 6) i < pm P)
    (hF : ∀ V' g, zIm V V' o → (∀ k, 0 ≤ k → k < n → zTr (pm P) n (zKf (pm P) n K (V (o + 6))) (zRw (V' (o + 5))) k) → (0 < g ∧ g ∣ pm P) → (∃ u, K u ∧ pm P ∣ zdf n (V (o + 6)) u - g) → (∀ z, K z → g ∣ zdf n (V (o + 6)) z) → (∀ p, zPrm p → zsum (fun k => zoft p (zRw (V' (o + 5)) k k)) n = zsum (fun k => zoft p (zRw (V (o + 5)) k k)) n + zoft p (pm P / g)) → F V') : SpV E 1 zm_X8_impose [zrv o] S V F := by
  have o2 := M.ok.2.1
  generalize hm : pm P = m at *
  generalize hff : V (o + 6) = f at *
  have KL := zKf.lat hL f
  refine en_X8_impose (fun X => ⟨M.ko, s8_m M ?_⟩)
  rw [hm]
  -- the loop over rows
  have rows := zdown (Q := fun k => ∀ V1 g, zIm V V1 o → (∀ j, 0 ≤ j → j < k → zTr m n (zKf m n K f) (zRw (V1 (o + 5))) j) → (∀ j, k * 37 ≤ j → V1 (o + 5) j = V (o + 5) j) → (∀ i, 0 ≤ i → i < n → 0 ≤ V1 (o + 7) i ∧ V1 (o + 7) i < m) → zGU m n K f k g (V1 (o + 7)) → (∀ p, zPrm p → zsum (fun j => zoft p (zRw (V1 (o + 5)) j j)) k = zsum (fun j => zoft p (zRw (V (o + 5)) j j)) k + zoft p (m / g)) → zl_X8_impose_32 E X F S o m g k V1) (N := n) (fun V1 g i1 i2 i3 i4 i5 i6 => ?_) (fun k k0 k1 ih V1 g i1 i2 i3 i4 i5 i6 => ?_)
  · -- u is cleared first
    have clr := zdown (Q := fun i => ∀ V1, zIm V V1 o → V1 (o + 5) = V (o + 5) → (∀ j, 0 ≤ j → j < i → V1 (o + 7) j = 0) → zl_X8_impose_9 E X F S o m m i V1) (N := n) (fun V1 i1 i2 i3 => ?_) (fun i a b ih V1 i1 i2 i3 => ?_) 0 (by omega) (by omega)
    · exact clr V ⟨fun _ _ _ _ _ => rfl, fun _ _ _ => rfl⟩ rfl (fun j _ _ => by omega)
    · refine wp_X8_impose_9 ?_
      rw [i1.2 10 (by decide) (by decide), hn]
      refine ⟨M.ko, fun _ => rows 0 (by omega) (by omega) V1 m i1 (fun j _ _ => by omega) (fun j _ => by rw [i2]) (fun i a b => by rw [i3 i a b]; omega) ⟨⟨by omega, Int.dvd_refl m⟩, hL.2.2.2 _ _ hL.1 (fun i a b => by rw [i3 i a b]; exact Int.dvd_zero m), fun i a b => i3 i a b, ?_, fun z hz hz0 => ?_⟩ (fun p hp => ?_), fun q => by omega⟩
      · have : zdf n f (V1 (o + 7)) = 0 := zsum_zero (fun i a b => by rw [i3 i a b, Int.mul_zero])
        rw [this, Int.zero_sub]; exact (Int.dvd_neg).mpr (Int.dvd_refl m)
      · exact zsum_dvd (fun i a b => zdvd_mul _ (hz0 i a b))
      · rw [zsum_0, zsum_0, Int.ediv_self (by omega), zoft_1 (by unfold zPrm at hp; omega)]; rfl
    · have M1 := i1.mo M
      refine wp_X8_impose_9 ?_
      rw [i1.2 10 (by decide) (by decide), hn, M1.f12, M.t7]
      refine ⟨M.ko, fun q => by omega, fun _ => ⟨rfl, ⟨a, by show i < 37; omega⟩, fun V5 e5 => ⟨⟨by omega, by omega⟩, ih V5 (by rw [e5]; exact i1.put (by omega)) (by rw [e5, zput_row _ _ _ (by omega)]; exact i2) (fun j x y => ?_)⟩⟩⟩
      rw [e5]
      by_cases hj : j = i
      · rw [hj, zput_self]
      · rw [zput_nk _ _ _ _ hj]; exact i3 j x (by omega)
  · refine wp_X8_impose_32 ?_
    rw [i1.2 10 (by decide) (by decide), hn]
    refine ⟨M.ko, fun _ => hF V1 g i1 i2 i5.1 ⟨_, i5.2.1, i5.2.2.2.1⟩ (fun z hz => i5.2.2.2.2 z hz (fun i a b => by omega)) i6, fun q => by omega⟩
  · have M1 := i1.mo M
    refine wp_X8_impose_32 ?_
    rw [i1.2 10 (by decide) (by decide), hn]
    refine ⟨M.ko, fun q => by omega, fun _ => ⟨⟨by omega, by omega⟩, fun x4 e4 => ?_⟩⟩
    subst e4
    have hRk := hR k k0 k1
    -- row k as it was
    have rk : ∀ i, 0 ≤ i → i < 37 → V1 (o + 5) (37 * k + i) = zRw (V (o + 5)) k i := fun i a b => i3 _ (by omega)
    have rkb : ∀ i, 0 ≤ i → i ≤ k → 0 ≤ zRw (V (o + 5)) k i ∧ zRw (V (o + 5)) k i ≤ 12 := fun i a b => by
      by_cases hi : i = k
      · have := zdvd_le hRk.1.2 (by omega)
        rw [hi]; have := hRk.1.1; omega
      · have := hRk.2.2.2.1 i a (by omega); omega
    have fb : ∀ i, 0 ≤ i → i ≤ k → 0 ≤ f i ∧ f i ≤ 12 := fun i a b => by have := hf i a (by omega); omega
    have sums := zdown (Q := fun i => ∀ V2, zIm V V2 o → (∀ q, q ≠ o + 8 → V2 q = V1 q) → (∀ j, 0 ≤ j → j < i → V2 (o + 8) j = zRw (V (o + 5)) k j) → zl_X8_impose_52 E X F S o m g k (37 * k) (zsum (fun j => f j * zRw (V (o + 5)) k j) i % m) i V2) (N := k + 1) (fun V2 j1 j2 j3 => ?_) (fun i a b ihi V2 j1 j2 j3 => ?_) 0 (by omega) (by omega)
    · have := sums V1 i1 (fun _ _ => rfl) (fun j _ _ => by omega)
      rw [zsum_0, Int.zero_emod] at this; exact this
    · -- sum is known
      have sb := zmod_le (zsum (fun j => f j * zRw (V (o + 5)) k j) (k + 1)) (show 0 < m by omega)
      generalize hs0 : zsum (fun j => f j * zRw (V (o + 5)) k j) (k + 1) % m = s0 at *
      have hs : m ∣ zdf n f (zRw (V (o + 5)) k) - s0 := by
        rw [zdf_s ⟨k0, k1⟩ f hRk.2.2.1, ← hs0]
        have := (Int.dvd_neg).mpr (zdvd_emod m (zsum (fun j => f j * zRw (V (o + 5)) k j) (k + 1)))
        rw [Int.neg_sub] at this; exact this
      have gb := zdvd_le i5.1.2 (show 0 < m by omega)
      refine wp_X8_impose_52 ⟨fun _ => ⟨M.ko, s8_common M.ko ⟨by have := i5.1.1; omega, by omega⟩ ⟨sb.1, by omega⟩ (fun d t1 t2 V3 hd d1 d2 et b1 b2 p3 r3 => ?_)⟩, fun q => by omega⟩
      refine ⟨by have := i5.1.1; omega, by omega, fun c ec => ⟨sb.1, fun q eq => ?_⟩⟩
      have ec' : g = c * d := by rw [ec, Int.ediv_mul_cancel d1]
      have eq' : s0 = q * d := by rw [eq, Int.ediv_mul_cancel d2]
      have cb := zdiv_le (show 0 ≤ g by have := i5.1.1; omega) (show 0 < d by omega)
      have qb := zdiv_le sb.1 (show 0 < d by omega)
      rw [← ec] at cb
      rw [← eq] at qb
      have k3 : zIm V V3 o := ⟨fun q' a1 a2 a3 a4 => by rw [r3 q' a1]; exact j1.1 q' a1 a2 a3 a4, fun j a b => by rw [p3, if_neg b, if_neg a]; exact j1.2 j a b⟩
      have old3 : ∀ j, 0 ≤ j → j ≤ k → V3 (o + 8) j = zRw (V (o + 5)) k j := fun j a b => by rw [r3 _ (by omega)]; exact j3 j a (by omega)
      have u3 : V3 (o + 7) = V1 (o + 7) := by rw [r3 _ (by omega), j2 _ (by omega)]
      have v3 : V3 (o + 5) = V1 (o + 5) := by rw [r3 _ (by omega), j2 _ (by omega)]
      have t13 : V3 o 14 = t1 := by rw [p3]; rfl
      have t23 : V3 o 15 = t2 := by rw [p3]; rfl
      have ub := i4
      -- the new row k, then the new u
      have lastu : ∀ V5, zIm V V5 o → V5 o 14 = t1 → V5 o 15 = t2 → V5 (o + 8) = V3 (o + 8) → V5 (o + 7) = V1 (o + 7) → (∀ j, (j < 37 * k ∨ 37 * k + k < j) → V5 (o + 5) j = V1 (o + 5) j) → (∀ j, 0 ≤ j → j < k → V5 (o + 5) (37 * k + j) = (c * zRw (V (o + 5)) k j - q * V1 (o + 7) j) % m) → V5 (o + 5) (37 * k + k) = c * zRw (V (o + 5)) k k → zl_X8_impose_196 E X F S o m k d 0 V5 := by
        intro V5 l1 l2 l3 l4 l5 l6 l7 l8
        have ulp := zdown (Q := fun i => ∀ V6, zIm V V6 o → V6 o 14 = t1 → V6 o 15 = t2 → V6 (o + 8) = V3 (o + 8) → V6 (o + 5) = V5 (o + 5) → (∀ j, (j < 0 ∨ i ≤ j) → V6 (o + 7) j = V1 (o + 7) j) → (∀ j, 0 ≤ j → j < i → V6 (o + 7) j = (t1 * V1 (o + 7) j + t2 * zRw (V (o + 5)) k j) % m) → zl_X8_impose_196 E X F S o m k d i V6) (N := k + 1) (fun V6 m1 m2 m3 m4 m5 m6 m7 => ?_) (fun i a b ihu V6 m1 m2 m3 m4 m5 m6 m7 => ?_) 0 (by omega) (by omega)
        · exact ulp V5 l1 l2 l3 l4 rfl (fun j _ => by rw [l5]) (fun j _ _ => by omega)
        · -- the step is done
          have V6r : ∀ i, 0 ≤ i → i < n → zRw (V6 (o + 5)) k i = if i < k then (c * zRw (V (o + 5)) k i - q * V1 (o + 7) i) % m else if i = k then c * zRw (V (o + 5)) k k else 0 := fun i a b => by
            show V6 (o + 5) (37 * k + i) = _
            rw [m5]
            by_cases h1 : i < k
            · rw [if_pos h1]; exact l7 i a h1
            · rw [if_neg h1]
              by_cases h2 : i = k
              · rw [if_pos h2, h2]; exact l8
              · rw [if_neg h2, l6 _ (by omega), rk i a (by omega)]
                exact hRk.2.2.1 i (by omega) b
          have step := zimp (R' := zRw (V6 (o + 5)) k) (U' := V6 (o + 7)) hL (show 0 < m by omega) ⟨k0, k1⟩ hRk i5 hs (show 0 < d by omega) ec' eq' et (fun i a b => by
              show m ∣ zRw (V6 (o + 5)) k i - (c * zRw (V (o + 5)) k i + -q * V1 (o + 7) i)
              rw [V6r i a b]
              by_cases h1 : i < k
              · rw [if_pos h1]
                have := zdvd_emod m (c * zRw (V (o + 5)) k i - q * V1 (o + 7) i)
                rw [show c * zRw (V (o + 5)) k i + -q * V1 (o + 7) i = c * zRw (V (o + 5)) k i - q * V1 (o + 7) i by rw [Int.neg_mul]; omega]; exact this
              · rw [if_neg h1, i5.2.2.1 i (by omega) b, Int.mul_zero, Int.add_zero]
                by_cases h2 : i = k
                · rw [if_pos h2, h2, Int.sub_self]; exact Int.dvd_zero m
                · rw [if_neg h2, hRk.2.2.1 i (by omega) b, Int.mul_zero, Int.sub_self]; exact Int.dvd_zero m)
            (by rw [V6r k k0 k1, if_neg (by omega), if_pos rfl]) (fun i a b => by rw [V6r i (by omega) b, if_neg (by omega), if_neg (by omega)]) (fun i a b => by rw [V6r i a (by omega), if_pos b]; exact zmod_le _ (by omega)) (fun i a b => by
              show m ∣ V6 (o + 7) i - (t1 * V1 (o + 7) i + t2 * zRw (V (o + 5)) k i)
              by_cases h1 : i ≤ k
              · rw [m7 i a (by omega)]; exact zdvd_emod m _
              · rw [m6 i (by omega), i5.2.2.1 i (by omega) b, hRk.2.2.1 i (by omega) b, Int.mul_zero, Int.mul_zero]; exact Int.dvd_zero m) (fun i a b => by rw [m6 i (by omega)]; exact i5.2.2.1 i (by omega) b)
          refine wp_X8_impose_196 ⟨fun _ => ⟨⟨by omega, by omega⟩, ih V6 d m1 (fun j a b => ?_) (fun j a => ?_) (fun i a b => ?_) step.2 (fun p hp => ?_)⟩, fun q => by omega⟩
          · by_cases hj : j = k
            · rw [hj]; exact step.1
            · refine (i2 j a (by omega)).congr KL ⟨a, by omega⟩ (fun i ia ib => ?_)
              show V6 (o + 5) (37 * j + i) = V1 (o + 5) (37 * j + i)
              rw [m5, l6 _ (by omega)]
          · rw [m5, l6 _ (by omega)]; exact i3 j (by omega)
          · by_cases h1 : i ≤ k
            · rw [m7 i a (by omega)]; exact zmod_le _ (by omega)
            · rw [m6 i (by omega)]; exact ub i a b
          · have e1 : zsum (fun j => zoft p (zRw (V6 (o + 5)) j j)) k = zsum (fun j => zoft p (zRw (V1 (o + 5)) j j)) k := zsum_congr (fun j a b => by
              show zoft p (V6 (o + 5) (37 * j + j)) = zoft p (V1 (o + 5) (37 * j + j))
              rw [m5, l6 _ (by omega)])
            rw [zsum_s _ k0, zsum_s _ k0, e1, i6 p hp, V6r k k0 k1, if_neg (by omega), if_pos rfl]
            have c1 : 1 ≤ c := by
              rcases Int.lt_or_le 0 c with z | z
              · omega
              · exfalso
                have := Int.mul_le_mul_of_nonneg_right z (show 0 ≤ d by omega)
                rw [Int.zero_mul] at this
                have := i5.1.1; omega
            have ck := step.1.1
            have ck' : 0 < zRw (V6 (o + 5)) k k ∧ zRw (V6 (o + 5)) k k ∣ m := ck
            rw [V6r k k0 k1, if_neg (by omega), if_pos rfl] at ck'
            have cle := zdvd_le ck'.2 (by omega)
            rw [zoft_mul hp c1 (by have := hRk.1.1; omega) (by omega)]
            have gq := zdq (show 0 < m by omega) i5.1.1 i5.1.2
            have dq := zdq (show 0 < m by omega) step.2.1.1 step.2.1.2
            have e2 : m / d = m / g * c := by
              have : d * (m / d) = d * (m / g * c) := by
                rw [dq.2, Int.mul_comm (m / g) c, ← Int.mul_assoc, Int.mul_comm d c, ← ec', gq.2]
              exact Int.eq_of_mul_eq_mul_left (by omega) this
            have : m / g * c ≤ 12 := by rw [← e2]; omega
            rw [e2, zoft_mul hp gq.1.1 c1 this]; omega
        · have M6 := m1.mo M
          have uu := ub i a (by omega)
          have oo := rkb i a (by omega)
          have e7 : V6 (o + 7) i = V1 (o + 7) i := m6 i (by omega)
          have e8 : V6 (o + 8) i = zRw (V (o + 5)) k i := by rw [m4]; exact old3 i a (by omega)
          have ba : -169 ≤ t1 * V1 (o + 7) i ∧ t1 * V1 (o + 7) i ≤ 169 := by
            have x1 := Int.mul_le_mul_of_nonneg_right b1.1 uu.1
            have x2 := Int.mul_le_mul_of_nonneg_right b1.2 uu.1
            omega
          have bb : -169 ≤ t2 * zRw (V (o + 5)) k i ∧ t2 * zRw (V (o + 5)) k i ≤ 169 := by
            have x1 := Int.mul_le_mul_of_nonneg_right b2.1 oo.1
            have x2 := Int.mul_le_mul_of_nonneg_right b2.2 oo.1
            omega
          refine wp_X8_impose_196 ⟨fun q => by omega, fun _ => ?_⟩
          rw [M6.f12, M6.f13, M.t7, M.t8, e7, e8, m2, m3]
          refine ⟨M.ko, rfl, ⟨a, by show i < 37; omega⟩, ⟨by omega, by omega⟩, rfl, ⟨a, by show i < 37; omega⟩, ⟨by omega, by omega⟩, ⟨by omega, by omega⟩, sp_fmod (by omega) (fun V13 e13 => ⟨⟨by omega, by omega⟩, ihu V13 (by rw [e13]; exact m1.put (by omega)) (by rw [e13, zput_row _ _ _ (by omega)]; exact m2) (by rw [e13, zput_row _ _ _ (by omega)]; exact m3) (by rw [e13, zput_row _ _ _ (by omega)]; exact m4) (by rw [e13, zput_row _ _ _ (by omega)]; exact m5) (fun j hj => by rw [e13, zput_nk _ _ _ _ (by omega)]; exact m6 j (by omega)) (fun j ja jb => ?_)⟩)⟩
          rw [e13]
          by_cases hj : j = i
          · rw [hj, zput_self]
          · rw [zput_nk _ _ _ _ hj]; exact m7 j ja (by omega)
      have vlp := zdown (Q := fun i => ∀ V4, zIm V V4 o → V4 o 14 = t1 → V4 o 15 = t2 → V4 (o + 8) = V3 (o + 8) → V4 (o + 7) = V1 (o + 7) → (∀ j, (j < 37 * k ∨ 37 * k + i ≤ j) → V4 (o + 5) j = V1 (o + 5) j) → (∀ j, 0 ≤ j → j < i → V4 (o + 5) (37 * k + j) = (c * zRw (V (o + 5)) k j - q * V1 (o + 7) j) % m) → zl_X8_impose_128 E X F S o m k (37 * k) d c q i V4) (N := k) (fun V4 m1 m2 m3 m4 m5 m6 m7 => ?_) (fun i a b ihv V4 m1 m2 m3 m4 m5 m6 m7 => ?_) 0 (by omega) (by omega)
      · exact vlp V3 k3 t13 t23 rfl u3 (fun j _ => by rw [v3]) (fun j _ _ => by omega)
      · have M4 := m1.mo M
        have oo := rkb k k0 (by omega)
        have e8 : V4 (o + 8) k = zRw (V (o + 5)) k k := by rw [m4]; exact old3 k k0 (by omega)
        have bb := zmul_le (a := c) (b := zRw (V (o + 5)) k k) (A := 12) (B := 12) ⟨cb.1, by omega⟩ oo
        refine wp_X8_impose_128 ⟨fun _ => ?_, fun q => by omega⟩
        rw [M4.f9, M4.f13, M.t5, M.t8, e8]
        refine ⟨M.ko, ⟨by omega, by omega⟩, rfl, ⟨k0, by show k < 37; omega⟩, ⟨by omega, by omega⟩, rfl, ⟨by omega, by show 37 * k + k < 1369; omega⟩, fun V9 e9 => lastu V9 (by rw [e9]; exact m1.put (by omega)) (by rw [e9, zput_row _ _ _ (by omega)]; exact m2) (by rw [e9, zput_row _ _ _ (by omega)]; exact m3) (by rw [e9, zput_row _ _ _ (by omega)]; exact m4) (by rw [e9, zput_row _ _ _ (by omega)]; exact m5) (fun j hj => by rw [e9, zput_nk _ _ _ _ (by omega)]; exact m6 j (by omega)) (fun j ja jb => by rw [e9, zput_nk _ _ _ _ (by omega)]; exact m7 j ja jb) (by rw [e9, zput_self])⟩
      · have M4 := m1.mo M
        have uu := ub i a (by omega)
        have oo := rkb i a (by omega)
        have e7 : V4 (o + 7) i = V1 (o + 7) i := by rw [m5]
        have e8 : V4 (o + 8) i = zRw (V (o + 5)) k i := by rw [m4]; exact old3 i a (by omega)
        have ba := zmul_le (a := c) (b := zRw (V (o + 5)) k i) (A := 12) (B := 12) ⟨cb.1, by omega⟩ oo
        have bb := zmul_le (a := q) (b := V1 (o + 7) i) (A := 12) (B := 12) ⟨qb.1, by omega⟩ ⟨uu.1, by omega⟩
        refine wp_X8_impose_128 ⟨fun q => by omega, fun _ => ?_⟩
        rw [M4.f9, M4.f12, M4.f13, M.t5, M.t7, M.t8, e7, e8]
        refine ⟨M.ko, ⟨by omega, by omega⟩, rfl, ⟨a, by show i < 37; omega⟩, ⟨by omega, by omega⟩, rfl, ⟨a, by show i < 37; omega⟩, ⟨by omega, by omega⟩, ⟨by omega, by omega⟩, sp_fmod (by omega) ⟨rfl, ⟨by omega, by show 37 * k + i < 1369; omega⟩, fun V24 e24 => ⟨⟨by omega, by omega⟩, ihv V24 (by rw [e24]; exact m1.put (by omega)) (by rw [e24, zput_row _ _ _ (by omega)]; exact m2) (by rw [e24, zput_row _ _ _ (by omega)]; exact m3) (by rw [e24, zput_row _ _ _ (by omega)]; exact m4) (by rw [e24, zput_row _ _ _ (by omega)]; exact m5) (fun j hj => by rw [e24, zput_nk _ _ _ _ (by omega)]; exact m6 j (by omega)) (fun j ja jb => ?_)⟩⟩⟩
        rw [e24]
        by_cases hj : j = i
        · rw [hj, zput_self]
        · rw [zput_nk _ _ _ _ (by omega)]; exact m7 j ja (by omega)
    · have M2 := j1.mo M
      have oo := rkb i a (by omega)
      have ff := fb i a (by omega)
      have ev : V2 (o + 5) (37 * k + i) = zRw (V (o + 5)) k i := by rw [j2 _ (by omega)]; exact rk i a (by omega)
      have bb := zmul_le ff oo
      have ss := zmod_le (zsum (fun j => f j * zRw (V (o + 5)) k j) i) (show 0 < m by omega)
      refine wp_X8_impose_52 ⟨fun q => by omega, fun _ => ?_⟩
      rw [M2.f9, M2.f11, M2.f13, M.t5, M.t6, M.t8, ev]
      refine ⟨M.ko, ⟨by omega, by omega⟩, rfl, ⟨by omega, by show 37 * k + i < 1369; omega⟩, rfl, ⟨a, by show i < 37; omega⟩, fun V18 e18 => ?_⟩
      have ef : V18 (o + 6) i = f i := by rw [e18, zput_row _ _ _ (by omega), j1.1 _ (by omega) (by omega) (by omega) (by omega), hff]
      rw [ef]
      refine ⟨rfl, ⟨a, by show i < 37; omega⟩, ⟨by omega, by omega⟩, ⟨by omega, by omega⟩, by omega, by omega, fun x26 e26 => ⟨⟨by omega, by omega⟩, ?_⟩⟩
      have := ihi V18 (by rw [e18]; exact j1.put (by omega)) (fun q hq => by rw [e18, zput_row _ _ _ hq]; exact j2 q hq) (fun j ja jb => by
        rw [e18]
        by_cases hj : j = i
        · rw [hj, zput_self]
        · rw [zput_nk _ _ _ _ hj]; exact j3 j ja (by omega))
      rw [zsum_s _ a] at this
      rw [e26, Int.emod_add_emod]; exact this
end IMPOSE
