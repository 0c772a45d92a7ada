/-! THE CLASS: next(), base(), element() -/
theorem zlift_sub {f : Int} {bo a b : Int → Int} (k : Int) : zlift f bo (fun r => a r - b r) k = zlift f bo a k - zlift f bo b k := by
  unfold zlift
  rw [← zsum_sub]
  exact zsum_congr (fun r _ _ => by by_cases h : bo r = k <;> simp [h])
theorem zlift_congr {f : Int} {bo a b : Int → Int} (h : ∀ r, 0 ≤ r → r < f → a r = b r) (k : Int) : zlift f bo a k = zlift f bo b k := zsum_congr (fun r x y => by rw [h r x y])
section CLNEXT
variable {E : zE} {S : zS} {V : zH} {x w so : Int} {s : zSig}
/-- the numbers that a row has, by free buttons and back -/
theorem zFree.back {P : zP} {f : Int} {bo : Int → Int} (H : zFree P f bo) {y : Int → Int} (h3 : ∀ k, 0 ≤ k → k < pb P → pkd P k = 3 → y k = 0) {k : Int} (hk : 0 ≤ k ∧ k < pb P) : zlift f bo (fun r => y (bo r)) k = y k := by
  by_cases z : pkd P k = 3
  · rw [H.lift0 _ z, h3 k hk.1 hk.2 z]
  · obtain ⟨r, r1, r2⟩ := H.2.2.2 k hk.1 hk.2 z
    rw [← r2, H.lift _ r1]
theorem sp_stepTail {p lo kb : Int} {P : zP} {F : Int → zH → Prop} (HP : zPl S V p P) (HS : zSo S V p lo so kb P) (HT : zTab V so P) (hr : ∀ r, 0 ≤ r → r < V so 6 → 0 ≤ V (so + 3) (pn P + r) ∧ V (so + 3) (pn P + r) < pm P)
    (h0 : zNxNo (pm P) (pb P) (zcd V so P) (zlift (V so 6) (V (so + 1)) (fun r => V (so + 3) (pn P + r))) → F 0 V)
    (h1 : ∀ g, (∀ r, 0 ≤ r → r < V so 6 → 0 ≤ g (pn P + r) ∧ g (pn P + r) < pm P) → zNx (pm P) (pb P) (zQu P) (zcd V so P) (zlift (V so 6) (V (so + 1)) (fun r => V (so + 3) (pn P + r))) (zlift (V so 6) (V (so + 1)) (fun r => g (pn P + r))) → F 1 (zarr V (so + 3) g)) : SpI E 2 zm_X1_stepTail [zrv (so + 4), zrv (so + 3)] S V F := by
  obtain ⟨⟨q1, q1'⟩, q2, -⟩ := id HS
  obtain ⟨⟨s0, s1, s2, s3⟩, ⟨f0, f3, f7, f8, f9⟩, FA⟩ := id q2
  obtain ⟨⟨a0, a1, a2, a3, a4⟩, ⟨v4, v5, v6, v7⟩, z0⟩ := id FA
  have o1 := HP.ok.1
  have o2 := HP.ok.2.1
  have o4 := HP.ok.2.2.2.1
  have fb := HT.fr.1
  have how := HT.how
  have dd := zcd_ok HT HP.ok
  have kf : (S (so + 4)).1 = 4 := by rw [a0]
  generalize ht : (fun r => V (so + 3) (pn P + r)) = t0 at *
  have t0r : ∀ r, t0 r = V (so + 3) (pn P + r) := fun r => by rw [← ht]
  refine en_X1_stepTail (fun X => ?_)
  rw [HT.f2]
  refine ⟨kf, ⟨by omega, by omega⟩, fun x3 e3 => ?_⟩
  have key : ∀ n, 0 ≤ n → n ≤ V so 6 → (∀ r, n ≤ r → r < V so 6 → pm P ≤ t0 r + zlead (pm P) (V (so + 6) (pn P + r))) → zl_X1_stepTail_7 E X F S (so + 4) (so + 3) (pn P + n - 1) V := by
    refine zind (P := fun n => n ≤ V so 6 → (∀ r, n ≤ r → r < V so 6 → pm P ≤ t0 r + zlead (pm P) (V (so + 6) (pn P + r))) → zl_X1_stepTail_7 E X F S (so + 4) (so + 3) (pn P + n - 1) V) (fun _ hall => ?_) (fun n hn ih hnf hall => ?_)
    · refine wp_X1_stepTail_7 ?_
      rw [HT.f1]
      refine ⟨kf, fun _ => h0 (fun k a b => ?_), fun q => by omega⟩
      by_cases z : pkd P k = 3
      · have e : zcd V so P k = pm P := if_pos z
        rw [HT.fr.lift0 _ z, e]; omega
      · obtain ⟨r, r1, r2⟩ := HT.fr.2.2.2 k a b z
        rw [← r2, HT.fr.lift _ r1, zcd_free HT r1]
        exact hall r r1.1 r1.2
    · rw [show pn P + (n + 1) - 1 = pn P + n by omega]
      have rn := hr n hn (by omega)
      obtain ⟨l1, l2⟩ := how.1 (pn P + n) (by omega) (by omega)
      have skip : (V (so + 6) (pn P + n) = 0 ∨ pm P ≤ t0 n + V (so + 6) (pn P + n)) → zl_X1_stepTail_7 E X F S (so + 4) (so + 3) (pn P + n + -1) V := by
        intro hz
        rw [show pn P + n + -1 = pn P + n - 1 by omega]
        refine ih (by omega) (fun r a b => ?_)
        by_cases y : r = n
        · rw [y]
          have := t0r n
          unfold zlead
          rcases hz with z | z
          · rw [if_pos z]; omega
          · split <;> omega
        · exact hall r (by omega) b
      refine wp_X1_stepTail_7 ?_
      rw [HT.f1, HT.f0, v4, s3, a1, ← t0r n]
      refine ⟨kf, fun q => by omega, fun _ => ⟨rfl, ⟨by omega, by show pn P + n < 72; omega⟩, fun z => ⟨⟨by omega, by omega⟩, skip (Or.inl z)⟩, fun z => ⟨rfl, ⟨by omega, by show pn P + n < 72; omega⟩, ?_, fun y => ⟨⟨by omega, by omega⟩, skip (Or.inr y)⟩, fun y => ?_⟩⟩⟩
      · have := t0r n
        exact ⟨by omega, by omega⟩
      · obtain ⟨p1, p2, p3, p4, p5⟩ := l2 z
        refine en_X1_addRow (fun _ => ?_)
        rw [v5, show so + 6 + 1 = so + 7 by omega]
        have hpos : ∀ i, pn P + n ≤ i → i < pn P + V so 6 → 0 ≤ V (so + 3) (0 + i) ∧ V (so + 3) (0 + i) < pm P := fun i a b => by
          have := hr (i - pn P) (by omega) (by omega)
          rw [show pn P + (i - pn P) = i by omega] at this
          rw [Int.zero_add]; exact this
        refine ⟨kf, ⟨by omega, by omega⟩, sp_addTimes (m := pm P) (wd := pn P + V so 6) (NA := 72) (NB := 5184) kf HT.f0 HT.f2 s3 (by rw [show so + 6 + 1 = so + 7 by omega] at a2; exact a2) (by omega) ⟨by omega, by omega, by omega⟩ ⟨by omega, by omega, by omega⟩ ⟨by omega, by omega⟩ o2 ⟨by omega, by omega⟩ hpos (fun i a b => ?_) (Or.inl (by omega)) (fun g g1 g2 => ⟨⟨by omega, by omega⟩, ?_⟩)⟩
        · have e : V (so + 7) ((pn P + n) * 72 + i) = zRo (V (so + 7)) (pn P + n) i := rfl
          rw [e]
          by_cases hi : i = pn P + n
          · rw [hi, p3]; exact l1
          · exact p5 i (by omega) b
        · simp only [Int.zero_add, Int.one_mul] at g1 g2
          have e4 : zarr V (so + 3) g (so + 4) = V (so + 4) := zarr_ne _ _ (by omega)
          have e6 : zarr V (so + 3) g (so + 6) = V (so + 6) := zarr_ne _ _ (by omega)
          have e7 : zarr V (so + 3) g (so + 7) = V (so + 7) := zarr_ne _ _ (by omega)
          rw [e4, HT.f2]
          have FA2 : zFA S (zarr V (so + 3) g) (so + 4) (so + 6) (so + 5) := FA.congr e4 (by rw [show so + 6 + 1 = so + 7 by omega]; exact e7)
          refine sp_reduce (m := pm P) (wd := pn P + V so 6) (NA := 72) FA2 (by rw [e4]; exact HT.f0) (by rw [e4]; exact HT.f2) o2 ⟨by omega, by omega⟩ s3 ⟨by omega, by omega, by omega⟩ (by omega) (by omega) ⟨by omega, by omega, by omega⟩ (Or.inl (by omega)) (by rw [e6, show so + 6 + 1 = so + 7 by omega, e7]; exact how.lr (by omega) (by omega)) (fun i a b => by rw [zarr_self, Int.zero_add, g1 i (by omega) b]; exact zmod_le _ (by omega)) (fun g' k1 k2 k3 k4 => ?_)
          simp only [zarr_self, Int.zero_add, e6, show so + 6 + 1 = so + 7 by omega, e7] at k1 k2 k3 k4
          rw [zarr_zarr]
          have tlow : ∀ r, 0 ≤ r → r < n → g' (pn P + r) = t0 r := fun r a b => by
            rw [k1 _ (Or.inl (by omega)), g2 _ (Or.inl (by omega)), t0r]
          have tn : g' (pn P + n) = t0 n + V (so + 6) (pn P + n) := by
            rw [k1 _ (Or.inl (by omega)), g1 _ (by omega) (by omega)]
            have e : V (so + 7) ((pn P + n) * 72 + (pn P + n)) = V (so + 6) (pn P + n) := p3
            have := t0r n
            rw [e, ← t0r n]
            exact Int.emod_eq_of_lt (by omega) y
          have thi : ∀ r, n < r → r < V so 6 → 0 ≤ g' (pn P + r) ∧ g' (pn P + r) < zlead (pm P) (V (so + 6) (pn P + r)) := fun r a b => by
            have w1 := k2 (pn P + r) (by omega) (by omega)
            have w2 := k3 (pn P + r) (by omega) (by omega)
            unfold zlead
            split
            · exact w1
            · next hne => exact ⟨w1.1, w2 hne⟩
          have lin1 : zLin (pm P) (pn P) (V so 6) (fun r i => zstp P (V (so + 1) r) i) (fun j => g j + -1 * V (so + 3) j) := by
            refine zLin.cg (by omega) p2 (fun j a b => ?_) (by omega)
            show pm P ∣ g j + -1 * V (so + 3) j - zRo (V (so + 7)) (pn P + n) j
            by_cases hj : j < pn P + n
            · rw [g2 j (Or.inl hj), p4 j a hj, show V (so + 3) j + -1 * V (so + 3) j - 0 = 0 by omega]; exact Int.dvd_zero _
            · rw [g1 j (by omega) b]
              have := zdvd_emod (pm P) (V (so + 3) j + V (so + 7) ((pn P + n) * 72 + j))
              have e : V (so + 7) ((pn P + n) * 72 + j) = zRo (V (so + 7)) (pn P + n) j := rfl
              rw [e] at this ⊢
              rw [show (V (so + 3) j + zRo (V (so + 7)) (pn P + n) j) % pm P + -1 * V (so + 3) j - zRo (V (so + 7)) (pn P + n) j = (V (so + 3) j + zRo (V (so + 7)) (pn P + n) j) % pm P - (V (so + 3) j + zRo (V (so + 7)) (pn P + n) j) by omega]
              exact this
          have lin2 := zRed.lin (s := fun j => -1 * V (so + 3) j) (by omega) (by omega) how (by omega) (by omega) k4 lin1
          have hn' : 0 ≤ n ∧ n < V so 6 := ⟨hn, by omega⟩
          have bo := HT.fr.2.1 n hn'.1 hn'.2
          refine h1 g' (fun r a b => ?_) ⟨V (so + 1) n, bo.1, ⟨?_, fun i a b => ?_⟩, ?_, ?_, fun i a b => ?_, fun i a b => ?_⟩
          · rcases Int.lt_trichotomy r n with u | u | u
            · rw [tlow r a u, t0r]; exact hr r a b
            · rw [u, tn]; have := t0r n; omega
            · exact k2 _ (by omega) (by omega)
          · rw [HT.fr.lift _ hn', zcd_free HT hn']; unfold zlead; rw [if_neg z]; exact y
          · by_cases u : pkd P i = 3
            · have e : zcd V so P i = pm P := if_pos u
              rw [HT.fr.lift0 _ u, e]; omega
            · obtain ⟨r, r1, r2⟩ := HT.fr.2.2.2 i a (by omega) u
              rw [← r2, HT.fr.lift _ r1, zcd_free HT r1]
              have : n < r := by
                rcases Int.lt_trichotomy r n with v | v | v
                · have := HT.fr.2.2.1 r n r1.1 v hn'.2; omega
                · rw [v] at r2; omega
                · exact v
              exact hall r (by omega) r1.2
          · have q := HT.qu (v := fun j => g' j + -1 * V (so + 3) j) lin2 (fun i a b => by
              show pm P ∣ g' i + -1 * V (so + 3) i
              rw [k1 _ (Or.inl (by omega)), g2 _ (Or.inl (by omega)), show V (so + 3) i + -1 * V (so + 3) i = 0 by omega]; exact Int.dvd_zero _)
            refine (zQu_lat P).2.2.2 _ _ q (fun k a b => ?_)
            have e := zlift_sub (f := V so 6) (bo := V (so + 1)) (a := fun r => g' (pn P + r)) (b := t0) k
            have e' : zlift (V so 6) (V (so + 1)) (fun r => g' (pn P + r) + -1 * V (so + 3) (pn P + r)) k = zlift (V so 6) (V (so + 1)) (fun r => g' (pn P + r) - t0 r) k := zlift_congr (fun r _ _ => by rw [t0r]; omega) k
            rw [e', e, Int.sub_self]; exact Int.dvd_zero _
          · rw [HT.fr.lift _ hn', HT.fr.lift _ hn', zcd_free HT hn', tn]; unfold zlead; rw [if_neg z]
          · by_cases u : pkd P i = 3
            · rw [HT.fr.lift0 _ u, HT.fr.lift0 _ u]
            · obtain ⟨r, r1, r2⟩ := HT.fr.2.2.2 i (by omega) b u
              rw [← r2, HT.fr.lift _ r1, HT.fr.lift _ r1]
              have : r < n := by
                rcases Int.lt_trichotomy r n with v | v | v
                · exact v
                · rw [v] at r2; omega
                · have := HT.fr.2.2.1 n r hn'.1 v r1.2; omega
              exact tlow r r1.1 this
          · by_cases u : pkd P i = 3
            · have e : zcd V so P i = pm P := if_pos u
              rw [HT.fr.lift0 _ u, e]; omega
            · obtain ⟨r, r1, r2⟩ := HT.fr.2.2.2 i a (by omega) u
              rw [← r2, HT.fr.lift _ r1, zcd_free HT r1]
              have : n < r := by
                rcases Int.lt_trichotomy r n with v | v | v
                · have := HT.fr.2.2.1 r n r1.1 v hn'.2; omega
                · rw [v] at r2; omega
                · exact v
              exact thi r this r1.2
  have := key (V so 6) (by omega) (by omega) (fun r a b => by omega)
  rw [e3]; exact this
theorem cl_next (H : zCl S V x s w) (hS : (S (x + 31)).1 ≠ 0) {mc ms : Nat} (hm : V x 7 = 0 → 9 ≤ mc ∧ 9282 ≤ ms) {F : Int → zS → zH → Prop} (hn : tg (gT s) = 0 → F (-1) S V)
    (h0 : tg (gT s) = 1 → ∀ S' V' d, zExt S S' → zDs (pm (gP s)) (pb (gP s)) (zQu (gP s)) d → zNxNo (pm (gP s)) (pb (gP s)) d (tr (gT s)) → zCl S' V' x s w → zFrm V V' x → F 0 S' V')
    (h1 : tg (gT s) = 1 → ∀ S' V' d y, zExt S S' → zDs (pm (gP s)) (pb (gP s)) (zQu (gP s)) d → zNx (pm (gP s)) (pb (gP s)) (zQu (gP s)) d (tr (gT s)) y → zCl S' V' x (zSetT s (1, pb (gP s), 1, y)) w → zFrm V V' x → F 1 S' V') : SaI E 6 mc ms zm_X7_next [zrv x] S V F := by
  have o2 := H.pl.ok.2.1
  have o4 := H.pl.ok.2.2.2.1
  refine en_X7_next ?_
  rw [H.v3, H.to.2.1.2.2.1]
  refine ⟨H.kx, H.t, fun z => ⟨mc, ms, by omega, cl_fresh H hS hm (fun S1 V1 so e1 C1 R1 fr1 => ?_)⟩, fun z => ⟨by omega, hn z⟩⟩
  have hg : tg (gT s) = 1 := by have := H.to.2.2.2.2.1; omega
  have hlo := R1.lo
  obtain ⟨⟨r1, r2⟩, r3, T1, r5⟩ := id R1
  obtain ⟨⟨s0, s1, s2, s3⟩, ⟨f0, f3, f7, f8, f9⟩, FA⟩ := id r3.2.1
  obtain ⟨tp1, tp2, tp3⟩ := H.tp hg
  have ks : (S1 so).1 = 8 := by rw [s0]
  have fb := T1.fr.1
  have o1 := H.pl.ok.1
  obtain ⟨⟨u1, u2, u3⟩, ⟨u4, u5, u6, u7⟩, u8⟩ := id C1.to
  rw [C1.v3]
  refine ⟨C1.kx, ks, by omega, en_X5_goOn (fun X => ?_)⟩
  have key := zdown (Q := fun r => ∀ g, (∀ r', 0 ≤ r' → r' < r → g (pn (gP s) + r') = tr (gT s) (V1 (so + 1) r')) → zl_X5_goOn_2 E X (fun x12 V13 => ((x12 = 0) → (F 0 S1 V13)) ∧ ((x12 ≠ 0) → (F 1 S1 V13))) S1 so (x + 15) r (zarr V1 (so + 3) g)) (N := V1 so 6) (fun g gg => ?_) (fun r r0 r1' ih g gg => ?_) 0 (by omega) (by omega)
  · have k := key (V1 (so + 3)) (fun r' _ _ => by omega)
    rw [zarr_id] at k; exact k
  · obtain ⟨C2, R2⟩ := C1.vec R1 (V' := zarr V1 (so + 3) g) (fun q hq => zarr_ne _ _ hq)
    obtain ⟨⟨q1, q2⟩, q3, T2, q5⟩ := id R2
    have es6 : zarr V1 (so + 3) g so 6 = V1 so 6 := by rw [zarr_ne _ _ (by omega)]
    have es1 : zarr V1 (so + 3) g (so + 1) = V1 (so + 1) := zarr_ne _ _ (by omega)
    have es3 : zarr V1 (so + 3) g so 3 = so + 4 := by rw [zarr_ne _ _ (by omega)]; exact f3
    have es9 : zarr V1 (so + 3) g so 9 = so + 3 := by rw [zarr_ne _ _ (by omega)]; exact f9
    have tr' : ∀ r, 0 ≤ r → r < V1 so 6 → zarr V1 (so + 3) g (so + 3) (pn (gP s) + r) = tr (gT s) (V1 (so + 1) r) := fun r a b => by rw [zarr_self]; exact gg r a b
    have hx : ∀ k, 0 ≤ k → k < pb (gP s) → zlift (V1 so 6) (V1 (so + 1)) (fun r => zarr V1 (so + 3) g (so + 3) (pn (gP s) + r)) k = tr (gT s) k := fun k a b => by
      rw [zlift_congr (b := fun r => tr (gT s) (V1 (so + 1) r)) tr' k]
      exact T1.fr.back (fun k a b c => (tp3 k a b).2 c) ⟨a, b⟩
    refine wp_X5_goOn_2 ?_
    rw [es6, es3, es9]
    refine ⟨ks, fun _ => ⟨by rw [FA.1.1], sp_stepTail C2.pl q3 T2 (fun r a b => ?_) (fun hno => ⟨fun q => absurd rfl q, fun _ => ?_⟩) (fun g' g1 hnx => ⟨fun _ => ?_, fun q => absurd q (by decide)⟩)⟩, fun q => by omega⟩
    · rw [es6] at b
      rw [tr' r a b]
      have bo := (T1.fr.2.1 r a b).1
      have := u8.2.2.2 _ bo.1 (by omega)
      have := (tp3 _ bo.1 bo.2).1
      omega
    · rw [es6, es1] at hno
      refine ⟨fun _ => h0 hg S1 _ _ e1 (zcd_ok T2 C2.pl.ok) (fun i a b => ?_) C2 (fun q a b => by rw [zarr_ne _ _ (by omega)]; exact fr1 q a b), fun q => absurd rfl q⟩
      have := hno i a b
      rw [hx i a b] at this; exact this
    · rw [es6, es1] at hnx
      rw [es6] at g1
      rw [zarr_zarr]
      obtain ⟨C3, R3⟩ := C1.vec R1 (V' := zarr V1 (so + 3) g') (fun q hq => zarr_ne _ _ hq)
      have es6' : zarr V1 (so + 3) g' so 6 = V1 so 6 := by rw [zarr_ne _ _ (by omega)]
      have es1' : zarr V1 (so + 3) g' (so + 1) = V1 (so + 1) := zarr_ne _ _ (by omega)
      refine cl_tellPushing C3 R3 (fun r a b => ?_) (fun V3 C4 R4 o4' => ?_)
      · rw [es6'] at b
        rw [zarr_self]
        have := g1 r a b; omega
      · refine ⟨C4.t, fun V4 e4 => ?_⟩
        rw [es6', es1', zarr_self] at C4
        have oT : zTo S1 V3 (x + 15) (1, pb (gP s), 0, zlift (V1 so 6) (V1 (so + 1)) (fun r => g' (pn (gP s) + r))) := C4.to
        have o4'' : zOff V3 V4 (x + 15) (x + 16) := fun q hq => by rw [e4, zput_row _ _ _ (by omega)]
        have C5 := C4.told (T := (1, pb (gP s), 1, zlift (V1 so 6) (V1 (so + 1)) (fun r => g' (pn (gP s) + r)))) o4'' (by
          obtain ⟨⟨u1, u2, u3⟩, ⟨u4, u5, u6, u7⟩, u8, u9, u10, u11⟩ := oT
          rw [e4]
          exact ⟨⟨u1, u2, by rw [zput_nk _ _ _ _ (by decide)]; exact u3⟩, ⟨by rw [zput_nk _ _ _ _ (by decide)]; exact u4, by rw [zput_nk _ _ _ _ (by decide)]; exact u5, zput_self _ _ _ _, fun i a b => by rw [zput_row _ _ _ (by omega)]; exact u7 i a b⟩, u8, u9, Or.inr rfl, u11⟩) (fun _ => ⟨rfl, rfl, fun k a b => ⟨?_, fun c => T1.fr.lift0 _ c⟩⟩)
        · refine ⟨fun q => absurd q (by decide), fun _ => h1 hg S1 V4 _ _ e1 (zcd_ok T2 C2.pl.ok) ?_ C5 (fun q a b => by rw [o4'' q (by omega), o4' q (by omega), zarr_ne _ _ (by omega)]; exact fr1 q a b)⟩
          obtain ⟨k, k1, ⟨k2, k3⟩, k4, k5, k6, k7⟩ := hnx
          refine ⟨k, k1, ⟨by rw [← hx k k1.1 k1.2]; exact k2, fun i a b => by rw [← hx i a (by omega)]; exact k3 i a b⟩, (zQu_lat (gP s)).2.2.2 _ _ k4 (fun j a b => ?_), by rw [← hx k k1.1 k1.2]; exact k5, fun i a b => by rw [← hx i (by omega) b]; exact k6 i a b, k7⟩
          rw [hx j a b, Int.sub_self]; exact Int.dvd_zero _
        · show zlift (V1 so 6) (V1 (so + 1)) (fun r => g' (pn (gP s) + r)) k < pm (gP s)
          by_cases u : pkd (gP s) k = 3
          · rw [T1.fr.lift0 _ u]; omega
          · obtain ⟨r, r1, r2⟩ := T1.fr.2.2.2 k a b u
            rw [← r2, T1.fr.lift _ r1]
            exact (g1 r r1.1 r1.2).2
  · have es6 : zarr V1 (so + 3) g so 6 = V1 so 6 := by rw [zarr_ne _ _ (by omega)]
    have es1 : zarr V1 (so + 3) g (so + 1) = V1 (so + 1) := zarr_ne _ _ (by omega)
    have es3 : zarr V1 (so + 3) g so 3 = so + 4 := by rw [zarr_ne _ _ (by omega)]; exact f3
    have es7 : zarr V1 (so + 3) g so 7 = so + 1 := by rw [zarr_ne _ _ (by omega)]; exact f7
    have es9 : zarr V1 (so + 3) g so 9 = so + 3 := by rw [zarr_ne _ _ (by omega)]; exact f9
    have e41 : zarr V1 (so + 3) g (so + 4) 1 = pn (gP s) := by rw [zarr_ne _ _ (by omega)]; exact T1.f1
    have et3 : zarr V1 (so + 3) g (x + 15) 3 = x + 15 + 1 := by rw [zarr_ne _ _ (by omega)]; exact u3
    have et : zarr V1 (so + 3) g (x + 15 + 1) = V1 (x + 15 + 1) := zarr_ne _ _ (by omega)
    have bo := (T1.fr.2.1 r r0 r1').1
    refine wp_X5_goOn_2 ?_
    rw [es6, es3, es7, es9, e41, es1, et3, et, s1, u2, s3]
    refine ⟨ks, fun q => by omega, fun _ => ⟨by rw [FA.1.1], ⟨by omega, by omega⟩, by rw [u1], rfl, ⟨r0, by show r < 36; omega⟩, rfl, ⟨bo.1, by show V1 (so + 1) r < 36; omega⟩, rfl, ⟨by omega, by show pn (gP s) + r < 72; omega⟩, fun V21 e21 => ⟨⟨by omega, by omega⟩, ?_⟩⟩⟩
    rw [e21, zput_zarr V1 (g := zupd g (pn (gP s) + r) (V1 (x + 15 + 1) (V1 (so + 1) r))) (fun j => rfl)]
    refine ih _ (fun r' a b => ?_)
    by_cases hj : r' = r
    · rw [hj, zupd_self]; exact u7 _ bo.1 (by omega)
    · rw [zupd_ne _ _ (by omega)]; exact gg r' a (by omega)
end CLNEXT
