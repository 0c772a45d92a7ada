/-! PATTERNS AND WEIGHTS: what no WEIGHTS speak against can be shown -/
/-- what the weights y (lamp 0 the last) give for a -/
def zdw (n : Int) (y a : Int → Int) : Int := zsum (fun i => y (n - 1 - i) * a i) n
theorem zdw_add (n : Int) (y z a : Int → Int) : zdw n (fun j => y j + z j) a = zdw n y a + zdw n z a := zsum_lin_add (x := fun i => y (n - 1 - i)) (y := fun i => z (n - 1 - i)) n
theorem zdw_mul (n c : Int) (y a : Int → Int) : zdw n (fun j => c * y j) a = c * zdw n y a := zsum_lin_mul (x := fun i => y (n - 1 - i)) c n
theorem zdw_cg {m n : Int} {y z : Int → Int} (h : zcg m n y z) (a : Int → Int) : m ∣ zdw n z a - zdw n y a := zsum_lin_cg (x := fun i => y (n - 1 - i)) (y := fun i => z (n - 1 - i)) (g := a) (fun i ia ib => h (n - 1 - i) (by omega) (by omega))
theorem zdw_radd (n : Int) (y a b : Int → Int) : zdw n y (fun i => a i + b i) = zdw n y a + zdw n y b := by
  unfold zdw
  rw [← zsum_add]; exact zsum_congr (fun i _ _ => Int.mul_add _ _ _)
theorem zdw_rmul (n c : Int) (y a : Int → Int) : zdw n y (fun i => c * a i) = c * zdw n y a := by
  unfold zdw
  rw [← zsum_mul]; exact zsum_congr (fun i _ _ => by rw [← Int.mul_assoc, Int.mul_comm (y _) c, Int.mul_assoc])
theorem zdw_rcg {m n : Int} (y : Int → Int) {a b : Int → Int} (h : ∀ i, 0 ≤ i → i < n → m ∣ b i - a i) : m ∣ zdw n y b - zdw n y a := by
  unfold zdw
  rw [← zsum_sub]
  exact zsum_dvd (fun i x w => by rw [← Int.mul_sub]; exact zdvd_mul _ (h i x w))
/-- numbers that hold m, their sums and multiples, are the multiples of one -/
theorem zgen {I : Int → Prop} {m : Int} (hm : 0 < m) (h0 : I m) (ha : ∀ a b, I a → I b → I (a + b)) (hc : ∀ (k : Int) a, I a → I (k * a)) : ∃ g, (0 < g ∧ g ∣ m) ∧ I g ∧ ∀ a, I a → g ∣ a := by
  have key : ∀ n : Nat, (∃ a : Int, I a ∧ 0 < a ∧ a ≤ n) → ∃ g, 0 < g ∧ I g ∧ ∀ a, I a → g ∣ a := by
    intro n
    induction n with
    | zero => rintro ⟨a, -, h1, h2⟩; omega
    | succ n ih =>
      rintro ⟨a, h1, h2, h3⟩
      by_cases z : ∀ b, I b → a ∣ b
      · exact ⟨a, h2, h1, z⟩
      · obtain ⟨b, hb⟩ := Classical.not_forall.mp z
        obtain ⟨b1, b2⟩ := Classical.not_imp.mp hb
        have e := Int.mul_ediv_add_emod b a
        have ml := zmod_le b h2
        refine ih ⟨b % a, ?_, ?_, by omega⟩
        · have := ha _ _ b1 (hc (-(b / a)) a h1)
          rw [Int.neg_mul, Int.mul_comm (b / a) a, show b + -(a * (b / a)) = b % a by omega] at this; exact this
        · have : b % a ≠ 0 := fun q => b2 (Int.dvd_of_emod_eq_zero q)
          omega
  obtain ⟨g, g1, g2, g3⟩ := key m.toNat ⟨m, h0, hm, by omega⟩
  exact ⟨g, ⟨g1, g3 m h0⟩, g2, g3⟩
/-- the weights that the free buttons below j let be -/
def zWj (P : zP) (j : Int) (y : Int → Int) : Prop := ∀ k, 0 ≤ k → k < j → pkd P k ≠ 3 → pm P ∣ zdw (pn P) y (fun i => zstp P k i)
/-- s is shown by buttons below j -/
def zRj (P : zP) (j : Int) (s : Int → Int) : Prop := ∃ x : Int → Int, (∀ i, 0 ≤ i → i < pn P → pm P ∣ zsum (fun k => x k * zstp P k i) j - s i) ∧ ∀ k, 0 ≤ k → k < j → pkd P k = 3 → pm P ∣ x k
theorem zWj.lat (P : zP) (j : Int) : zLat (pm P) (pn P) (zWj P j) := by
  refine ⟨fun k _ _ _ => ?_, fun a b ha hb k x y z => ?_, fun c a ha k x y z => ?_, fun a b ha e k x y z => ?_⟩
  · unfold zdw
    rw [zsum_zero (fun k _ _ => Int.zero_mul _)]; exact Int.dvd_zero _
  · rw [zdw_add]; exact zdvd_add (ha k x y z) (hb k x y z)
  · rw [zdw_mul]; exact zdvd_mul c (ha k x y z)
  · have := zdvd_add (zdw_cg e (fun i => zstp P k i)) (ha k x y z)
    rw [Int.sub_add_cancel] at this; exact this
/-- button k weighed by those weights: all multiples of g -/
theorem zgk (P : zP) (hm : 0 < pm P) (k : Int) : ∃ g, (0 < g ∧ g ∣ pm P) ∧ (∃ u, zWj P k u ∧ pm P ∣ zdw (pn P) u (fun i => zstp P k i) - g) ∧ ∀ y, zWj P k y → g ∣ zdw (pn P) y (fun i => zstp P k i) := by
  have L := zWj.lat P k
  obtain ⟨g, g1, ⟨u, u1, u2⟩, g3⟩ := zgen (I := fun v => ∃ y, zWj P k y ∧ pm P ∣ zdw (pn P) y (fun i => zstp P k i) - v) hm ⟨fun _ => 0, L.1, by
      unfold zdw
      rw [zsum_zero (fun k _ _ => Int.zero_mul _), Int.zero_sub]; exact (Int.dvd_neg).mpr (Int.dvd_refl _)⟩ (by
      rintro a b ⟨y, y1, y2⟩ ⟨z, z1, z2⟩
      refine ⟨_, L.2.1 y z y1 z1, ?_⟩
      rw [zdw_add]
      have := zdvd_add y2 z2
      rw [show ∀ p q r s : Int, p - r + (q - s) = p + q - (r + s) from fun p q r s => by omega] at this; exact this) (by
      rintro c a ⟨y, y1, y2⟩
      refine ⟨_, L.2.2.1 c y y1, ?_⟩
      rw [zdw_mul, ← Int.mul_sub]; exact zdvd_mul c y2)
  exact ⟨g, g1, ⟨u, u1, u2⟩, fun y hy => g3 _ ⟨y, hy, by rw [Int.sub_self]; exact Int.dvd_zero _⟩⟩
theorem zdw_unit {n i : Int} (hi : 0 ≤ i ∧ i < n) (s : Int → Int) : zdw n (fun j => if j = n - 1 - i then 1 else 0) s = s i := by
  unfold zdw
  rw [zsum_one (f := fun j => (if n - 1 - j = n - 1 - i then 1 else 0) * s j) hi.1 hi.2 (fun j a b c => by rw [if_neg (by omega), Int.zero_mul]), if_pos rfl, Int.one_mul]
theorem zdual (P : zP) (hm : 0 < pm P) : ∀ j, 0 ≤ j → ∀ s, (∀ y, zWj P j y → pm P ∣ zdw (pn P) y s) → zRj P j s := by
  refine zind (P := fun j => ∀ s, (∀ y, zWj P j y → pm P ∣ zdw (pn P) y s) → zRj P j s) (fun s h => ?_) (fun j hj ih s h => ?_)
  · refine ⟨fun _ => 0, fun i a b => ?_, fun k _ _ => by omega⟩
    rw [zsum_0, Int.zero_sub]
    have := h (fun j => if j = pn P - 1 - i then 1 else 0) (fun k _ _ => by omega)
    rw [zdw_unit ⟨a, b⟩] at this
    exact (Int.dvd_neg).mpr this
  · by_cases z3 : pkd P j = 3
    · obtain ⟨x, x1, x2⟩ := ih s (fun y hy => h y (fun k a b c => by
        by_cases hk : k = j
        · rw [hk] at c; exact absurd z3 c
        · exact hy k a (by omega) c))
      refine ⟨zupd x j 0, fun i a b => ?_, fun k a b c => ?_⟩
      · rw [zsum_s _ hj, zupd_self, Int.zero_mul, Int.add_zero, zsum_congr (g := fun k => x k * zstp P k i) (fun k ka kb => by rw [zupd_ne _ _ (by omega)])]
        exact x1 i a b
      · by_cases hk : k = j
        · rw [hk, zupd_self]; exact Int.dvd_zero _
        · rw [zupd_ne _ _ hk]; exact x2 k a (by omega) c
    · obtain ⟨g, ⟨g0, g1⟩, ⟨u, u1, u2⟩, g3⟩ := zgk P hm j
      obtain ⟨e, he⟩ := id g1
      have L := zWj.lat P j
      -- what kills button j too
      have up : ∀ y, zWj P j y → pm P ∣ zdw (pn P) y (fun i => zstp P j i) → zWj P (j + 1) y := fun y hy hz k a b c => by
        by_cases hk : k = j
        · rw [hk]; exact hz
        · exact hy k a (by omega) c
      have gs : g ∣ zdw (pn P) u s := by
        have := h (fun i => e * u i) (up _ (L.2.2.1 e u u1) (by
          rw [zdw_mul]
          have q := zdvd_mul e u2
          rw [Int.mul_sub, Int.mul_comm e g, ← he] at q
          have := zdvd_add q (Int.dvd_refl (pm P))
          rw [Int.sub_add_cancel] at this; exact this))
        rw [zdw_mul] at this
        obtain ⟨f, hf⟩ := this
        have e0 : e ≠ 0 := fun q => by rw [q, Int.mul_zero] at he; omega
        refine ⟨f, ?_⟩
        have : e * zdw (pn P) u s = e * (g * f) := by rw [hf, he, Int.mul_comm g e, Int.mul_assoc]
        exact Int.eq_of_mul_eq_mul_left e0 this
      obtain ⟨c, hc⟩ := gs
      obtain ⟨x, x1, x2⟩ := ih (fun i => s i + (-c) * zstp P j i) (fun y hy => by
        rw [zdw_radd, zdw_rmul]
        obtain ⟨t, ht⟩ := g3 y hy
        have k1 : zWj P (j + 1) (fun i => y i + (-t) * u i) := up _ (L.comb (-t) hy u1) (by
          rw [zdw_add, zdw_mul, ht]
          have q := (Int.dvd_neg).mpr (zdvd_mul t u2)
          rw [Int.mul_sub] at q
          rw [show g * t + -t * zdw (pn P) u (fun i => zstp P j i) = -(t * zdw (pn P) u (fun i => zstp P j i) - t * g) by rw [Int.neg_mul, Int.mul_comm g t]; omega]
          exact q)
        have k2 := h _ k1
        rw [zdw_add, zdw_mul, hc] at k2
        rw [ht]
        rw [show zdw (pn P) y s + -c * (g * t) = zdw (pn P) y s + -t * (g * c) by rw [Int.neg_mul, Int.neg_mul, ← Int.mul_assoc, ← Int.mul_assoc, Int.mul_comm c g, Int.mul_comm t g, Int.mul_assoc, Int.mul_assoc, Int.mul_comm c t]]
        exact k2)
      refine ⟨zupd x j c, fun i a b => ?_, fun k a b d => ?_⟩
      · rw [zsum_s _ hj, zupd_self, zsum_congr (g := fun k => x k * zstp P k i) (fun k ka kb => by rw [zupd_ne _ _ (by omega)])]
        have := x1 i a b
        rw [show zsum (fun k => x k * zstp P k i) j - (s i + -c * zstp P j i) = zsum (fun k => x k * zstp P k i) j + c * zstp P j i - s i by rw [Int.neg_mul]; omega] at this
        exact this
      · by_cases hk : k = j
        · rw [hk] at d; exact absurd d z3
        · rw [zupd_ne _ _ hk]; exact x2 k a (by omega) d
theorem zWt_iff (P : zP) (y : Int → Int) : zWt P y ↔ zWj P (pb P) y := Iff.rfl
/-- what no WEIGHTS speak against can be shown -/
theorem zwhy_ex (P : zP) (hm : 0 < pm P) (hb : 0 ≤ pb P) (h : ∀ y, zWt P y → pm P ∣ zdw (pn P) y (psh P)) : ∃ x, zSol P x := zdual P hm (pb P) hb (psh P) h
/-- the first number of QUIET at a free button, by what weighing it gives -/
theorem zPv_dual (P : zP) (hm : 0 < pm P) {k g : Int} (hk : 0 ≤ k ∧ k < pb P) (h3 : pkd P k ≠ 3) (g1 : 0 < g ∧ g ∣ pm P) (gu : ∃ u, zWj P k u ∧ pm P ∣ zdw (pn P) u (fun i => zstp P k i) - g) (ga : ∀ y, zWj P k y → g ∣ zdw (pn P) y (fun i => zstp P k i)) : zPv (pm P) (pb P) (zQu P) k (pm P / g) := by
  obtain ⟨e, he⟩ := id g1.2
  have ee : pm P / g = e := by
    have h2 := Int.mul_ediv_cancel_left (a := g) e (by omega)
    rw [← he] at h2; exact h2
  have e0 : 0 < e := by
    rcases Int.lt_trichotomy e 0 with z | z | z
    · have := Int.mul_neg_of_pos_of_neg g1.1 z; omega
    · rw [z, Int.mul_zero] at he; omega
    · exact z
  rw [ee]
  refine ⟨⟨e0, ⟨g, by rw [Int.mul_comm]; exact he⟩⟩, ?_, fun z hz hz0 => ?_⟩
  · obtain ⟨x, x1, x2⟩ := zdual P hm k hk.1 (fun i => e * zstp P k i) (fun y hy => by
      rw [zdw_rmul]
      obtain ⟨t, ht⟩ := ga y hy
      rw [ht, ← Int.mul_assoc, Int.mul_comm e g, ← he]; exact Int.dvd_mul_right _ _)
    refine ⟨fun j => if j < k then -(x j) else if j = k then e else 0, ⟨fun i a b => ?_, fun j a b c => ?_⟩, by show (if k < k then -(x k) else if k = k then e else 0) = e; rw [if_neg (by omega), if_pos rfl], fun i a b => by show (if i < k then -(x i) else if i = k then e else 0) = 0; rw [if_neg (by omega), if_neg (by omega)]⟩
    · -- the sum stops at k
      have cut : ∀ n, k + 1 ≤ n → zsum (fun j => (if j < k then -(x j) else if j = k then e else 0) * zstp P j i) n = zsum (fun j => (if j < k then -(x j) else if j = k then e else 0) * zstp P j i) (k + 1) := by
        intro n hn
        have q : ∀ t : Nat, zsum (fun j => (if j < k then -(x j) else if j = k then e else 0) * zstp P j i) (k + 1 + t) = zsum (fun j => (if j < k then -(x j) else if j = k then e else 0) * zstp P j i) (k + 1) := by
          intro t
          induction t with
          | zero => rw [show k + 1 + ((0 : Nat) : Int) = k + 1 by omega]
          | succ t ih =>
            rw [show k + 1 + ((t + 1 : Nat) : Int) = k + 1 + (t : Nat) + 1 by omega, zsum_s _ (by omega), ih, if_neg (by omega), if_neg (by omega), Int.zero_mul, Int.add_zero]
        have := q (n - (k + 1)).toNat
        rw [show k + 1 + (((n - (k + 1)).toNat : Nat) : Int) = n by omega] at this; exact this
      rw [cut (pb P) (by omega), zsum_s _ hk.1, if_neg (by omega), if_pos rfl, zsum_congr (g := fun j => -1 * (x j * zstp P j i)) (fun j ja jb => by rw [if_pos jb, Int.neg_mul]; omega), zsum_mul]
      have := (Int.dvd_neg).mpr (x1 i a b)
      rw [show -(zsum (fun k => x k * zstp P k i) k - e * zstp P k i) = -1 * zsum (fun j => x j * zstp P j i) k + e * zstp P k i by omega] at this
      exact this
    · show pm P ∣ (if j < k then -(x j) else if j = k then e else 0)
      by_cases y : j < k
      · rw [if_pos y]; exact (Int.dvd_neg).mpr (x2 j a y c)
      · rw [if_neg y]
        by_cases w : j = k
        · rw [w] at c; exact absurd c h3
        · rw [if_neg w]; exact Int.dvd_zero _
  · obtain ⟨u, u1, u2⟩ := gu
    -- weigh the whole sum by u
    have w1 : pm P ∣ zdw (pn P) u (fun i => zsum (fun j => z j * zstp P j i) (pb P)) := by
      have q := zdw_rcg (m := pm P) (n := pn P) u (a := fun _ => 0) (b := fun i => zsum (fun j => z j * zstp P j i) (pb P)) (fun i a b => by rw [Int.sub_zero]; exact hz.1 i a b)
      have z0 : zdw (pn P) u (fun _ => 0) = 0 := zsum_zero (fun i _ _ => Int.mul_zero _)
      rw [z0, Int.sub_zero] at q; exact q
    have w2 : zdw (pn P) u (fun i => zsum (fun j => z j * zstp P j i) (pb P)) = zsum (fun j => z j * zdw (pn P) u (fun i => zstp P j i)) (pb P) := by
      unfold zdw
      rw [zsum_congr (g := fun i => zsum (fun j => u (pn P - 1 - i) * (z j * zstp P j i)) (pb P)) (fun i _ _ => by rw [zsum_mul]), zsum_swap]
      exact zsum_congr (fun j _ _ => by rw [← zsum_mul]; exact zsum_congr (fun i _ _ => by rw [← Int.mul_assoc, ← Int.mul_assoc, Int.mul_comm (u _) (z j)]))
    rw [w2] at w1
    have w3 : pm P ∣ zsum (fun j => z j * zdw (pn P) u (fun i => zstp P j i) - (if j = k then z k * zdw (pn P) u (fun i => zstp P k i) else 0)) (pb P) := zsum_dvd (fun j a b => by
      by_cases hj : j = k
      · rw [if_pos hj, hj, Int.sub_self]; exact Int.dvd_zero _
      · rw [if_neg hj, Int.sub_zero]
        by_cases y : j < k
        · by_cases j3 : pkd P j = 3
          · exact Int.dvd_trans (hz.2 j a b j3) (Int.dvd_mul_right _ _)
          · exact zdvd_mul _ (u1 j a y j3)
        · exact Int.dvd_trans (hz0 j (by omega) b) (Int.dvd_mul_right _ _))
    rw [zsum_sub, zsum_one (f := fun j => if j = k then z k * zdw (pn P) u (fun i => zstp P k i) else 0) hk.1 hk.2 (fun j _ _ c => if_neg c), if_pos rfl] at w3
    have w4 := zdvd_sub w1 w3
    rw [show ∀ p q : Int, p - (p - q) = q from fun p q => by omega] at w4
    have w5 := zdvd_mul (z k) u2
    rw [Int.mul_sub] at w5
    have w6 := zdvd_sub w4 w5
    rw [show ∀ p q : Int, p - (p - q) = q from fun p q => by omega] at w6
    obtain ⟨f, hf⟩ := w6
    refine ⟨f, ?_⟩
    have : g * z k = g * (e * f) := by rw [Int.mul_comm g (z k), hf, he, Int.mul_assoc]
    exact Int.eq_of_mul_eq_mul_left (by omega) this
