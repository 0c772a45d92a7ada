/-! THE CLASS'S FORM: its small methods -/
section FORM
variable {E : zE} {S : zS} {V : zH}
theorem sp_gcd {v m : Int} {F : Int → Prop} (hv : 1 ≤ v ∧ v ≤ 1000) (hm : 1 ≤ m ∧ m ≤ 1000) (h : F (Int.gcd v m)) : SpF E 0 zm_X1_gcd [ziv v, ziv m] S V F := by
  refine en_X1_gcd (fun _ _ X => ?_)
  have g1 : (Int.gcd v m : Int) ∣ v := Int.gcd_dvd_left v m
  have g2 : (Int.gcd v m : Int) ∣ m := Int.gcd_dvd_right v m
  have gp : 1 ≤ (Int.gcd v m : Int) := by
    have : 0 < Int.gcd v m := Int.gcd_pos_of_ne_zero_left _ (by omega)
    omega
  have gl : (Int.gcd v m : Int) ≤ v := Int.le_of_dvd (by omega) g1
  have key : ∀ (n : Nat) (d : Int), d = n → (Int.gcd v m : Int) ≤ d → d ≤ v → zl_X1_gcd_2 E X F S v m d V := by
    intro n
    induction n with
    | zero => intro d hd h1 h2; omega
    | succ n ih =>
      intro d hd h1 h2
      refine wp_X1_gcd_2 ⟨fun c => ?_, fun c => ⟨by omega, by omega, fun c1 => ⟨⟨by omega, by omega⟩, ih _ (by omega) ?_ (by omega)⟩, fun c1 => ⟨by omega, fun c2 => ⟨⟨by omega, by omega⟩, ih _ (by omega) ?_ (by omega)⟩, fun c2 => ?_⟩⟩⟩
      · rw [show (1 : Int) = Int.gcd v m by omega]; exact h
      · have : (Int.gcd v m : Int) ≠ d := fun q => c1 (by rw [← q]; exact Int.emod_eq_zero_of_dvd g1)
        omega
      · have : (Int.gcd v m : Int) ≠ d := fun q => c2 (by rw [← q]; exact Int.emod_eq_zero_of_dvd g2)
        omega
      · have hd' : d ∣ (Int.gcd v m : Int) := Int.dvd_coe_gcd (Int.dvd_of_emod_eq_zero c1) (Int.dvd_of_emod_eq_zero c2)
        have := Int.le_of_dvd (by omega) hd'
        rw [show d = Int.gcd v m by omega]; exact h
  exact key v.toNat v (by omega) gl (by omega)
/-- u brings v to a divisor of m, and can be taken back -/
def zUnit (m v u : Int) : Prop := (1 ≤ u ∧ u < m) ∧ u * v % m = Int.gcd v m ∧ ∃ w, (u * w) % m = 1 % m
theorem zunit_ex : ∀ m : Fin 13, 2 ≤ (m : Nat) → ∀ v : Fin 13, 1 ≤ (v : Nat) → (v : Nat) < m → ∃ u : Fin 13, (1 ≤ (u : Nat) ∧ (u : Nat) < m) ∧ (u : Nat) * v % m = Nat.gcd v m ∧ Nat.gcd u m = 1 := by decide +kernel
theorem zunit_inv : ∀ m : Fin 13, 2 ≤ (m : Nat) → ∀ u : Fin 13, 1 ≤ (u : Nat) → (u : Nat) < m → Nat.gcd u m = 1 → ∃ w : Fin 13, (u : Nat) * w % m = 1 % m := by decide +kernel
theorem sp_unitFor {v m : Int} {F : Int → Prop} (hm : 2 ≤ m ∧ m ≤ 12) (hv : 1 ≤ v ∧ v < m) (h : ∀ u, zUnit m v u → F u) : SpF E 1 zm_X1_unitFor [ziv v, ziv m] S V F := by
  obtain ⟨u0, ⟨u1, u2⟩, u3, u4⟩ := zunit_ex ⟨m.toNat, by omega⟩ (by show 2 ≤ m.toNat; omega) ⟨v.toNat, by omega⟩ (by show 1 ≤ v.toNat; omega) (by show v.toNat < m.toNat; omega)
  have u2' : (u0 : Nat) < m.toNat := u2
  have e1 : ((u0 : Nat) : Int) * v % m = Int.gcd v m := by
    have : (((u0 : Nat) * v.toNat % m.toNat : Nat) : Int) = ((Nat.gcd v.toNat m.toNat : Nat) : Int) := by rw [u3]
    rw [Int.natCast_emod, Int.natCast_mul] at this
    rw [show ((v.toNat : Nat) : Int) = v by omega, show ((m.toNat : Nat) : Int) = m by omega] at this
    rw [this, Int.gcd, show v.natAbs = v.toNat by omega, show m.natAbs = m.toNat by omega]
  have e2 : Int.gcd ((u0 : Nat) : Int) m = 1 := by
    rw [Int.gcd, show m.natAbs = m.toNat by omega, Int.natAbs_natCast]; exact u4
  refine en_X1_unitFor (fun _ _ X => sp_gcd ⟨hv.1, by omega⟩ ⟨by omega, by omega⟩ ?_)
  have key : ∀ (n : Nat) (u : Int), 1 ≤ u → u + n = (u0 : Nat) → zl_X1_unitFor_8 E X F S v m (Int.gcd v m) u V := by
    have fin : ∀ u : Int, 1 ≤ u → u < m → u * v % m = Int.gcd v m → (Int.gcd u m : Int) = 1 → F u := by
      intro u a b c d
      obtain ⟨w, hw⟩ := zunit_inv ⟨m.toNat, by omega⟩ (by show 2 ≤ m.toNat; omega) ⟨u.toNat, by omega⟩ (by show 1 ≤ u.toNat; omega) (by show u.toNat < m.toNat; omega) (by
        have : Int.gcd u m = 1 := by omega
        rw [Int.gcd, show u.natAbs = u.toNat by omega, show m.natAbs = m.toNat by omega] at this; exact this)
      refine h u ⟨⟨a, b⟩, c, ((w : Nat) : Int), ?_⟩
      have hw' : u.toNat * (w : Nat) % m.toNat = 1 % m.toNat := hw
      have : ((u.toNat * (w : Nat) % m.toNat : Nat) : Int) = ((1 % m.toNat : Nat) : Int) := by rw [hw']
      rw [Int.natCast_emod, Int.natCast_emod, Int.natCast_mul] at this
      rw [show ((u.toNat : Nat) : Int) = u by omega, show ((m.toNat : Nat) : Int) = m by omega] at this
      exact this
    intro n
    induction n with
    | zero =>
      intro u hu he
      have hu0 : u = ((u0 : Nat) : Int) := by omega
      have ml := zmul_le (a := u) (b := v) (A := 12) (B := 12) ⟨by omega, by omega⟩ ⟨by omega, by omega⟩
      refine wp_X1_unitFor_8 ⟨fun c => by omega, fun c => ⟨⟨by omega, by omega⟩, ml.1, by omega, fun z => absurd (by rw [hu0]; exact e1) z, fun z => sp_gcd ⟨hu, by omega⟩ ⟨by omega, by omega⟩ ⟨fun q => absurd (by rw [hu0, e2]; rfl) q, fun q => fin u hu c z q⟩⟩⟩
    | succ n ih =>
      intro u hu he
      have ml := zmul_le (a := u) (b := v) (A := 12) (B := 12) ⟨by omega, by omega⟩ ⟨by omega, by omega⟩
      refine wp_X1_unitFor_8 ⟨fun c => by omega, fun c => ⟨⟨by omega, by omega⟩, ml.1, by omega, fun z => ⟨⟨by omega, by omega⟩, ih _ (by omega) (by omega)⟩, fun z => sp_gcd ⟨hu, by omega⟩ ⟨by omega, by omega⟩ ⟨fun q => ⟨⟨by omega, by omega⟩, ih _ (by omega) (by omega)⟩, fun q => fin u hu c z q⟩⟩⟩
  exact key ((u0 : Nat) - 1) 1 (by omega) (by omega)
theorem sp_addTimes {fm a tb b fb c k m wd NA NB : Int} {F : zH → Prop} (kf : (S fm).1 = 4) (e0 : V fm 0 = m) (e2 : V fm 2 = wd) (ha : S a = (1, NA)) (hb : S b = (1, NB)) (hfa : fm ≠ a) (ht : 0 ≤ tb ∧ tb + wd ≤ NA ∧ NA ≤ 1000000) (hf : 0 ≤ fb ∧ fb + wd ≤ NB ∧ NB ≤ 1000000) (hc : 0 ≤ c ∧ c ≤ wd) (hm : 2 ≤ m ∧ m ≤ 12) (hk : 0 ≤ k ∧ k ≤ 12)
    (ra : ∀ i, c ≤ i → i < wd → 0 ≤ V a (tb + i) ∧ V a (tb + i) < m) (rb : ∀ i, c ≤ i → i < wd → 0 ≤ V b (fb + i) ∧ V b (fb + i) < m) (sep : b ≠ a ∨ tb + wd ≤ fb ∨ fb + wd ≤ tb)
    (h : ∀ g, (∀ i, c ≤ i → i < wd → g (tb + i) = (V a (tb + i) + k * V b (fb + i)) % m) → (∀ j, (j < tb + c ∨ tb + wd ≤ j) → g j = V a j) → F (zarr V a g)) : SpV E 0 zm_X1_addTimes [zrv fm, zrv a, ziv tb, zrv b, ziv fb, ziv c, ziv k] S V F := by
  refine en_X1_addTimes (fun _ _ _ _ X => ?_)
  have key := zdownFrom (Q := fun i => ∀ g, (∀ j, c ≤ j → j < i → g (tb + j) = (V a (tb + j) + k * V b (fb + j)) % m) → (∀ j, (j < tb + c ∨ tb + i ≤ j) → g j = V a j) → zl_X1_addTimes_4 E X F S fm a tb b fb k i (zarr V a g)) (c := c) (N := wd) (fun g g1 g2 => ?_) (fun i i0 i1 ih g g1 g2 => ?_) c (by omega) hc.2
  · have k := key (V a) (fun j _ _ => by omega) (fun _ _ => rfl)
    rw [zarr_id] at k; exact k
  · refine wp_X1_addTimes_4 ?_
    rw [zarr_ne _ _ hfa, e2]
    exact ⟨kf, fun _ => h g g1 g2, fun q => by omega⟩
  · have eb : zarr V a g b (fb + i) = V b (fb + i) := by
      by_cases z : b = a
      · subst z
        rw [zarr_self]; exact g2 _ (by rcases sep with q | q | q <;> omega)
      · rw [zarr_ne _ _ z]
    have ea : zarr V a g a (tb + i) = V a (tb + i) := by rw [zarr_self]; exact g2 _ (by omega)
    have r1 := ra i i0 i1
    have r2 := rb i i0 i1
    have ml := zmul_le (a := k) (b := V b (fb + i)) (A := 12) (B := 12) hk ⟨r2.1, by omega⟩
    refine wp_X1_addTimes_4 ?_
    rw [zarr_ne _ _ hfa, e2, e0, ha, hb, ea]
    refine ⟨kf, fun q => by omega, fun _ => ⟨⟨by omega, by omega⟩, rfl, ⟨by omega, by show fb + i < NB; omega⟩, fun x6 e6 => ?_⟩⟩
    rw [eb] at e6
    subst e6
    refine ⟨fun z => ⟨⟨by omega, by omega⟩, ih g (fun j ja jb => ?_) (fun j hj => g2 j (by omega))⟩, fun z => ⟨⟨by omega, by omega⟩, rfl, ⟨by omega, by show tb + i < NA; omega⟩, ⟨by omega, by omega⟩, ⟨by omega, by omega⟩, by omega, by omega, fun V17 e17 => ⟨⟨by omega, by omega⟩, ?_⟩⟩⟩
    · by_cases hj : j = i
      · subst hj
        rw [z, Int.mul_zero, Int.add_zero, g2 _ (by omega), Int.emod_eq_of_lt r1.1 r1.2]
      · exact g1 j ja (by omega)
    · rw [e17, zput_zarr V (g := zupd g (tb + i) ((V a (tb + i) + k * V b (fb + i)) % m)) (fun j => rfl)]
      refine ih _ (fun j ja jb => ?_) (fun j hj => by rw [zupd_ne _ _ (by omega)]; exact g2 j (by omega))
      by_cases hj : j = i
      · rw [hj, zupd_self]
      · rw [zupd_ne _ _ (by omega)]; exact g1 j ja (by omega)
/-- a Form whose work is under way -/
def zFx (S : zS) (V : zH) (fm la wk m h t op : Int) : Prop :=
  zFA S V fm la wk ∧ (V fm 0 = m ∧ V fm 1 = h ∧ V fm 2 = h + t ∧ V fm 3 = op) ∧ ((2 ≤ m ∧ m ≤ 12) ∧ (0 ≤ h ∧ h ≤ 36) ∧ (0 ≤ t ∧ t ≤ 36) ∧ (0 ≤ op ∧ op ≤ 36)) ∧ (fm ≠ wk ∧ (wk < la ∨ la + 2 < wk) ∧ (fm < la ∨ la + 2 < fm))
theorem zFx.wk {fm la wk m h t op : Int} (H : zFx S V fm la wk m h t op) (g : Int → Int) : zFx S (zarr V wk g) fm la wk m h t op := by
  obtain ⟨h1, h2, h3, h4⟩ := H
  refine ⟨h1.congr (zarr_ne _ _ h4.1) (zarr_ne _ _ (by omega)), ?_, h3, h4⟩
  rw [zarr_ne _ _ h4.1]; exact h2
/-- a row of rows of 72 -/
def zRo (g : Int → Int) : Int → Int → Int := fun r i => g (r * 72 + i)
theorem sp_multiply {fm la wk m h t op r c k : Int} {F : Int → zH → Prop} (H : zFx S V fm la wk m h t op) (hr : 0 ≤ r ∧ r < 36) (hc : 0 ≤ c ∧ c < h + t) (hk : 0 ≤ k ∧ k ≤ 12) (rg : ∀ i, c ≤ i → i < h + t → 0 ≤ V wk (r * 72 + i) ∧ V wk (r * 72 + i) < m)
    (hF : ∀ g a, (∀ i, c ≤ i → i < h + t → g (r * 72 + i) = (V wk (r * 72 + i) * k) % m) → (∀ j, (j < r * 72 + c ∨ r * 72 + (h + t) ≤ j) → g j = V wk j) → (a ≠ 0 → ∀ i, c ≤ i → i < h + t → g (r * 72 + i) = 0) → F a (zarr V wk g)) : SpI E 0 zm_X1_multiply [zrv fm, ziv r, ziv c, ziv k] S V F := by
  obtain ⟨⟨⟨s0, s1, s2, s3, s4⟩, ⟨v4, v5, v6, v7⟩, z0⟩, ⟨w0, w1, w2, w3⟩, ⟨hm, hh, ht, hop⟩, d1, d2, d3⟩ := id H
  refine en_X1_multiply (fun _ _ _ X => ⟨⟨by omega, by omega⟩, ⟨by omega, by omega⟩, fun x3 e3 => ?_⟩)
  have key := zdownFrom (Q := fun i => ∀ g a, (a = 0 ∨ a = 1) → (∀ j, c ≤ j → j < i → g (r * 72 + j) = (V wk (r * 72 + j) * k) % m) → (∀ j, (j < r * 72 + c ∨ r * 72 + i ≤ j) → g j = V wk j) → (a ≠ 0 → ∀ j, c ≤ j → j < i → g (r * 72 + j) = 0) → zl_X1_multiply_11 E X F S fm r k a (r * 72 + i) (zarr V wk g)) (c := c) (N := h + t) (fun g a ha g1 g2 g3 => ?_) (fun i i0 i1 ih g a ha g1 g2 g3 => ?_) c (by omega) (by omega)
  · have q := key (V wk) 1 (Or.inr rfl) (fun j _ _ => by omega) (fun _ _ => rfl) (fun _ j _ _ => by omega)
    rw [zarr_id] at q
    rw [e3]; exact q
  · refine wp_X1_multiply_11 ?_
    rw [zarr_ne _ _ d1, w2]
    exact ⟨⟨by omega, by omega⟩, by rw [s0], ⟨by omega, by omega⟩, fun _ => ⟨ha, hF g a g1 g2 g3⟩, fun q => by omega⟩
  · have r1 := rg i i0 i1
    have ml := zmul_le (a := V wk (r * 72 + i)) (b := k) (A := 12) (B := 12) ⟨r1.1, by omega⟩ hk
    have ea : zarr V wk g wk (r * 72 + i) = V wk (r * 72 + i) := by rw [zarr_self]; exact g2 _ (by omega)
    have step : ∀ V11, V11 = zput (zarr V wk g) wk (r * 72 + i) ((V wk (r * 72 + i) * k) % m) → ∀ a', (a' = 0 ∨ a' = 1) → (a' ≠ 0 → a ≠ 0 ∧ (V wk (r * 72 + i) * k) % m = 0) → zl_X1_multiply_11 E X F S fm r k a' (r * 72 + i + 1) V11 := by
      intro V11 e11 a' ha' h3
      rw [e11, zput_zarr V (g := zupd g (r * 72 + i) ((V wk (r * 72 + i) * k) % m)) (fun j => rfl)]
      have q := ih (zupd g (r * 72 + i) ((V wk (r * 72 + i) * k) % m)) a' ha' (fun j ja jb => ?_) (fun j hj => by rw [zupd_ne _ _ (by omega)]; exact g2 j (by omega)) (fun z j ja jb => ?_)
      · rw [show r * 72 + (i + 1) = r * 72 + i + 1 by omega] at q; exact q
      · by_cases hj : j = i
        · rw [hj, zupd_self]
        · rw [zupd_ne _ _ (by omega)]; exact g1 j ja (by omega)
      · by_cases hj : j = i
        · rw [hj, zupd_self]; exact (h3 z).2
        · rw [zupd_ne _ _ (by omega)]; exact g3 (h3 z).1 j ja (by omega)
    refine wp_X1_multiply_11 ?_
    rw [zarr_ne _ _ d1, w2, w0, v6, s4, ea]
    refine ⟨⟨by omega, by omega⟩, by rw [s0], ⟨by omega, by omega⟩, fun q => by omega, fun _ => ⟨rfl, ⟨by omega, by show r * 72 + i < 2592; omega⟩, ⟨by omega, by omega⟩, ml.1, by omega, fun V11 e11 => ⟨fun z => ⟨⟨by omega, by omega⟩, step V11 e11 0 (Or.inl rfl) (fun q => absurd rfl q)⟩, fun z => ⟨fun z2 => ⟨⟨by omega, by omega⟩, step V11 e11 0 (Or.inl rfl) (fun q => absurd rfl q)⟩, fun z2 => ⟨⟨by omega, by omega⟩, step V11 e11 1 (Or.inr rfl) (fun _ => ⟨z, z2⟩)⟩⟩⟩⟩⟩
end FORM
