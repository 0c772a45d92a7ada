/-! THE CLASS'S SOLVER: its tables made -/
theorem zsum_one {f : Int → Int} {i : Int} : ∀ {n : Int}, 0 ≤ i → i < n → (∀ j, 0 ≤ j → j < n → j ≠ i → f j = 0) → zsum f n = f i := by
  intro n hi hn hz
  have key : ∀ n, i + 1 ≤ n → (∀ j, 0 ≤ j → j < n → j ≠ i → f j = 0) → zsum f n = f i := by
    intro n hn hz
    have hq : ∀ t : Nat, (∀ j, 0 ≤ j → j < i + 1 + t → j ≠ i → f j = 0) → zsum f (i + 1 + t) = f i := by
      intro t
      induction t with
      | zero =>
        intro hz
        rw [show i + 1 + ((0 : Nat) : Int) = i + 1 by omega, zsum_s _ hi, zsum_zero (fun j a b => hz j a (by omega) (by omega))]; omega
      | succ t ih =>
        intro hz
        rw [show i + 1 + ((t + 1 : Nat) : Int) = i + 1 + (t : Nat) + 1 by omega, zsum_s _ (by omega), ih (fun j a b c => hz j a (by omega) c), hz (i + 1 + (t : Nat)) (by omega) (by omega) (by omega)]; omega
    have h1 := hq (n - (i + 1)).toNat (fun j a b c => hz j a (by omega) c)
    rw [show i + 1 + (((n - (i + 1)).toNat : Nat) : Int) = n by omega] at h1
    exact h1
  exact key n (by omega) hz
theorem zSpan.sum {m N n : Int} {W : Int → Int → Int} (x : Int → Int) : ∀ k, 0 ≤ k → k ≤ n → zSpan m N W n (fun j => zsum (fun r => x r * W r j) k) := by
  refine zind (P := fun k => k ≤ n → zSpan m N W n (fun j => zsum (fun r => x r * W r j) k)) (fun _ => zSpan.zero) (fun k hk ih hn => ?_)
  refine ((ih (by omega)).comb (x k) (zSpan.row hk (by omega))).cg (fun j _ _ => ?_)
  show m ∣ zsum (fun r => x r * W r j) (k + 1) - (zsum (fun r => x r * W r j) k + x k * W k j)
  rw [zsum_s _ hk, Int.sub_self]; exact Int.dvd_zero m
/-- the rows to begin with -/
theorem zbegin_ok {m h t : Int} {A W : Int → Int → Int} (hm : 2 ≤ m) (hh : 0 ≤ h) (ht : 0 ≤ t) (hA : ∀ r, 0 ≤ r → r < t → ∀ j, 0 ≤ j → j < h → 0 ≤ A r j ∧ A r j < m) (w1 : ∀ r, 0 ≤ r → r < t → ∀ j, 0 ≤ j → j < h → W r j = A r j) (w2 : ∀ r, 0 ≤ r → r < t → ∀ j, 0 ≤ j → j < t → W r (h + j) = if j = r then 1 else 0) : zWk m h t A W t 0 ∧ zAll m h t A W t 0 := by
  refine ⟨fun r a b => ⟨fun j ja jb => ?_, fun i _ _ => by omega, fun i ia ib => ?_⟩, fun v hv _ => ?_⟩
  · rw [zsum_one (f := fun s => W r (h + s) * A s j) a b (fun s sa sb sr => by rw [w2 r a b s sa sb, if_neg sr, Int.zero_mul])]
    rw [w2 r a b r a b, if_pos rfl, Int.one_mul, w1 r a b j ja jb, Int.sub_self]; exact Int.dvd_zero m
  · by_cases hi : i < h
    · rw [w1 r a b i ia hi]; exact hA r a b i ia hi
    · have := w2 r a b (i - h) (by omega) (by omega)
      rw [show h + (i - h) = i by omega] at this
      rw [this]; split <;> omega
  · refine (zSpan.sum (m := m) (N := h + t) (W := W) (fun r => v (h + r)) t ht (by omega)).cg (fun j ja jb => ?_)
    show m ∣ v j - zsum (fun r => v (h + r) * W r j) t
    by_cases hj : j < h
    · rw [zsum_congr (g := fun r => v (h + r) * A r j) (fun r a b => by rw [w1 r a b j ja hj])]
      exact hv j ja hj
    · have e : zsum (fun r => v (h + r) * W r j) t = v j := by
        rw [zsum_one (f := fun r => v (h + r) * W r j) (i := j - h) (by omega) (by omega) (fun r a b c => ?_)]
        · have := w2 (j - h) (by omega) (by omega) (j - h) (by omega) (by omega)
          rw [show h + (j - h) = j by omega] at this ⊢
          rw [this, if_pos rfl, Int.mul_one]
        · have := w2 r a b (j - h) (by omega) (by omega)
          rw [show h + (j - h) = j by omega] at this
          rw [this, if_neg (fun q => c q.symm), Int.mul_zero]
      rw [e, Int.sub_self]; exact Int.dvd_zero m
section SOLVER
variable {E : zE} {S : zS} {V : zH}
theorem sp_fbegin {fm la wk m h t : Int} {F : zH → Prop} (HA : zFA S V fm la wk) (hd : fm ≠ wk ∧ (wk < la ∨ la + 2 < wk) ∧ (fm < la ∨ la + 2 < fm)) (hm : 2 ≤ m ∧ m ≤ 12) (hh : 0 ≤ h ∧ h ≤ 36) (ht : 0 ≤ t ∧ t ≤ 36)
    (hF : ∀ V', zFx S V' fm la wk m h t t → zFu V' la m → (∀ r i, 0 ≤ r → r < t → 0 ≤ i → i < 72 → V' wk (r * 72 + i) = if i = h + r then 1 else 0) → (∀ q, q ≠ fm → q ≠ wk → q ≠ la + 2 → V' q = V q) → F V') : SpV E 2 zm_X1_begin [zrv fm, ziv m, ziv h, ziv t] S V F := by
  obtain ⟨⟨s0, s1, s2, s3, s4⟩, ⟨v4, v5, v6, v7⟩, z0⟩ := id HA
  obtain ⟨d1, d2, d3⟩ := hd
  have kf : (S fm).1 = 4 := by rw [s0]
  refine en_X1_begin (fun _ _ _ X => ⟨kf, fun V2 e2 V4 e4 => ⟨⟨by omega, by omega⟩, fun V7 e7 V9 e9 => ?_⟩⟩)
  have o9 : ∀ j, V9 fm j = if j = 3 then t else if j = 2 then h + t else if j = 1 then h else if j = 0 then m else V fm j := fun j => by
    rw [e9, e7, e4, e2]; simp only [zput, true_and]
  have r9 : ∀ q, q ≠ fm → V9 q = V q := fun q hq => by rw [e9, zput_row _ _ _ hq, e7, zput_row _ _ _ hq, e4, zput_row _ _ _ hq, e2, zput_row _ _ _ hq]
  rw [v6]
  refine sp_fill s4 ⟨by omega, by omega⟩ ?_
  have third : ∀ g, (∀ r i, 0 ≤ r → r < t → 0 ≤ i → i < 72 → g (r * 72 + i) = if i = h + r then 1 else 0) → zl_X1_begin_67 E X F S fm 1 (zarr V9 wk g) := by
    intro g gg
    have key := zdownFrom (Q := fun i => ∀ u, (∀ v, 1 ≤ v → v < i → zUnit m v (u v)) → zl_X1_begin_67 E X F S fm i (zarr (zarr V9 wk g) (la + 2) u)) (c := 1) (N := m) (fun u hu => ?_) (fun i i0 i1 ih u hu => ?_) 1 (by omega) (by omega)
    · have k := key (zarr V9 wk g (la + 2)) (fun v _ _ => by omega)
      rw [zarr_id] at k; exact k
    · have eo : ∀ j, zarr (zarr V9 wk g) (la + 2) u fm j = V9 fm j := fun j => by rw [zarr_ne _ _ (by omega), zarr_ne _ _ d1]
      refine wp_X1_begin_67 ?_
      rw [eo, o9]
      refine ⟨kf, fun _ => hF _ ⟨⟨⟨s0, s1, s2, s3, s4⟩, ⟨by rw [eo, o9]; exact v4, by rw [eo, o9]; exact v5, by rw [eo, o9]; exact v6, by rw [eo, o9]; exact v7⟩, fun c i a b e => by rw [zarr_ne _ _ (by omega), zarr_ne _ _ (by omega), r9 _ (by omega)]; exact z0 c i a b e⟩, ⟨by rw [eo, o9]; rfl, by rw [eo, o9]; rfl, by rw [eo, o9]; rfl, by rw [eo, o9]; rfl⟩, ⟨hm, hh, ht, ht⟩, d1, d2, d3⟩ (fun v a b => by rw [zarr_self]; exact hu v a b) (fun r i a b c d => by rw [zarr_ne _ _ (by omega), zarr_self]; exact gg r i a b c d) (fun q q1 q2 q3 => by rw [zarr_ne _ _ q3, zarr_ne _ _ q2, r9 q q1]), fun q => absurd q (by show ¬ m < m; omega)⟩
    · have eo : ∀ j, zarr (zarr V9 wk g) (la + 2) u fm j = V9 fm j := fun j => by rw [zarr_ne _ _ (by omega), zarr_ne _ _ d1]
      have e0 : zarr (zarr V9 wk g) (la + 2) u fm 0 = m := by rw [eo, o9]; rfl
      have e7' : zarr (zarr V9 wk g) (la + 2) u fm 7 = la + 2 := by rw [eo, o9]; exact v7
      refine wp_X1_begin_67 ?_
      rw [e0, e7', s3]
      refine ⟨kf, fun q => by omega, fun _ => sp_unitFor hm ⟨i0, i1⟩ (fun x hx => ⟨rfl, ⟨by omega, by show i < 12; omega⟩, fun V7' e7'' => ⟨⟨by omega, by omega⟩, ?_⟩⟩)⟩
      rw [e7'', zput_zarr (zarr V9 wk g) (g := zupd u i x) (fun j => rfl)]
      refine ih _ (fun v a b => ?_)
      by_cases hv : v = i
      · rw [hv, zupd_self]; exact hx
      · rw [zupd_ne _ _ hv]; exact hu v a (by omega)
  have key := zdown (Q := fun n => ∀ g, (∀ r i, 0 ≤ r → r < t → 0 ≤ i → i < 72 → g (r * 72 + i) = if r < n ∧ i = h + r then 1 else 0) → zl_X1_begin_33 E X F S fm t n (zarr V9 wk g)) (N := t) (fun g gg => ?_) (fun n n0 n1 ih g gg => ?_) 0 (by omega) (by omega)
  · refine key _ (fun r i a b c d => ?_)
    rw [if_pos (by omega), if_neg (by omega)]
  · refine wp_X1_begin_33 ⟨fun _ => third g (fun r i a b c d => ?_), fun q => by omega⟩
    rw [gg r i a b c d]
    by_cases z : i = h + r
    · rw [if_pos ⟨b, z⟩, if_pos z]
    · rw [if_neg (fun q => z q.2), if_neg z]
  · have eo : ∀ j, zarr V9 wk g fm j = V9 fm j := fun j => by rw [zarr_ne _ _ d1]
    have e1 : zarr V9 wk g fm 1 = h := by rw [eo, o9]; rfl
    have e6 : zarr V9 wk g fm 6 = wk := by rw [eo, o9]; exact v6
    refine wp_X1_begin_33 ⟨fun q => by omega, fun _ => ?_⟩
    rw [e1, e6, s4]
    refine ⟨kf, ⟨by omega, by omega⟩, ⟨by omega, by omega⟩, ⟨by omega, by omega⟩, rfl, ⟨by omega, by show n * 72 + h + n < 2592; omega⟩, fun V8 e8 => ⟨⟨by omega, by omega⟩, ?_⟩⟩
    rw [e8, zput_zarr V9 (g := zupd g (n * 72 + h + n) 1) (fun j => rfl)]
    refine ih _ (fun r i a b c d => ?_)
    by_cases z : r = n ∧ i = h + n
    · obtain ⟨z1, z2⟩ := z
      rw [z1, z2, show n * 72 + (h + n) = n * 72 + h + n by omega, zupd_self, if_pos (by omega)]
    · rw [zupd_ne _ _ (by omega), gg r i a b c d]
      by_cases y : r < n ∧ i = h + r
      · rw [if_pos y, if_pos (by omega)]
      · rw [if_neg y, if_neg (by omega)]
theorem sp_putHead {fm la wk m h t op r c v : Int} {F : zH → Prop} (H : zFx S V fm la wk m h t op) (hr : 0 ≤ r ∧ r < 36) (hc : 0 ≤ c ∧ c < 72) (hF : F (zarr V wk (zupd (V wk) (r * 72 + c) v))) : SpV E 0 zm_X1_putHead [zrv fm, ziv r, ziv c, ziv v] S V F := by
  obtain ⟨⟨⟨s0, s1, s2, s3, s4⟩, ⟨v4, v5, v6, v7⟩, z0⟩, -⟩ := H
  refine en_X1_putHead (fun _ _ _ => ?_)
  rw [v6, s4]
  refine ⟨by rw [s0], ⟨by omega, by omega⟩, ⟨by omega, by omega⟩, rfl, ⟨by omega, by show r * 72 + c < 2592; omega⟩, fun V6 e6 => ?_⟩
  rw [e6, zput_arr V (g := zupd (V wk) (r * 72 + c) v) (fun j => rfl)]
  exact hF
end SOLVER
