/-! THE CLASS'S FORM: a row settled, rows reduced, the whole form built -/
def zLd (m h t : Int) (A : Int → Int → Int) (ld : Int → Int) (R : Int → Int → Int) (c : Int) : Prop :=
  ((0 ≤ ld c ∧ ld c < m) ∧ (ld c ≠ 0 → ld c ∣ m ∧ zLin m h t A (R c) ∧ R c c = ld c ∧ (∀ i, 0 ≤ i → i < c → R c i = 0) ∧ ∀ i, c < i → i < h + t → 0 ≤ R c i ∧ R c i < m)) ∧
  ∀ v, zLin m h t A v → (∀ i, 0 ≤ i → i < c → m ∣ v i) → zlead m (ld c) ∣ v c
theorem zLd.congr {m h t : Int} {A : Int → Int → Int} {ld ld' : Int → Int} {R R' : Int → Int → Int} {c : Int} (hh : 0 ≤ h) (ht : 0 ≤ t) (H : zLd m h t A ld R c) (hc : 0 ≤ c ∧ c < h + t) (e1 : ld' c = ld c) (e2 : ∀ i, 0 ≤ i → i < h + t → R' c i = R c i) : zLd m h t A ld' R' c := by
  obtain ⟨⟨h1, h2⟩, h3⟩ := H
  refine ⟨⟨by rw [e1]; exact h1, fun z => ?_⟩, by rw [e1]; exact h3⟩
  rw [e1] at z ⊢
  obtain ⟨q1, q2, q3, q4, q5⟩ := h2 z
  exact ⟨q1, zLin.cg hh q2 (fun j ja jb => by rw [e2 j ja jb, Int.sub_self]; exact Int.dvd_zero m) ht, by rw [e2 c hc.1 hc.2]; exact q3, fun i ia ib => by rw [e2 i ia (by omega)]; exact q4 i ia ib, fun i ia ib => by rw [e2 i (by omega) ib]; exact q5 i ia ib⟩
/-- behind a settled row -/
theorem zAll.settle {m h t op op' c p : Int} {A : Int → Int → Int} {W W' : Int → Int → Int} (hm : 0 < m) (hA : zAll m h t A W op c) (hc : 0 ≤ c ∧ c < h + t) (hp : 0 ≤ p ∧ p < op) (hd : 0 < W p c ∧ W p c ∣ m) (ho : ∀ r, 0 ≤ r → r < op → r ≠ p → W r c = 0) (hr : ∀ r, 0 ≤ r → r < op → r ≠ p → zSpan m (h + t) W' op' (W r)) (hq : zSpan m (h + t) W' op' (fun j => m / W p c * W p j)) : zAll m h t A W' op' (c + 1) := by
  intro v hv hz
  obtain ⟨k, k1, k2⟩ := (hA v hv (fun i a b => hz i a (by omega))).pivot (g := W p c) hd.2 hp hc rfl ho hr
  have k3 : m ∣ k * W p c := by
    have := zdvd_sub (hz c hc.1 (by omega)) k1
    rw [show v c - (v c - k * W p c) = k * W p c by omega] at this; exact this
  obtain ⟨e, he⟩ := hd.2
  have em : m / W p c = e := by
    have h2 := Int.mul_ediv_cancel_left (a := W p c) e (by omega)
    rw [← he] at h2; exact h2
  obtain ⟨k', hk'⟩ : e ∣ k := by
    obtain ⟨x, hx⟩ := k3
    refine ⟨x, ?_⟩
    have : W p c * k = W p c * (e * x) := by rw [← Int.mul_assoc, ← he, ← hx, Int.mul_comm]
    exact Int.eq_of_mul_eq_mul_left (by omega) this
  refine ((k2.comb k' hq).cg (fun j _ _ => ?_))
  show m ∣ v j - (v j + -k * W p j + k' * (m / W p c * W p j))
  rw [em, hk', show v j - (v j + -(e * k') * W p j + k' * (e * W p j)) = 0 by rw [← Int.mul_assoc, Int.mul_comm k' e, Int.neg_mul]; omega]
  exact Int.dvd_zero m
section FORM3
variable {E : zE} {S : zS} {V : zH} {fm la wk m h t op : Int} {A : Int → Int → Int}
theorem sp_settle {p c : Int} {F : zH → Prop} (H : zFx S V fm la wk m h t op) (hU : zFu V la m) (hW : zWk m h t A (zRo (V wk)) op c) (hA : zAll m h t A (zRo (V wk)) op c) (hc : 0 ≤ c ∧ c < h + t) (hp : 0 ≤ p ∧ p < op) (hd : 0 < zRo (V wk) p c ∧ zRo (V wk) p c ∣ m) (ho : ∀ r, 0 ≤ r → r < op → r ≠ p → zRo (V wk) r c = 0)
    (hF : ∀ V' op', zFx S V' fm la wk m h t op' → zFu V' la m → zWk m h t A (zRo (V' wk)) op' (c + 1) → zAll m h t A (zRo (V' wk)) op' (c + 1) → zLd m h t A (V' la) (zRo (V' (la + 1))) c → (∀ j, j ≠ c → V' la j = V la j) → (∀ j, (j < c * 72 ∨ c * 72 + 72 ≤ j) → V' (la + 1) j = V (la + 1) j) → (∀ q, q ≠ fm → q ≠ wk → q ≠ la → q ≠ la + 1 → V' q = V q) → F V') : SpV E 1 zm_X1_settle [zrv fm, ziv p, ziv c] S V F := by
  obtain ⟨⟨⟨s0, s1, s2, s3, s4⟩, ⟨v4, v5, v6, v7⟩, z0⟩, ⟨w0, w1, w2, w3⟩, ⟨hm, hh, ht, hop⟩, d1, d2, d3⟩ := id H
  have kf : (S fm).1 = 4 := by rw [s0]
  obtain ⟨lp, zp, rp⟩ := hW p hp.1 hp.2
  have rpc := rp c hc.1 hc.2
  refine en_X1_settle (fun _ _ X => ?_)
  rw [w2, w0, v4, v5, v6, s1, s2, s4]
  refine ⟨kf, ⟨by omega, by omega⟩, ⟨by omega, by omega⟩, ⟨by omega, by omega⟩, ⟨by omega, by omega⟩, ⟨by omega, by omega⟩, rfl, rfl, ⟨by omega, by omega, by omega, by show p * 72 + c + (h + t - c) ≤ 2592; omega, by show c * 72 + c + (h + t - c) ≤ 5184; omega⟩, fun V10 e10 => ?_⟩
  have a10 : ∀ j, V10 (la + 1) j = if c * 72 + c ≤ j ∧ j < c * 72 + c + (h + t - c) then V wk (p * 72 + c + (j - (c * 72 + c))) else V (la + 1) j := fun j => by
    rw [e10, zcpy_arr V (fun j => rfl), zarr_self]
  have r10 : ∀ q, q ≠ la + 1 → V10 q = V q := fun q hq => by rw [e10, zcpy_row _ _ _ _ _ hq]
  rw [r10 wk (by omega)]
  refine ⟨⟨by omega, by show p * 72 + c < 2592; omega⟩, rfl, ⟨hc.1, by show c < 72; omega⟩, fun V15 e15 => sp_max ?_⟩
  have ed : V wk (p * 72 + c) = zRo (V wk) p c := rfl
  rw [ed] at e15 ⊢
  generalize hdd : zRo (V wk) p c = d at *
  have emx : (if (1 : Int) < d then d else 1) = d := by split <;> omega
  rw [emx]
  have r15 : ∀ q, q ≠ la → q ≠ la + 1 → V15 q = V q := fun q q1 q2 => by rw [e15, zput_row _ _ _ q1, r10 q q2]
  have l15 : ∀ j, V15 la j = if j = c then d else V la j := fun j => by rw [e15]; simp only [zput, true_and]; rw [r10 la (by omega)]
  have m15 : ∀ j, V15 (la + 1) j = if c * 72 + c ≤ j ∧ j < c * 72 + c + (h + t - c) then V wk (p * 72 + c + (j - (c * 72 + c))) else V (la + 1) j := fun j => by rw [e15, zput_row _ _ _ (by omega), a10]
  -- the lead and the row, whatever becomes of work
  have low0 : ∀ i, 0 ≤ i → i < c → V (la + 1) (c * 72 + i) = 0 := fun i a b => z0 c i a b (by omega)
  have rowc : ∀ i, 0 ≤ i → i < h + t → V15 (la + 1) (c * 72 + i) = zRo (V wk) p i := fun i a b => by
    rw [m15]
    by_cases hi : i < c
    · rw [if_neg (by omega), low0 i a hi, zp i a hi]
    · rw [if_pos (by omega), show p * 72 + c + (c * 72 + i - (c * 72 + c)) = p * 72 + i by omega]; rfl
  have ldc : zLd m h t A (V15 la) (zRo (V15 (la + 1))) c := by
    have e1 : V15 la c = d := by rw [l15, if_pos rfl]
    refine ⟨⟨by rw [e1]; omega, fun _ => ?_⟩, fun v hv hz => ?_⟩
    · rw [e1]
      refine ⟨hd.2, zLin.cg hh.1 lp (fun j ja jb => by show m ∣ V15 (la + 1) (c * 72 + j) - zRo (V wk) p j; rw [rowc j ja jb, Int.sub_self]; exact Int.dvd_zero m) ht.1, by show V15 (la + 1) (c * 72 + c) = d; rw [rowc c hc.1 hc.2]; exact hdd, fun i ia ib => by show V15 (la + 1) (c * 72 + i) = 0; rw [rowc i ia (by omega)]; exact zp i ia ib, fun i ia ib => by show 0 ≤ V15 (la + 1) (c * 72 + i) ∧ V15 (la + 1) (c * 72 + i) < m; rw [rowc i (by omega) ib]; exact rp i (by omega) ib⟩
    · rw [e1]
      have : zlead m d = d := if_neg (by omega)
      rw [this]
      refine (hA v hv hz).dvd hd.2 hc (fun r a b => ?_)
      by_cases hr : r = p
      · rw [hr, hdd]; exact Int.dvd_refl d
      · rw [ho r a b hr]; exact Int.dvd_zero d
  have frm : ∀ V' op', (0 ≤ op' ∧ op' ≤ 36) → (∀ q, q ≠ fm → q ≠ wk → V' q = V15 q) → (∀ j, j ≠ 3 → V' fm j = V15 fm j) → V' fm 3 = op' → zWk m h t A (zRo (V' wk)) op' (c + 1) → zAll m h t A (zRo (V' wk)) op' (c + 1) → F V' := by
    intro V' op' ho' f1 f2 f3 w' a'
    have fo : ∀ j, j ≠ 3 → V' fm j = V fm j := fun j hj => by rw [f2 j hj, r15 fm (by omega) (by omega)]
    have el : V' la = V15 la := f1 la (by omega) (by omega)
    have er : V' (la + 1) = V15 (la + 1) := f1 (la + 1) (by omega) (by omega)
    refine hF V' op' ⟨⟨⟨s0, s1, s2, s3, s4⟩, ⟨by rw [fo 4 (by decide)]; exact v4, by rw [fo 5 (by decide)]; exact v5, by rw [fo 6 (by decide)]; exact v6, by rw [fo 7 (by decide)]; exact v7⟩, fun k i ia ib ic => ?_⟩, ⟨by rw [fo 0 (by decide)]; exact w0, by rw [fo 1 (by decide)]; exact w1, by rw [fo 2 (by decide)]; exact w2, f3⟩, ⟨hm, hh, ht, ho'⟩, d1, d2, d3⟩ (fun v a b => ?_) w' a' (by rw [el, er]; exact ldc) (fun j hj => by rw [el, l15, if_neg hj]) (fun j hj => by rw [er, m15, if_neg (by omega)]) (fun q q1 q2 q3 q4 => by rw [f1 q q1 q2, r15 q q3 q4])
    · rw [er]
      by_cases hk : k = c
      · rw [hk, m15, if_neg (by omega)]; exact low0 i ia (by omega)
      · rw [m15, if_neg (by omega)]; exact z0 k i ia ib ic
    · rw [f1 (la + 2) (by omega) (by omega), r15 (la + 2) (by omega) (by omega)]; exact hU v a b
  -- the pivot's row goes
  have gone : ∀ g, (∀ j, (j < p * 72 + c ∨ p * 72 + (h + t) ≤ j) → g j = V wk j) → (∀ i, 0 ≤ i → i < h + t → m ∣ m / d * zRo (V wk) p i) → zl_X1_settle_80 E X F S fm p (zarr V15 wk g) := by
    intro g g2 hz
    have eo : ∀ j, zarr V15 wk g fm j = V fm j := fun j => by rw [zarr_ne _ _ d1, r15 fm (by omega) (by omega)]
    have oth : ∀ r, 0 ≤ r → r < op → r ≠ p → ∀ i, 0 ≤ i → i < h + t → g (r * 72 + i) = V wk (r * 72 + i) := fun r a b z i ia ib => g2 _ (by omega)
    -- rows that stay
    have fin : ∀ G : Int → Int → Int, (∀ r, 0 ≤ r → r < op - 1 → r ≠ p → ∀ i, 0 ≤ i → i < h + t → G r i = zRo (V wk) r i) → (p ≠ op - 1 → ∀ i, 0 ≤ i → i < h + t → G p i = zRo (V wk) (op - 1) i) → zWk m h t A G (op - 1) (c + 1) ∧ zAll m h t A G (op - 1) (c + 1) := by
      intro G G1 G2
      have same : ∀ r r', 0 ≤ r → r < op → r ≠ p → (∀ i, 0 ≤ i → i < h + t → G r' i = zRo (V wk) r i) → zLin m h t A (G r') ∧ (∀ i, 0 ≤ i → i < c + 1 → G r' i = 0) ∧ ∀ i, 0 ≤ i → i < h + t → 0 ≤ G r' i ∧ G r' i < m := by
        intro r r' a b z e
        obtain ⟨q1, q2, q3⟩ := hW r a b
        refine ⟨zLin.cg hh.1 q1 (fun j ja jb => by rw [e j ja jb, Int.sub_self]; exact Int.dvd_zero m) ht.1, fun i ia ib => ?_, fun i ia ib => by rw [e i ia ib]; exact q3 i ia ib⟩
        rw [e i ia (by omega)]
        by_cases hi : i = c
        · rw [hi]; exact ho r a b z
        · exact q2 i ia (by omega)
      refine ⟨fun r a b => ?_, zAll.settle (by omega) hA hc hp (by rw [hdd]; exact hd) ho (fun r a b z => ?_) ?_⟩
      · by_cases z : r = p
        · subst z
          exact same (op - 1) r (by omega) (by omega) (by omega) (G2 (by omega))
        · exact same r r a (by omega) z (G1 r a b z)
      · by_cases y : r = op - 1
        · subst y
          exact (zSpan.row (W := G) hp.1 (by omega)).cg (fun j ja jb => by rw [G2 (by omega) j ja jb, Int.sub_self]; exact Int.dvd_zero m)
        · exact (zSpan.row (W := G) a (by omega)).cg (fun j ja jb => by rw [G1 r a (by omega) z j ja jb, Int.sub_self]; exact Int.dvd_zero m)
      · refine zSpan.zero.cg (fun j ja jb => ?_)
        show m ∣ m / zRo (V wk) p c * zRo (V wk) p j - 0
        rw [hdd, Int.sub_zero]; exact hz j ja jb
    refine wp_X1_settle_80 ?_
    rw [eo 3, eo 2, eo 6, w3, w2, v6, s4]
    refine ⟨kf, ⟨by omega, by omega⟩, fun V3 e3 => ⟨fun z => ?_, fun z => ⟨⟨by omega, by omega⟩, ⟨by omega, by omega⟩, rfl, ⟨by omega, by omega, by omega, by show (op - 1) * 72 + (h + t) ≤ 2592; omega, by show p * 72 + (h + t) ≤ 2592; omega⟩, fun V10' e10' => ?_⟩⟩⟩
    · have ew : V3 wk = g := by rw [e3, zput_row _ _ _ (by omega), zarr_self]
      obtain ⟨f1, f2⟩ := fin (zRo (V3 wk)) (fun r a b y i ia ib => by rw [ew]; exact oth r a (by omega) y i ia ib) (fun y => absurd z y)
      exact frm V3 (op - 1) (by omega) (fun q q1 q2 => by rw [e3, zput_row _ _ _ q1, zarr_ne _ _ q2]) (fun j hj => by rw [e3, zput_nk _ _ _ _ hj, zarr_ne _ _ d1]) (by rw [e3, zput_self]) f1 f2
    · have ew : ∀ j, V10' wk j = if p * 72 ≤ j ∧ j < p * 72 + (h + t) then g ((op - 1) * 72 + (j - p * 72)) else g j := fun j => by
        have ew3 : V3 wk = g := by rw [e3, zput_row _ _ _ (by omega), zarr_self]
        rw [e10', zcpy_arr V3 (fun j => rfl), zarr_self, ew3]
      have rr : ∀ q, q ≠ wk → V10' q = V3 q := fun q hq => by rw [e10', zcpy_row _ _ _ _ _ hq]
      obtain ⟨f1, f2⟩ := fin (zRo (V10' wk)) (fun r a b y i ia ib => by
        show V10' wk (r * 72 + i) = V wk (r * 72 + i)
        rw [ew, if_neg (by omega)]; exact oth r a (by omega) y i ia ib) (fun y i ia ib => by
        show V10' wk (p * 72 + i) = V wk ((op - 1) * 72 + i)
        rw [ew, if_pos (by omega), show (op - 1) * 72 + (p * 72 + i - p * 72) = (op - 1) * 72 + i by omega]; exact oth (op - 1) (by omega) (by omega) (by omega) i ia ib)
      exact frm V10' (op - 1) (by omega) (fun q q1 q2 => by rw [rr q q2, e3, zput_row _ _ _ q1, zarr_ne _ _ q2]) (fun j hj => by rw [rr fm d1, e3, zput_nk _ _ _ _ hj, zarr_ne _ _ d1]) (by rw [rr fm d1, e3, zput_self]) f1 f2
  refine ⟨by omega, hd.1, fun x21 e21 => ⟨fun z => ?_, fun z => ?_⟩⟩
  · have := gone (V15 wk) (fun j _ => by rw [r15 wk (by omega) (by omega)]) (fun i _ _ => by rw [← e21, z]; exact Int.dvd_mul_right m _)
    rw [zarr_id] at this; exact this
  · have H15 : zFx S V15 fm la wk m h t op := by
      have eo : V15 fm = V fm := r15 fm (by omega) (by omega)
      refine ⟨⟨⟨s0, s1, s2, s3, s4⟩, by rw [eo]; exact ⟨v4, v5, v6, v7⟩, fun k i ia ib ic => ?_⟩, by rw [eo]; exact ⟨w0, w1, w2, w3⟩, ⟨hm, hh, ht, hop⟩, d1, d2, d3⟩
      by_cases hk : k = c
      · rw [hk, m15, if_neg (by omega)]; exact low0 i ia (by omega)
      · rw [m15, if_neg (by omega)]; exact z0 k i ia ib ic
    have ew : V15 wk = V wk := r15 wk (by omega) (by omega)
    have qb := zdiv_le (show 0 ≤ m by omega) hd.1
    rw [← e21] at qb
    refine sp_multiply H15 ⟨hp.1, by omega⟩ hc ⟨qb.1, by omega⟩ (fun i a b => by rw [ew]; exact rp i (by omega) b) (fun g a g1 g2 g3 => ⟨fun _ => ?_, fun ya => ?_⟩)
    · rw [ew] at g1 g2
      have oth : ∀ r, 0 ≤ r → r < op → r ≠ p → ∀ i, 0 ≤ i → i < h + t → zRo g r i = zRo (V wk) r i := fun r ra rb rz i ia ib => g2 _ (by omega)
      have cgp : zcg m (h + t) (fun j => x21 * zRo (V wk) p j) (zRo g p) := fun j ja jb => by
        show m ∣ zRo g p j - x21 * zRo (V wk) p j
        by_cases hj : j < c
        · have a1 : zRo g p j = zRo (V wk) p j := g2 _ (by omega)
          rw [a1, zp j ja hj]; simp
        · have a1 : zRo g p j = (zRo (V wk) p j * x21) % m := g1 j (by omega) jb
          rw [a1, Int.mul_comm x21]; exact zdvd_emod m _
      refine frm (zarr V15 wk g) op hop (fun q q1 q2 => zarr_ne _ _ q2) (fun j _ => by rw [zarr_ne _ _ d1]) (by rw [zarr_ne _ _ d1, r15 fm (by omega) (by omega)]; exact w3) ?_ ?_
      · rw [zarr_self]
        intro r ra rb
        by_cases hr : r = p
        · subst hr
          refine ⟨zLin.cg hh.1 (lp.mul x21) cgp ht.1, fun i ia ib => ?_, fun i ia ib => ?_⟩
          · by_cases hi : i = c
            · have a1 : zRo g r i = (zRo (V wk) r i * x21) % m := g1 i (by omega) (by omega)
              rw [a1, hi, hdd, e21, Int.mul_ediv_cancel' hd.2, Int.emod_self]
            · have a1 : zRo g r i = zRo (V wk) r i := g2 _ (by omega)
              rw [a1]; exact zp i ia (by omega)
          · by_cases hi : i < c
            · have a1 : zRo g r i = zRo (V wk) r i := g2 _ (by omega)
              rw [a1]; exact rp i ia ib
            · have a1 : zRo g r i = (zRo (V wk) r i * x21) % m := g1 i (by omega) ib
              rw [a1]; exact zmod_le _ (by omega)
        · obtain ⟨q1, q2, q3⟩ := hW r ra rb
          refine ⟨zLin.cg hh.1 q1 (fun j ja jb => by rw [oth r ra rb hr j ja jb, Int.sub_self]; exact Int.dvd_zero m) ht.1, fun i ia ib => ?_, fun i ia ib => by rw [oth r ra rb hr i ia ib]; exact q3 i ia ib⟩
          rw [oth r ra rb hr i ia (by omega)]
          by_cases hi : i = c
          · rw [hi]; exact ho r ra rb hr
          · exact q2 i ia (by omega)
      · rw [zarr_self]
        refine zAll.settle (by omega) hA hc hp (by rw [hdd]; exact hd) ho (fun r ra rb hr => (zSpan.row (W := zRo g) ra rb).cg (fun j ja jb => by rw [oth r ra rb hr j ja jb, Int.sub_self]; exact Int.dvd_zero m)) ((zSpan.row (W := zRo g) hp.1 hp.2).cg (fun j ja jb => ?_))
        have q := (zcg.symm cgp) j ja jb
        rw [hdd, ← e21]; exact q
    · refine gone g (by rw [ew] at g2; exact g2) (fun i ia ib => ?_)
      rw [← e21]
      by_cases hi : i < c
      · rw [zp i ia hi, Int.mul_zero]; exact Int.dvd_zero m
      · have a1 : g (p * 72 + i) = (V15 wk (p * 72 + i) * x21) % m := g1 i (by omega) ib
        rw [g3 ya i (by omega) ib, ew] at a1
        rw [Int.mul_comm]; exact Int.dvd_of_emod_eq_zero a1.symm
end FORM3
