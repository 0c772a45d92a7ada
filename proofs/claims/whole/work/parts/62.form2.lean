/-! THE CLASS'S FORM: Euclid's way with two rows, a column cleared, a row settled -/
theorem zSpan.op {m N n u l k : Int} {W W' : Int → Int → Int} {v : Int → Int} (h : zSpan m N W n v) (hu : 0 ≤ u ∧ u < n) (hl : 0 ≤ l ∧ l < n) (e : ∀ r, 0 ≤ r → r < n → r ≠ l → zcg m N (W' r) (W r)) (el : zcg m N (fun j => W' l j + k * W' u j) (W l)) : zSpan m N W' n v :=
  h.sub (fun r a b => by
    by_cases z : r = l
    · rw [z]; exact ((zSpan.row hl.1 hl.2).comb k (zSpan.row hu.1 hu.2)).cg el
    · exact (zSpan.row a b).cg (e r a b z))
section FORM2
variable {E : zE} {S : zS} {V : zH} {fm la wk m h t op : Int} {A : Int → Int → Int}
/-- row l gets k times row u from column c on, by m -/
theorem zWk.addTimes {g g' : Int → Int} {u l c k : Int} (H : zWk m h t A (zRo g) op c) (h0 : 0 ≤ h ∧ 0 ≤ t ∧ h + t ≤ 72 ∧ 2 ≤ m) (hu : 0 ≤ u ∧ u < op) (hl : 0 ≤ l ∧ l < op) (hul : u ≠ l) (hc : 0 ≤ c ∧ c ≤ h + t) (e1 : ∀ i, c ≤ i → i < h + t → g' (l * 72 + i) = (g (l * 72 + i) + k * g (u * 72 + i)) % m) (e2 : ∀ j, (j < l * 72 + c ∨ l * 72 + (h + t) ≤ j) → g' j = g j) :
    zWk m h t A (zRo g') op c ∧ (∀ r, 0 ≤ r → r < op → r ≠ l → ∀ i, 0 ≤ i → i < h + t → zRo g' r i = zRo g r i) ∧ ∀ v, zSpan m (h + t) (zRo g) op v → zSpan m (h + t) (zRo g') op v := by
  have oth : ∀ r, 0 ≤ r → r < op → r ≠ l → ∀ i, 0 ≤ i → i < h + t → zRo g' r i = zRo g r i := fun r a b z i ia ib => e2 _ (by omega)
  obtain ⟨lu, zu, ru⟩ := H u hu.1 hu.2
  obtain ⟨ll, zl, rl⟩ := H l hl.1 hl.2
  have low : ∀ i, 0 ≤ i → i < c → zRo g' l i = zRo g l i := fun i a b => e2 _ (by omega)
  have cg1 : zcg m (h + t) (fun j => zRo g l j + k * zRo g u j) (zRo g' l) := fun j ja jb => by
    show m ∣ zRo g' l j - (zRo g l j + k * zRo g u j)
    by_cases hj : j < c
    · have a1 := low j ja hj
      have a2 := zl j ja hj
      have a3 := zu j ja hj
      rw [a1, a2, a3]; simp
    · have a1 : zRo g' l j = (zRo g l j + k * zRo g u j) % m := e1 j (by omega) jb
      rw [a1]; exact zdvd_emod m _
  refine ⟨fun r a b => ?_, oth, fun v hv => hv.op (k := -k) hu hl (fun r a b z j ja jb => ?_) (fun j ja jb => ?_)⟩
  · by_cases z : r = l
    · subst z
      refine ⟨zLin.cg h0.1 (ll.add (lu.mul k)) cg1 h0.2.1, fun i ia ib => (low i ia ib).trans (zl i ia ib), fun i ia ib => ?_⟩
      by_cases hi : i < c
      · rw [low i ia hi]; exact rl i ia ib
      · have a1 : zRo g' r i = (zRo g r i + k * zRo g u i) % m := e1 i (by omega) ib
        rw [a1]; exact zmod_le _ (by omega)
    · obtain ⟨q1, q2, q3⟩ := H r a b
      refine ⟨zLin.cg h0.1 q1 (fun j ja jb => by rw [oth r a b z j ja jb, Int.sub_self]; exact Int.dvd_zero m) h0.2.1, fun i ia ib => ?_, fun i ia ib => by rw [oth r a b z i ia ib]; exact q3 i ia ib⟩
      rw [oth r a b z i ia (by omega)]; exact q2 i ia ib
  · rw [oth r a b z j ja jb, Int.sub_self]; exact Int.dvd_zero m
  · have q : m ∣ zRo g' l j - (zRo g l j + k * zRo g u j) := cg1 j ja jb
    show m ∣ zRo g l j - (zRo g' l j + -k * zRo g' u j)
    rw [oth u hu.1 hu.2 hul j ja jb]
    have e : zRo g l j - (zRo g' l j + -k * zRo g u j) = -(zRo g' l j - (zRo g l j + k * zRo g u j)) := by rw [Int.neg_mul]; omega
    rw [e]; exact (Int.dvd_neg).mpr q
theorem sp_clearOne {p q c : Int} {F : Int → zH → Prop} (H : zFx S V fm la wk m h t op) (hW : zWk m h t A (zRo (V wk)) op c) (hc : 0 ≤ c ∧ c < h + t) (hp : 0 ≤ p ∧ p < op) (hq : 0 ≤ q ∧ q < op) (hpq : p ≠ q) (hv : 0 < zRo (V wk) p c) (hd : zRo (V wk) p c ∣ m)
    (hF : ∀ g u l, (u = p ∧ l = q ∨ u = q ∧ l = p) → zWk m h t A (zRo g) op c → (∀ v, zSpan m (h + t) (zRo (V wk)) op v → zSpan m (h + t) (zRo g) op v) → (∀ r, 0 ≤ r → r < op → r ≠ p → r ≠ q → zRo g r c = zRo (V wk) r c) → 0 < zRo g u c → zRo g u c ∣ m → zRo g l c = 0 → F u (zarr V wk g)) : SpI E 1 zm_X1_clearOne [zrv fm, ziv p, ziv q, ziv c] S V F := by
  obtain ⟨⟨⟨s0, s1, s2, s3, s4⟩, ⟨v4, v5, v6, v7⟩, z0⟩, ⟨w0, w1, w2, w3⟩, ⟨hm, hh, ht, hop⟩, d1, d2, d3⟩ := id H
  refine en_X1_clearOne (fun _ _ _ X => ?_)
  have key := zdown (Q := fun n => ∀ g u l, (u = p ∧ l = q ∨ u = q ∧ l = p) → zWk m h t A (zRo g) op c → (∀ v, zSpan m (h + t) (zRo (V wk)) op v → zSpan m (h + t) (zRo g) op v) → (∀ r, 0 ≤ r → r < op → r ≠ p → r ≠ q → zRo g r c = zRo (V wk) r c) → 0 < zRo g u c → (∀ d, d ∣ zRo g u c → d ∣ zRo g l c → d ∣ m) → (zRo g l c = 0 ∨ zRo g u c ≤ 11 - n) → zl_X1_clearOne_9 E X F S fm c u l n (zarr V wk g)) (N := 12) (fun g u l hul gw gs go gu gd gb => ?_) (fun n n0 n1 ih g u l hul gw gs go gu gd gb => ?_) 0 (by omega) (by omega)
  · have k := key (V wk) p q (Or.inl ⟨rfl, rfl⟩) hW (fun v z => z) (fun _ _ _ _ _ => rfl) hv (fun d a b => Int.dvd_trans a hd) (Or.inr (by have := (hW p hp.1 hp.2).2.2 c hc.1 hc.2; omega))
    rw [zarr_id] at k; exact k
  · have gl : zRo g l c = 0 := gb.elim id (fun z => by omega)
    exact wp_X1_clearOne_9 ⟨fun _ => hF g u l hul gw gs go gu (gd _ (Int.dvd_refl _) (by rw [gl]; exact Int.dvd_zero _)) gl, fun z => by omega⟩
  · have hu : 0 ≤ u ∧ u < op := by omega
    have hl : 0 ≤ l ∧ l < op := by omega
    have hne : u ≠ l := by omega
    have ru := (gw u hu.1 hu.2).2.2
    have rl := (gw l hl.1 hl.2).2.2
    have ruc := ru c hc.1 hc.2
    have rlc := rl c hc.1 hc.2
    have eu : zarr V wk g wk (u * 72 + c) = zRo g u c := by rw [zarr_self]; rfl
    have el : zarr V wk g wk (l * 72 + c) = zRo g l c := by rw [zarr_self]; rfl
    have Hx := H.wk g
    have kf : (S fm).1 = 4 := by rw [s0]
    refine wp_X1_clearOne_9 ⟨fun z => by omega, fun _ => ?_⟩
    rw [zarr_ne _ _ d1, v6, w0, s4, eu, el]
    refine ⟨kf, ⟨by omega, by omega⟩, ⟨by omega, by omega⟩, rfl, ⟨by omega, by show l * 72 + c < 2592; omega⟩, fun z => hF g u l hul gw gs go gu (gd _ (Int.dvd_refl _) (by rw [z]; exact Int.dvd_zero _)) z, fun z => ⟨⟨by omega, by omega⟩, ⟨by omega, by omega⟩, ⟨by omega, by show u * 72 + c < 2592; omega⟩, sp_max ?_⟩⟩
    have gb' : zRo g u c ≤ 11 - n := gb.elim (fun y => absurd y z) id
    have emx : (if (1 : Int) < zRo g u c then zRo g u c else 1) = zRo g u c := by split <;> omega
    have nxt : ∀ g', zWk m h t A (zRo g') op c → (∀ r, 0 ≤ r → r < op → r ≠ l → ∀ i, 0 ≤ i → i < h + t → zRo g' r i = zRo g r i) → (∀ v, zSpan m (h + t) (zRo g) op v → zSpan m (h + t) (zRo g') op v) → zRo g' l c = zRo g l c % zRo g u c → zl_X1_clearOne_101 E X F S fm c u l n (zarr V wk g') := by
      intro g' w' o' s' m'
      have ol : zRo g' u c = zRo g u c := o' u hu.1 hu.2 hne c hc.1 hc.2
      have ml := zmod_le (zRo g l c) gu
      have el' : zarr V wk g' wk (l * 72 + c) = zRo g' l c := by rw [zarr_self]; rfl
      refine wp_X1_clearOne_101 ?_
      rw [zarr_ne _ _ d1, v6, s4, el']
      refine ⟨kf, ⟨by omega, by omega⟩, ⟨by omega, by omega⟩, rfl, ⟨by omega, by show l * 72 + c < 2592; omega⟩, fun y => ⟨⟨by omega, by omega⟩, ih g' u l hul w' (fun v hv => s' v (gs v hv)) (fun r a b r1 r2 => (o' r a b (by omega) c hc.1 hc.2).trans (go r a b r1 r2)) (by omega) (fun d a b => gd d (by rw [← ol]; exact a) ?_) (Or.inl y)⟩, fun y => ⟨⟨by omega, by omega⟩, ih g' l u (by omega) w' (fun v hv => s' v (gs v hv)) (fun r a b r1 r2 => (o' r a b (by omega) c hc.1 hc.2).trans (go r a b r1 r2)) (by omega) (fun d a b => gd d (by rw [← ol]; exact b) ?_) (Or.inr (by omega))⟩⟩
      · have e := Int.mul_ediv_add_emod (zRo g l c) (zRo g u c)
        rw [← m', y, Int.add_zero] at e
        rw [← e]; rw [ol] at a; exact Int.dvd_trans a (Int.dvd_mul_right _ _)
      · have e := Int.mul_ediv_add_emod (zRo g l c) (zRo g u c)
        rw [← m'] at e
        rw [← e]; rw [ol] at b; exact zdvd_add (Int.dvd_trans b (Int.dvd_mul_right _ _)) a
    rw [emx]
    refine ⟨rlc.1, gu, fun x15 e15 => ⟨fun y => ?_, fun y => ?_⟩⟩
    · refine nxt g gw (fun _ _ _ _ _ _ _ => rfl) (fun v hv => hv) ?_
      have e := Int.mul_ediv_add_emod (zRo g l c) (zRo g u c)
      rw [← e15, y, Int.mul_zero] at e
      omega
    · have qb := zdiv_le rlc.1 gu
      rw [← e15] at qb
      have Hx' := Hx
      obtain ⟨-, ⟨x0, x1, x2, x3⟩, -, -⟩ := Hx
      refine ⟨⟨by omega, by omega⟩, sp_addTimes kf x0 x2 s4 s4 d1 ⟨by omega, by omega, by omega⟩ ⟨by omega, by omega, by omega⟩ ⟨hc.1, by omega⟩ hm ⟨by omega, by omega⟩ (fun i a b => by rw [zarr_self]; exact rl i (by omega) b) (fun i a b => by rw [zarr_self]; exact ru i (by omega) b) (Or.inr (by omega)) (fun g' g1 g2 => ?_)⟩
      rw [zarr_self] at g1 g2
      rw [zarr_zarr]
      obtain ⟨w', o', s'⟩ := gw.addTimes (g' := g') (k := m - x15) ⟨hh.1, ht.1, by omega, hm.1⟩ hu hl hne ⟨hc.1, by omega⟩ g1 g2
      refine nxt g' w' o' s' ?_
      have a1 : zRo g' l c = (zRo g l c + (m - x15) * zRo g u c) % m := g1 c (by omega) hc.2
      have e := Int.mul_ediv_add_emod (zRo g l c) (zRo g u c)
      have ml := zmod_le (zRo g l c) gu
      rw [← e15] at e
      have e' : zRo g l c - x15 * zRo g u c = zRo g l c % zRo g u c := by rw [Int.mul_comm x15]; omega
      rw [a1, zmod_sub (by omega), e']
/-- a column is clear but for the pivot -/
def zClr (m : Int) (W : Int → Int → Int) (n c p : Int) : Prop := (p = -1 ∧ ∀ r, 0 ≤ r → r < n → W r c = 0) ∨ ((0 ≤ p ∧ p < n) ∧ (0 < W p c ∧ W p c ∣ m) ∧ ∀ r, 0 ≤ r → r < n → r ≠ p → W r c = 0)
/-- the units of a Form's colours -/
def zFu (V : zH) (la m : Int) : Prop := ∀ v, 1 ≤ v → v < m → zUnit m v (V (la + 2) v)
theorem sp_clearColumn {c : Int} {F : Int → zH → Prop} (H : zFx S V fm la wk m h t op) (hU : zFu V la m) (hW : zWk m h t A (zRo (V wk)) op c) (hc : 0 ≤ c ∧ c < h + t)
    (hF : ∀ g p, zWk m h t A (zRo g) op c → (∀ v, zSpan m (h + t) (zRo (V wk)) op v → zSpan m (h + t) (zRo g) op v) → zClr m (zRo g) op c p → F p (zarr V wk g)) : SpI E 2 zm_X1_clearColumn [zrv fm, ziv c] S V F := by
  obtain ⟨⟨⟨s0, s1, s2, s3, s4⟩, ⟨v4, v5, v6, v7⟩, z0⟩, ⟨w0, w1, w2, w3⟩, ⟨hm, hh, ht, hop⟩, d1, d2, d3⟩ := id H
  have kf : (S fm).1 = 4 := by rw [s0]
  refine en_X1_clearColumn (fun _ X => ?_)
  have key := zdown (Q := fun n => ∀ g p, zWk m h t A (zRo g) op c → (∀ v, zSpan m (h + t) (zRo (V wk)) op v → zSpan m (h + t) (zRo g) op v) → zClr m (zRo g) n c p → zl_X1_clearColumn_4 E X F S fm c p n (zarr V wk g)) (N := op) (fun g p gw gs gc => ?_) (fun n n0 n1 ih g p gw gs gc => ?_) 0 (by omega) (by omega)
  · have k := key (V wk) (-1) hW (fun v z => z) (Or.inl ⟨rfl, fun r _ _ => by omega⟩)
    rw [zarr_id] at k; exact k
  · refine wp_X1_clearColumn_4 ?_
    rw [zarr_ne _ _ d1, w3]
    exact ⟨kf, fun _ => hF g p gw gs gc, fun q => by omega⟩
  · have Hx := H.wk g
    have rn := (gw n n0 n1).2.2
    have rnc := rn c hc.1 hc.2
    have en : zarr V wk g wk (n * 72 + c) = zRo g n c := by rw [zarr_self]; rfl
    refine wp_X1_clearColumn_4 ?_
    rw [zarr_ne _ _ d1, w3, v6, v7, s4, s3, en, zarr_ne _ _ (show la + 2 ≠ wk by omega)]
    refine ⟨kf, fun q => by omega, fun _ => ⟨⟨by omega, by omega⟩, ⟨by omega, by omega⟩, rfl, ⟨by omega, by show n * 72 + c < 2592; omega⟩, fun z => ⟨fun zp => ?_, fun zp => ?_⟩, fun z => ⟨⟨by omega, by omega⟩, ih g p gw gs ?_⟩⟩⟩
    · rcases gc with ⟨q, -⟩ | ⟨q1, q2, q3⟩
      · omega
      · refine sp_clearOne (A := A) Hx (by rw [zarr_self]; exact gw) hc (p := p) (q := n) ⟨q1.1, by omega⟩ ⟨n0, n1⟩ (by omega) (by rw [zarr_self]; exact q2.1) (by rw [zarr_self]; exact q2.2) (fun g' u l hul w' s' o' u1 u2 l0 => ⟨⟨by omega, by omega⟩, ?_⟩)
        rw [zarr_self] at s' o'
        rw [zarr_zarr]
        refine ih g' u w' (fun v hv => s' v (gs v hv)) (Or.inr ⟨by omega, ⟨u1, u2⟩, fun r a b ru => ?_⟩)
        by_cases hl : r = l
        · rw [hl]; exact l0
        · rw [o' r a (by omega) (by omega) (by omega)]; exact q3 r a (by omega) (by omega)
    · rcases gc with ⟨q, q0⟩ | ⟨q1, q2, q3⟩
      · have hu := hU (zRo g n c) (by omega) rnc.2
        obtain ⟨ub, uv, uw, hw⟩ := id hu
        generalize hun : V (la + 2) (zRo g n c) = un at *
        refine ⟨rfl, ⟨rnc.1, by show zRo g n c < 12; omega⟩, sp_multiply Hx ⟨n0, by omega⟩ hc ⟨by omega, by omega⟩ (fun i a b => by rw [zarr_self]; exact rn i (by omega) b) (fun g' a g1 g2 g3 => ⟨⟨by omega, by omega⟩, ?_⟩)⟩
        rw [zarr_self] at g1 g2
        rw [zarr_zarr]
        have oth : ∀ r, 0 ≤ r → r < op → r ≠ n → ∀ i, 0 ≤ i → i < h + t → zRo g' r i = zRo g r i := fun r ra rb rn i ia ib => g2 _ (by omega)
        have low : ∀ i, 0 ≤ i → i < c → zRo g' n i = zRo g n i := fun i ia ib => g2 _ (by omega)
        obtain ⟨ln, zn, -⟩ := gw n n0 n1
        have cg1 : zcg m (h + t) (fun j => un * zRo g n j) (zRo g' n) := fun j ja jb => by
          show m ∣ zRo g' n j - un * zRo g n j
          by_cases hj : j < c
          · rw [low j ja hj, zn j ja hj]; simp
          · have a1 : zRo g' n j = (zRo g n j * un) % m := g1 j (by omega) jb
            rw [a1, Int.mul_comm un]; exact zdvd_emod m _
        have ec : zRo g' n c = Int.gcd (zRo g n c) m := by
          have a1 : zRo g' n c = (zRo g n c * un) % m := g1 c (by omega) hc.2
          rw [a1, Int.mul_comm, uv]
        have gp : 0 < (Int.gcd (zRo g n c) m : Int) := by
          have : 0 < Int.gcd (zRo g n c) m := Int.gcd_pos_of_ne_zero_left _ z
          omega
        refine ih g' n (fun r ra rb => ?_) (fun v hv => (gs v hv).sub (fun r ra rb => ?_)) (Or.inr ⟨⟨n0, by omega⟩, ⟨by rw [ec]; exact gp, by rw [ec]; exact Int.gcd_dvd_right _ _⟩, fun r ra rb rn => ?_⟩)
        · by_cases hr : r = n
          · subst hr
            refine ⟨zLin.cg hh.1 (ln.mul un) cg1 ht.1, fun i ia ib => (low i ia ib).trans (zn i ia ib), fun i ia ib => ?_⟩
            by_cases hi : i < c
            · rw [low i ia hi]; exact rn i ia ib
            · have a1 : zRo g' r i = (zRo g r i * un) % m := g1 i (by omega) ib
              rw [a1]; exact zmod_le _ (by omega)
          · obtain ⟨q1, q2, q3⟩ := gw r ra rb
            refine ⟨zLin.cg hh.1 q1 (fun j ja jb => by rw [oth r ra rb hr j ja jb, Int.sub_self]; exact Int.dvd_zero m) ht.1, fun i ia ib => ?_, fun i ia ib => by rw [oth r ra rb hr i ia ib]; exact q3 i ia ib⟩
            rw [oth r ra rb hr i ia (by omega)]; exact q2 i ia ib
        · by_cases hr : r = n
          · subst hr
            refine ((zSpan.row (W := zRo g') ra rb).mul uw).cg (fun j ja jb => ?_)
            have c1 : m ∣ uw * (zRo g' r j - un * zRo g r j) := zdvd_mul uw (cg1 j ja jb)
            show m ∣ zRo g r j - uw * zRo g' r j
            have c2 : m ∣ un * uw - 1 := by
              have e1 := zdvd_emod m (un * uw)
              have e2 := zdvd_emod m 1
              rw [hw] at e1
              have := zdvd_sub e2 e1
              rw [show 1 % m - 1 - (1 % m - un * uw) = un * uw - 1 by omega] at this; exact this
            have c3 := Int.dvd_trans c2 (Int.dvd_mul_right (un * uw - 1) (zRo g r j))
            have c4 := (Int.dvd_neg).mpr (zdvd_add c1 c3)
            have e : -(uw * (zRo g' r j - un * zRo g r j) + (un * uw - 1) * zRo g r j) = zRo g r j - uw * zRo g' r j := by
              rw [Int.mul_sub, Int.sub_mul, Int.one_mul, ← Int.mul_assoc, Int.mul_comm uw un]; omega
            rw [e] at c4; exact c4
          · exact (zSpan.row (W := zRo g') ra rb).cg (fun j ja jb => by rw [oth r ra rb hr j ja jb, Int.sub_self]; exact Int.dvd_zero m)
        · rw [oth r ra (by omega) rn c hc.1 hc.2]; exact q0 r ra (by omega)
      · omega
    · rcases gc with ⟨q, q0⟩ | ⟨q1, q2, q3⟩
      · refine Or.inl ⟨q, fun r a b => ?_⟩
        by_cases hr : r = n
        · rw [hr]; exact z
        · exact q0 r a (by omega)
      · refine Or.inr ⟨⟨q1.1, by omega⟩, q2, fun r a b rp => ?_⟩
        by_cases hr : r = n
        · rw [hr]; exact z
        · exact q3 r a (by omega) rp
end FORM2
