/-! ORDER as a number; what is cheapest -/
def zpw (m k : Int) : Int := m ^ k.toNat
theorem zpw_0 (m : Int) : zpw m 0 = 1 := by
  unfold zpw
  rw [show (0 : Int).toNat = 0 from rfl, Int.pow_zero]
theorem zpw_s (m : Int) {k : Int} (h : 0 ≤ k) : zpw m (k + 1) = zpw m k * m := by
  unfold zpw
  rw [show (k + 1).toNat = k.toNat + 1 by omega, Int.pow_succ]
theorem zpw_pos {m : Int} (hm : 0 < m) : ∀ k, 0 ≤ k → 0 < zpw m k := zind (by rw [zpw_0]; omega) (fun k a ih => by rw [zpw_s m a]; exact Int.mul_pos ih hm)
/-- a row's place in ORDER, the last number first -/
def zN (m n : Int) (x : Int → Int) : Int := zsum (fun k => x k * zpw m k) n
theorem zN_s (m : Int) {n : Int} (hn : 0 ≤ n) (x : Int → Int) : zN m (n + 1) x = zN m n x + x n * zpw m n := zsum_s _ hn
theorem zN_congr {m n : Int} {x y : Int → Int} (h : ∀ i, 0 ≤ i → i < n → x i = y i) : zN m n x = zN m n y := zsum_congr (fun i a b => by rw [h i a b])
theorem zN_le {m : Int} (hm : 0 < m) {x : Int → Int} : ∀ n, 0 ≤ n → (∀ i, 0 ≤ i → i < n → 0 ≤ x i ∧ x i < m) → 0 ≤ zN m n x ∧ zN m n x < zpw m n := by
  refine zind (P := fun n => (∀ i, 0 ≤ i → i < n → 0 ≤ x i ∧ x i < m) → 0 ≤ zN m n x ∧ zN m n x < zpw m n) (fun _ => ?_) (fun n a ih h => ?_)
  · show 0 ≤ zsum _ 0 ∧ zsum _ 0 < zpw m 0
    rw [zsum_0, zpw_0]; omega
  · have h1 := ih (fun i p q => h i p (by omega))
    have h2 := h n a (by omega)
    have pw := zpw_pos hm n a
    rw [zN_s m a, zpw_s m a]
    have l1 := Int.mul_nonneg h2.1 (show 0 ≤ zpw m n by omega)
    have l2 := Int.mul_le_mul_of_nonneg_right (show x n + 1 ≤ m by omega) (show 0 ≤ zpw m n by omega)
    rw [Int.add_mul, Int.one_mul, Int.mul_comm m] at l2
    omega
theorem zN_lt {m : Int} (hm : 0 < m) {x y : Int → Int} {k : Int} (k0 : 0 ≤ k) (hk : x k < y k) : ∀ n, k < n → (∀ i, 0 ≤ i → i < n → 0 ≤ x i ∧ x i < m) → (∀ i, 0 ≤ i → i < n → 0 ≤ y i ∧ y i < m) → (∀ i, k < i → i < n → x i = y i) → zN m n x < zN m n y := by
  have key := zind (P := fun t => (∀ i, 0 ≤ i → i < k + 1 + t → 0 ≤ x i ∧ x i < m) → (∀ i, 0 ≤ i → i < k + 1 + t → 0 ≤ y i ∧ y i < m) → (∀ i, k < i → i < k + 1 + t → x i = y i) → zN m (k + 1 + t) x < zN m (k + 1 + t) y) (fun hx hy _ => ?_) (fun t a ih hx hy e => ?_)
  · intro n hn hx hy e
    have := key (n - (k + 1)) (by omega)
    rw [show k + 1 + (n - (k + 1)) = n by omega] at this
    exact this hx hy e
  · rw [Int.add_zero, zN_s m k0, zN_s m k0]
    have h1 := zN_le hm k k0 (fun i p q => hx i p (by omega))
    have h2 := zN_le hm k k0 (fun i p q => hy i p (by omega))
    have pw := zpw_pos hm k k0
    have l2 := Int.mul_le_mul_of_nonneg_right (show x k + 1 ≤ y k by omega) (show 0 ≤ zpw m k by omega)
    rw [Int.add_mul, Int.one_mul] at l2
    omega
  · rw [← Int.add_assoc, zN_s m (by omega), zN_s m (by omega), e (k + 1 + t) (by omega) (by omega)]
    have := ih (fun i p q => hx i p (by omega)) (fun i p q => hy i p (by omega)) (fun i p q => e i p (by omega))
    omega
theorem ztri (x y : Int → Int) : ∀ n, 0 ≤ n → (∀ i, 0 ≤ i → i < n → x i = y i) ∨ ∃ k, (0 ≤ k ∧ k < n) ∧ x k ≠ y k ∧ ∀ i, k < i → i < n → x i = y i := by
  refine zind (Or.inl (fun i a b => by omega)) (fun n a ih => ?_)
  by_cases e : x n = y n
  · rcases ih with h | ⟨k, h1, h2, h3⟩
    · refine Or.inl (fun i p q => ?_)
      by_cases c : i = n
      · rw [c]; exact e
      · exact h i p (by omega)
    · refine Or.inr ⟨k, ⟨h1.1, by omega⟩, h2, fun i p q => ?_⟩
      by_cases c : i = n
      · rw [c]; exact e
      · exact h3 i p (by omega)
  · exact Or.inr ⟨n, ⟨a, by omega⟩, e, fun i p q => by omega⟩
theorem zN_inj {m n : Int} (hm : 0 < m) (hn : 0 ≤ n) {x y : Int → Int} (hx : ∀ i, 0 ≤ i → i < n → 0 ≤ x i ∧ x i < m) (hy : ∀ i, 0 ≤ i → i < n → 0 ≤ y i ∧ y i < m) (h : zN m n x = zN m n y) : ∀ i, 0 ≤ i → i < n → x i = y i := by
  rcases ztri x y n hn with q | ⟨k, h1, h2, h3⟩
  · exact q
  · exfalso
    rcases Int.lt_or_lt_of_ne h2 with c | c
    · have := zN_lt hm h1.1 c n h1.2 hx hy h3; omega
    · have := zN_lt hm h1.1 c n h1.2 hy hx (fun i a b => (h3 i a b).symm); omega
section NEXT
variable {m n : Int} {K : (Int → Int) → Prop} {d x y z : Int → Int}
/-- what is reduced is the first of its coset -/
theorem zfirst (hm : 0 < m) (hn : 0 ≤ n) (hd : zDs m n K d) (hy : ∀ i, 0 ≤ i → i < n → 0 ≤ y i ∧ y i < d i) (hz : ∀ i, 0 ≤ i → i < n → 0 ≤ z i ∧ z i < m) (hK : K (fun j => y j - z j)) : zN m n y ≤ zN m n z := by
  have hy' : ∀ i, 0 ≤ i → i < n → 0 ≤ y i ∧ y i < m := fun i a b => by
    have := hy i a b
    have := (hd.le hm a b).1
    omega
  rcases ztri y z n hn with q | ⟨k, h1, h2, h3⟩
  · rw [zN_congr q]; exact Int.le_refl _
  · rcases Int.lt_or_lt_of_ne h2 with c | c
    · have := zN_lt hm h1.1 c n h1.2 hy' hz h3; omega
    · exfalso
      have := (hd k h1.1 h1.2).2.2 _ hK (fun i a b => by show m ∣ y i - z i; rw [h3 i a b, Int.sub_self]; exact Int.dvd_zero m)
      have := zdvd_small this (by have := (hd k h1.1 h1.2).1.1; show -d k < y k - z k; omega) (by have := hy k h1.1 h1.2; have := hz k h1.1 h1.2; show y k - z k < d k; omega)
      have this' : y k - z k = 0 := this
      omega
theorem zNx.lt (hm : 0 < m) (hx : ∀ i, 0 ≤ i → i < n → 0 ≤ x i ∧ x i < m) (hy : ∀ i, 0 ≤ i → i < n → 0 ≤ y i ∧ y i < m) (hd : zDs m n K d) (h : zNx m n K d x y) : zN m n x < zN m n y := by
  obtain ⟨k, hk, -, -, c4, c5, -⟩ := h
  have := (hd k hk.1 hk.2).1.1
  exact zN_lt hm hk.1 (by omega) n hk.2 hx hy (fun i a b => (c5 i a b).symm)
/-- nothing is between -/
theorem zNx.gap (hL : zLat m n K) (hm : 0 < m) (hn : 0 ≤ n) (hx : ∀ i, 0 ≤ i → i < n → 0 ≤ x i ∧ x i < m) (hy : ∀ i, 0 ≤ i → i < n → 0 ≤ y i ∧ y i < m) (hz : ∀ i, 0 ≤ i → i < n → 0 ≤ z i ∧ z i < m) (hd : zDs m n K d) (h : zNx m n K d x y) (hK : K (fun j => z j - x j)) (hlt : zN m n x < zN m n z) : zN m n y ≤ zN m n z := by
  obtain ⟨k, hk, ⟨c1, c2⟩, c3, c4, c5, c6⟩ := h
  rcases ztri x z n hn with q | ⟨j, h1, h2, h3⟩
  · rw [zN_congr q] at hlt; omega
  · have xz : x j < z j := by
      rcases Int.lt_or_lt_of_ne h2 with c | c
      · exact c
      · have := zN_lt hm h1.1 c n h1.2 hz hx (fun i a b => (h3 i a b).symm); omega
    have dj := (hd j h1.1 h1.2).2.2 _ hK (fun i a b => by show m ∣ z i - x i; rw [h3 i a b, Int.sub_self]; exact Int.dvd_zero m)
    have dj' : d j ∣ z j - x j := dj
    have le := zdvd_le dj' (by omega)
    rcases Int.lt_trichotomy j k with c | c | c
    · have := c2 j h1.1 c
      have := hz j h1.1 h1.2
      omega
    · subst c
      rcases Int.lt_or_eq_of_le (show y j ≤ z j by omega) with e | e
      · have := zN_lt hm h1.1 e n h1.2 hy hz (fun i a b => by rw [c5 i a b, h3 i a b])
        omega
      · -- alike from j on: y is reduced below
        have hyz : K (fun l => y l - z l) := hL.2.2.2 _ _ (hL.sub c3 hK) (fun i _ _ => by
          show m ∣ y i - z i - (y i - x i - (z i - x i))
          rw [show y i - z i - (y i - x i - (z i - x i)) = 0 by omega]; exact Int.dvd_zero m)
        rcases ztri y z n hn with q | ⟨l, l1, l2, l3⟩
        · rw [zN_congr q]; exact Int.le_refl _
        · rcases Int.lt_or_lt_of_ne l2 with g | g
          · have := zN_lt hm l1.1 g n l1.2 hy hz l3; omega
          · exfalso
            have lj : l < j := by
              rcases Int.lt_or_le l j with t | t
              · exact t
              · exfalso
                rcases Int.lt_or_eq_of_le t with w | w
                · exact l2 (by rw [c5 l w l1.2, h3 l w l1.2])
                · rw [← w] at l2; exact l2 e
            have dl := (hd l l1.1 l1.2).2.2 _ hyz (fun i a b => by show m ∣ y i - z i; rw [l3 i a b, Int.sub_self]; exact Int.dvd_zero m)
            have b1 := c6 l l1.1 lj
            have b2 := hz l l1.1 l1.2
            have := zdvd_small dl (by show -d l < y l - z l; omega) (by show y l - z l < d l; omega)
            have this' : y l - z l = 0 := this
            omega
    · have e1 : y j = x j := c5 j c h1.2
      have := zN_lt hm h1.1 (show y j < z j by omega) n h1.2 hy hz (fun i a b => by rw [c5 i (by omega) b, h3 i a b])
      omega
theorem zNxNo.last (hm : 0 < m) (hn : 0 ≤ n) (hx : ∀ i, 0 ≤ i → i < n → 0 ≤ x i ∧ x i < m) (hz : ∀ i, 0 ≤ i → i < n → 0 ≤ z i ∧ z i < m) (hd : zDs m n K d) (h : zNxNo m n d x) (hK : K (fun j => z j - x j)) : zN m n z ≤ zN m n x := by
  rcases ztri x z n hn with q | ⟨j, h1, h2, h3⟩
  · rw [zN_congr q]; exact Int.le_refl _
  · rcases Int.lt_or_lt_of_ne h2 with c | c
    · exfalso
      have dj := (hd j h1.1 h1.2).2.2 _ hK (fun i a b => by show m ∣ z i - x i; rw [h3 i a b, Int.sub_self]; exact Int.dvd_zero m)
      have dj' : d j ∣ z j - x j := dj
      have := zdvd_le dj' (by omega)
      have := h j h1.1 h1.2
      have := hz j h1.1 h1.2
      omega
    · have := zN_lt hm h1.1 c n h1.2 hz hx (fun i a b => (h3 i a b).symm); omega
end NEXT
/-- a pushing: numbers below the colours, none at a STUCK button -/
def zPu (P : zP) (x : Int → Int) : Prop := ∀ k, 0 ≤ k → k < pb P → (0 ≤ x k ∧ x k < pm P) ∧ (pkd P k = 3 → x k = 0)
theorem zPu.bd {P : zP} {x : Int → Int} (h : zPu P x) : ∀ k, 0 ≤ k → k < pb P → 0 ≤ x k ∧ x k < pm P := fun k a b => (h k a b).1
def zCst (P : zP) (x : Int → Int) : Int := zsum (fun k => x k * pco P k) (pb P)
theorem zCst_congr {P : zP} {x y : Int → Int} (h : ∀ k, 0 ≤ k → k < pb P → x k = y k) : zCst P x = zCst P y := zsum_congr (fun k a b => by rw [h k a b])
theorem zCst_le {P : zP} (ok : zPok P) {x : Int → Int} (h : ∀ k, 0 ≤ k → k < pb P → 0 ≤ x k ∧ x k < pm P) : 0 ≤ zCst P x ∧ zCst P x ≤ pb P * 11000 := by
  have o2 := ok.2.1
  refine zsum_le ok.2.2.2.1.1 (fun k a b => ?_)
  have := h k a b
  exact zmul_le (A := 11) (B := 1000) ⟨this.1, by omega⟩ (ok.2.2.2.2.2 k a b).2.2.2.2.2.1
/-- the cheapest pushing, the first of those in ORDER -/
def zLst (P : zP) (x : Int → Int) : Prop := zSol P x ∧ zPu P x ∧ ∀ y, zSol P y → zPu P y → zCst P x < zCst P y ∨ (zCst P x = zCst P y ∧ zN (pm P) (pb P) x ≤ zN (pm P) (pb P) y)
theorem zLst.uniq {P : zP} (ok : zPok P) {x y : Int → Int} (h : zLst P x) (g : zLst P y) : zCst P x = zCst P y ∧ ∀ k, 0 ≤ k → k < pb P → x k = y k := by
  have a := h.2.2 y g.1 g.2.1
  have b := g.2.2 x h.1 h.2.1
  have o2 := ok.2.1
  exact ⟨by omega, zN_inj (by omega) ok.2.2.2.1.1 h.2.1.bd g.2.1.bd (by omega)⟩
theorem zPu.of {P : zP} {x : Int → Int} (h : ∀ k, 0 ≤ k → k < pb P → 0 ≤ x k ∧ x k < pm P) (q : ∀ k, 0 ≤ k → k < pb P → pkd P k = 3 → pm P ∣ x k) : zPu P x := fun k a b => ⟨h k a b, fun h3 => zdvd_small (q k a b h3) (by have := (h k a b).1; have := (h k a b).2; omega) (h k a b).2⟩
