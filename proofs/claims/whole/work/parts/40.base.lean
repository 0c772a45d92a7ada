/-! PLAIN MATHEMATICS: heaps with one row changed; sums -/
def zarr (V : zH) (a : Int) (f : Int → Int) : zH := fun q j => if q = a then f j else V q j
theorem zarr_self (V : zH) (a : Int) (f : Int → Int) : zarr V a f a = f := by funext j; simp [zarr]
theorem zarr_ne (V : zH) {a q : Int} (f : Int → Int) (h : q ≠ a) : zarr V a f q = V q := by funext j; simp [zarr, h]
theorem zarr_id (V : zH) (a : Int) : zarr V a (V a) = V := by
  funext q j
  by_cases h : q = a
  · subst h; rw [zarr_self]
  · rw [zarr_ne V _ h]
theorem zarr_zarr (V : zH) (a : Int) (f g : Int → Int) : zarr (zarr V a f) a g = zarr V a g := by
  funext q j
  by_cases h : q = a
  · subst h; rw [zarr_self, zarr_self]
  · rw [zarr_ne _ _ h, zarr_ne _ _ h, zarr_ne _ _ h]
theorem zarr_comm (V : zH) {a b : Int} (f g : Int → Int) (h : a ≠ b) : zarr (zarr V a f) b g = zarr (zarr V b g) a f := by
  funext q j
  by_cases h1 : q = a
  · subst h1
    rw [zarr_self, zarr_ne _ _ h, zarr_self]
  · by_cases h2 : q = b
    · subst h2
      rw [zarr_self, zarr_ne _ _ h1, zarr_self]
    · rw [zarr_ne _ _ h2, zarr_ne _ _ h1, zarr_ne _ _ h1, zarr_ne _ _ h2]
theorem zarr_ext (V : zH) (a : Int) {f g : Int → Int} (h : ∀ j, f j = g j) : zarr V a f = zarr V a g := by rw [show f = g from funext h]
theorem zput_zarr (V : zH) {a i x : Int} {f g : Int → Int} (h : ∀ j, g j = if j = i then x else f j) : zput (zarr V a f) a i x = zarr V a g := by
  funext q j
  by_cases hq : q = a
  · subst hq
    rw [zarr_self, h j]
    by_cases hj : j = i
    · simp [zput, hj]
    · rw [zput_nk _ _ _ _ hj, zarr_self, if_neg hj]
  · rw [zput_ne _ _ _ _ hq, zarr_ne _ _ hq, zarr_ne _ _ hq]
theorem zput_arr (V : zH) {a i x : Int} {g : Int → Int} (h : ∀ j, g j = if j = i then x else V a j) : zput V a i x = zarr V a g := by
  have := zput_zarr V (a := a) (i := i) (x := x) (f := V a) h
  rw [zarr_id] at this
  exact this
theorem zcpy_arr (V : zH) {src sp dst dp m : Int} {g : Int → Int} (h : ∀ j, g j = if dp ≤ j ∧ j < dp + m then V src (sp + (j - dp)) else V dst j) : zcpy V src sp dst dp m = zarr V dst g := by
  funext q j
  by_cases hq : q = dst
  · subst hq
    rw [zarr_self, h j]
    unfold zcpy
    by_cases hj : dp ≤ j ∧ j < dp + m
    · rw [if_pos hj, if_pos ⟨rfl, hj⟩]
    · rw [if_neg hj, if_neg (fun z => hj z.2)]
  · rw [zcpy_ne _ _ _ _ _ _ hq, zarr_ne _ _ hq]
/-- the sum of f over 0 .. n - 1 -/
def zsumN (f : Int → Int) : Nat → Int
  | 0 => 0
  | k + 1 => zsumN f k + f k
def zsum (f : Int → Int) (n : Int) : Int := zsumN f n.toNat
theorem zsum_0 (f : Int → Int) : zsum f 0 = 0 := rfl
theorem zsum_neg (f : Int → Int) {n : Int} (h : n ≤ 0) : zsum f n = 0 := by
  unfold zsum
  rw [show n.toNat = 0 by omega]; rfl
theorem zsum_s (f : Int → Int) {n : Int} (h : 0 ≤ n) : zsum f (n + 1) = zsum f n + f n := by
  unfold zsum
  rw [show (n + 1).toNat = n.toNat + 1 by omega]
  show zsumN f n.toNat + f n.toNat = _
  rw [show ((n.toNat : Nat) : Int) = n by omega]
theorem zind {P : Int → Prop} (h0 : P 0) (hs : ∀ n, 0 ≤ n → P n → P (n + 1)) : ∀ n, 0 ≤ n → P n := by
  have key : ∀ k : Nat, P k := by
    intro k
    induction k with
    | zero => exact h0
    | succ k ih => exact hs k (by omega) ih
  intro n hn
  have := key n.toNat
  rw [show ((n.toNat : Nat) : Int) = n by omega] at this
  exact this
theorem zsum_congr {f g : Int → Int} : ∀ {n : Int}, (∀ j, 0 ≤ j → j < n → f j = g j) → zsum f n = zsum g n := by
  intro n
  by_cases hn : 0 ≤ n
  · refine zind (P := fun n => (∀ j, 0 ≤ j → j < n → f j = g j) → zsum f n = zsum g n) (fun _ => rfl) (fun k hk ih h => ?_) n hn
    rw [zsum_s f hk, zsum_s g hk, ih (fun j h1 h2 => h j h1 (by omega)), h k hk (by omega)]
  · intro _
    rw [zsum_neg f (by omega), zsum_neg g (by omega)]
theorem zsum_add (f g : Int → Int) : ∀ n : Int, zsum (fun j => f j + g j) n = zsum f n + zsum g n := by
  intro n
  by_cases hn : 0 ≤ n
  · refine zind (P := fun n => zsum (fun j => f j + g j) n = zsum f n + zsum g n) rfl (fun k hk ih => ?_) n hn
    rw [zsum_s _ hk, zsum_s _ hk, zsum_s _ hk, ih]; omega
  · rw [zsum_neg _ (by omega), zsum_neg _ (by omega), zsum_neg _ (by omega)]; rfl
theorem zsum_mul (c : Int) (f : Int → Int) : ∀ n : Int, zsum (fun j => c * f j) n = c * zsum f n := by
  intro n
  by_cases hn : 0 ≤ n
  · refine zind (P := fun n => zsum (fun j => c * f j) n = c * zsum f n) (by rw [zsum_0, zsum_0, Int.mul_zero]) (fun k hk ih => ?_) n hn
    rw [zsum_s _ hk, zsum_s _ hk, ih, Int.mul_add]
  · rw [zsum_neg _ (by omega), zsum_neg _ (by omega), Int.mul_zero]
theorem zsum_zero {f : Int → Int} {n : Int} (h : ∀ j, 0 ≤ j → j < n → f j = 0) : zsum f n = 0 := by
  have h1 := zsum_congr (f := f) (g := fun _ => 0 * 0) (n := n) (fun j a b => by rw [h j a b]; rfl)
  rw [h1, zsum_mul 0 (fun _ => 0) n, Int.zero_mul]
theorem zsum_swap (f : Int → Int → Int) (n : Int) : ∀ k : Int, zsum (fun i => zsum (fun j => f i j) k) n = zsum (fun j => zsum (fun i => f i j) n) k := by
  intro k
  by_cases hk : 0 ≤ k
  · refine zind (P := fun k => zsum (fun i => zsum (fun j => f i j) k) n = zsum (fun j => zsum (fun i => f i j) n) k) ?_ (fun k hk ih => ?_) k hk
    · rw [zsum_0]
      exact zsum_zero (fun j _ _ => rfl)
    · rw [zsum_s _ hk, ← ih, ← zsum_add]
      exact zsum_congr (fun j _ _ => zsum_s _ hk)
  · rw [zsum_neg _ (by omega : k ≤ 0)]
    exact zsum_zero (fun j _ _ => zsum_neg _ (by omega))
theorem zsum_le {f : Int → Int} {c : Int} : ∀ {n : Int}, 0 ≤ n → (∀ j, 0 ≤ j → j < n → 0 ≤ f j ∧ f j ≤ c) → 0 ≤ zsum f n ∧ zsum f n ≤ n * c := by
  intro n hn
  refine zind (P := fun n => (∀ j, 0 ≤ j → j < n → 0 ≤ f j ∧ f j ≤ c) → 0 ≤ zsum f n ∧ zsum f n ≤ n * c) (fun _ => by rw [zsum_0]; omega) (fun k hk ih h => ?_) n hn
  have h1 := ih (fun j a b => h j a (by omega))
  have h2 := h k hk (by omega)
  rw [zsum_s _ hk, Int.add_mul, Int.one_mul]
  omega
