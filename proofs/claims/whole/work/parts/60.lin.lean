/-! SUMS OF ROWS by m -/
theorem zdvd_add {m a b : Int} (h : m ∣ a) (g : m ∣ b) : m ∣ a + b := Int.dvd_add h g
theorem zdvd_sub {m a b : Int} (h : m ∣ a) (g : m ∣ b) : m ∣ a - b := Int.dvd_sub h g
theorem zdvd_mul {m a : Int} (k : Int) (h : m ∣ a) : m ∣ k * a := Int.dvd_trans h (Int.dvd_mul_left k a)
theorem zdvd_emod (m a : Int) : m ∣ a % m - a := by
  have h := Int.mul_ediv_add_emod a m
  exact ⟨-(a / m), by rw [Int.mul_neg]; omega⟩
theorem zsum_sub (f g : Int → Int) (n : Int) : zsum (fun j => f j - g j) n = zsum f n - zsum g n := by
  have h := zsum_add (fun j => f j - g j) g n
  have e : zsum (fun j => f j - g j + g j) n = zsum f n := zsum_congr (fun j _ _ => by omega)
  omega
theorem zsum_dvd {m : Int} {f : Int → Int} : ∀ {n : Int}, (∀ j, 0 ≤ j → j < n → m ∣ f j) → m ∣ zsum f n := by
  intro n
  by_cases hn : 0 ≤ n
  · refine zind (P := fun n => (∀ j, 0 ≤ j → j < n → m ∣ f j) → m ∣ zsum f n) (fun _ => by rw [zsum_0]; exact Int.dvd_zero m) (fun k hk ih h => ?_) n hn
    rw [zsum_s _ hk]
    exact zdvd_add (ih (fun j a b => h j a (by omega))) (h k hk (by omega))
  · intro _
    rw [zsum_neg _ (by omega)]; exact Int.dvd_zero m
/-- alike by m, on 0 .. N - 1 -/
def zcg (m N : Int) (a b : Int → Int) : Prop := ∀ j, 0 ≤ j → j < N → m ∣ b j - a j
theorem zcg.refl (m N : Int) (a : Int → Int) : zcg m N a a := fun j _ _ => by rw [Int.sub_self]; exact Int.dvd_zero m
theorem zcg.symm {m N : Int} {a b : Int → Int} (h : zcg m N a b) : zcg m N b a := fun j x y => by
  have := h j x y
  rw [show a j - b j = -(b j - a j) by omega]; exact (Int.dvd_neg).mpr this
theorem zcg.trans {m N : Int} {a b c : Int → Int} (h : zcg m N a b) (g : zcg m N b c) : zcg m N a c := fun j x y => by
  have := zdvd_add (g j x y) (h j x y)
  rw [show c j - b j + (b j - a j) = c j - a j by omega] at this; exact this
def zSpan (m N : Int) (W : Int → Int → Int) (n : Int) (v : Int → Int) : Prop :=
  ∀ Q : (Int → Int) → Prop, (∀ a b, Q a → zcg m N a b → Q b) → Q (fun _ => 0) → (∀ a b, Q a → Q b → Q (fun j => a j + b j)) → (∀ (k : Int) a, Q a → Q (fun j => k * a j)) → (∀ r, 0 ≤ r → r < n → Q (W r)) → Q v
section LIN
variable {m N n : Int} {W W' : Int → Int → Int} {v u : Int → Int}
theorem zSpan.row {r : Int} (a : 0 ≤ r) (b : r < n) : zSpan m N W n (W r) := fun _ _ _ _ _ h => h r a b
theorem zSpan.zero : zSpan m N W n (fun _ => 0) := fun _ _ h _ _ _ => h
theorem zSpan.add (h : zSpan m N W n v) (g : zSpan m N W n u) : zSpan m N W n (fun j => v j + u j) := fun Q a b c d e => c _ _ (h Q a b c d e) (g Q a b c d e)
theorem zSpan.mul (k : Int) (h : zSpan m N W n v) : zSpan m N W n (fun j => k * v j) := fun Q a b c d e => d k _ (h Q a b c d e)
theorem zSpan.cg (h : zSpan m N W n v) (e : zcg m N v u) : zSpan m N W n u := fun Q a b c d f => a _ _ (h Q a b c d f) e
theorem zSpan.comb (k : Int) (h : zSpan m N W n v) (g : zSpan m N W n u) : zSpan m N W n (fun j => v j + k * u j) := h.add (g.mul k)
theorem zSpan.sub {n' : Int} (h : zSpan m N W n v) (e : ∀ r, 0 ≤ r → r < n → zSpan m N W' n' (W r)) : zSpan m N W' n' v :=
  h (zSpan m N W' n') (fun _ _ a b => a.cg b) zSpan.zero (fun _ _ a b => a.add b) (fun k _ a => a.mul k) e
/-- what all rows have at c, sums have -/
theorem zSpan.dvd {c d : Int} (h : zSpan m N W n v) (hm : d ∣ m) (hc : 0 ≤ c ∧ c < N) (e : ∀ r, 0 ≤ r → r < n → d ∣ W r c) : d ∣ v c :=
  h (fun a => d ∣ a c) (fun a b x y => by
    have := zdvd_add x (Int.dvd_trans hm (y c hc.1 hc.2))
    rw [show a c + (b c - a c) = b c by omega] at this; exact this) (Int.dvd_zero d) (fun _ _ a b => zdvd_add a b) (fun k _ a => zdvd_mul k a) e
/-- the rows but one, and what is left of that one -/
theorem zSpan.pivot {c g p : Int} (h : zSpan m N W n v) (hg : g ∣ m) (hp : 0 ≤ p ∧ p < n) (hc : 0 ≤ c ∧ c < N) (ep : W p c = g) (eo : ∀ r, 0 ≤ r → r < n → r ≠ p → W r c = 0) {n' : Int} (hw : ∀ r, 0 ≤ r → r < n → r ≠ p → zSpan m N W' n' (W r)) : ∃ k : Int, m ∣ v c - k * g ∧ zSpan m N W' n' (fun j => v j + (-k) * W p j) := by
  refine h (fun a => ∃ k : Int, m ∣ a c - k * g ∧ zSpan m N W' n' (fun j => a j + (-k) * W p j)) ?_ ?_ ?_ ?_ ?_
  · rintro a b ⟨k, k1, k2⟩ e
    refine ⟨k, ?_, k2.cg (fun j x y => ?_)⟩
    · have := zdvd_add k1 (e c hc.1 hc.2)
      rw [show a c - k * g + (b c - a c) = b c - k * g by omega] at this; exact this
    · have := e j x y
      rw [show b j + -k * W p j - (a j + -k * W p j) = b j - a j by omega]; exact this
  · refine ⟨0, by rw [Int.zero_mul]; exact Int.dvd_zero m, zSpan.zero.cg (fun j _ _ => ?_)⟩
    rw [show (0 : Int) + -0 * W p j - 0 = 0 by rw [Int.neg_zero, Int.zero_mul]; rfl]; exact Int.dvd_zero m
  · rintro a b ⟨k, k1, k2⟩ ⟨l, l1, l2⟩
    refine ⟨k + l, ?_, (k2.add l2).cg (fun j _ _ => ?_)⟩
    · have := zdvd_add k1 l1
      rw [Int.add_mul]
      rw [show a c - k * g + (b c - l * g) = a c + b c - (k * g + l * g) by omega] at this; exact this
    · rw [show a j + b j + -(k + l) * W p j - (a j + -k * W p j + (b j + -l * W p j)) = 0 by rw [Int.neg_add, Int.add_mul]; omega]; exact Int.dvd_zero m
  · rintro k a ⟨l, l1, l2⟩
    refine ⟨k * l, ?_, (l2.mul k).cg (fun j _ _ => ?_)⟩
    · have := zdvd_mul k l1
      rw [Int.mul_sub, ← Int.mul_assoc] at this; exact this
    · rw [show k * a j + -(k * l) * W p j - k * (a j + -l * W p j) = 0 by rw [Int.mul_add, ← Int.mul_assoc, Int.neg_mul_eq_mul_neg]; omega]; exact Int.dvd_zero m
  · intro r a b
    by_cases hr : r = p
    · subst hr
      refine ⟨1, by rw [ep, Int.one_mul, Int.sub_self]; exact Int.dvd_zero m, zSpan.zero.cg (fun j _ _ => ?_)⟩
      rw [show W r j + -1 * W r j - 0 = 0 by omega]; exact Int.dvd_zero m
    · refine ⟨0, by rw [eo r a b hr]; simp, (hw r a b hr).cg (fun j _ _ => ?_)⟩
      rw [show W r j + -0 * W p j - W r j = 0 by rw [Int.neg_zero, Int.zero_mul]; omega]; exact Int.dvd_zero m
end LIN
theorem zLin.add {m h t : Int} {A : Int → Int → Int} {v u : Int → Int} (H : zLin m h t A v) (G : zLin m h t A u) : zLin m h t A (fun j => v j + u j) := by
  intro j a b
  have e : zsum (fun r => (v (h + r) + u (h + r)) * A r j) t = zsum (fun r => v (h + r) * A r j) t + zsum (fun r => u (h + r) * A r j) t := by
    rw [← zsum_add]; exact zsum_congr (fun r _ _ => Int.add_mul _ _ _)
  show m ∣ v j + u j - zsum (fun r => (v (h + r) + u (h + r)) * A r j) t
  rw [e]
  have := zdvd_add (H j a b) (G j a b)
  rw [show v j - zsum (fun r => v (h + r) * A r j) t + (u j - zsum (fun r => u (h + r) * A r j) t) = v j + u j - (zsum (fun r => v (h + r) * A r j) t + zsum (fun r => u (h + r) * A r j) t) by omega] at this
  exact this
theorem zLin.mul {m h t : Int} {A : Int → Int → Int} {v : Int → Int} (k : Int) (H : zLin m h t A v) : zLin m h t A (fun j => k * v j) := by
  intro j a b
  have e : zsum (fun r => k * v (h + r) * A r j) t = k * zsum (fun r => v (h + r) * A r j) t := by
    rw [← zsum_mul]; exact zsum_congr (fun r _ _ => Int.mul_assoc _ _ _)
  show m ∣ k * v j - zsum (fun r => k * v (h + r) * A r j) t
  rw [e, ← Int.mul_sub]
  exact zdvd_mul k (H j a b)
theorem zLin.cg {m h t : Int} {A : Int → Int → Int} {v u : Int → Int} (h0 : 0 ≤ h) (H : zLin m h t A v) (e : zcg m (h + t) v u) (ht : 0 ≤ t) : zLin m h t A u := by
  intro j a b
  have e1 := H j a b
  have e2 := e j a (by omega)
  have e3 : m ∣ zsum (fun r => u (h + r) * A r j - v (h + r) * A r j) t := zsum_dvd (fun r x y => by
    have := Int.dvd_trans (e (h + r) (by omega) (by omega)) (Int.dvd_mul_right (u (h + r) - v (h + r)) (A r j))
    rw [Int.sub_mul] at this; exact this)
  rw [zsum_sub] at e3
  have := zdvd_sub (zdvd_add e1 e2) e3
  rw [show v j - zsum (fun r => v (h + r) * A r j) t + (u j - v j) - (zsum (fun r => u (h + r) * A r j) t - zsum (fun r => v (h + r) * A r j) t) = u j - zsum (fun r => u (h + r) * A r j) t by omega] at this
  exact this
theorem zLin.zero {m h t : Int} {A : Int → Int → Int} : zLin m h t A (fun _ => 0) := by
  intro j a b
  rw [zsum_zero (fun r _ _ => Int.zero_mul _)]; exact Int.dvd_zero m
/-- rows that lead nowhere yet: sums, 0 ahead of column c, numbers below m -/
def zWk (m h t : Int) (A : Int → Int → Int) (W : Int → Int → Int) (n c : Int) : Prop :=
  ∀ r, 0 ≤ r → r < n → zLin m h t A (W r) ∧ (∀ i, 0 ≤ i → i < c → W r i = 0) ∧ ∀ i, 0 ≤ i → i < h + t → 0 ≤ W r i ∧ W r i < m
/-- every sum that is 0 ahead of c is one of the open rows -/
def zAll (m h t : Int) (A : Int → Int → Int) (W : Int → Int → Int) (n c : Int) : Prop :=
  ∀ v, zLin m h t A v → (∀ i, 0 ≤ i → i < c → m ∣ v i) → zSpan m (h + t) W n v
theorem zmod_sub {m a b q : Int} (h : 0 ≤ a - q * b ∧ a - q * b < m) : (a + (m - q) * b) % m = a - q * b := by
  rw [show a + (m - q) * b = a - q * b + m * b by rw [Int.sub_mul]; omega, Int.add_mul_emod_self_left]
  exact Int.emod_eq_of_lt h.1 h.2
