/-! LATTICES that hold all multiples of m: their first numbers, and what is reduced by them -/
def zLat (m n : Int) (K : (Int → Int) → Prop) : Prop :=
  K (fun _ => 0) ∧ (∀ a b, K a → K b → K (fun j => a j + b j)) ∧ (∀ (k : Int) a, K a → K (fun j => k * a j)) ∧ ∀ a b, K a → zcg m n a b → K b
theorem zLat.sub {m n : Int} {K : (Int → Int) → Prop} (H : zLat m n K) {a b : Int → Int} (h : K a) (g : K b) : K (fun j => a j - b j) := by
  have := H.2.1 _ _ h (H.2.2.1 (-1) b g)
  exact H.2.2.2 _ _ this (fun j _ _ => by show m ∣ a j - b j - (a j + -1 * b j); rw [show a j - b j - (a j + -1 * b j) = 0 by omega]; exact Int.dvd_zero m)
theorem zLat.comb {m n : Int} {K : (Int → Int) → Prop} (H : zLat m n K) (k : Int) {a b : Int → Int} (h : K a) (g : K b) : K (fun j => a j + k * b j) := H.2.1 _ _ h (H.2.2.1 k b g)
/-- d is the least that an element has at k, if it is 0 behind k -/
def zPv (m n : Int) (K : (Int → Int) → Prop) (k d : Int) : Prop :=
  (0 < d ∧ d ∣ m) ∧ (∃ z, K z ∧ z k = d ∧ ∀ i, k < i → i < n → z i = 0) ∧ ∀ z, K z → (∀ i, k < i → i < n → m ∣ z i) → d ∣ z k
theorem zdvd_le {a b : Int} (h : a ∣ b) (hb : 0 < b) : a ≤ b := Int.le_of_dvd hb h
theorem zPv.uniq {m n k d d' : Int} {K : (Int → Int) → Prop} (h : zPv m n K k d) (g : zPv m n K k d') : d = d' := by
  obtain ⟨⟨h1, h2⟩, ⟨z, z1, z2, z3⟩, h3⟩ := h
  obtain ⟨⟨g1, g2⟩, ⟨y, y1, y2, y3⟩, g3⟩ := g
  have a := h3 y y1 (fun i x w => by rw [y3 i x w]; exact Int.dvd_zero m)
  have b := g3 z z1 (fun i x w => by rw [z3 i x w]; exact Int.dvd_zero m)
  rw [y2] at a
  rw [z2] at b
  have := zdvd_le a g1
  have := zdvd_le b h1
  omega
theorem zPv.congr {m n k d : Int} {K K' : (Int → Int) → Prop} (h : zPv m n K k d) (e : ∀ z, K z ↔ K' z) : zPv m n K' k d := by
  obtain ⟨h1, ⟨z, z1, z2, z3⟩, h3⟩ := h
  exact ⟨h1, ⟨z, (e z).mp z1, z2, z3⟩, fun y y1 y2 => h3 y ((e y).mpr y1) y2⟩
theorem zdvd_small {d a : Int} (h : d ∣ a) (h1 : -d < a) (h2 : a < d) : a = 0 := by
  obtain ⟨k, hk⟩ := h
  by_cases z : k = 0
  · rw [hk, z, Int.mul_zero]
  · exfalso
    have hd : 0 < d := by omega
    by_cases y : 0 < k
    · have := Int.mul_le_mul_of_nonneg_left (show 1 ≤ k by omega) (show 0 ≤ d by omega)
      rw [Int.mul_one, ← hk] at this; omega
    · have := Int.mul_le_mul_of_nonneg_left (show k ≤ -1 by omega) (show 0 ≤ d by omega)
      rw [← hk, Int.mul_neg, Int.mul_one] at this; omega
/-- downwards from n -/
theorem zdesc {n : Int} {Q : Int → Prop} (h : ∀ k, 0 ≤ k → k < n → (∀ i, k < i → i < n → Q i) → Q k) : ∀ k, 0 ≤ k → k < n → Q k := by
  have key : ∀ (t : Nat) (k : Int), 0 ≤ k → k < n → n - k ≤ t → Q k := by
    intro t
    induction t with
    | zero => intro k a b c; omega
    | succ t ih => intro k a b c; exact h k a b (fun i x y => ih i (by omega) y (by omega))
  intro k a b
  exact key (n - k).toNat k a b (by omega)
/-- two elements of one coset that are reduced are one -/
theorem zred_uniq {m n : Int} {K : (Int → Int) → Prop} {x y : Int → Int} (hd : ∀ k, 0 ≤ k → k < n → ∃ d, zPv m n K k d ∧ (0 ≤ x k ∧ x k < d) ∧ (0 ≤ y k ∧ y k < d)) (hK : K (fun j => x j - y j)) : ∀ k, 0 ≤ k → k < n → x k = y k := by
  refine zdesc (fun k a b ih => ?_)
  obtain ⟨d, ⟨h1, h2, h3⟩, hx, hy⟩ := hd k a b
  have := h3 _ hK (fun i p q => by show m ∣ x i - y i; rw [ih i p q, Int.sub_self]; exact Int.dvd_zero m)
  have := zdvd_small this (by show -d < x k - y k; omega) (by show x k - y k < d; omega)
  have this' : x k - y k = 0 := this
  omega
/-! the lattices of a plate -/
def zQu (P : zP) (x : Int → Int) : Prop := (∀ i, 0 ≤ i → i < pn P → pm P ∣ zsum (fun k => x k * zstp P k i) (pb P)) ∧ ∀ k, 0 ≤ k → k < pb P → pkd P k = 3 → pm P ∣ x k
def zSol (P : zP) (x : Int → Int) : Prop := (∀ i, 0 ≤ i → i < pn P → pm P ∣ zsum (fun k => x k * zstp P k i) (pb P) - psh P i) ∧ ∀ k, 0 ≤ k → k < pb P → pkd P k = 3 → pm P ∣ x k
/-- WEIGHTS, lamp 0 the last number -/
def zWt (P : zP) (y : Int → Int) : Prop := ∀ k, 0 ≤ k → k < pb P → pkd P k ≠ 3 → pm P ∣ zsum (fun i => y (pn P - 1 - i) * zstp P k i) (pn P)
theorem zsum_lin_add {x y g : Int → Int} (n : Int) : zsum (fun k => (x k + y k) * g k) n = zsum (fun k => x k * g k) n + zsum (fun k => y k * g k) n := by
  rw [← zsum_add]; exact zsum_congr (fun k _ _ => Int.add_mul _ _ _)
theorem zsum_lin_mul {x g : Int → Int} (c n : Int) : zsum (fun k => c * x k * g k) n = c * zsum (fun k => x k * g k) n := by
  rw [← zsum_mul]; exact zsum_congr (fun k _ _ => Int.mul_assoc _ _ _)
theorem zsum_lin_sub {x y g : Int → Int} (n : Int) : zsum (fun k => (x k - y k) * g k) n = zsum (fun k => x k * g k) n - zsum (fun k => y k * g k) n := by
  rw [← zsum_sub]; exact zsum_congr (fun k _ _ => Int.sub_mul _ _ _)
theorem zsum_lin_cg {m n : Int} {x y g : Int → Int} (h : ∀ k, 0 ≤ k → k < n → m ∣ y k - x k) : m ∣ zsum (fun k => y k * g k) n - zsum (fun k => x k * g k) n := by
  rw [← zsum_lin_sub]
  exact zsum_dvd (fun k a b => Int.dvd_trans (h k a b) (Int.dvd_mul_right _ _))
theorem zQu_lat (P : zP) : zLat (pm P) (pb P) (zQu P) := by
  refine ⟨⟨fun i _ _ => ?_, fun k _ _ _ => Int.dvd_zero _⟩, fun a b ha hb => ⟨fun i x y => ?_, fun k x y z => zdvd_add (ha.2 k x y z) (hb.2 k x y z)⟩, fun c a ha => ⟨fun i x y => ?_, fun k x y z => zdvd_mul c (ha.2 k x y z)⟩, fun a b ha e => ⟨fun i x y => ?_, fun k x y z => ?_⟩⟩
  · rw [zsum_zero (fun k _ _ => Int.zero_mul _)]; exact Int.dvd_zero _
  · rw [zsum_lin_add]; exact zdvd_add (ha.1 i x y) (hb.1 i x y)
  · rw [zsum_lin_mul]; exact zdvd_mul c (ha.1 i x y)
  · have := zdvd_add (zsum_lin_cg (g := fun k => zstp P k i) e) (ha.1 i x y)
    rw [Int.sub_add_cancel] at this; exact this
  · have := zdvd_add (e k x y) (ha.2 k x y z)
    rw [Int.sub_add_cancel] at this; exact this
theorem zWt_lat (P : zP) : zLat (pm P) (pn P) (zWt P) := by
  refine ⟨fun k _ _ _ => ?_, fun a b ha hb k x y z => ?_, fun c a ha k x y z => ?_, fun a b ha e k x y z => ?_⟩
  · rw [zsum_zero (fun k _ _ => Int.zero_mul _)]; exact Int.dvd_zero _
  · rw [zsum_lin_add (x := fun i => a (pn P - 1 - i)) (y := fun i => b (pn P - 1 - i))]; exact zdvd_add (ha k x y z) (hb k x y z)
  · rw [zsum_lin_mul (x := fun i => a (pn P - 1 - i))]; exact zdvd_mul c (ha k x y z)
  · have := zdvd_add (zsum_lin_cg (n := pn P) (x := fun i => a (pn P - 1 - i)) (y := fun i => b (pn P - 1 - i)) (g := fun i => zstp P k i) (fun i ia ib => e (pn P - 1 - i) (by omega) (by omega))) (ha k x y z)
    rw [Int.sub_add_cancel] at this; exact this
theorem zSol.sub {P : zP} {x y : Int → Int} (h : zSol P x) (g : zSol P y) : zQu P (fun j => x j - y j) := by
  refine ⟨fun i a b => ?_, fun k a b c => zdvd_sub (h.2 k a b c) (g.2 k a b c)⟩
  rw [zsum_lin_sub]
  have := zdvd_sub (h.1 i a b) (g.1 i a b)
  rw [show ∀ u v w : Int, u - w - (v - w) = u - v from fun u v w => by omega] at this
  exact this
theorem zSol.add {P : zP} {x y : Int → Int} (h : zSol P x) (g : zQu P y) : zSol P (fun j => x j + y j) := by
  refine ⟨fun i a b => ?_, fun k a b c => zdvd_add (h.2 k a b c) (g.2 k a b c)⟩
  rw [zsum_lin_add]
  have := zdvd_add (h.1 i a b) (g.1 i a b)
  rw [show ∀ u v w : Int, u - w + v = u + v - w from fun u v w => by omega] at this
  exact this
theorem zSol.cg {P : zP} {x y : Int → Int} (h : zSol P x) (e : zcg (pm P) (pb P) x y) : zSol P y := by
  refine ⟨fun i a b => ?_, fun k a b c => ?_⟩
  · have := zdvd_add (zsum_lin_cg (g := fun k => zstp P k i) e) (h.1 i a b)
    rw [show ∀ u v w : Int, u - v + (v - w) = u - w from fun u v w => by omega] at this; exact this
  · have := zdvd_add (e k a b) (h.2 k a b c)
    rw [Int.sub_add_cancel] at this; exact this
/-- d tells the first numbers of K -/
def zDs (m n : Int) (K : (Int → Int) → Prop) (d : Int → Int) : Prop := ∀ k, 0 ≤ k → k < n → zPv m n K k (d k)
theorem zDs.uniq {m n : Int} {K : (Int → Int) → Prop} {d d' : Int → Int} (h : zDs m n K d) (g : zDs m n K d') : ∀ k, 0 ≤ k → k < n → d k = d' k := fun k a b => (h k a b).uniq (g k a b)
theorem zDs.le {m n : Int} {K : (Int → Int) → Prop} {d : Int → Int} (hm : 0 < m) (h : zDs m n K d) {k : Int} (a : 0 ≤ k) (b : k < n) : (1 ≤ d k ∧ d k ≤ m) ∧ d k ∣ m := by
  have := (h k a b).1
  exact ⟨⟨by omega, zdvd_le this.2 hm⟩, this.2⟩
/-- x is the first pushing in ORDER that shows what is shown -/
def zCan (P : zP) (d x : Int → Int) : Prop := zSol P x ∧ ∀ k, 0 ≤ k → k < pb P → 0 ≤ x k ∧ x k < d k
theorem zCan.uniq {P : zP} {d d' x y : Int → Int} (hd : zDs (pm P) (pb P) (zQu P) d) (hd' : zDs (pm P) (pb P) (zQu P) d') (h : zCan P d x) (g : zCan P d' y) : ∀ k, 0 ≤ k → k < pb P → x k = y k :=
  zred_uniq (fun k a b => ⟨d k, hd k a b, h.2 k a b, by rw [(hd k a b).uniq (hd' k a b)]; exact g.2 k a b⟩) (h.1.sub g.1)
/-- R is the element of K that leads at k, reduced -/
def zElm (n : Int) (K : (Int → Int) → Prop) (d : Int → Int) (k : Int) (R : Int → Int) : Prop := K R ∧ R k = d k ∧ (∀ i, k < i → i < n → R i = 0) ∧ ∀ i, 0 ≤ i → i < k → 0 ≤ R i ∧ R i < d i
theorem zElm.uniq {m n : Int} {K : (Int → Int) → Prop} (hL : zLat m n K) {d d' : Int → Int} (hd : zDs m n K d) (hd' : zDs m n K d') {k : Int} (hk : 0 ≤ k ∧ k < n) {R R' : Int → Int} (h : zElm n K d k R) (g : zElm n K d' k R') : ∀ i, 0 ≤ i → i < n → R i = R' i := by
  obtain ⟨h1, h2, h3, h4⟩ := h
  obtain ⟨g1, g2, g3, g4⟩ := g
  have top : ∀ i, k ≤ i → i < n → R i = R' i := fun i a b => by
    by_cases z : i = k
    · rw [z, h2, g2, hd.uniq hd' k hk.1 hk.2]
    · rw [h3 i (by omega) b, g3 i (by omega) b]
  refine zdesc (fun i a b ih => ?_)
  by_cases z : k ≤ i
  · exact top i z b
  · have q := hL.sub h1 g1
    have p := (hd i a b).2.2 _ q (fun j x y => by show m ∣ R j - R' j; rw [ih j x y, Int.sub_self]; exact Int.dvd_zero m)
    have e1 := h4 i a (by omega)
    have e2 := g4 i a (by omega)
    rw [← hd.uniq hd' i a b] at e2
    have := zdvd_small p (by show -d i < R i - R' i; omega) (by show R i - R' i < d i; omega)
    have this' : R i - R' i = 0 := this
    omega
/-- y is the next behind x, in ORDER, of those that differ from it by an element of K -/
def zNx (m n : Int) (K : (Int → Int) → Prop) (d : Int → Int) (x y : Int → Int) : Prop :=
  ∃ k, (0 ≤ k ∧ k < n) ∧ (x k + d k < m ∧ ∀ i, 0 ≤ i → i < k → m ≤ x i + d i) ∧ K (fun j => y j - x j) ∧ y k = x k + d k ∧ (∀ i, k < i → i < n → y i = x i) ∧ ∀ i, 0 ≤ i → i < k → 0 ≤ y i ∧ y i < d i
def zNxNo (m n : Int) (d x : Int → Int) : Prop := ∀ i, 0 ≤ i → i < n → m ≤ x i + d i
theorem zNx.uniq {m n : Int} {K : (Int → Int) → Prop} (hL : zLat m n K) {d d' x x' y y' : Int → Int} (hd : zDs m n K d) (hd' : zDs m n K d') (hx : ∀ i, 0 ≤ i → i < n → x i = x' i) (h : zNx m n K d x y) (g : zNx m n K d' x' y') : ∀ i, 0 ≤ i → i < n → y i = y' i := by
  obtain ⟨k, hk, ⟨h1, h2⟩, h3, h4, h5, h6⟩ := h
  obtain ⟨l, hl, ⟨g1, g2⟩, g3, g4, g5, g6⟩ := g
  have ed := hd.uniq hd'
  have kl : k = l := by
    rcases Int.lt_trichotomy k l with z | z | z
    · have := g2 k hk.1 z; rw [← ed k hk.1 hk.2, ← hx k hk.1 hk.2] at this; omega
    · exact z
    · have := h2 l hl.1 z; rw [ed l hl.1 hl.2, hx l hl.1 hl.2] at this; omega
  subst kl
  refine zdesc (fun i a b ih => ?_)
  by_cases z : k ≤ i
  · by_cases w : i = k
    · rw [w, h4, g4, ed k hk.1 hk.2, hx k hk.1 hk.2]
    · rw [h5 i (by omega) b, g5 i (by omega) b, hx i a b]
  · have q := hL.2.2.2 _ (fun j => y j - y' j) (hL.sub h3 g3) (fun j ja jb => by
      show m ∣ y j - y' j - (y j - x j - (y' j - x' j))
      rw [hx j ja jb, show y j - y' j - (y j - x' j - (y' j - x' j)) = 0 by omega]; exact Int.dvd_zero m)
    have p := (hd i a b).2.2 _ q (fun j u v => by show m ∣ y j - y' j; rw [ih j u v, Int.sub_self]; exact Int.dvd_zero m)
    have e1 := h6 i a (by omega)
    have e2 := g6 i a (by omega)
    rw [← ed i a b] at e2
    have := zdvd_small p (by show -d i < y i - y' i; omega) (by show y i - y' i < d i; omega)
    have this' : y i - y' i = 0 := this
    omega
theorem zNx.no {m n : Int} {K : (Int → Int) → Prop} {d d' x x' y : Int → Int} (hd : zDs m n K d) (hd' : zDs m n K d') (hx : ∀ i, 0 ≤ i → i < n → x i = x' i) (h : zNx m n K d x y) (g : zNxNo m n d' x') : False := by
  obtain ⟨k, hk, ⟨h1, -⟩, -⟩ := h
  have := g k hk.1 hk.2
  rw [← hd.uniq hd' k hk.1 hk.2, ← hx k hk.1 hk.2] at this
  omega
