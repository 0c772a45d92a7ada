/-! PUSHINGS BY NUMBER, PATTERNS BY NUMBER -/
def zLeftN (P : zP) (N : Int) : Nat → Int
  | 0 => N
  | k + 1 => if pkd P k = 3 then zLeftN P N k else zLeftN P N k / pm P
def zLeft (P : zP) (N k : Int) : Int := zLeftN P N k.toNat
theorem zLeft_0 (P : zP) (N : Int) : zLeft P N 0 = N := rfl
theorem zLeft_s (P : zP) (N : Int) {k : Int} (h : 0 ≤ k) : zLeft P N (k + 1) = if pkd P k = 3 then zLeft P N k else zLeft P N k / pm P := by
  unfold zLeft
  rw [show (k + 1).toNat = k.toNat + 1 by omega]
  show (if pkd P ((k.toNat : Nat) : Int) = 3 then zLeftN P N k.toNat else zLeftN P N k.toNat / pm P) = _
  rw [show ((k.toNat : Nat) : Int) = k by omega]
theorem zLeft_ge {P : zP} (hm : 0 < pm P) {N : Int} (hN : 0 ≤ N) : ∀ k, 0 ≤ k → 0 ≤ zLeft P N k := zind (by rw [zLeft_0]; exact hN) (fun k a ih => by
  rw [zLeft_s P N a]
  split
  · exact ih
  · exact Int.ediv_nonneg ih (by omega))
/-- the pushing of that number -/
def zDg (P : zP) (N k : Int) : Int := if pkd P k = 3 then 0 else zLeft P N k % pm P
theorem zDg_pu {P : zP} (hm : 0 < pm P) (N : Int) : zPu P (zDg P N) := fun k _ _ => by
  unfold zDg
  refine ⟨?_, fun h => if_pos h⟩
  split
  · omega
  · exact zmod_le _ hm
theorem zDg_all {P : zP} (ok : zPok P) {x : Int → Int} (hx : zPu P x) : ∃ N, (0 ≤ N ∧ N < zAl P) ∧ ∀ k, 0 ≤ k → k < pb P → zDg P N k = x k := by
  have o2 := ok.2.1
  have o4 := ok.2.2.2.1
  have g1 : ∀ c, 0 ≤ c → 1 ≤ zprod (fun k => if pkd P k = 3 then 1 else pm P) c := fun c a => zprod_ge c a (fun j _ _ => by split <;> omega)
  have key := zind (P := fun t => t ≤ pb P → ∃ N, (0 ≤ N ∧ N < zprod (fun k => if pkd P k = 3 then 1 else pm P) t) ∧ ∀ M, 0 ≤ M → zLeft P (N + M * zprod (fun k => if pkd P k = 3 then 1 else pm P) t) t = M ∧ ∀ k, 0 ≤ k → k < t → zDg P (N + M * zprod (fun k => if pkd P k = 3 then 1 else pm P) t) k = x k) (fun _ => ⟨0, ⟨by omega, by rw [zprod_0]; omega⟩, fun M hM => ⟨by rw [zLeft_0, zprod_0]; omega, fun k a b => by omega⟩⟩) (fun t a ih ht => ?_) (pb P) o4.1 (Int.le_refl _)
  · obtain ⟨N, N1, N2⟩ := key
    have := (N2 0 (Int.le_refl 0)).2
    rw [Int.zero_mul, Int.add_zero] at this
    exact ⟨N, N1, this⟩
  · obtain ⟨N, N1, N2⟩ := ih (by omega)
    have xt := hx t a (by omega)
    have pt := g1 t a
    rw [zprod_s _ a]
    by_cases h3 : pkd P t = 3
    · rw [if_pos h3, Int.mul_one]
      refine ⟨N, N1, fun M hM => ?_⟩
      obtain ⟨n1, n2⟩ := N2 M hM
      refine ⟨by rw [zLeft_s _ _ a, if_pos h3]; exact n1, fun k p q => ?_⟩
      by_cases e : k = t
      · rw [e]
        unfold zDg
        rw [if_pos h3, xt.2 h3]
      · exact n2 k p (by omega)
    · rw [if_neg h3]
      generalize zprod (fun k => if pkd P k = 3 then 1 else pm P) t = Pt at *
      have e1 := Int.mul_nonneg xt.1.1 (show 0 ≤ Pt by omega)
      have e2 := Int.mul_le_mul_of_nonneg_right (show x t + 1 ≤ pm P by omega) (show 0 ≤ Pt by omega)
      rw [Int.add_mul, Int.one_mul, Int.mul_comm (pm P)] at e2
      refine ⟨N + x t * Pt, ⟨by omega, by omega⟩, fun M hM => ?_⟩
      have eM : N + x t * Pt + M * (Pt * pm P) = N + (x t + M * pm P) * Pt := by
        rw [Int.add_mul, Int.mul_assoc M (pm P) Pt, Int.mul_comm (pm P) Pt, Int.add_assoc]
      have nn : 0 ≤ x t + M * pm P := by
        have := Int.mul_nonneg hM (show 0 ≤ pm P by omega)
        omega
      obtain ⟨n1, n2⟩ := N2 (x t + M * pm P) nn
      rw [eM]
      have d1 : (x t + M * pm P) / pm P = M := by
        rw [Int.add_mul_ediv_right _ _ (by omega), Int.ediv_eq_zero_of_lt xt.1.1 xt.1.2, Int.zero_add]
      have d2 : (x t + M * pm P) % pm P = x t := by
        rw [Int.add_mul_emod_self_right, Int.emod_eq_of_lt xt.1.1 xt.1.2]
      refine ⟨by rw [zLeft_s _ _ a, if_neg h3, n1, d1], fun k p q => ?_⟩
      by_cases e : k = t
      · rw [e]
        unfold zDg
        rw [if_neg h3, n1, d2]
      · exact n2 k p (by omega)
/-- a reduced row's number -/
def zNuN (P : zP) (d x : Int → Int) : Nat → Int
  | 0 => 0
  | t + 1 => if pkd P (pb P - 1 - t) = 3 then zNuN P d x t else zNuN P d x t * d (pb P - 1 - t) + x (pb P - 1 - t)
def zNu (P : zP) (d x : Int → Int) (t : Int) : Int := zNuN P d x t.toNat
theorem zNu_s (P : zP) (d x : Int → Int) {t : Int} (h : 0 ≤ t) : zNu P d x (t + 1) = if pkd P (pb P - 1 - t) = 3 then zNu P d x t else zNu P d x t * d (pb P - 1 - t) + x (pb P - 1 - t) := by
  unfold zNu
  rw [show (t + 1).toNat = t.toNat + 1 by omega]
  show (if pkd P (pb P - 1 - ((t.toNat : Nat) : Int)) = 3 then zNuN P d x t.toNat else zNuN P d x t.toNat * d (pb P - 1 - ((t.toNat : Nat) : Int)) + x (pb P - 1 - ((t.toNat : Nat) : Int))) = _
  rw [show ((t.toNat : Nat) : Int) = t by omega]
def zRd (P : zP) (d x : Int → Int) : Prop := ∀ k, 0 ≤ k → k < pb P → 0 ≤ x k ∧ x k < d k
def zDp (P : zP) (d : Int → Int) (t : Int) : Int := zprod (fun j => if pkd P (pb P - 1 - j) = 3 then 1 else d (pb P - 1 - j)) t
theorem zNu_congr {P : zP} {d x y : Int → Int} (h : ∀ k, 0 ≤ k → k < pb P → x k = y k) : ∀ t, 0 ≤ t → t ≤ pb P → zNu P d x t = zNu P d y t := by
  refine zind (P := fun t => t ≤ pb P → zNu P d x t = zNu P d y t) (fun _ => rfl) (fun t a ih ht => ?_)
  rw [zNu_s P d x a, zNu_s P d y a, ih (by omega), h (pb P - 1 - t) (by omega) (by omega)]
theorem zNu_le {P : zP} {d x : Int → Int} (hx : zRd P d x) : ∀ t, 0 ≤ t → t ≤ pb P → 0 ≤ zNu P d x t ∧ zNu P d x t < zDp P d t := by
  refine zind (P := fun t => t ≤ pb P → 0 ≤ zNu P d x t ∧ zNu P d x t < zDp P d t) (fun _ => ?_) (fun t a ih ht => ?_)
  · show (0 : Int) ≤ 0 ∧ (0 : Int) < 1
    omega
  · have h1 := ih (by omega)
    have h2 := hx (pb P - 1 - t) (by omega) (by omega)
    have e : zDp P d (t + 1) = zDp P d t * (if pkd P (pb P - 1 - t) = 3 then 1 else d (pb P - 1 - t)) := zprod_s _ a
    rw [zNu_s P d x a, e]
    by_cases h3 : pkd P (pb P - 1 - t) = 3
    · rw [if_pos h3, if_pos h3, Int.mul_one]; exact h1
    · rw [if_neg h3, if_neg h3]
      have e1 := Int.mul_nonneg h1.1 (show 0 ≤ d (pb P - 1 - t) by omega)
      have e2 := Int.mul_le_mul_of_nonneg_right (show zNu P d x t + 1 ≤ zDp P d t by omega) (show 0 ≤ d (pb P - 1 - t) by omega)
      rw [Int.add_mul, Int.one_mul] at e2
      omega
theorem zNu_inj {P : zP} {d x y : Int → Int} (hx : zRd P d x) (hy : zRd P d y) : ∀ t, 0 ≤ t → t ≤ pb P → zNu P d x t = zNu P d y t → ∀ k, pb P - t ≤ k → k < pb P → pkd P k ≠ 3 → x k = y k := by
  refine zind (P := fun t => t ≤ pb P → zNu P d x t = zNu P d y t → ∀ k, pb P - t ≤ k → k < pb P → pkd P k ≠ 3 → x k = y k) (fun _ _ k a b _ => by omega) (fun t a ih ht he k p q h3 => ?_)
  rw [zNu_s P d x a, zNu_s P d y a] at he
  by_cases z : pkd P (pb P - 1 - t) = 3
  · rw [if_pos z, if_pos z] at he
    by_cases e : k = pb P - 1 - t
    · rw [e] at h3; exact absurd z h3
    · exact ih (by omega) he k (by omega) q h3
  · rw [if_neg z, if_neg z] at he
    have bx := hx (pb P - 1 - t) (by omega) (by omega)
    have bY := hy (pb P - 1 - t) (by omega) (by omega)
    have e1 : x (pb P - 1 - t) = y (pb P - 1 - t) := by
      have h1 : (zNu P d x t * d (pb P - 1 - t) + x (pb P - 1 - t)) % d (pb P - 1 - t) = (zNu P d y t * d (pb P - 1 - t) + y (pb P - 1 - t)) % d (pb P - 1 - t) := by rw [he]
      rw [Int.add_comm, Int.add_mul_emod_self_right, Int.add_comm (zNu P d y t * _), Int.add_mul_emod_self_right, Int.emod_eq_of_lt bx.1 bx.2, Int.emod_eq_of_lt bY.1 bY.2] at h1
      exact h1
    have e2 : zNu P d x t = zNu P d y t := by
      have h2 : zNu P d x t * d (pb P - 1 - t) = zNu P d y t * d (pb P - 1 - t) := by omega
      exact Int.eq_of_mul_eq_mul_right (by omega) h2
    by_cases e : k = pb P - 1 - t
    · rw [e]; exact e1
    · exact ih (by omega) e2 k (by omega) q h3
theorem zDp_all {P : zP} (ok : zPok P) {d : Int → Int} (hd : zDs (pm P) (pb P) (zQu P) d) : zDp P d (pb P) * zMany P d = zAl P := by
  have o2 := ok.2.1
  have o4 := ok.2.2.2.1
  unfold zDp
  rw [← zprod_rev (pb P) o4.1 (fun k => if pkd P k = 3 then 1 else d k)]
  unfold zMany zAl
  rw [← zprod_mul _ _ (pb P) o4.1]
  refine zprod_congr (pb P) o4.1 (fun k a b => ?_)
  by_cases h3 : pkd P k = 3
  · rw [if_pos h3, if_pos h3, hd.stuck (by omega) ⟨a, b⟩ h3, Int.one_mul, Int.ediv_self (by omega)]
  · rw [if_neg h3, if_neg h3]
    exact (zdq (by omega) (hd k a b).1.1 (hd k a b).1.2).2
/-- every row has a reduced one that differs by an element -/
theorem zrep {m n : Int} (hm : 0 < m) (hn : 0 ≤ n) {K : (Int → Int) → Prop} (hL : zLat m n K) {d u : Int → Int} (hd : zDs m n K d) (hu : ∀ k, 0 ≤ k → k < n → 0 ≤ u k ∧ u k < m) : ∃ t : Int → Int, (∀ k, 0 ≤ k → k < n → 0 ≤ t k ∧ t k < d k) ∧ K (fun k => t k - u k) := by
  have key := zind (P := fun c => c ≤ n → ∃ t : Int → Int, (∀ k, 0 ≤ k → k < n → 0 ≤ t k ∧ t k < m) ∧ (∀ k, n - c ≤ k → k < n → t k < d k) ∧ K (fun k => t k - u k)) (fun _ => ⟨u, hu, fun k _ _ => by omega, hL.2.2.2 _ _ hL.1 (fun i _ _ => by rw [Int.sub_self, Int.sub_self]; exact Int.dvd_zero m)⟩) (fun c a ih hc => ?_) n hn (Int.le_refl _)
  · obtain ⟨t, t1, t2, t3⟩ := key
    exact ⟨t, fun k a b => ⟨(t1 k a b).1, t2 k (by omega) b⟩, t3⟩
  · obtain ⟨t, t1, t2, t3⟩ := ih (by omega)
    obtain ⟨⟨d1, d2⟩, ⟨z, z1, z2, z3⟩, -⟩ := hd (n - (c + 1)) (by omega) (by omega)
    have dm := zdvd_le d2 hm
    generalize hj : n - (c + 1) = j at *
    have tj := t1 j (by omega) (by omega)
    generalize hq : t j / d j = q
    have em : t j - q * d j = t j % d j := by rw [← hq, Int.emod_def, Int.mul_comm (t j / d j)]
    have rem := zmod_le (t j) d1
    refine ⟨fun k => (t k - q * z k) % m, fun k x y => zmod_le _ hm, fun k x y => ?_, hL.2.2.2 _ _ (hL.comb (-q) t3 z1) (fun k x y => ?_)⟩
    · show (t k - q * z k) % m < d k
      by_cases e : k = j
      · rw [e, z2, em, Int.emod_eq_of_lt rem.1 (by omega)]; exact rem.2
      · have tk := t1 k (by omega) y
        rw [z3 k (by omega) y, Int.mul_zero, Int.sub_zero, Int.emod_eq_of_lt tk.1 tk.2]
        exact t2 k (by omega) y
    · show m ∣ (t k - q * z k) % m - u k - (t k - u k + -q * z k)
      rw [Int.neg_mul, show ∀ A B C D : Int, A - B - (C - B + -D) = A - (C - D) from fun A B C D => by omega]
      exact zdvd_emod _ _
