/-! THE REFERENCE'S LATTICES: one more condition -/
def zdf (n : Int) (f z : Int → Int) : Int := zsum (fun i => f i * z i) n
theorem zdf_add (n : Int) (f y z : Int → Int) : zdf n f (fun j => y j + z j) = zdf n f y + zdf n f z := by
  unfold zdf
  rw [← zsum_add]; exact zsum_congr (fun k _ _ => Int.mul_add _ _ _)
theorem zdf_mul (n c : Int) (f y : Int → Int) : zdf n f (fun j => c * y j) = c * zdf n f y := by
  unfold zdf
  rw [← zsum_mul]; exact zsum_congr (fun k _ _ => by rw [← Int.mul_assoc, ← Int.mul_assoc, Int.mul_comm (f k) c])
theorem zdf_cg {m n : Int} (f : Int → Int) {y z : Int → Int} (h : zcg m n y z) : m ∣ zdf n f z - zdf n f y := by
  unfold zdf
  rw [← zsum_sub]
  exact zsum_dvd (fun i a b => by rw [← Int.mul_sub]; exact zdvd_mul _ (h i a b))
/-- a triangle of rows for K -/
def zTr (m n : Int) (K : (Int → Int) → Prop) (R : Int → Int → Int) (k : Int) : Prop :=
  (0 < R k k ∧ R k k ∣ m) ∧ K (R k) ∧ (∀ i, k < i → i < n → R k i = 0) ∧ (∀ i, 0 ≤ i → i < k → 0 ≤ R k i ∧ R k i < m) ∧ ∀ z, K z → (∀ i, k < i → i < n → m ∣ z i) → R k k ∣ z k
theorem zTr.congr {m n : Int} {K : (Int → Int) → Prop} (hL : zLat m n K) {R R' : Int → Int → Int} {k : Int} (hk : 0 ≤ k ∧ k < n) (h : zTr m n K R k) (e : ∀ i, 0 ≤ i → i < n → R' k i = R k i) : zTr m n K R' k := by
  obtain ⟨h1, h2, h3, h4, h5⟩ := h
  have ek := e k hk.1 hk.2
  exact ⟨by rw [ek]; exact h1, hL.2.2.2 _ _ h2 (fun i a b => by rw [e i a b, Int.sub_self]; exact Int.dvd_zero m), fun i a b => by rw [e i (by omega) b]; exact h3 i a b, fun i a b => by rw [e i a (by omega)]; exact h4 i a b, by rw [ek]; exact h5⟩
theorem zTr.pv {m n : Int} {K : (Int → Int) → Prop} {R : Int → Int → Int} {k : Int} (h : zTr m n K R k) : zPv m n K k (R k k) := ⟨h.1, ⟨R k, h.2.1, rfl, h.2.2.1⟩, h.2.2.2.2⟩
/-- K and one more condition -/
def zKf (m n : Int) (K : (Int → Int) → Prop) (f : Int → Int) (z : Int → Int) : Prop := K z ∧ m ∣ zdf n f z
theorem zKf.lat {m n : Int} {K : (Int → Int) → Prop} (hL : zLat m n K) (f : Int → Int) : zLat m n (zKf m n K f) := by
  refine ⟨⟨hL.1, ?_⟩, fun a b ha hb => ⟨hL.2.1 _ _ ha.1 hb.1, by rw [zdf_add]; exact zdvd_add ha.2 hb.2⟩, fun c a ha => ⟨hL.2.2.1 c a ha.1, by rw [zdf_mul]; exact zdvd_mul c ha.2⟩, fun a b ha e => ⟨hL.2.2.2 a b ha.1 e, ?_⟩⟩
  · unfold zdf
    rw [zsum_zero (fun i _ _ => Int.mul_zero _)]; exact Int.dvd_zero m
  · have := zdvd_add (zdf_cg f e) ha.2
    rw [Int.sub_add_cancel] at this; exact this
/-- what is known of g and u ahead of row k -/
def zGU (m n : Int) (K : (Int → Int) → Prop) (f : Int → Int) (k g : Int) (U : Int → Int) : Prop :=
  (0 < g ∧ g ∣ m) ∧ K U ∧ (∀ i, k ≤ i → i < n → U i = 0) ∧ m ∣ zdf n f U - g ∧ ∀ z, K z → (∀ i, k ≤ i → i < n → m ∣ z i) → g ∣ zdf n f z
theorem zdvd_cancel {c d a : Int} (hd : 0 < d) (h : c * d ∣ a * d) : c ∣ a := by
  obtain ⟨e, he⟩ := h
  refine ⟨e, ?_⟩
  have : d * a = d * (c * e) := by rw [Int.mul_comm d a, he, Int.mul_comm c d, Int.mul_assoc]
  exact Int.eq_of_mul_eq_mul_left (by omega) this
theorem zimp {m n : Int} {K : (Int → Int) → Prop} (hL : zLat m n K) (hm : 0 < m) {f : Int → Int} {R : Int → Int → Int} {k g s0 d c q t1 t2 : Int} {U R' U' : Int → Int} (hk : 0 ≤ k ∧ k < n) (hR : zTr m n K R k) (hG : zGU m n K f k g U) (hs : m ∣ zdf n f (R k) - s0) (hd : 0 < d) (ec : g = c * d) (eq : s0 = q * d) (et : t1 * g + t2 * s0 = d)
    (r0 : zcg m n (fun i => c * R k i + (-q) * U i) R') (r1 : R' k = c * R k k) (r2 : ∀ i, k < i → i < n → R' i = 0) (r3 : ∀ i, 0 ≤ i → i < k → 0 ≤ R' i ∧ R' i < m) (u0 : zcg m n (fun i => t1 * U i + t2 * R k i) U') (u1 : ∀ i, k < i → i < n → U' i = 0) :
    zTr m n (zKf m n K f) (fun _ => R') k ∧ zGU m n K f (k + 1) d U' := by
  obtain ⟨⟨p0, p1⟩, R1, R2, R3, R4⟩ := hR
  obtain ⟨⟨g0, g1⟩, G1, G2, G3, G4⟩ := hG
  have c0 : 0 < c := by
    rcases Int.lt_or_le 0 c with z | z
    · exact z
    · exfalso
      have := Int.mul_le_mul_of_nonneg_right z (show 0 ≤ d by omega)
      rw [Int.zero_mul] at this; omega
  have tc : t1 * c + t2 * q = 1 := by
    have : d * (t1 * c + t2 * q) = d * 1 := by
      rw [Int.mul_one, Int.mul_add, ← Int.mul_assoc, ← Int.mul_assoc, Int.mul_comm d t1, Int.mul_comm d t2, Int.mul_assoc, Int.mul_assoc, Int.mul_comm d c, Int.mul_comm d q, ← ec, ← eq]; exact et
    exact Int.eq_of_mul_eq_mul_left (by omega) this
  -- J3 for the new row
  have J3 : ∀ z, zKf m n K f z → (∀ i, k < i → i < n → m ∣ z i) → c * R k k ∣ z k := by
    intro z hz hz0
    obtain ⟨a, ha⟩ := R4 z hz.1 hz0
    have hw := hL.comb (-a) hz.1 R1
    have gw := G4 _ hw (fun i x y => by
      show m ∣ z i + -a * R k i
      by_cases hi : i = k
      · rw [hi, ha, Int.mul_comm (R k k) a, Int.neg_mul, Int.add_right_neg]; exact Int.dvd_zero m
      · rw [R2 i (by omega) y, Int.mul_zero, Int.add_zero]; exact hz0 i (by omega) y)
    rw [zdf_add, zdf_mul] at gw
    have h1 := zdvd_sub (Int.dvd_trans g1 hz.2) gw
    have h2 : g ∣ a * zdf n f (R k) := by
      rw [show ∀ u v : Int, u - (u + -a * v) = a * v from fun u v => by rw [Int.neg_mul]; omega] at h1; exact h1
    have h3 := Int.dvd_trans g1 (zdvd_mul a hs)
    rw [Int.mul_sub] at h3
    have h4 := zdvd_sub h2 h3
    rw [show ∀ u v : Int, u - (u - v) = v from fun u v => by omega, eq, ec, ← Int.mul_assoc] at h4
    have h5 := zdvd_cancel hd h4
    have h6 : c ∣ a := by
      have e : a = a * t1 * c + t2 * (a * q) := by
        have : a * (t1 * c + t2 * q) = a := by rw [tc, Int.mul_one]
        rw [Int.mul_add] at this
        rw [Int.mul_assoc a t1 c, ← Int.mul_assoc t2 a q, Int.mul_comm t2 a, Int.mul_assoc a t2 q]; exact this.symm
      rw [e]
      exact zdvd_add (Int.dvd_mul_left _ _) (zdvd_mul t2 h5)
    obtain ⟨b, hb⟩ := h6
    exact ⟨b, by rw [ha, hb, Int.mul_comm c (R k k), Int.mul_assoc]⟩
  have KL := zKf.lat hL f
  refine ⟨⟨⟨?_, ?_⟩, ⟨?_, ?_⟩, r2, r3, ?_⟩, ⟨hd, ?_⟩, ?_, ?_, ?_, ?_⟩
  · show 0 < R' k
    rw [r1]; exact Int.mul_pos c0 p0
  · show R' k ∣ m
    rw [r1]
    have := J3 (fun i => if i = k then m else 0) (KL.2.2.2 _ _ KL.1 (fun i _ _ => by
      show m ∣ (if i = k then m else 0) - 0
      split
      · rw [Int.sub_zero]; exact Int.dvd_refl m
      · exact Int.dvd_zero m)) (fun i x y => by show m ∣ (if i = k then m else 0); rw [if_neg (by omega)]; exact Int.dvd_zero m)
    rw [if_pos rfl] at this; exact this
  · exact hL.2.2.2 _ _ (hL.comb (-q) (hL.2.2.1 c _ R1) G1) r0
  · have h1 := zdf_cg f r0
    rw [zdf_add, zdf_mul, zdf_mul] at h1
    have h2 := zdvd_mul c hs
    have h3 := zdvd_mul q G3
    rw [Int.mul_sub] at h2 h3
    have h4 := zdvd_sub (zdvd_add h1 h2) h3
    have e : c * s0 = q * g := by rw [eq, ec, ← Int.mul_assoc, ← Int.mul_assoc, Int.mul_comm c q]
    rw [Int.neg_mul] at h4
    rw [show ∀ x y z w v u : Int, w = u → x - (y + -z) + (y - w) - (z - u) = x from fun x y z w v u h => by omega] at h4
    · exact h4
    · exact 0
    · exact e
  · show ∀ z, zKf m n K f z → (∀ i, k < i → i < n → m ∣ z i) → R' k ∣ z k
    rw [r1]; exact J3
  · exact Int.dvd_trans ⟨c, by rw [Int.mul_comm]; exact ec⟩ g1
  · exact hL.2.2.2 _ _ (hL.2.1 _ _ (hL.2.2.1 t1 _ G1) (hL.2.2.1 t2 _ R1)) u0
  · exact fun i x y => u1 i (by omega) y
  · have h1 := zdf_cg f u0
    rw [zdf_add, zdf_mul, zdf_mul] at h1
    have h2 := zdvd_mul t1 G3
    have h3 := zdvd_mul t2 hs
    rw [Int.mul_sub] at h2 h3
    have h4 := zdvd_add (zdvd_add h1 h2) h3
    rw [show ∀ x y z w v u : Int, w + u = v → x - (y + z) + (y - w) + (z - u) = x - v from fun x y z w v u h => by omega] at h4
    · exact h4
    · exact et
  · intro z hz hz0
    obtain ⟨a, ha⟩ := R4 z hz (fun i x y => hz0 i (by omega) y)
    have hw := hL.comb (-a) hz R1
    have gw := G4 _ hw (fun i x y => by
      show m ∣ z i + -a * R k i
      by_cases hi : i = k
      · rw [hi, ha, Int.mul_comm (R k k) a, Int.neg_mul, Int.add_right_neg]; exact Int.dvd_zero m
      · rw [R2 i (by omega) y, Int.mul_zero, Int.add_zero]; exact hz0 i (by omega) y)
    rw [zdf_add, zdf_mul] at gw
    have dg : d ∣ g := ⟨c, by rw [Int.mul_comm]; exact ec⟩
    have dm : d ∣ m := Int.dvd_trans dg g1
    have h1 : d ∣ zdf n f z + -a * zdf n f (R k) := Int.dvd_trans dg gw
    have h2 : d ∣ zdf n f (R k) := by
      have := zdvd_add (Int.dvd_trans dm hs) (show d ∣ s0 from ⟨q, by rw [Int.mul_comm]; exact eq⟩)
      rw [Int.sub_add_cancel] at this; exact this
    have h3 := zdvd_add h1 (zdvd_mul a h2)
    rw [show ∀ u v : Int, u + -a * v + a * v = u from fun u v => by rw [Int.neg_mul]; omega] at h3
    exact h3
/-! how often a prime is in a product -/
theorem zoft_mulF : ∀ a b : Fin 13, 1 ≤ (a : Nat) → 1 ≤ (b : Nat) → (a : Nat) * b ≤ 12 → ∀ p : Fin 12, ((p : Nat) = 2 ∨ (p : Nat) = 3 ∨ (p : Nat) = 5 ∨ (p : Nat) = 7 ∨ (p : Nat) = 11) → zoft ((p : Nat) : Int) (((a : Nat) : Int) * ((b : Nat) : Int)) = zoft ((p : Nat) : Int) ((a : Nat) : Int) + zoft ((p : Nat) : Int) ((b : Nat) : Int) := by decide +kernel
theorem zoft_mul {p a b : Int} (hp : zPrm p) (ha : 1 ≤ a) (hb : 1 ≤ b) (hab : a * b ≤ 12) : zoft p (a * b) = zoft p a + zoft p b := by
  have a12 : a ≤ 12 := by
    have := Int.mul_le_mul_of_nonneg_left hb (show 0 ≤ a by omega)
    omega
  have b12 : b ≤ 12 := by
    have := Int.mul_le_mul_of_nonneg_right ha (show 0 ≤ b by omega)
    omega
  have h := zoft_mulF ⟨a.toNat, by omega⟩ ⟨b.toNat, by omega⟩ (by show 1 ≤ a.toNat; omega) (by show 1 ≤ b.toNat; omega) (by
    show a.toNat * b.toNat ≤ 12
    have e : ((a.toNat * b.toNat : Nat) : Int) = a * b := by rw [Int.natCast_mul, show ((a.toNat : Nat) : Int) = a by omega, show ((b.toNat : Nat) : Int) = b by omega]
    omega) ⟨p.toNat, by unfold zPrm at hp; omega⟩ (by show p.toNat = 2 ∨ p.toNat = 3 ∨ p.toNat = 5 ∨ p.toNat = 7 ∨ p.toNat = 11; unfold zPrm at hp; omega)
  have ep : ((p.toNat : Nat) : Int) = p := by unfold zPrm at hp; omega
  have ea : ((a.toNat : Nat) : Int) = a := by omega
  have eb : ((b.toNat : Nat) : Int) = b := by omega
  rw [show (((⟨p.toNat, by unfold zPrm at hp; omega⟩ : Fin 12) : Nat) : Int) = p from ep, show (((⟨a.toNat, by omega⟩ : Fin 13) : Nat) : Int) = a from ea, show (((⟨b.toNat, by omega⟩ : Fin 13) : Nat) : Int) = b from eb] at h
  exact h
/-! Euclid's way, with the two factors -/
def zcms (s : Int × Int × Int × Int × Int × Int) : Int × Int × Int × Int × Int × Int :=
  if s.2.1 = 0 then s else (s.2.1, s.1 - s.1 / s.2.1 * s.2.1, s.2.2.2.1, s.2.2.1 - s.1 / s.2.1 * s.2.2.2.1, s.2.2.2.2.2, s.2.2.2.2.1 - s.1 / s.2.1 * s.2.2.2.2.2)
def zcm (a b : Int) : Nat → Int × Int × Int × Int × Int × Int
  | 0 => (a, b, 1, 0, 0, 1)
  | n + 1 => zcms (zcm a b n)
def zcmOk (a b : Int) (s : Int × Int × Int × Int × Int × Int) : Prop :=
  (0 ≤ s.1 ∧ s.1 ≤ 12) ∧ (0 ≤ s.2.1 ∧ s.2.1 ≤ 12) ∧ (-13 ≤ s.2.2.1 ∧ s.2.2.1 ≤ 13) ∧ (-13 ≤ s.2.2.2.1 ∧ s.2.2.2.1 ≤ 13) ∧ (-13 ≤ s.2.2.2.2.1 ∧ s.2.2.2.2.1 ≤ 13) ∧ (-13 ≤ s.2.2.2.2.2 ∧ s.2.2.2.2.2 ≤ 13) ∧ (s.2.1 = 0 → (1 ≤ s.1 ∧ a % s.1 = 0 ∧ b % s.1 = 0) ∧ s.2.2.1 * a + s.2.2.2.2.1 * b = s.1)
theorem zcm_all : ∀ a b : Fin 13, 1 ≤ (a : Nat) → ∀ n : Fin 9, (0 ≤ (zcm ((a : Nat) : Int) ((b : Nat) : Int) n).1 ∧ (zcm ((a : Nat) : Int) ((b : Nat) : Int) n).1 ≤ 12) ∧ (0 ≤ (zcm ((a : Nat) : Int) ((b : Nat) : Int) n).2.1 ∧ (zcm ((a : Nat) : Int) ((b : Nat) : Int) n).2.1 ≤ 12) ∧ (-13 ≤ (zcm ((a : Nat) : Int) ((b : Nat) : Int) n).2.2.1 ∧ (zcm ((a : Nat) : Int) ((b : Nat) : Int) n).2.2.1 ≤ 13) ∧ (-13 ≤ (zcm ((a : Nat) : Int) ((b : Nat) : Int) n).2.2.2.1 ∧ (zcm ((a : Nat) : Int) ((b : Nat) : Int) n).2.2.2.1 ≤ 13) ∧ (-13 ≤ (zcm ((a : Nat) : Int) ((b : Nat) : Int) n).2.2.2.2.1 ∧ (zcm ((a : Nat) : Int) ((b : Nat) : Int) n).2.2.2.2.1 ≤ 13) ∧ (-13 ≤ (zcm ((a : Nat) : Int) ((b : Nat) : Int) n).2.2.2.2.2 ∧ (zcm ((a : Nat) : Int) ((b : Nat) : Int) n).2.2.2.2.2 ≤ 13) ∧ ((zcm ((a : Nat) : Int) ((b : Nat) : Int) n).2.1 = 0 → (1 ≤ (zcm ((a : Nat) : Int) ((b : Nat) : Int) n).1 ∧ ((a : Nat) : Int) % (zcm ((a : Nat) : Int) ((b : Nat) : Int) n).1 = 0 ∧ ((b : Nat) : Int) % (zcm ((a : Nat) : Int) ((b : Nat) : Int) n).1 = 0) ∧ (zcm ((a : Nat) : Int) ((b : Nat) : Int) n).2.2.1 * ((a : Nat) : Int) + (zcm ((a : Nat) : Int) ((b : Nat) : Int) n).2.2.2.2.1 * ((b : Nat) : Int) = (zcm ((a : Nat) : Int) ((b : Nat) : Int) n).1) := by decide +kernel
theorem zcm_end : ∀ a b : Fin 13, 1 ≤ (a : Nat) → (zcm ((a : Nat) : Int) ((b : Nat) : Int) 8).2.1 = 0 := by decide +kernel
section COMMON
variable {E : zE} {S : zS} {V : zH}
theorem s8_common {o a b : Int} {F : Int → zH → Prop} (ko : (S o).1 = 11) (ha : 1 ≤ a ∧ a ≤ 12) (hb : 0 ≤ b ∧ b ≤ 12)
    (hF : ∀ d t1 t2 V', (1 ≤ d ∧ d ≤ 12) → d ∣ a → d ∣ b → t1 * a + t2 * b = d → (-13 ≤ t1 ∧ t1 ≤ 13) → (-13 ≤ t2 ∧ t2 ≤ 13) → (∀ j, V' o j = if j = 15 then t2 else if j = 14 then t1 else V o j) → (∀ q, q ≠ o → V' q = V q) → F d V') : SpI E 0 zm_X8_common [zrv o, ziv a, ziv b] S V F := by
  have ea : ((a.toNat : Nat) : Int) = a := by omega
  have eb : ((b.toNat : Nat) : Int) = b := by omega
  have ok : ∀ n : Nat, n ≤ 8 → zcmOk a b (zcm a b n) := fun n hn => by
    have := zcm_all ⟨a.toNat, by omega⟩ ⟨b.toNat, by omega⟩ (by show 1 ≤ a.toNat; omega) ⟨n, by omega⟩
    rw [show (((⟨a.toNat, by omega⟩ : Fin 13) : Nat) : Int) = a from ea, show (((⟨b.toNat, by omega⟩ : Fin 13) : Nat) : Int) = b from eb] at this
    exact this
  have fin8 : (zcm a b 8).2.1 = 0 := by
    have := zcm_end ⟨a.toNat, by omega⟩ ⟨b.toNat, by omega⟩ (by show 1 ≤ a.toNat; omega)
    rw [show (((⟨a.toNat, by omega⟩ : Fin 13) : Nat) : Int) = a from ea, show (((⟨b.toNat, by omega⟩ : Fin 13) : Nat) : Int) = b from eb] at this
    exact this
  refine en_X8_common (fun _ _ X => ?_)
  have exit : ∀ n : Nat, n ≤ 8 → (zcm a b n).2.1 = 0 → ∀ V3, V3 = zput V o 14 (zcm a b n).2.2.1 → ∀ V5, V5 = zput V3 o 15 (zcm a b n).2.2.2.2.1 → F (zcm a b n).1 V5 := by
    intro n hn hz V3 e3 V5 e5
    obtain ⟨k1, k2, k3, k4, k5, k6, k7⟩ := ok n hn
    obtain ⟨⟨l1, l2, l3⟩, l4⟩ := k7 hz
    exact hF _ _ _ V5 ⟨l1, k1.2⟩ (Int.dvd_of_emod_eq_zero l2) (Int.dvd_of_emod_eq_zero l3) l4 k3 k5 (fun j => by rw [e5, e3]; simp only [zput, true_and]) (fun q hq => by rw [e5, zput_row _ _ _ hq, e3, zput_row _ _ _ hq])
  have key : ∀ (t n : Nat), n + t = 8 → zl_X8_common_17 E X F S o (zcm a b n).1 (zcm a b n).2.1 (zcm a b n).2.2.1 (zcm a b n).2.2.2.1 (zcm a b n).2.2.2.2.1 (zcm a b n).2.2.2.2.2 V := by
    intro t
    induction t with
    | zero =>
      intro n hn
      have hn' : n = 8 := by omega
      subst hn'
      exact wp_X8_common_17 ⟨fun z => ⟨ko, exit 8 (by omega) z⟩, fun z => absurd fin8 z⟩
    | succ t ih =>
      intro n hn
      obtain ⟨k1, k2, k3, k4, k5, k6, k7⟩ := ok n (by omega)
      refine wp_X8_common_17 ⟨fun z => ⟨ko, exit n (by omega) z⟩, fun z => ?_⟩
      have nx := ih (n + 1) (by omega)
      have e : zcm a b (n + 1) = ((zcm a b n).2.1, (zcm a b n).1 - (zcm a b n).1 / (zcm a b n).2.1 * (zcm a b n).2.1, (zcm a b n).2.2.2.1, (zcm a b n).2.2.1 - (zcm a b n).1 / (zcm a b n).2.1 * (zcm a b n).2.2.2.1, (zcm a b n).2.2.2.2.2, (zcm a b n).2.2.2.2.1 - (zcm a b n).1 / (zcm a b n).2.1 * (zcm a b n).2.2.2.2.2) := by
        show zcms (zcm a b n) = _
        unfold zcms
        rw [if_neg z]
      rw [e] at nx
      have o1 := ok (n + 1) (by omega)
      rw [e] at o1
      obtain ⟨m1, m2, m3, m4, m5, m6, m7⟩ := o1
      dsimp only at m1 m2 m3 m4 m5 m6 nx
      refine ⟨k1.1, by omega, fun x9 e9 => ?_⟩
      rw [← e9] at m2 m4 m6 nx
      refine ⟨⟨by omega, by omega⟩, ⟨by omega, by omega⟩, fun x13 e13 => ⟨⟨by omega, by omega⟩, ⟨by omega, by omega⟩, fun x17 e17 => ⟨⟨by omega, by omega⟩, ⟨by omega, by omega⟩, fun x21 e21 => ?_⟩⟩⟩
      rw [e13, e17, e21]
      exact nx
  exact key 8 0 rfl
end COMMON
