/-! THE CLASS: base(), element(), primes() -/
theorem zsum_shift (f : Int → Int) : ∀ n, 0 ≤ n → zsum f (n + 1) = f 0 + zsum (fun j => f (j + 1)) n := by
  refine zind (P := fun n => zsum f (n + 1) = f 0 + zsum (fun j => f (j + 1)) n) ?_ (fun n hn ih => ?_)
  · rw [zsum_s f (Int.le_refl 0), zsum_0, zsum_0]; omega
  · rw [zsum_s f (by omega), ih, zsum_s _ hn]; omega
theorem zsum_rev : ∀ n, 0 ≤ n → ∀ f : Int → Int, zsum f n = zsum (fun j => f (n - 1 - j)) n := by
  refine zind (P := fun n => ∀ f : Int → Int, zsum f n = zsum (fun j => f (n - 1 - j)) n) (fun f => rfl) (fun n hn ih f => ?_)
  rw [zsum_s f hn, zsum_shift _ n hn, ih f]
  rw [zsum_congr (f := fun j => f (n + 1 - 1 - (j + 1))) (g := fun j => f (n - 1 - j)) (fun j _ _ => by rw [show n + 1 - 1 - (j + 1) = n - 1 - j by omega])]
  rw [show n + 1 - 1 - 0 = n by omega]; omega
/-- a sum from c on -/
theorem zsum_from (f : Int → Int) {c : Int} (hc : 0 ≤ c) : ∀ n, 0 ≤ n → zsum f (c + n) = zsum f c + zsum (fun j => f (c + j)) n := by
  refine zind (P := fun n => zsum f (c + n) = zsum f c + zsum (fun j => f (c + j)) n) (by rw [Int.add_zero, zsum_0, Int.add_zero]) (fun n hn ih => ?_)
  rw [show c + (n + 1) = c + n + 1 by omega, zsum_s f (by omega), ih, zsum_s _ hn]; omega
theorem zsum_mono {f g : Int → Int} : ∀ {n : Int}, (∀ j, 0 ≤ j → j < n → f j ≤ g j) → zsum f n ≤ zsum g n := by
  intro n
  by_cases hn : 0 ≤ n
  · refine zind (P := fun n => (∀ j, 0 ≤ j → j < n → f j ≤ g j) → zsum f n ≤ zsum g n) (fun _ => by rw [zsum_0, zsum_0]; exact Int.le_refl 0) (fun k hk ih h => ?_) n hn
    have h1 := ih (fun j a b => h j a (by omega))
    have h2 := h k hk (by omega)
    rw [zsum_s _ hk, zsum_s _ hk]; omega
  · intro _
    rw [zsum_neg _ (by omega), zsum_neg _ (by omega)]; exact Int.le_refl 0
/-- how many first numbers are below m -/
def zBase (m n : Int) (d : Int → Int) : Int := zsum (fun k => if d k < m then 1 else 0) n
/-- element i leads at k -/
def zAt (m n : Int) (d : Int → Int) (i k : Int) : Prop := (0 ≤ k ∧ k < n) ∧ d k < m ∧ zsum (fun j => if k < j ∧ d j < m then 1 else 0) n = i
theorem zAt.lt {m n : Int} {d : Int → Int} {k l : Int} (hk : 0 ≤ k) (hl : k < l ∧ l < n) (h : d l < m) : zsum (fun j => if l < j ∧ d j < m then 1 else 0) n + 1 ≤ zsum (fun j => if k < j ∧ d j < m then 1 else 0) n := by
  have h1 : zsum (fun j => (if l < j ∧ d j < m then 1 else 0) + (if j = l then 1 else 0)) n ≤ zsum (fun j => if k < j ∧ d j < m then 1 else 0) n := zsum_mono (fun j a b => by
    by_cases z : j = l
    · subst z
      rw [if_neg (show ¬ (j < j ∧ d j < m) by omega), if_pos rfl, if_pos ⟨hl.1, h⟩]; omega
    · rw [if_neg z]
      by_cases y : l < j ∧ d j < m
      · rw [if_pos y, if_pos ⟨by omega, y.2⟩]; omega
      · rw [if_neg y]; split <;> omega)
  rw [zsum_add, zsum_one (f := fun j => if j = l then 1 else 0) (by omega) hl.2 (fun j _ _ c => if_neg c), if_pos rfl] at h1
  exact h1
theorem zAt.uniq {m n : Int} {d d' : Int → Int} {i k l : Int} (e : ∀ j, 0 ≤ j → j < n → d j = d' j) (h : zAt m n d i k) (g : zAt m n d' i l) : k = l := by
  obtain ⟨h1, h2, h3⟩ := h
  obtain ⟨g1, g2, g3⟩ := g
  have e2 : ∀ k, zsum (fun j => if k < j ∧ d j < m then 1 else 0) n = zsum (fun j => if k < j ∧ d' j < m then 1 else 0) n := fun k => zsum_congr (fun j a b => by rw [e j a b])
  rw [e2] at h3
  rw [e k h1.1 h1.2] at h2
  rcases Int.lt_trichotomy k l with z | z | z
  · have := zAt.lt h1.1 ⟨z, g1.2⟩ g2; omega
  · exact z
  · have := zAt.lt g1.1 ⟨z, h1.2⟩ h2; omega
theorem zAt.base {m n : Int} {d : Int → Int} {i k : Int} (h : zAt m n d i k) : 0 ≤ i ∧ i < zBase m n d := by
  obtain ⟨h1, h2, h3⟩ := h
  have a1 := (zsum_le (f := fun j => if k < j ∧ d j < m then 1 else 0) (c := 1) (n := n) (by omega) (fun j _ _ => by split <;> omega)).1
  have a2 : zsum (fun j => (if k < j ∧ d j < m then 1 else 0) + (if j = k then 1 else 0)) n ≤ zBase m n d := zsum_mono (fun j a b => by
    by_cases z : j = k
    · subst z
      rw [if_neg (show ¬ (j < j ∧ d j < m) by omega), if_pos rfl, if_pos h2]; omega
    · rw [if_neg z]
      by_cases y : k < j ∧ d j < m
      · rw [if_pos y, if_pos y.2]; omega
      · rw [if_neg y]; split <;> omega)
  rw [zsum_add, zsum_one (f := fun j => if j = k then 1 else 0) h1.1 h1.2 (fun j _ _ c => if_neg c), if_pos rfl] at a2
  omega
theorem zBase.congr {m n : Int} {d d' : Int → Int} (e : ∀ j, 0 ≤ j → j < n → d j = d' j) : zBase m n d = zBase m n d' := zsum_congr (fun j a b => by rw [e j a b])
/-- how often a prime is in a number -/
def zoftN (p : Int) : Nat → Int → Int
  | 0, _ => 0
  | k + 1, n => if n % p = 0 then 1 + zoftN p k (n / p) else 0
def zoft (p n : Int) : Int := zoftN p 4 n
theorem zoft_le (p : Int) : ∀ (k : Nat) (n : Int), 0 ≤ zoftN p k n ∧ zoftN p k n ≤ k := by
  intro k
  induction k with
  | zero => intro n; exact ⟨Int.le_refl 0, Int.le_refl 0⟩
  | succ k ih =>
    intro n
    unfold zoftN
    split
    · have := ih (n / p); omega
    · omega
theorem zoft_1 {p : Int} (hp : 2 ≤ p) : zoft p 1 = 0 := by
  unfold zoft zoftN
  rw [if_neg (by rw [Int.emod_eq_of_lt (by omega) (by omega)]; decide)]
section CLBASE
variable {E : zE} {S : zS} {V : zH} {x w so : Int} {s : zSig}
theorem sp_countElements {fm la wk m h t : Int} {A : Int → Int → Int} {F : Int → Prop} (HA : zFA S V fm la wk) (HB : zFB V fm la m h t A) (hh : 0 ≤ h ∧ h ≤ 36) (ht : 0 ≤ t ∧ t ≤ 36) (hF : F (zsum (fun r => if V la (h + r) = 0 then 0 else 1) t)) : SpF E 0 zm_X1_countElements [zrv fm] S V F := by
  obtain ⟨⟨s0, s1, s2, s3, s4⟩, ⟨v4, v5, v6, v7⟩, z0⟩ := id HA
  obtain ⟨⟨b0, b1, b2⟩, how⟩ := HB
  have kf : (S fm).1 = 4 := by rw [s0]
  refine en_X1_countElements (fun X => ⟨kf, fun x2 e2 => ?_⟩)
  rw [b1] at e2
  rw [e2]
  have key := zdown (Q := fun r => zl_X1_countElements_7 E X F S fm (zsum (fun r => if V la (h + r) = 0 then 0 else 1) r) (h + r) V) (N := t) ?_ (fun r r0 r1 ih => ?_) 0 (by omega) (by omega)
  · rw [Int.add_zero] at key; exact key
  · refine wp_X1_countElements_7 ?_
    rw [b2]
    exact ⟨kf, fun _ => hF, fun q => by omega⟩
  · have bb := zsum_le (f := fun r => if V la (h + r) = 0 then 0 else 1) (c := 1) r0 (fun j _ _ => by split <;> omega)
    rw [zsum_s _ r0, show h + (r + 1) = h + r + 1 by omega] at ih
    refine wp_X1_countElements_7 ?_
    rw [b2, v4, s1]
    refine ⟨kf, fun q => by omega, fun _ => ⟨rfl, ⟨by omega, by show h + r < 72; omega⟩, fun z => ⟨⟨by omega, by omega⟩, ?_⟩, fun z => ⟨⟨by omega, by omega⟩, ⟨by omega, by omega⟩, ?_⟩⟩⟩
    · simp only [if_pos z, Int.add_zero] at ih; exact ih
    · simp only [if_neg z] at ih; exact ih
theorem sp_columnOf {fm la wk m h t i : Int} {A : Int → Int → Int} {F : Int → Prop} (HA : zFA S V fm la wk) (HB : zFB V fm la m h t A) (hh : 0 ≤ h ∧ h ≤ 36) (ht : 0 ≤ t ∧ t ≤ 36) (h1 : ∀ r, 0 ≤ r → r < t → V la (h + r) ≠ 0 → zsum (fun r => if V la (h + r) = 0 then 0 else 1) r = i → F (h + r)) (h0 : 0 ≤ i → zsum (fun r => if V la (h + r) = 0 then 0 else 1) t ≤ i → F (-1)) (hi : 0 ≤ i) : SpF E 0 zm_X1_columnOfElement [zrv fm, ziv i] S V F := by
  obtain ⟨⟨s0, s1, s2, s3, s4⟩, ⟨v4, v5, v6, v7⟩, z0⟩ := id HA
  obtain ⟨⟨b0, b1, b2⟩, how⟩ := HB
  have kf : (S fm).1 = 4 := by rw [s0]
  refine en_X1_columnOfElement (fun _ X => ⟨kf, fun x2 e2 => ?_⟩)
  rw [b1] at e2
  rw [e2]
  have key := zdown (Q := fun r => zsum (fun r => if V la (h + r) = 0 then 0 else 1) r ≤ i → zl_X1_columnOfElement_7 E X F S fm i (zsum (fun r => if V la (h + r) = 0 then 0 else 1) r) (h + r) V) (N := t) (fun q => ?_) (fun r r0 r1 ih q => ?_) 0 (by omega) (by omega)
  · have k := key (by rw [zsum_0]; exact hi)
    rw [Int.add_zero] at k; exact k
  · refine wp_X1_columnOfElement_7 ?_
    rw [b2]
    exact ⟨kf, fun _ => h0 hi q, fun q => by omega⟩
  · have bb := zsum_le (f := fun r => if V la (h + r) = 0 then 0 else 1) (c := 1) r0 (fun j _ _ => by split <;> omega)
    rw [zsum_s _ r0, show h + (r + 1) = h + r + 1 by omega] at ih
    refine wp_X1_columnOfElement_7 ?_
    rw [b2, v4, s1]
    refine ⟨kf, fun q => by omega, fun _ => ⟨rfl, ⟨by omega, by show h + r < 72; omega⟩, fun z => ⟨⟨by omega, by omega⟩, ?_⟩, fun z => ⟨fun y => ⟨⟨by omega, by omega⟩, ⟨by omega, by omega⟩, ?_⟩, fun y => h1 r r0 r1 z y⟩⟩⟩
    · simp only [if_pos z, Int.add_zero] at ih; exact ih q
    · simp only [if_neg z] at ih; exact ih (by omega)
theorem zlead_lt {m d : Int} (h : 0 ≤ d ∧ d < m) : (zlead m d < m) ↔ d ≠ 0 := by
  unfold zlead
  split
  · next z => constructor
              · intro q; omega
              · intro q; exact absurd z q
  · next z => exact ⟨fun _ => z, fun _ => h.2⟩
/-- counted by columns, counted by buttons -/
theorem zTab.count {P : zP} (T : zTab V so P) (ok : zPok P) : zsum (fun r => if V (so + 6) (pn P + r) = 0 then 0 else 1) (V so 6) = zBase (pm P) (pb P) (zcd V so P) := by
  have o1 := ok.1
  have f0 := T.fr.1
  have e : zsum (fun r => if V (so + 6) (pn P + r) = 0 then 0 else 1) (V so 6) = zsum (fun r => if zcd V so P (V (so + 1) r) < pm P then 1 else 0) (V so 6) := zsum_congr (fun r a b => by
    have l := (T.how.1 (pn P + r) (by omega) (by omega)).1
    have := zlead_lt l
    rw [zcd_free T ⟨a, b⟩]
    by_cases z : V (so + 6) (pn P + r) = 0
    · rw [if_pos z, if_neg (fun q => this.mp q z)]
    · rw [if_neg z, if_pos (this.mpr z)])
  rw [e, T.fr.sum (fun k => if zcd V so P k < pm P then 1 else 0)]
  refine zsum_congr (fun k a b => ?_)
  by_cases z : pkd P k = 3
  · have e : zcd V so P k = pm P := if_pos z
    rw [if_pos z, e, if_neg (by omega)]
  · rw [if_neg z]
theorem zTab.at {P : zP} (T : zTab V so P) (ok : zPok P) {r : Int} (hr : 0 ≤ r ∧ r < V so 6) (hz : V (so + 6) (pn P + r) ≠ 0) : zAt (pm P) (pb P) (zcd V so P) (zsum (fun r => if V (so + 6) (pn P + r) = 0 then 0 else 1) r) (V (so + 1) r) := by
  have o1 := ok.1
  have f0 := T.fr.1
  have bo := T.fr.2.1 r hr.1 hr.2
  refine ⟨bo.1, ?_, ?_⟩
  · rw [zcd_free T hr]; exact (zlead_lt (T.how.1 (pn P + r) (by omega) (by omega)).1).mpr hz
  · have e : zsum (fun k => if V (so + 1) r < k ∧ zcd V so P k < pm P then 1 else 0) (pb P) = zsum (fun s => if V (so + 1) r < V (so + 1) s ∧ zcd V so P (V (so + 1) s) < pm P then 1 else 0) (V so 6) := by
      rw [T.fr.sum (fun k => if V (so + 1) r < k ∧ zcd V so P k < pm P then 1 else 0)]
      refine zsum_congr (fun k a b => ?_)
      by_cases z : pkd P k = 3
      · have e : zcd V so P k = pm P := if_pos z
        rw [if_pos z, e, if_neg (by omega)]
      · rw [if_neg z]
    have hz2 := zsum_from (fun s => if V (so + 1) r < V (so + 1) s ∧ zcd V so P (V (so + 1) s) < pm P then 1 else 0) hr.1 (V so 6 - r) (by omega)
    rw [show r + (V so 6 - r) = V so 6 by omega] at hz2
    rw [e, hz2, zsum_zero (f := fun j => if V (so + 1) r < V (so + 1) (r + j) ∧ zcd V so P (V (so + 1) (r + j)) < pm P then 1 else 0) (fun j a b => if_neg (fun q => by
      by_cases j0 : j = 0
      · rw [j0, Int.add_zero] at q; omega
      · have := T.fr.2.2.1 r (r + j) hr.1 (by omega) (by omega); omega)), Int.add_zero]
    refine zsum_congr (fun s a b => ?_)
    have l := (T.how.1 (pn P + s) (by omega) (by omega)).1
    have ll := zlead_lt l
    have lt := T.fr.2.2.1 s r a b hr.2
    rw [zcd_free T ⟨a, by omega⟩]
    by_cases z : V (so + 6) (pn P + s) = 0
    · rw [if_neg (fun q => ll.mp q.2 z), if_pos z]
    · rw [if_pos ⟨lt, ll.mpr z⟩, if_neg z]
/-- the class's base of QUIET -/
theorem zcd_el {P : zP} (T : zTab V so P) (ok : zPok P) {r : Int} (hr : 0 ≤ r ∧ r < V so 6) (w : V (so + 6) (pn P + r) ≠ 0) : zElm (pb P) (zQu P) (zcd V so P) (V (so + 1) r) (zlift (V so 6) (V (so + 1)) (fun s => zRo (V (so + 7)) (pn P + r) (pn P + s))) := by
  have o1 := ok.1
  have f0 := T.fr.1
  have hw := T.how
  obtain ⟨q1, q2⟩ := hw.1 (pn P + r) (by omega) (by omega)
  obtain ⟨p1, p2, p3, p4, p5⟩ := q2 w
  have ord : ∀ i, 0 ≤ i → i < pb P → pkd P i ≠ 3 → ∃ s, (0 ≤ s ∧ s < V so 6) ∧ V (so + 1) s = i ∧ (V (so + 1) r < i → s < r) ∧ (i < V (so + 1) r → r < s) := fun i a b c => by
    obtain ⟨s, s1, s2⟩ := T.fr.2.2.2 i a b c
    refine ⟨s, s1, s2, fun h => ?_, fun h => ?_⟩
    · rcases Int.lt_trichotomy s r with u | u | u
      · exact u
      · rw [u] at s2; omega
      · have := T.fr.2.2.1 r s hr.1 u s1.2; omega
    · rcases Int.lt_trichotomy s r with u | u | u
      · have := T.fr.2.2.1 s r s1.1 u hr.2; omega
      · rw [u] at s2; omega
      · exact u
  refine ⟨T.qu p2 (fun i x y => by rw [p4 i x (by omega)]; exact Int.dvd_zero _), ?_, fun i x y => ?_, fun i x y => ?_⟩
  · rw [T.fr.lift _ hr, p3, zcd_free T hr]; unfold zlead; rw [if_neg w]
  · by_cases y3 : pkd P i = 3
    · exact T.fr.lift0 _ y3
    · have bo := (T.fr.2.1 r hr.1 hr.2).1
      obtain ⟨s, s1, s2, s3, s4⟩ := ord i (by omega) y y3
      rw [← s2, T.fr.lift _ s1]
      exact p4 _ (by omega) (by have := s3 x; omega)
  · have bo := (T.fr.2.1 r hr.1 hr.2).1
    by_cases y3 : pkd P i = 3
    · have e : zcd V so P i = pm P := if_pos y3
      have := ok.2.1
      rw [T.fr.lift0 _ y3, e]; omega
    · obtain ⟨s, s1, s2, s3, s4⟩ := ord i x (by omega) y3
      have h := s4 y
      rw [← s2, T.fr.lift _ s1, zcd_free T s1]
      have r5 := p5 (pn P + s) (by omega) (by omega)
      refine ⟨r5.1, ?_⟩
      unfold zlead
      split
      · exact r5.2
      · next hne => exact hw.2.2 _ (by omega) (by omega) w _ (by omega) (by omega) hne
end CLBASE
