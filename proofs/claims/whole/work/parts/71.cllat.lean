/-! THE CLASS'S TABLES say what the lattices of the plate are -/
/-- numbers by free buttons, by all buttons -/
def zlift (f : Int) (bo t : Int → Int) (k : Int) : Int := zsum (fun r => if bo r = k then t r else 0) f
section FREE
variable {P : zP} {f : Int} {bo : Int → Int}
theorem zFree.inj (H : zFree P f bo) {r s : Int} (hr : 0 ≤ r ∧ r < f) (hs : 0 ≤ s ∧ s < f) (e : bo r = bo s) : r = s := by
  rcases Int.lt_trichotomy r s with z | z | z
  · have := H.2.2.1 r s hr.1 z hs.2; omega
  · exact z
  · have := H.2.2.1 s r hs.1 z hr.2; omega
theorem zFree.lift (H : zFree P f bo) (t : Int → Int) {r : Int} (hr : 0 ≤ r ∧ r < f) : zlift f bo t (bo r) = t r := by
  unfold zlift
  rw [zsum_one (f := fun s => if bo s = bo r then t s else 0) hr.1 hr.2 (fun s a b c => if_neg (fun e => c (H.inj ⟨a, b⟩ hr e))), if_pos rfl]
theorem zFree.lift0 (H : zFree P f bo) (t : Int → Int) {k : Int} (hk : pkd P k = 3) : zlift f bo t k = 0 := by
  unfold zlift
  exact zsum_zero (fun s a b => if_neg (fun e => (H.2.1 s a b).2 (by rw [e]; exact hk)))
/-- a sum over free buttons, both ways -/
theorem zFree.sum (H : zFree P f bo) (g : Int → Int) : zsum (fun r => g (bo r)) f = zsum (fun k => if pkd P k = 3 then 0 else g k) (pb P) := by
  have e1 : zsum (fun r => g (bo r)) f = zsum (fun r => zsum (fun k => if bo r = k then g k else 0) (pb P)) f := by
    refine zsum_congr (fun r a b => ?_)
    have h := (H.2.1 r a b).1
    rw [zsum_one (f := fun k => if bo r = k then g k else 0) h.1 h.2 (fun k _ _ c => if_neg (fun e => c e.symm)), if_pos rfl]
  rw [e1, zsum_swap]
  refine zsum_congr (fun k a b => ?_)
  by_cases z : pkd P k = 3
  · rw [if_pos z]
    exact zsum_zero (fun r x y => if_neg (fun e => (H.2.1 r x y).2 (by rw [e]; exact z)))
  · rw [if_neg z]
    obtain ⟨r, r1, r2⟩ := H.2.2.2 k a b z
    rw [zsum_one (f := fun r => if bo r = k then g k else 0) r1.1 r1.2 (fun s x y c => if_neg (fun e => c (H.inj ⟨x, y⟩ r1 (e.trans r2.symm)))), if_pos r2]
theorem zFree.lift_sum (H : zFree P f bo) (t g : Int → Int) : zsum (fun k => zlift f bo t k * g k) (pb P) = zsum (fun r => t r * g (bo r)) f := by
  have e : zsum (fun r => t r * g (bo r)) f = zsum (fun r => zlift f bo t (bo r) * g (bo r)) f := zsum_congr (fun r a b => by rw [H.lift t ⟨a, b⟩])
  rw [e, H.sum (fun k => zlift f bo t k * g k)]
  refine zsum_congr (fun k a b => ?_)
  by_cases z : pkd P k = 3
  · rw [if_pos z, H.lift0 t z, Int.zero_mul]
  · rw [if_neg z]
/-- numbers by all buttons, with none at a STUCK one, are such -/
theorem zFree.of (H : zFree P f bo) (x g : Int → Int) (m : Int) (hs : ∀ k, 0 ≤ k → k < pb P → pkd P k = 3 → m ∣ x k) : m ∣ zsum (fun k => x k * g k) (pb P) - zsum (fun r => x (bo r) * g (bo r)) f := by
  rw [H.sum (fun k => x k * g k), ← zsum_sub]
  refine zsum_dvd (fun k a b => ?_)
  by_cases z : pkd P k = 3
  · rw [if_pos z, Int.sub_zero]; exact Int.dvd_trans (hs k a b z) (Int.dvd_mul_right _ _)
  · rw [if_neg z, Int.sub_self]; exact Int.dvd_zero m
end FREE
section CLLAT
variable {V : zH} {so : Int} {P : zP}
theorem zTab.fr (H : zTab V so P) : zFree P (V so 6) (V (so + 1)) := H.1
theorem zTab.how (H : zTab V so P) : zHow (pm P) (pn P) (V so 6) (fun r i => zstp P (V (so + 1) r) i) (V (so + 6)) (zRo (V (so + 7))) := by
  have := H.2.2.2
  rw [show so + 6 + 1 = so + 7 by omega] at this
  exact this
theorem zTab.f0 (H : zTab V so P) : V (so + 4) 0 = pm P := H.2.2.1.1
theorem zTab.f1 (H : zTab V so P) : V (so + 4) 1 = pn P := H.2.2.1.2.1
theorem zTab.f2 (H : zTab V so P) : V (so + 4) 2 = pn P + V so 6 := H.2.2.1.2.2
/-- a tail whose head is nothing, as an element of QUIET -/
theorem zTab.qu (H : zTab V so P) {v : Int → Int} (hv : zLin (pm P) (pn P) (V so 6) (fun r i => zstp P (V (so + 1) r) i) v) (hz : ∀ i, 0 ≤ i → i < pn P → pm P ∣ v i) : zQu P (zlift (V so 6) (V (so + 1)) (fun r => v (pn P + r))) := by
  refine ⟨fun i a b => ?_, fun k _ _ c => by rw [H.fr.lift0 _ c]; exact Int.dvd_zero _⟩
  rw [H.fr.lift_sum (fun r => v (pn P + r)) (fun k => zstp P k i)]
  have := zdvd_sub (hz i a b) (hv i a b)
  rw [show ∀ u w : Int, u - (u - w) = w from fun u w => by omega] at this
  exact this
/-- an element of QUIET as a tail whose head is nothing -/
theorem zTab.uq (H : zTab V so P) {x : Int → Int} (hx : zQu P x) : zLin (pm P) (pn P) (V so 6) (fun r i => zstp P (V (so + 1) r) i) (fun j => if j < pn P then 0 else x (V (so + 1) (j - pn P))) := by
  intro j a b
  show pm P ∣ (if j < pn P then 0 else x (V (so + 1) (j - pn P))) - zsum (fun r => (if pn P + r < pn P then 0 else x (V (so + 1) (pn P + r - pn P))) * zstp P (V (so + 1) r) j) (V so 6)
  rw [if_pos b]
  have e : zsum (fun r => (if pn P + r < pn P then 0 else x (V (so + 1) (pn P + r - pn P))) * zstp P (V (so + 1) r) j) (V so 6) = zsum (fun r => x (V (so + 1) r) * zstp P (V (so + 1) r) j) (V so 6) := zsum_congr (fun r ra rb => by rw [if_neg (by omega), show pn P + r - pn P = r by omega])
  rw [e]
  have h1 := H.fr.of x (fun k => zstp P k j) (pm P) hx.2
  have h2 := zdvd_sub h1 (hx.1 j a b)
  rw [show ∀ u w : Int, u - w - u = 0 - w from fun u w => by omega] at h2
  exact h2
/-- the class's first numbers -/
def zcd (V : zH) (so : Int) (P : zP) (k : Int) : Int := if pkd P k = 3 then pm P else zlift (V so 6) (V (so + 1)) (fun r => zlead (pm P) (V (so + 6) (pn P + r))) k
theorem zcd_free (H : zTab V so P) {r : Int} (hr : 0 ≤ r ∧ r < V so 6) : zcd V so P (V (so + 1) r) = zlead (pm P) (V (so + 6) (pn P + r)) := by
  unfold zcd
  rw [if_neg (H.fr.2.1 r hr.1 hr.2).2, H.fr.lift _ hr]
theorem zcd_ok (H : zTab V so P) (ok : zPok P) : zDs (pm P) (pb P) (zQu P) (zcd V so P) := by
  have o1 := ok.1
  have o2 := ok.2.1
  intro k a b
  by_cases z : pkd P k = 3
  · have e : zcd V so P k = pm P := if_pos z
    rw [e]
    refine ⟨⟨by omega, Int.dvd_refl _⟩, ⟨fun j => if j = k then pm P else 0, ⟨fun i _ _ => zsum_dvd (fun j _ _ => ?_), fun j _ _ _ => ?_⟩, if_pos rfl, fun i x y => if_neg (by omega)⟩, fun y hy _ => hy.2 k a b z⟩
    · show pm P ∣ (if j = k then pm P else 0) * zstp P j i
      split
      · exact Int.dvd_mul_right _ _
      · rw [Int.zero_mul]; exact Int.dvd_zero _
    · show pm P ∣ (if j = k then pm P else 0)
      split
      · exact Int.dvd_refl _
      · exact Int.dvd_zero _
  · obtain ⟨r, r1, r2⟩ := H.fr.2.2.2 k a b z
    have e : zcd V so P k = zlead (pm P) (V (so + 6) (pn P + r)) := by rw [← r2]; exact zcd_free H r1
    rw [e]
    have hw := H.how
    have f0 := H.fr.1
    obtain ⟨q1, q2⟩ := hw.1 (pn P + r) (by omega) (by omega)
    have dm : zlead (pm P) (V (so + 6) (pn P + r)) ∣ pm P := by
      unfold zlead
      split
      · exact Int.dvd_refl _
      · next h => exact (q2 h).1
    have dp : 0 < zlead (pm P) (V (so + 6) (pn P + r)) := by unfold zlead; split <;> omega
    refine ⟨⟨dp, dm⟩, ?_, fun y hy hz => ?_⟩
    · by_cases w : V (so + 6) (pn P + r) = 0
      · refine ⟨fun j => if j = k then pm P else 0, ⟨fun i _ _ => zsum_dvd (fun j _ _ => ?_), fun j _ _ _ => ?_⟩, ?_, fun i x y => if_neg (by omega)⟩
        · show pm P ∣ (if j = k then pm P else 0) * zstp P j i
          split
          · exact Int.dvd_mul_right _ _
          · rw [Int.zero_mul]; exact Int.dvd_zero _
        · show pm P ∣ (if j = k then pm P else 0)
          split
          · exact Int.dvd_refl _
          · exact Int.dvd_zero _
        · show (if k = k then pm P else 0) = _
          rw [if_pos rfl]; unfold zlead; rw [if_pos w]
      · obtain ⟨p1, p2, p3, p4, p5⟩ := q2 w
        refine ⟨zlift (V so 6) (V (so + 1)) (fun s => zRo (V (so + 7)) (pn P + r) (pn P + s)), H.qu p2 (fun i x y => by rw [p4 i x (by omega)]; exact Int.dvd_zero _), ?_, fun i x y => ?_⟩
        · rw [← r2, H.fr.lift _ r1, p3]; unfold zlead; rw [if_neg w]
        · by_cases y3 : pkd P i = 3
          · exact H.fr.lift0 _ y3
          · obtain ⟨s, s1, s2⟩ := H.fr.2.2.2 i (by omega) y y3
            rw [← s2, H.fr.lift _ s1]
            have : s < r := by
              rcases Int.lt_trichotomy s r with u | u | u
              · exact u
              · rw [u] at s2; omega
              · have := H.fr.2.2.1 r s r1.1 u s1.2; omega
            exact p4 _ (by omega) (by omega)
    · have := hw.2.1 _ (H.uq hy) (pn P + r) (by omega) (by omega) (fun i x w => ?_)
      · rw [if_neg (by omega), show pn P + r - pn P = r by omega, r2] at this; exact this
      · show pm P ∣ (if i < pn P then 0 else y (V (so + 1) (i - pn P)))
        by_cases u : i < pn P
        · rw [if_pos u]; exact Int.dvd_zero _
        · rw [if_neg u]
          have := H.fr.2.2.1 (i - pn P) r (by omega) (by omega) r1.2
          exact hz _ (by omega) (H.fr.2.1 (i - pn P) (by omega) (by omega)).1.2
end CLLAT
