/-! THE CLASS'S SEARCH: what is cheapest of the tails that differ by QUIET ones -/
def zUpd (f : Int) (C N : (Int → Int) → Int) (A : (Int → Int) → Prop) (g b : Int) (fo : Int → Int) (b' : Int) (fo' : Int → Int) : Prop :=
  b' ≤ b ∧ (∀ w, A w → b' ≤ C w) ∧ ((b' = b ∧ ∀ r, 0 ≤ r → r < f → fo' r = fo r) ∨ ∃ w, A w ∧ (∀ r, 0 ≤ r → r < f → fo' r = w r) ∧ C w < b ∧ ((C w < g ∧ b' = 0) ∨ (g ≤ C w ∧ b' = C w ∧ ∀ w', A w' → C w' = C w → N w ≤ N w')))
section UPD
variable {A B : (Int → Int) → Prop} {C N : (Int → Int) → Int} {f g b b1 b2 : Int} {fo fo1 fo2 : Int → Int}
theorem zUpd.skip (h : ∀ w, A w → b ≤ C w) : zUpd f C N A g b fo b fo := ⟨Int.le_refl b, h, Or.inl ⟨rfl, fun _ _ _ => rfl⟩⟩
theorem zUpd.iff (h : zUpd f C N A g b fo b1 fo1) (e : ∀ w, A w ↔ B w) : zUpd f C N B g b fo b1 fo1 := by
  obtain ⟨h1, h2, h3⟩ := h
  refine ⟨h1, fun w hw => h2 w ((e w).mpr hw), ?_⟩
  rcases h3 with h3 | ⟨w, w1, w2, w3, w4⟩
  · exact Or.inl h3
  · refine Or.inr ⟨w, (e w).mp w1, w2, w3, ?_⟩
    rcases w4 with w4 | ⟨w4, w5, w6⟩
    · exact Or.inl w4
    · exact Or.inr ⟨w4, w5, fun w' hw' => w6 w' ((e w').mpr hw')⟩
theorem zUpd.union (h : zUpd f C N A g b fo b1 fo1) (k : zUpd f C N B g b1 fo1 b2 fo2) (o : ∀ v w, A v → B w → N v ≤ N w) : zUpd f C N (fun w => A w ∨ B w) g b fo b2 fo2 := by
  obtain ⟨h1, h2, h3⟩ := h
  obtain ⟨k1, k2, k3⟩ := k
  refine ⟨by omega, fun w hw => ?_, ?_⟩
  · rcases hw with hw | hw
    · have := h2 w hw; omega
    · exact k2 w hw
  · rcases k3 with ⟨e1, e2⟩ | ⟨w, w1, w2, w3, w4⟩
    · rcases h3 with ⟨d1, d2⟩ | ⟨w, w1, w2, w3, w4⟩
      · exact Or.inl ⟨by omega, fun r x y => (e2 r x y).trans (d2 r x y)⟩
      · refine Or.inr ⟨w, Or.inl w1, fun r x y => (e2 r x y).trans (w2 r x y), w3, ?_⟩
        rcases w4 with w4 | ⟨w4, w5, w6⟩
        · exact Or.inl ⟨w4.1, by omega⟩
        · refine Or.inr ⟨w4, by omega, fun w' hw' e => ?_⟩
          rcases hw' with hw' | hw'
          · exact w6 w' hw' e
          · exact o w w' w1 hw'
    · refine Or.inr ⟨w, Or.inr w1, w2, by omega, ?_⟩
      rcases w4 with w4 | ⟨w4, w5, w6⟩
      · exact Or.inl w4
      · refine Or.inr ⟨w4, w5, fun w' hw' e => ?_⟩
        rcases hw' with hw' | hw'
        · have := h2 w' hw'; omega
        · exact w6 w' hw' e
end UPD
/-! tails as pushings -/
section TAIL
variable {P : zP} {f : Int} {bo : Int → Int}
theorem zlift_add {a b : Int → Int} (k : Int) : zlift f bo (fun r => a r + b r) k = zlift f bo a k + zlift f bo b k := by
  unfold zlift
  rw [← zsum_add]
  exact zsum_congr (fun r _ _ => by split <;> rfl)
theorem zlift_mul {a : Int → Int} (c k : Int) : zlift f bo (fun r => c * a r) k = c * zlift f bo a k := by
  unfold zlift
  rw [← zsum_mul]
  exact zsum_congr (fun r _ _ => by split; rfl; rw [Int.mul_zero])
theorem zQu.eq {x y : Int → Int} (h : zQu P x) (e : ∀ k, 0 ≤ k → k < pb P → y k = x k) : zQu P y := (zQu_lat P).2.2.2 _ _ h (fun k a b => by rw [e k a b, Int.sub_self]; exact Int.dvd_zero _)
theorem zKT_lat (P : zP) (f : Int) (bo : Int → Int) : zLat (pm P) f (fun w => zQu P (zlift f bo w)) := by
  have hL := zQu_lat P
  refine ⟨hL.1.eq (fun k _ _ => zsum_zero (fun r _ _ => by split <;> rfl)), fun a b ha hb => (hL.2.1 _ _ ha hb).eq (fun k _ _ => zlift_add k), fun c a ha => (hL.2.2.1 c _ ha).eq (fun k _ _ => zlift_mul c k), fun a b ha e => hL.2.2.2 _ _ ha (fun k _ _ => ?_)⟩
  rw [← zlift_sub]
  exact zsum_dvd (fun r x y => by
    split
    · exact e r x y
    · exact Int.dvd_zero _)
theorem zFree.lift_bd (H : zFree P f bo) (hm : 0 < pm P) {w : Int → Int} (h : ∀ r, 0 ≤ r → r < f → 0 ≤ w r ∧ w r < pm P) : zPu P (zlift f bo w) := fun k a b => by
  by_cases h3 : pkd P k = 3
  · rw [H.lift0 w h3]; exact ⟨by omega, fun _ => rfl⟩
  · obtain ⟨r, r1, r2⟩ := H.2.2.2 k a b h3
    rw [← r2, H.lift w r1]
    exact ⟨h r r1.1 r1.2, fun q => absurd (by rw [r2] at q; exact q) h3⟩
theorem zFree.gt (H : zFree P f bo) {r s : Int} (hr : 0 ≤ r ∧ r < f) (hs : 0 ≤ s ∧ s < f) (h : bo r < bo s) : s < r := by
  rcases Int.lt_trichotomy s r with q | q | q
  · exact q
  · rw [q] at h; omega
  · have := H.2.2.1 r s hr.1 q hs.2; omega
/-- a tail's place in ORDER -/
def zoo (P : zP) (f : Int) (bo w : Int → Int) : Int := zN (pm P) (pb P) (zlift f bo w)
theorem zoo_lt (H : zFree P f bo) (hm : 0 < pm P) {w v : Int → Int} (hw : ∀ r, 0 ≤ r → r < f → 0 ≤ w r ∧ w r < pm P) (hv : ∀ r, 0 ≤ r → r < f → 0 ≤ v r ∧ v r < pm P) {r : Int} (hr : 0 ≤ r ∧ r < f) (h : w r < v r) (e : ∀ s, 0 ≤ s → s < r → w s = v s) : zoo P f bo w < zoo P f bo v := by
  have hb := (H.2.1 r hr.1 hr.2).1
  refine zN_lt hm hb.1 (by rw [H.lift w hr, H.lift v hr]; exact h) (pb P) hb.2 (H.lift_bd hm hw).bd (H.lift_bd hm hv).bd (fun i a b => ?_)
  by_cases h3 : pkd P i = 3
  · rw [H.lift0 w h3, H.lift0 v h3]
  · obtain ⟨s, s1, s2⟩ := H.2.2.2 i (by omega) b h3
    rw [← s2, H.lift w s1, H.lift v s1]
    exact e s s1.1 (H.gt hr s1 (by omega))
theorem zoo_le (H : zFree P f bo) (hm : 0 < pm P) {w v : Int → Int} (hw : ∀ r, 0 ≤ r → r < f → 0 ≤ w r ∧ w r < pm P) (hv : ∀ r, 0 ≤ r → r < f → 0 ≤ v r ∧ v r < pm P) {r : Int} (hr : 0 ≤ r ∧ r < f) (h : w r < v r) (e : ∀ s, 0 ≤ s → s < r → w s = v s) : zoo P f bo w ≤ zoo P f bo v := by
  have := zoo_lt H hm hw hv hr h e; omega
/-- a tail's COST -/
def zcc (f h : Int) (pc w : Int → Int) : Int := zsum (fun r => w r * pc (h + r)) f
theorem zcc_cst (H : zFree P f bo) {h : Int} {pc w : Int → Int} (hp : ∀ r, 0 ≤ r → r < f → pc (h + r) = pco P (bo r)) : zcc f h pc w = zCst P (zlift f bo w) := by
  unfold zcc zCst
  rw [H.lift_sum w (pco P)]
  exact zsum_congr (fun r a b => by rw [hp r a b])
/-- the tails that differ from u by QUIET ones and are as u is below e -/
def zAA (P : zP) (f : Int) (bo u : Int → Int) (e : Int) (w : Int → Int) : Prop := (∀ r, 0 ≤ r → r < f → 0 ≤ w r ∧ w r < pm P) ∧ zQu P (zlift f bo (fun r => w r - u r)) ∧ ∀ r, 0 ≤ r → r < e → w r = u r
/-- where the level l begins -/
def zce (co : Int → Int) (f h L l : Int) : Int := if l < L then co l - h else f
end TAIL
section SEARCH
variable {E : zE} {S : zS} {V : zH} {so se L f : Int} {P : zP} {bo ld RR co pc : Int → Int}
/-- the Search at se, ready -/
def zSr (S : zS) (V : zH) (so se L f : Int) (P : zP) (bo ld RR co pc : Int → Int) : Prop :=
  (zSeA S V so se ∧ zTab V so P ∧ zFA S V (so + 4) (so + 6) (so + 5) ∧ S (so + 2) = (1, 1296) ∧ zDj so 8 se 6) ∧
  (V so 6 = f ∧ V (so + 1) = bo ∧ V (so + 6) = ld ∧ V (so + 7) = RR ∧ V (se + 1) = co ∧ V (se + 2) = pc ∧ V se 2 = pn P ∧ V se 3 = L) ∧
  ((0 ≤ L ∧ L ≤ f) ∧ (∀ l, 0 ≤ l → l < L → (0 ≤ co l - pn P ∧ co l - pn P < f) ∧ ld (co l) ≠ 0) ∧ (∀ l k, 0 ≤ l → l < k → k < L → co l < co k) ∧ ∀ r, 0 ≤ r → r < f → ld (pn P + r) ≠ 0 → ∃ l, (0 ≤ l ∧ l < L) ∧ co l = pn P + r) ∧
  ∀ r, 0 ≤ r → r < f → pc (pn P + r) = pco P (bo r)
/-- only what a search changes has changed -/
def zYf (V V1 : zH) (se : Int) : Prop := (∀ q, q ≠ se → (q < se + 3 ∨ se + 6 < q) → V1 q = V q) ∧ ∀ j, j ≠ 7 → j ≠ 10 → V1 se j = V se j
theorem zYf.refl (V : zH) (se : Int) : zYf V V se := ⟨fun _ _ _ => rfl, fun _ _ _ => rfl⟩
theorem zYf.trans {V1 V2 : zH} (h : zYf V V1 se) (g : zYf V1 V2 se) : zYf V V2 se := ⟨fun q a b => (g.1 q a b).trans (h.1 q a b), fun j a b => (g.2 j a b).trans (h.2 j a b)⟩
theorem zYf.arr {V1 : zH} (h : zYf V V1 se) {a : Int} (g : Int → Int) (ha : se + 3 ≤ a ∧ a ≤ se + 6) : zYf V (zarr V1 a g) se := ⟨fun q a1 a2 => by rw [zarr_ne _ _ (by omega)]; exact h.1 q a1 a2, fun j a b => by rw [zarr_ne _ _ (by omega)]; exact h.2 j a b⟩
/-- explore() -/
def zXf (V V1 : zH) (se : Int) : Prop := (∀ q, q ≠ se → q ≠ se + 3 → q ≠ se + 4 → V1 q = V q) ∧ ∀ j, j ≠ 7 → V1 se j = V se j
theorem zXf.refl (V : zH) (se : Int) : zXf V V se := ⟨fun _ _ _ _ => rfl, fun _ _ => rfl⟩
theorem zXf.trans {V1 V2 : zH} (h : zXf V V1 se) (g : zXf V1 V2 se) : zXf V V2 se := ⟨fun q a b c => (g.1 q a b c).trans (h.1 q a b c), fun j a => (g.2 j a).trans (h.2 j a)⟩
theorem zXf.arr {V1 : zH} (h : zXf V V1 se) (g : Int → Int) : zXf V (zarr V1 (se + 3) g) se := ⟨fun q a1 a2 a3 => by rw [zarr_ne _ _ a2]; exact h.1 q a1 a2 a3, fun j a => by rw [zarr_ne _ _ (by omega)]; exact h.2 j a⟩
theorem zXf.yf {V1 : zH} (h : zXf V V1 se) : zYf V V1 se := ⟨fun q a b => h.1 q a (by omega) (by omega), fun j a _ => h.2 j a⟩
theorem zSr.yf {V1 : zH} (H : zSr S V so se L f P bo ld RR co pc) (h : zYf V V1 se) : zSr S V1 so se L f P bo ld RR co pc := by
  obtain ⟨⟨a1, a2, a3, a4, a5⟩, ⟨b1, b2, b3, b4, b5, b6, b7, b8⟩, c, d⟩ := H
  have hq : ∀ q, so ≤ q → q ≤ so + 8 → V1 q = V q := fun q x y => by unfold zDj at a5; exact h.1 q (by omega) (by omega)
  obtain ⟨s1, f0, f1, f4, f5, f6, f8, f9, f11⟩ := a1
  have g : ∀ j, j ≠ 7 → j ≠ 10 → V1 se j = V se j := h.2
  exact ⟨⟨⟨s1, by rw [g 0 (by decide) (by decide)]; exact f0, by rw [g 1 (by decide) (by decide)]; exact f1, by rw [g 4 (by decide) (by decide)]; exact f4, by rw [g 5 (by decide) (by decide)]; exact f5, by rw [g 6 (by decide) (by decide)]; exact f6, by rw [g 8 (by decide) (by decide)]; exact f8, by rw [g 9 (by decide) (by decide)]; exact f9, by rw [g 11 (by decide) (by decide)]; exact f11⟩, a2.congr (zSteq.refl P) hq, a3.congr (hq _ (by omega) (by omega)) (hq _ (by omega) (by omega)), a4, a5⟩, ⟨by rw [hq so (by omega) (by omega)]; exact b1, by rw [hq _ (by omega) (by omega)]; exact b2, by rw [hq _ (by omega) (by omega)]; exact b3, by rw [hq _ (by omega) (by omega)]; exact b4, by rw [h.1 _ (by omega) (by omega)]; exact b5, by rw [h.1 _ (by omega) (by omega)]; exact b6, by rw [g 2 (by decide) (by decide)]; exact b7, by rw [g 3 (by decide) (by decide)]; exact b8⟩, c, d⟩
theorem zSr.xf {V1 : zH} (H : zSr S V so se L f P bo ld RR co pc) (h : zXf V V1 se) : zSr S V1 so se L f P bo ld RR co pc := H.yf h.yf
theorem zSr.ta (H : zSr S V so se L f P bo ld RR co pc) : zTab V so P := H.1.2.1
theorem zSr.fa (H : zSr S V so se L f P bo ld RR co pc) : zFA S V (so + 4) (so + 6) (so + 5) := H.1.2.2.1
theorem zSr.dj (H : zSr S V so se L f P bo ld RR co pc) : so + 8 < se ∨ se + 6 < so := H.1.2.2.2.2
theorem zSr.e6 (H : zSr S V so se L f P bo ld RR co pc) : V so 6 = f := H.2.1.1
theorem zSr.ebo (H : zSr S V so se L f P bo ld RR co pc) : V (so + 1) = bo := H.2.1.2.1
theorem zSr.eld (H : zSr S V so se L f P bo ld RR co pc) : V (so + 6) = ld := H.2.1.2.2.1
theorem zSr.eRR (H : zSr S V so se L f P bo ld RR co pc) : V (so + 7) = RR := H.2.1.2.2.2.1
theorem zSr.eco (H : zSr S V so se L f P bo ld RR co pc) : V (se + 1) = co := H.2.1.2.2.2.2.1
theorem zSr.epc (H : zSr S V so se L f P bo ld RR co pc) : V (se + 2) = pc := H.2.1.2.2.2.2.2.1
theorem zSr.e2 (H : zSr S V so se L f P bo ld RR co pc) : V se 2 = pn P := H.2.1.2.2.2.2.2.2.1
theorem zSr.e3 (H : zSr S V so se L f P bo ld RR co pc) : V se 3 = L := H.2.1.2.2.2.2.2.2.2
theorem zSr.L0 (H : zSr S V so se L f P bo ld RR co pc) : 0 ≤ L ∧ L ≤ f := H.2.2.1.1
theorem zSr.co1 (H : zSr S V so se L f P bo ld RR co pc) : ∀ l, 0 ≤ l → l < L → (0 ≤ co l - pn P ∧ co l - pn P < f) ∧ ld (co l) ≠ 0 := H.2.2.1.2.1
theorem zSr.co2 (H : zSr S V so se L f P bo ld RR co pc) : ∀ l k, 0 ≤ l → l < k → k < L → co l < co k := H.2.2.1.2.2.1
theorem zSr.co3 (H : zSr S V so se L f P bo ld RR co pc) : ∀ r, 0 ≤ r → r < f → ld (pn P + r) ≠ 0 → ∃ l, (0 ≤ l ∧ l < L) ∧ co l = pn P + r := H.2.2.1.2.2.2
theorem zSr.pr (H : zSr S V so se L f P bo ld RR co pc) : ∀ r, 0 ≤ r → r < f → pc (pn P + r) = pco P (bo r) := H.2.2.2
theorem zSr.ks (H : zSr S V so se L f P bo ld RR co pc) : S se = (7, 12) := H.1.1.1.1
theorem zSr.k1 (H : zSr S V so se L f P bo ld RR co pc) : S (se + 1) = (1, 36) := H.1.1.1.2.1
theorem zSr.k2 (H : zSr S V so se L f P bo ld RR co pc) : S (se + 2) = (1, 72) := H.1.1.1.2.2.1
theorem zSr.k3 (H : zSr S V so se L f P bo ld RR co pc) : S (se + 3) = (1, 72) := H.1.1.1.2.2.2.1
theorem zSr.k4 (H : zSr S V so se L f P bo ld RR co pc) : S (se + 4) = (1, 72) := H.1.1.1.2.2.2.2.1
theorem zSr.k5 (H : zSr S V so se L f P bo ld RR co pc) : S (se + 5) = (1, 72) := H.1.1.1.2.2.2.2.2.1
theorem zSr.k6 (H : zSr S V so se L f P bo ld RR co pc) : S (se + 6) = (1, 36) := H.1.1.1.2.2.2.2.2.2
theorem zSr.v0 (H : zSr S V so se L f P bo ld RR co pc) : V se 0 = so + 4 := H.1.1.2.1
theorem zSr.v1 (H : zSr S V so se L f P bo ld RR co pc) : V se 1 = so + 2 := H.1.1.2.2.1
theorem zSr.v4 (H : zSr S V so se L f P bo ld RR co pc) : V se 4 = se + 1 := H.1.1.2.2.2.1
theorem zSr.v5 (H : zSr S V so se L f P bo ld RR co pc) : V se 5 = se + 2 := H.1.1.2.2.2.2.1
theorem zSr.v6 (H : zSr S V so se L f P bo ld RR co pc) : V se 6 = se + 3 := H.1.1.2.2.2.2.2.1
theorem zSr.v8 (H : zSr S V so se L f P bo ld RR co pc) : V se 8 = se + 4 := H.1.1.2.2.2.2.2.2.1
theorem zSr.v9 (H : zSr S V so se L f P bo ld RR co pc) : V se 9 = se + 5 := H.1.1.2.2.2.2.2.2.2.1
theorem zSr.v11 (H : zSr S V so se L f P bo ld RR co pc) : V se 11 = se + 6 := H.1.1.2.2.2.2.2.2.2.2
theorem zSr.fr (H : zSr S V so se L f P bo ld RR co pc) : zFree P f bo := by have := H.ta.fr; rw [H.e6, H.ebo] at this; exact this
theorem zSr.f36 (H : zSr S V so se L f P bo ld RR co pc) (ok : zPok P) : 0 ≤ f ∧ f ≤ 36 := by have := H.fr.1; have := ok.2.2.2.1; omega
/-- what differs by a QUIET tail differs by multiples of the lead -/
theorem zSr.dv (H : zSr S V so se L f P bo ld RR co pc) (ok : zPok P) {w : Int → Int} (hw : zQu P (zlift f bo w)) {r : Int} (hr : 0 ≤ r ∧ r < f) (hz : ∀ s, 0 ≤ s → s < r → pm P ∣ w s) : zlead (pm P) (ld (pn P + r)) ∣ w r := by
  have fr := H.fr
  have hb := (fr.2.1 r hr.1 hr.2).1
  have dd := zcd_ok H.ta ok (V (so + 1) r) (by rw [H.ebo]; exact hb.1) (by rw [H.ebo]; exact hb.2)
  rw [zcd_free H.ta (by rw [H.e6]; exact hr), H.eld, H.ebo] at dd
  have := dd.2.2 _ hw (fun i a b => ?_)
  · rw [fr.lift w hr] at this; exact this
  · by_cases h3 : pkd P i = 3
    · rw [fr.lift0 w h3]; exact Int.dvd_zero _
    · obtain ⟨s, s1, s2⟩ := fr.2.2.2 i (by omega) b h3
      rw [← s2, fr.lift w s1]
      exact hz s s1.1 (fr.gt hr s1 (by omega))
theorem zSr.lead (H : zSr S V so se L f P bo ld RR co pc) (ok : zPok P) {r : Int} (hr : 0 ≤ r ∧ r < f) : (0 ≤ ld (pn P + r) ∧ ld (pn P + r) < pm P) ∧ (ld (pn P + r) ≠ 0 → ld (pn P + r) ∣ pm P ∧ zRo RR (pn P + r) (pn P + r) = ld (pn P + r) ∧ (∀ i, pn P + r ≤ i → i < pn P + f → 0 ≤ zRo RR (pn P + r) i ∧ zRo RR (pn P + r) i < pm P) ∧ zQu P (zlift f bo (fun s => zRo RR (pn P + r) (pn P + s))) ∧ ∀ s, 0 ≤ s → s < r → zRo RR (pn P + r) (pn P + s) = 0) := by
  have o1 := ok.1
  have how := H.ta.how
  rw [H.e6, H.eld, H.eRR] at how
  obtain ⟨l1, l2⟩ := how.1 (pn P + r) (by omega) (by omega)
  refine ⟨l1, fun z => ?_⟩
  obtain ⟨p1, p2, p3, p4, p5⟩ := l2 z
  have el := zcd_el H.ta ok (r := r) (by rw [H.e6]; exact hr) (by rw [H.eld]; exact z)
  rw [H.e6, H.ebo, H.eRR] at el
  refine ⟨p1, p3, fun i a b => ?_, el.1, fun s a b => p4 _ (by omega) (by omega)⟩
  by_cases e : i = pn P + r
  · rw [e, p3]; exact l1
  · exact p5 i (by omega) b
theorem zSr.lr (H : zSr S V so se L f P bo ld RR co pc) (ok : zPok P) {lo hi : Int} (h0 : 0 ≤ lo) (h1 : hi ≤ pn P + f) : zLR (pm P) (pn P + f) ld (zRo RR) lo hi := by
  have := H.ta.how.lr h0 (by rw [H.e6]; exact h1)
  rw [H.e6, H.eld, H.eRR] at this; exact this
theorem zSr.ce (H : zSr S V so se L f P bo ld RR co pc) {l : Int} (h0 : 0 ≤ l) : 0 ≤ zce co f (pn P) L l ∧ zce co f (pn P) L l ≤ f := by
  have := H.L0
  unfold zce
  split
  · next c => have := (H.co1 l h0 c).1; omega
  · omega
/-- between two levels nothing leads -/
theorem zSr.none (H : zSr S V so se L f P bo ld RR co pc) {l r : Int} (h0 : -1 ≤ l ∧ l < L) (h1 : l = -1 ∨ co l < pn P + r) (hr : 0 ≤ r ∧ r < zce co f (pn P) L (l + 1)) (hf : r < f) : ld (pn P + r) = 0 := by
  refine Classical.byContradiction fun z => ?_
  obtain ⟨k, k1, k2⟩ := H.co3 r hr.1 hf z
  have lk : l < k := by
    rcases Int.lt_or_le l k with q | q
    · exact q
    · exfalso
      rcases Int.lt_or_eq_of_le q with w | w
      · have := H.co2 k l k1.1 w h0.2; omega
      · rw [w] at k2; omega
  have hc := hr.2
  unfold zce at hc
  rw [if_pos (by omega)] at hc
  rcases Int.lt_or_eq_of_le (show l + 1 ≤ k by omega) with w | w
  · have := H.co2 (l + 1) k (by omega) w k1.2; omega
  · rw [w] at hc; omega
theorem sp_endOf (H : zSr S V so se L f P bo ld RR co pc) (ok : zPok P) {l : Int} {F : Int → Prop} (hl : -1 ≤ l ∧ l ≤ 40) (h : F (pn P + zce co f (pn P) L (l + 1))) : SpF E 0 zm_X4_endOf [zrv se, ziv l] S V F := by
  have f36 := H.f36 ok
  have L0 := H.L0
  refine en_X4_endOf (fun _ => ?_)
  rw [H.e3, H.v0, H.v4, H.k1, H.eco, H.ta.f2, H.e6]
  unfold zce at h
  refine ⟨⟨by omega, by omega⟩, by rw [H.ks], fun z => ⟨by rw [H.fa.1.1], ?_⟩, fun z => ⟨rfl, ⟨by omega, by show l + 1 < 36; omega⟩, ?_⟩⟩
  · rw [if_neg (by omega)] at h; exact h
  · rw [if_pos z, show pn P + (co (l + 1) - pn P) = co (l + 1) by omega] at h; exact h
theorem sp_costOf (H : zSr S V so se L f P bo ld RR co pc) (ok : zPok P) {a x y : Int} {F : Int → Prop} (ha : S a = (1, 72)) (hr : ∀ r, 0 ≤ r → r < f → 0 ≤ V a (pn P + r) ∧ V a (pn P + r) < pm P) (hx : 0 ≤ x ∧ x ≤ y ∧ y ≤ f) (h : F (zsum (fun r => V a (pn P + (x + r)) * pc (pn P + (x + r))) (y - x))) : SpF E 0 zm_X4_costOf [zrv se, zrv a, ziv (pn P + x), ziv (pn P + y)] S V F := by
  have o1 := ok.1
  have o2 := ok.2.1
  have f36 := H.f36 ok
  refine en_X4_costOf (fun _ _ X => ?_)
  have fb : ∀ r, 0 ≤ r → r < y - x → 0 ≤ V a (pn P + (x + r)) * pc (pn P + (x + r)) ∧ V a (pn P + (x + r)) * pc (pn P + (x + r)) ≤ 12000 := fun r p q => by
    have h1 := hr (x + r) (by omega) (by omega)
    have h2 := H.pr (x + r) (by omega) (by omega)
    have h3 := H.fr.2.1 (x + r) (by omega) (by omega)
    have h4 := (ok.2.2.2.2.2 _ h3.1.1 h3.1.2).2.2.2.2.2.1
    rw [← h2] at h4
    exact zmul_le (A := 12) (B := 1000) ⟨h1.1, by omega⟩ h4
  have cb : ∀ c, 0 ≤ c → c ≤ y - x → 0 ≤ zsum (fun r => V a (pn P + (x + r)) * pc (pn P + (x + r))) c ∧ zsum (fun r => V a (pn P + (x + r)) * pc (pn P + (x + r))) c ≤ c * 12000 := fun c p q => zsum_le p (fun j u v => fb j u (by omega))
  have key := zdown (Q := fun c => zl_X4_costOf_6 E X F S se a (pn P + y) (zsum (fun r => V a (pn P + (x + r)) * pc (pn P + (x + r))) c) (pn P + (x + c)) V) (N := y - x) ?_ (fun c p q ih => ?_) 0 (by omega) (by omega)
  · rw [zsum_0, Int.add_zero] at key; exact key
  · exact wp_X4_costOf_6 ⟨fun _ => h, fun q => by omega⟩
  · have c1 := cb c p (by omega)
    have f1 := fb c p q
    rw [zsum_s _ p] at ih
    refine wp_X4_costOf_6 ⟨fun q => by omega, fun _ => ?_⟩
    rw [H.v5, H.epc, ha, H.k2]
    refine ⟨rfl, ⟨by omega, by show pn P + (x + c) < 72; omega⟩, by rw [H.ks], rfl, ⟨by omega, by show pn P + (x + c) < 72; omega⟩, ⟨by omega, by omega⟩, ⟨by omega, by omega⟩, fun x9 e9 => ⟨⟨by omega, by omega⟩, ?_⟩⟩
    rw [e9, show pn P + (x + c) + 1 = pn P + (x + (c + 1)) by omega]; exact ih
/-- a tail's COST is not much -/
theorem zSr.cb (H : zSr S V so se L f P bo ld RR co pc) (ok : zPok P) {w : Int → Int} (hw : ∀ r, 0 ≤ r → r < f → 0 ≤ w r ∧ w r < pm P) {c : Int} (hc : 0 ≤ c ∧ c ≤ f) : 0 ≤ zsum (fun r => w r * pc (pn P + r)) c ∧ zsum (fun r => w r * pc (pn P + r)) c ≤ c * 12000 := by
  have o2 := ok.2.1
  refine zsum_le hc.1 (fun r p q => ?_)
  have h1 := hw r p (by omega)
  have h2 := H.pr r p (by omega)
  have h3 := H.fr.2.1 r p (by omega)
  have h4 := (ok.2.2.2.2.2 _ h3.1.1 h3.1.2).2.2.2.2.2.1
  rw [← h2] at h4
  exact zmul_le (A := 12) (B := 1000) ⟨h1.1, by omega⟩ h4
/-- what is spent ahead is less than all -/
theorem zSr.part (H : zSr S V so se L f P bo ld RR co pc) (ok : zPok P) {w : Int → Int} (hw : ∀ r, 0 ≤ r → r < f → 0 ≤ w r ∧ w r < pm P) {c : Int} (hc : 0 ≤ c ∧ c ≤ f) : zsum (fun r => w r * pc (pn P + r)) c ≤ zcc f (pn P) pc w := by
  have h := zsum_from (fun r => w r * pc (pn P + r)) hc.1 (f - c) (by omega)
  rw [show c + (f - c) = f by omega] at h
  have h2 : 0 ≤ zsum (fun j => w (c + j) * pc (pn P + (c + j))) (f - c) := by
    have := zsum_le (f := fun j => w (c + j) * pc (pn P + (c + j))) (c := 12000) (n := f - c) (by omega) (fun r p q => ?_)
    · exact this.1
    · have o2 := ok.2.1
      have h1 := hw (c + r) (by omega) (by omega)
      have h2 := H.pr (c + r) (by omega) (by omega)
      have h3 := H.fr.2.1 (c + r) (by omega) (by omega)
      have h4 := (ok.2.2.2.2.2 _ h3.1.1 h3.1.2).2.2.2.2.2.1
      rw [← h2] at h4
      exact zmul_le (A := 12) (B := 1000) ⟨h1.1, by omega⟩ h4
  unfold zcc
  omega
theorem sp_takeFound (H : zSr S V so se L f P bo ld RR co pc) (ok : zPok P) {sp : Int} {F : zH → Prop} (h0 : V se 7 ≤ sp → F V) (h1 : sp < V se 7 → ∀ V', zXf V V' se → V' (se + 3) = V (se + 3) → V' se 7 = (if sp < V se 10 then 0 else sp) → (∀ r, 0 ≤ r → r < f → V' (se + 4) (pn P + r) = V (se + 3) (pn P + r)) → F V') : SpV E 1 zm_X4_takeFound [zrv se, ziv sp] S V F := by
  have o1 := ok.1
  have f36 := H.f36 ok
  have fin : ∀ b, sp < V se 7 → b = (if sp < V se 10 then 0 else sp) → ∀ V4, V4 = zput V se 7 b → ∀ V11, V11 = zcpy V4 (se + 3) (pn P) (se + 4) (pn P) (pn P + f - pn P) → F V11 := by
    intro b hs hb V4 e4 V11 e11
    rw [zcpy_arr V4 (g := fun j => if pn P ≤ j ∧ j < pn P + (pn P + f - pn P) then V4 (se + 3) (pn P + (j - pn P)) else V4 (se + 4) j) (fun j => rfl)] at e11
    refine h1 hs V11 ⟨fun q a b c => by rw [e11, zarr_ne _ _ c, e4, zput_row _ _ _ a], fun j a => by rw [e11, zarr_ne _ _ (by omega), e4, zput_nk _ _ _ _ a]⟩ (by rw [e11, zarr_ne _ _ (by omega), e4, zput_row _ _ _ (by omega)]) (by rw [e11, zarr_ne _ _ (by omega), e4, zput_self, hb]) (fun r a b => ?_)
    rw [e11, zarr_self, if_pos (by omega), show pn P + (pn P + r - pn P) = pn P + r by omega, e4, zput_row _ _ _ (by omega)]
  refine en_X4_takeFound (fun _ => ?_)
  rw [H.v0, H.v6, H.v8, H.k3, H.k4, H.ta.f2, H.ta.f1, H.e6]
  exact ⟨by rw [H.ks], fun z => ⟨fun z1 V4 e4 => ⟨by rw [H.fa.1.1], ⟨by omega, by omega⟩, rfl, rfl, ⟨by omega, by omega, by omega, by show pn P + (pn P + f - pn P) ≤ 72; omega, by show pn P + (pn P + f - pn P) ≤ 72; omega⟩, fin sp z (by rw [if_neg (by omega)]) V4 e4⟩, fun z1 V4 e4 => ⟨by rw [H.fa.1.1], ⟨by omega, by omega⟩, rfl, rfl, ⟨by omega, by omega, by omega, by show pn P + (pn P + f - pn P) ≤ 72; omega, by show pn P + (pn P + f - pn P) ≤ 72; omega⟩, fin 0 z (by rw [if_pos z1]) V4 e4⟩⟩, h0⟩
/-- a leading row is added to the vector -/
theorem sp_addRow (H : zSr S V so se L f P bo ld RR co pc) (ok : zPok P) {r : Int} {F : zH → Prop} (hr : 0 ≤ r ∧ r < f) (hz : ld (pn P + r) ≠ 0) (hv : ∀ s, 0 ≤ s → s < f → 0 ≤ V (se + 3) (pn P + s) ∧ V (se + 3) (pn P + s) < pm P)
    (h : ∀ g, (∀ s, r ≤ s → s < f → g (pn P + s) = (V (se + 3) (pn P + s) + zRo RR (pn P + r) (pn P + s)) % pm P) → (∀ s, 0 ≤ s → s < r → g (pn P + s) = V (se + 3) (pn P + s)) → F (zarr V (se + 3) g)) : SpV E 1 zm_X1_addRow [zrv (so + 4), zrv (se + 3), ziv (pn P + r)] S V F := by
  have o1 := ok.1
  have o2 := ok.2.1
  have f36 := H.f36 ok
  have dj := H.dj
  obtain ⟨⟨a0, a1, a2, a3, a4⟩, ⟨v4, v5, v6, v7⟩, z0⟩ := H.fa
  have kf : (S (so + 4)).1 = 4 := by rw [a0]
  obtain ⟨l1, l2⟩ := H.lead ok hr
  obtain ⟨p1, p2, p3, p4, p5⟩ := l2 hz
  refine en_X1_addRow (fun _ => ?_)
  rw [v5, show so + 6 + 1 = so + 7 by omega]
  refine ⟨kf, ⟨by omega, by omega⟩, sp_addTimes (m := pm P) (wd := pn P + f) (NA := 72) (NB := 5184) kf H.ta.f0 (by rw [H.ta.f2, H.e6]) H.k3 (by rw [show so + 6 + 1 = so + 7 by omega] at a2; exact a2) (by omega) ⟨by omega, by omega, by omega⟩ ⟨by omega, by omega, by omega⟩ ⟨by omega, by omega⟩ o2 ⟨by omega, by omega⟩ (fun i a b => ?_) (fun i a b => ?_) (Or.inl (by omega)) (fun g g1 g2 => ?_)⟩
  · have := hv (i - pn P) (by omega) (by omega)
    rw [show pn P + (i - pn P) = i by omega] at this
    rw [Int.zero_add]; exact this
  · rw [H.eRR]; exact p3 i a b
  · simp only [Int.zero_add, Int.one_mul] at g1 g2
    refine h g (fun s a b => ?_) (fun s a b => g2 _ (Or.inl (by omega)))
    rw [g1 (pn P + s) (by omega) (by omega), H.eRR]; rfl
/-- the vector is made less at a column -/
theorem sp_redAt (H : zSr S V so se L f P bo ld RR co pc) (ok : zPok P) {r : Int} {F : zH → Prop} (hr : 0 ≤ r ∧ r < f) (hz : ld (pn P + r) ≠ 0) (hv : ∀ s, 0 ≤ s → s < f → 0 ≤ V (se + 3) (pn P + s) ∧ V (se + 3) (pn P + s) < pm P)
    (h : ∀ g, (∀ s, 0 ≤ s → s < f → 0 ≤ g (pn P + s) ∧ g (pn P + s) < pm P) → (∀ s, 0 ≤ s → s < r → g (pn P + s) = V (se + 3) (pn P + s)) → g (pn P + r) < ld (pn P + r) → zQu P (zlift f bo (fun s => g (pn P + s) - V (se + 3) (pn P + s))) → F (zarr V (se + 3) g)) : SpV E 1 zm_X1_reduce [zrv (so + 4), zrv (se + 3), ziv 0, ziv (pn P + r), ziv (pn P + r + 1)] S V F := by
  have o1 := ok.1
  have o2 := ok.2.1
  have f36 := H.f36 ok
  have dj := H.dj
  have hL := zKT_lat P f bo
  obtain ⟨l1, l2⟩ := H.lead ok hr
  obtain ⟨p1, p2, p3, p4, p5⟩ := l2 hz
  have vb : ∀ i, pn P ≤ i → i < pn P + f → 0 ≤ V (se + 3) i ∧ V (se + 3) i < pm P := fun i a b => by
    have := hv (i - pn P) (by omega) (by omega)
    rw [show pn P + (i - pn P) = i by omega] at this; exact this
  refine sp_reduce (m := pm P) (wd := pn P + f) (NA := 72) H.fa H.ta.f0 (by rw [H.ta.f2, H.e6]) o2 ⟨by omega, by omega⟩ H.k3 ⟨by omega, by omega, by omega⟩ (by omega) (by omega) ⟨by omega, by omega, by omega⟩ (Or.inl (by omega)) (by rw [show so + 6 + 1 = so + 7 by omega, H.eld, H.eRR]; exact H.lr ok (by omega) (by omega)) (fun i a b => by rw [Int.zero_add]; exact vb i (by omega) b) (fun g k1 k2 k3 k4 => ?_)
  simp only [Int.zero_add, show so + 6 + 1 = so + 7 by omega, H.eld, H.eRR] at k1 k2 k3 k4
  have low : ∀ s, 0 ≤ s → s < r → g (pn P + s) = V (se + 3) (pn P + s) := fun s a b => k1 _ (Or.inl (by omega))
  refine h g (fun s a b => ?_) low (k3 (pn P + r) (by omega) (by omega) hz) ?_
  · by_cases c : r ≤ s
    · exact k2 _ (by omega) (by omega)
    · rw [low s a (by omega)]; exact hv s a b
  · refine k4 (fun v => zQu P (zlift f bo (fun s => v (pn P + s) - V (se + 3) (pn P + s)))) (fun a b ha e => hL.2.2.2 _ _ ha (fun s x y => ?_)) (fun k a c c0 c1 cz ha => ?_) (hL.2.2.2 _ _ hL.1 (fun s _ _ => by rw [Int.sub_self, Int.sub_self]; exact Int.dvd_zero _))
    · have := e (pn P + s) (by omega) (by omega)
      show pm P ∣ b (pn P + s) - V (se + 3) (pn P + s) - (a (pn P + s) - V (se + 3) (pn P + s))
      rw [show ∀ p q u : Int, p - u - (q - u) = p - q from fun p q u => by omega]; exact this
    · have ec : c = pn P + r := by omega
      subst ec
      refine hL.2.2.2 _ _ (hL.2.1 _ _ ha (hL.2.2.1 k _ p4)) (fun s _ _ => ?_)
      show pm P ∣ a (pn P + s) + k * zRo RR (pn P + r) (pn P + s) - V (se + 3) (pn P + s) - (a (pn P + s) - V (se + 3) (pn P + s) + k * zRo RR (pn P + r) (pn P + s))
      rw [show ∀ p q u : Int, p + q - u - (p - u + q) = 0 from fun p q u => by omega]; exact Int.dvd_zero _
end SEARCH
