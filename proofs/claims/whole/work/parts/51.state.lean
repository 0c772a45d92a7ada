/-! THE STATE of a run, and how the class keeps it -/
/-- the ROW: kind (0 none, 1 a pushing, 2 by lamps), how long, whether next() goes on, its numbers -/
abbrev zT : Type := Int × Int × Int × (Int → Int)
abbrev tk (T : zT) : Int := T.1
abbrev tn (T : zT) : Int := T.2.1
abbrev tg (T : zT) : Int := T.2.2.1
abbrev tr (T : zT) : Int → Int := T.2.2.2
def zTok (T : zT) : Prop := (0 ≤ tk T ∧ tk T ≤ 2) ∧ (0 ≤ tn T ∧ tn T ≤ 36) ∧ (tg T = 0 ∨ tg T = 1) ∧ ∀ i, 0 ≤ i → i < tn T → 0 ≤ tr T i ∧ tr T i ≤ 11
/-- if next() goes on, the ROW is a pushing of this plate's buttons -/
def zTP (T : zT) (P : zP) : Prop := tg T = 1 → tk T = 1 ∧ tn T = pb P ∧ (∀ k, 0 ≤ k → k < pb P → tr T k < pm P ∧ (pkd P k = 3 → tr T k = 0))
theorem zTP.of0 {T : zT} {P : zP} (h : tg T = 0) : zTP T P := fun q => by omega
def zTo (S : zS) (V : zH) (t : Int) (T : zT) : Prop := (S t = (9, 4) ∧ S (t + 1) = (1, 36) ∧ V t 3 = t + 1) ∧ (V t 0 = tk T ∧ V t 1 = tn T ∧ V t 2 = tg T ∧ ∀ i, 0 ≤ i → i < tn T → V (t + 1) i = tr T i) ∧ zTok T
theorem zTo.congr {S : zS} {V V' : zH} {t : Int} {T : zT} (H : zTo S V t T) (e : ∀ q, t ≤ q → q ≤ t + 1 → V' q = V q) : zTo S V' t T := by
  unfold zTo at *
  rw [e t (by omega) (by omega), e (t + 1) (by omega) (by omega)]
  exact H
/-- next() goes on no longer -/
def zStop (T : zT) : zT := (tk T, tn T, 0, tr T)
theorem zTo.stop {S : zS} {V : zH} {t : Int} {T : zT} (H : zTo S V t T) : zTo S (zput V t 2 0) t (zStop T) := by
  obtain ⟨⟨h1, h2, h3⟩, ⟨h4, h5, h6, h7⟩, h8, h9, h10, h11⟩ := H
  refine ⟨⟨h1, h2, by rw [zput_nk _ _ _ _ (by decide)]; exact h3⟩, ⟨by rw [zput_nk _ _ _ _ (by decide)]; exact h4, by rw [zput_nk _ _ _ _ (by decide)]; exact h5, zput_self _ _ _ _, fun i a b => by rw [zput_row _ _ _ (by omega)]; exact h7 i a b⟩, h8, h9, Or.inl rfl, h11⟩
/-- a list that is told: how long, its numbers -/
def zLi (S : zS) (V : zH) (x ls : Int) (n : Int) (f : Int → Int) : Prop := (S ls = (1, 36) ∧ V x 4 = ls) ∧ V x 5 = n ∧ (0 ≤ n ∧ n ≤ 36) ∧ ∀ i, 0 ≤ i → i < n → V ls i = f i ∧ 0 ≤ f i ∧ f i ≤ 11
/-! the Solver's tables: Howell's form of rows (heads A r, a single 1 in the tail) -/
def zLin (m h t : Int) (A : Int → Int → Int) (v : Int → Int) : Prop := ∀ j, 0 ≤ j → j < h → m ∣ v j - zsum (fun r => v (h + r) * A r j) t
def zlead (m d : Int) : Int := if d = 0 then m else d
def zHow (m h t : Int) (A : Int → Int → Int) (ld : Int → Int) (R : Int → Int → Int) : Prop :=
  (∀ c, 0 ≤ c → c < h + t → (0 ≤ ld c ∧ ld c < m) ∧ (ld c ≠ 0 → ld c ∣ m ∧ zLin m h t A (R c) ∧ R c c = ld c ∧ (∀ i, 0 ≤ i → i < c → R c i = 0) ∧ ∀ i, c < i → i < h + t → 0 ≤ R c i ∧ R c i < m)) ∧
  (∀ v, zLin m h t A v → ∀ c, 0 ≤ c → c < h + t → (∀ i, 0 ≤ i → i < c → m ∣ v i) → zlead m (ld c) ∣ v c) ∧
  ∀ c, h ≤ c → c < h + t → ld c ≠ 0 → ∀ i, c < i → i < h + t → ld i ≠ 0 → R c i < ld i
/-- a Form at fm, with lead, rows, unit at la, la + 1, la + 2, and work at wk -/
def zFA (S : zS) (V : zH) (fm la wk : Int) : Prop :=
  (S fm = (4, 8) ∧ S la = (1, 72) ∧ S (la + 1) = (1, 5184) ∧ S (la + 2) = (1, 12) ∧ S wk = (1, 2592)) ∧ (V fm 4 = la ∧ V fm 5 = la + 1 ∧ V fm 6 = wk ∧ V fm 7 = la + 2) ∧ ∀ c i, 0 ≤ i → i < c → c < 72 → V (la + 1) (c * 72 + i) = 0
def zFB (V : zH) (fm la m h t : Int) (A : Int → Int → Int) : Prop := (V fm 0 = m ∧ V fm 1 = h ∧ V fm 2 = h + t) ∧ zHow m h t A (V la) (fun c i => V (la + 1) (c * 72 + i))
/-- the buttons that can be pushed, from the last one on -/
def zFree (P : zP) (f : Int) (bo : Int → Int) : Prop :=
  (0 ≤ f ∧ f ≤ pb P) ∧ (∀ r, 0 ≤ r → r < f → (0 ≤ bo r ∧ bo r < pb P) ∧ pkd P (bo r) ≠ 3) ∧ (∀ r s, 0 ≤ r → r < s → s < f → bo s < bo r) ∧ ∀ k, 0 ≤ k → k < pb P → pkd P k ≠ 3 → ∃ r, (0 ≤ r ∧ r < f) ∧ bo r = k
/-- the Solver's tables are those of the plate's STEPS -/
def zTab (V : zH) (so : Int) (P : zP) : Prop :=
  zFree P (V so 6) (V (so + 1)) ∧ (∀ r, 0 ≤ r → r < V so 6 → ∀ i, 0 ≤ i → i < pn P → V (so + 2) (r * 36 + i) = zstp P (V (so + 1) r) i) ∧ zFB V (so + 4) (so + 6) (pm P) (pn P) (V so 6) (fun r i => zstp P (V (so + 1) r) i)
def zTabW (V : zH) (so : Int) (P : zP) : Prop := zFB V (V so 4) (V so 4 + 1) (pm P) (V so 6) (pn P) (fun i r => zstp P (V (so + 1) r) i)
def zDj (a la b lb : Int) : Prop := a + la < b ∨ b + lb < a
def zSoA (S : zS) (V : zH) (p so : Int) : Prop :=
  (S so = (8, 10) ∧ S (so + 1) = (1, 36) ∧ S (so + 2) = (1, 1296) ∧ S (so + 3) = (1, 72)) ∧ (V so 0 = p ∧ V so 3 = so + 4 ∧ V so 7 = so + 1 ∧ V so 8 = so + 2 ∧ V so 9 = so + 3) ∧ zFA S V (so + 4) (so + 6) (so + 5)
def zSeA (S : zS) (V : zH) (so se : Int) : Prop :=
  (S se = (7, 12) ∧ S (se + 1) = (1, 36) ∧ S (se + 2) = (1, 72) ∧ S (se + 3) = (1, 72) ∧ S (se + 4) = (1, 72) ∧ S (se + 5) = (1, 72) ∧ S (se + 6) = (1, 36)) ∧ (V se 0 = so + 4 ∧ V se 1 = so + 2 ∧ V se 4 = se + 1 ∧ V se 5 = se + 2 ∧ V se 6 = se + 3 ∧ V se 8 = se + 4 ∧ V se 9 = se + 5 ∧ V se 11 = se + 6)
/-- the Solver that the class has, if it has one; lo is where such cells begin, kb a kept plate's cell or 0 -/
def zSo (S : zS) (V : zH) (p lo so kb : Int) (P : zP) : Prop :=
  (lo ≤ so ∧ (kb = 0 ∨ zDj so 8 kb 7)) ∧ zSoA S V p so ∧ (-1 ≤ V so 2 ∧ V so 2 ≤ V so 1 ∧ V so 1 ≤ V p 4) ∧ (V so 1 = V p 4 → zTab V so P) ∧
  ((V so 4 = 0 ∧ V so 2 = -1) ∨ ((lo ≤ V so 4 ∧ zDj so 8 (V so 4) 3 ∧ (kb = 0 ∨ zDj (V so 4) 3 kb 7)) ∧ zFA S V (V so 4) (V so 4 + 1) (so + 5) ∧ (V so 1 = V p 4 → V so 2 = V so 1 → zTabW V so P))) ∧
  (V so 5 = 0 ∨ ((lo ≤ V so 5 ∧ zDj so 8 (V so 5) 6 ∧ (kb = 0 ∨ zDj (V so 5) 6 kb 7) ∧ (V so 4 = 0 ∨ zDj (V so 4) 3 (V so 5) 6)) ∧ zSeA S V so (V so 5)))
/-- the state: plate, board, (how many acts, the plates ahead of them), kept, row, (list) -/
abbrev zSig : Type := zP × zB × (Int × (Int → zP)) × (Option zP) × zT × (Int × (Int → Int))
abbrev gP (s : zSig) : zP := s.1
abbrev gB (s : zSig) : zB := s.2.1
abbrev gn (s : zSig) : Int := s.2.2.1.1
abbrev gH (s : zSig) : Int → zP := s.2.2.1.2
abbrev gK (s : zSig) : Option zP := s.2.2.2.1
abbrev gT (s : zSig) : zT := s.2.2.2.2.1
abbrev gl (s : zSig) : Int := s.2.2.2.2.2.1
abbrev gL (s : zSig) : Int → Int := s.2.2.2.2.2.2
def zKe (S : zS) (V : zH) (lo kb : Int) (K : Option zP) : Prop :=
  match K with
  | none => kb = 0
  | some Q => (0 < kb ∧ lo ≤ kb) ∧ zPl S V kb Q
/-- the class's own cell at x -/
def zXA (S : zS) (V : zH) (x : Int) : Prop := S x = (10, 8) ∧ V x 0 = x + 1 ∧ V x 1 = x + 9 ∧ V x 2 = x + 11 ∧ V x 3 = x + 15
/-- the class at x keeps the state s; w counts what may have changed STEPS -/
def zCl (S : zS) (V : zH) (x : Int) (s : zSig) (w : Int) : Prop :=
  zXA S V x ∧ zPl S V (x + 1) (gP s) ∧ zBd S V (x + 9) (gB s) ∧ zHi S V (x + 11) (gP s) (gn s) (gH s) ∧ zTo S V (x + 15) (gT s) ∧ zLi S V x (x + 17) (gl s) (gL s) ∧ zTP (gT s) (gP s) ∧
  (0 < x ∧ 0 ≤ V (x + 1) 4 ∧ V (x + 1) 4 ≤ w ∧ (0 < V x 6 → 0 ≤ V (V x 6) 4 ∧ V (V x 6) 4 ≤ w)) ∧ zKe S V (x + 32) (V x 6) (gK s) ∧ (V x 7 = 0 ∨ zSo S V (x + 1) (x + 32) (V x 7) (V x 6) (gP s))
theorem zLin.congr {m h t : Int} {A A' : Int → Int → Int} (e : ∀ r, 0 ≤ r → r < t → ∀ j, 0 ≤ j → j < h → A r j = A' r j) {v : Int → Int} (H : zLin m h t A v) : zLin m h t A' v := by
  intro j a b
  rw [← zsum_congr (f := fun r => v (h + r) * A r j) (g := fun r => v (h + r) * A' r j) (fun r x y => by rw [e r x y j a b])]
  exact H j a b
theorem zHow.congr {m h t : Int} {A A' : Int → Int → Int} {ld : Int → Int} {R : Int → Int → Int} (H : zHow m h t A ld R) (e : ∀ r, 0 ≤ r → r < t → ∀ j, 0 ≤ j → j < h → A r j = A' r j) : zHow m h t A' ld R := by
  obtain ⟨h1, h2, h3⟩ := H
  refine ⟨fun c a b => ⟨(h1 c a b).1, fun z => ?_⟩, fun v hv => h2 v (hv.congr (fun r x y j a b => (e r x y j a b).symm)), h3⟩
  obtain ⟨q1, q2, q3⟩ := (h1 c a b).2 z
  exact ⟨q1, q2.congr e, q3⟩
theorem zFA.congr {S : zS} {V V' : zH} {fm la wk : Int} (H : zFA S V fm la wk) (e0 : V' fm = V fm) (e1 : V' (la + 1) = V (la + 1)) : zFA S V' fm la wk := by
  unfold zFA at *
  rw [e0, e1]; exact H
theorem zFB.congr {V V' : zH} {fm la m h t : Int} {A : Int → Int → Int} (H : zFB V fm la m h t A) (e0 : V' fm = V fm) (e1 : V' la = V la) (e2 : V' (la + 1) = V (la + 1)) : zFB V' fm la m h t A := by
  unfold zFB at *
  rw [e0, e1, e2]; exact H
theorem zFree.congr {P Q : zP} {f : Int} {bo : Int → Int} (e : zSteq P Q) (H : zFree P f bo) : zFree Q f bo := by
  obtain ⟨h1, h2, h3, h4⟩ := H
  have eb := e.2.2.1
  refine ⟨by omega, fun r a b => ⟨by have := (h2 r a b).1; omega, ?_⟩, h3, fun k a b c => ?_⟩
  · rw [← e.2.2.2.1 _ (h2 r a b).1.1 (h2 r a b).1.2]; exact (h2 r a b).2
  · exact h4 k a (by omega) (by rw [e.2.2.2.1 k a (by omega)]; exact c)
theorem zTab.congr {V V' : zH} {so : Int} {P Q : zP} (H : zTab V so P) (e : zSteq P Q) (h : ∀ q, so ≤ q → q ≤ so + 8 → V' q = V q) : zTab V' so Q := by
  obtain ⟨h1, h2, h3⟩ := H
  unfold zTab
  rw [h so (by omega) (by omega), h (so + 1) (by omega) (by omega), h (so + 2) (by omega) (by omega)]
  have h3' := h3.congr (h (so + 4) (by omega) (by omega)) (h (so + 6) (by omega) (by omega)) (h (so + 6 + 1) (by omega) (by omega))
  have en := e.1
  have em := e.2.1
  refine ⟨h1.congr e, fun r a b i ia ib => ?_, ?_⟩
  · rw [h2 r a b i ia (by omega), e.2.2.2.2 _ (h1.2.1 r a b).1.1 (h1.2.1 r a b).1.2 i ia (by omega)]
  · rw [← en, ← em]
    exact ⟨h3'.1, h3'.2.congr (fun r a b j ja jb => e.2.2.2.2 _ (h1.2.1 r a b).1.1 (h1.2.1 r a b).1.2 j ja jb)⟩
theorem zTabW.congr {V V' : zH} {so : Int} {P Q : zP} (h1 : zFree P (V so 6) (V (so + 1))) (H : zTabW V so P) (e : zSteq P Q) (h0 : V' so = V so) (h01 : V' (so + 1) = V (so + 1)) (h : ∀ q, V so 4 ≤ q → q ≤ V so 4 + 3 → V' q = V q) : zTabW V' so Q := by
  unfold zTabW at *
  rw [h0, h01]
  have H' := H.congr (h (V so 4) (by omega) (by omega)) (h (V so 4 + 1) (by omega) (by omega)) (h (V so 4 + 1 + 1) (by omega) (by omega))
  have en := e.1
  have em := e.2.1
  rw [← en, ← em]
  exact ⟨H'.1, H'.2.congr (fun i a b r ra rb => e.2.2.2.2 _ (h1.2.1 r ra rb).1.1 (h1.2.1 r ra rb).1.2 i a b)⟩
theorem zSoA.congr {S : zS} {V V' : zH} {p so : Int} (H : zSoA S V p so) (h0 : V' so = V so) (h4 : V' (so + 4) = V (so + 4)) (h7 : V' (so + 7) = V (so + 7)) : zSoA S V' p so := by
  obtain ⟨h1, h2, h3⟩ := H
  refine ⟨h1, by rw [h0]; exact h2, h3.congr h4 ?_⟩
  rw [show so + 6 + 1 = so + 7 by omega]; exact h7
theorem zSeA.congr {S : zS} {V V' : zH} {so se : Int} (H : zSeA S V so se) (h0 : V' se = V se) : zSeA S V' so se := by
  unfold zSeA at *
  rw [h0]; exact H
theorem zSo.congr {S : zS} {V V' : zH} {p lo so kb : Int} {P P' : zP} (H : zSo S V p lo so kb P) (h : ∀ q, lo ≤ q → (kb = 0 ∨ q < kb ∨ kb + 7 < q) → V' q = V q) (hw : zWst V V' p P P') : zSo S V' p lo so kb P' := by
  obtain ⟨⟨h1, h1'⟩, h2, h3, h4, h5, h6⟩ := H
  have dk : ∀ q, so ≤ q → q ≤ so + 8 → V' q = V q := fun q a b => h q (by omega) (by rcases h1' with z | z <;> unfold zDj at * <;> omega)
  have e0 := dk so (by omega) (by omega)
  have wle : V p 4 ≤ V' p 4 := by rcases hw with ⟨z, -⟩ | z <;> omega
  refine ⟨⟨h1, h1'⟩, h2.congr e0 (dk _ (by omega) (by omega)) (dk _ (by omega) (by omega)), by rw [e0]; omega, fun z => ?_, ?_, ?_⟩
  · rw [e0] at z
    rcases hw with ⟨w1, w2⟩ | w
    · exact (h4 (by omega)).congr w2 dk
    · omega
  · rw [e0]
    rcases h5 with q | ⟨q1, q2, q3⟩
    · exact Or.inl q
    · have dw : ∀ q, V so 4 ≤ q → q ≤ V so 4 + 3 → V' q = V q := fun q a b => h q (by omega) (by rcases q1.2.2 with z | z <;> unfold zDj at * <;> omega)
      refine Or.inr ⟨q1, q2.congr (dw _ (by omega) (by omega)) (dw _ (by omega) (by omega)), fun z1 z2 => ?_⟩
      rcases hw with ⟨w1, w2⟩ | w
      · exact zTabW.congr (h4 (by omega)).1 (q3 (by omega) z2) w2 e0 (dk _ (by omega) (by omega)) dw
      · omega
  · rw [e0]
    rcases h6 with q | ⟨q1, q2⟩
    · exact Or.inl q
    · exact Or.inr ⟨q1, q2.congr (h _ q1.1 (by rcases q1.2.2.1 with z | z <;> unfold zDj at * <;> omega))⟩
