/-! THE HISTORY of the class: what each of the latest acts was about to change -/
def zPrice (P : zP) (k v : Int) : zP := (P.1, psh P, pkd P, ppa P, pad P, pot P, zupd (pco P) k v, pwi P)
theorem zPeq.trans {P Q R : zP} (h : zPeq P Q) (g : zPeq Q R) : zPeq P R := by
  obtain ⟨h1, h2, h3, h4, h5, h6⟩ := h
  obtain ⟨g1, g2, g3, g4, g5, g6⟩ := g
  refine ⟨h1.trans g1, h2.trans g2, h3.trans g3, h4.trans g4, fun i a b => (h5 i a b).trans (g5 i a (by omega)), fun k a b => ?_⟩
  obtain ⟨d1, d2, d3, d4, d5⟩ := h6 k a b
  obtain ⟨e1, e2, e3, e4, e5⟩ := g6 k a (by omega)
  exact ⟨d1.trans e1, fun z => ⟨(d2 z).1.trans (e2 (by rw [← d1]; exact z)).1, (d2 z).2.trans (e2 (by rw [← d1]; exact z)).2⟩, fun z => (d3 z).trans (e3 (by rw [← d1]; exact z)), d4.trans e4, fun i ia ib => (d5 i ia ib).trans (e5 i ia (by omega))⟩
theorem zPl.of_peq {S : zS} {V : zH} {p : Int} {A B : zP} (HA : zPA S V p) (HC : zPC V p A) (e : zPeq A B) (ok : zPok B) : zPl S V p B := ⟨HA, HC.of_eq e, ok⟩
/-- the same STEPS, by the same buttons and lamps -/
def zSteq (P Q : zP) : Prop := pn P = pn Q ∧ pm P = pm Q ∧ pb P = pb Q ∧ (∀ k, 0 ≤ k → k < pb P → pkd P k = pkd Q k) ∧ ∀ k, 0 ≤ k → k < pb P → ∀ i, 0 ≤ i → i < pn P → zstp P k i = zstp Q k i
theorem zSteq.refl (P : zP) : zSteq P P := ⟨rfl, rfl, rfl, fun _ _ _ => rfl, fun _ _ _ _ _ _ => rfl⟩
theorem zSteq.symm {P Q : zP} (h : zSteq P Q) : zSteq Q P :=
  ⟨h.1.symm, h.2.1.symm, h.2.2.1.symm, fun k a b => (h.2.2.2.1 k a (by have := h.2.2.1; omega)).symm, fun k a b i ia ib => (h.2.2.2.2 k a (by have := h.2.2.1; omega) i ia (by have := h.1; omega)).symm⟩
theorem zSteq.trans {P Q R : zP} (h : zSteq P Q) (g : zSteq Q R) : zSteq P R :=
  ⟨h.1.trans g.1, h.2.1.trans g.2.1, h.2.2.1.trans g.2.2.1, fun k a b => (h.2.2.2.1 k a b).trans (g.2.2.2.1 k a (by have := h.2.2.1; omega)), fun k a b i ia ib => (h.2.2.2.2 k a b i ia ib).trans (g.2.2.2.2 k a (by have := h.2.2.1; omega) i ia (by have := h.1; omega))⟩
theorem zown_congr {P Q : zP} (h : zPeq P Q) {k i : Int} (hk : 0 ≤ k ∧ k < pb P) (hi : 0 ≤ i ∧ i < pn P) : zown P k i = zown Q k i := by
  obtain ⟨h1, h2, h3, h4, h5, h6⟩ := h
  obtain ⟨d1, d2, d3, d4, d5⟩ := h6 k hk.1 hk.2
  by_cases z : pkd P k = 0
  · rw [zown_0 z, zown_0 (by rw [← d1]; exact z), d5 i hi.1 hi.2]
  · have e := d2 z
    unfold zown
    rw [← d1, ← h3, ← e.1, ← e.2, if_neg z, if_neg z]
theorem zSteq.of_eq {P Q : zP} (ok : zPok P) (h : zPeq P Q) : zSteq P Q := by
  obtain ⟨h1, h2, h3, h4, h5, h6⟩ := id h
  refine ⟨h1, h2, h4, fun k a b => (h6 k a b).1, fun k a b i ia ib => ?_⟩
  have d := h6 k a b
  have c5 := (ok.2.2.2.2.2 k a b).2.2.2.2.1
  unfold zstp
  rw [← h2, zown_congr h ⟨a, b⟩ ⟨ia, ib⟩, ← d.1]
  by_cases z : pkd P k = 4
  · rw [if_pos z, if_pos z, ← d.2.2.1 z, zown_congr h ⟨(c5 z).1, by have := (c5 z).2; omega⟩ ⟨ia, ib⟩]
  · rw [if_neg z, if_neg z]
/-- what one act's note says: A the plate behind the act, B the one ahead of it -/
def zDl (w k : Int) (r : Int → Int) (A B : zP) : Prop :=
  (w = 3 ∧ zPeq (zSetSh A r) B) ∨ (w = 1 ∧ (0 ≤ k ∧ k < pb A) ∧ zPeq (zWire A k r) B) ∨ (w = 2 ∧ (0 ≤ k ∧ k < pb A) ∧ zPeq (zPrice A k (r 0)) B) ∨ (w = 0 ∧ 0 < pb A ∧ zPeq (zDelB A) B)
theorem zDl.congr {w k : Int} {r r' : Int → Int} {A B : zP} (h : zDl w k r A B) (e : ∀ j, 0 ≤ j → j < 36 → r' j = r j) (hn : pn A ≤ 36) : zDl w k r' A B := by
  rcases h with ⟨h0, h⟩ | ⟨h0, hk, h⟩ | ⟨h0, hk, h⟩ | ⟨h0, hk, h⟩
  · refine Or.inl ⟨h0, zPeq.trans (Q := zSetSh A r) ⟨rfl, rfl, rfl, rfl, fun i a b => e i a ?_, fun _ _ _ => ⟨rfl, fun _ => ⟨rfl, rfl⟩, fun _ => rfl, rfl, fun _ _ _ => rfl⟩⟩ h⟩
    have b' : i < pn A := b
    omega
  · refine Or.inr (Or.inl ⟨h0, hk, zPeq.trans (Q := zWire A k r) ⟨rfl, rfl, rfl, rfl, fun i a b => rfl, fun j _ _ => ⟨rfl, fun _ => ⟨rfl, rfl⟩, fun _ => rfl, rfl, fun i a b => ?_⟩⟩ h⟩)
    have b' : i < pn A := b
    show (if j = k then r' i else pwi A j i) = if j = k then r i else pwi A j i
    rw [e i a (by omega)]
  · refine Or.inr (Or.inr (Or.inl ⟨h0, hk, ?_⟩))
    rw [e 0 (by omega) (by omega)]; exact h
  · exact Or.inr (Or.inr (Or.inr ⟨h0, hk, h⟩))
/-- the plate that stands before the j-th of the plates to go back to -/
def zSt (P : zP) (H : Int → zP) (j : Int) : zP := if j = 0 then P else H (j - 1)
def zHpush (P : zP) (H : Int → zP) : Int → zP := fun j => zSt P H j
def zHA (S : zS) (V : zH) (h : Int) : Prop := (S h = (5, 5) ∧ S (h + 1) = (1, 60) ∧ S (h + 2) = (1, 60) ∧ S (h + 3) = (1, 2160)) ∧ (V h 2 = h + 1 ∧ V h 3 = h + 2 ∧ V h 4 = h + 3)
def zHi (S : zS) (V : zH) (h : Int) (P : zP) (n : Int) (H : Int → zP) : Prop :=
  zHA S V h ∧ (V h 0 = n ∧ (0 ≤ n ∧ n ≤ 60) ∧ (0 ≤ V h 1 ∧ V h 1 < 60)) ∧ ∀ j, 0 ≤ j → j < n → zPok (H j) ∧ zDl (V (h + 1) ((V h 1 + 59 - j) % 60)) (V (h + 2) ((V h 1 + 59 - j) % 60)) (fun i => V (h + 3) ((V h 1 + 59 - j) % 60 * 36 + i)) (zSt P H j) (H j)
theorem zHi.congr {S : zS} {V V' : zH} {h : Int} {P : zP} {n : Int} {H : Int → zP} (hh : zHi S V h P n H) (e : ∀ q, h ≤ q → q ≤ h + 3 → V' q = V q) : zHi S V' h P n H := by
  unfold zHi zHA at *
  rw [e h (by omega) (by omega), e (h + 1) (by omega) (by omega), e (h + 2) (by omega) (by omega), e (h + 3) (by omega) (by omega)]
  exact hh
/-- what an act may do, as it was noted -/
def zDlN (w k : Int) (P P' : zP) : Prop :=
  (w = 3 ∧ ∃ f, P' = zSetSh P f) ∨ (w = 1 ∧ (0 ≤ k ∧ k < pb P) ∧ ∃ f, P' = zWire P k f) ∨ (w = 2 ∧ (0 ≤ k ∧ k < pb P) ∧ ∃ v, P' = zPrice P k v) ∨ (w = 0 ∧ ∃ kind a b other, P' = zAddB P kind a b other)
theorem zDl.of_N {w k : Int} {P P' : zP} {r : Int → Int} (ok : zPok P) (h : zDlN w k P P') (r3 : w = 3 → ∀ i, 0 ≤ i → i < pn P → r i = psh P i) (r1 : w = 1 → ∀ i, 0 ≤ i → i < pn P → r i = pwi P k i) (r2 : w = 2 → r 0 = pco P k) : zDl w k r P' P := by
  rcases h with ⟨h0, f, e⟩ | ⟨h0, hk, f, e⟩ | ⟨h0, hk, f, e⟩ | ⟨h0, a1, a2, a3, a4, e⟩
  · subst e
    exact Or.inl ⟨h0, rfl, rfl, rfl, rfl, fun i a b => r3 h0 i a b, fun _ _ _ => ⟨rfl, fun _ => ⟨rfl, rfl⟩, fun _ => rfl, rfl, fun _ _ _ => rfl⟩⟩
  · subst e
    refine Or.inr (Or.inl ⟨h0, hk, rfl, rfl, rfl, rfl, fun i a b => rfl, fun j _ _ => ⟨rfl, fun _ => ⟨rfl, rfl⟩, fun _ => rfl, rfl, fun i a b => ?_⟩⟩)
    show (if j = k then r i else if j = k then f i else pwi P j i) = pwi P j i
    by_cases z : j = k
    · rw [if_pos z, z]; exact r1 h0 i a b
    · rw [if_neg z, if_neg z]
  · subst e
    refine Or.inr (Or.inr (Or.inl ⟨h0, hk, rfl, rfl, rfl, rfl, fun i a b => rfl, fun j _ _ => ⟨rfl, fun _ => ⟨rfl, rfl⟩, fun _ => rfl, ?_, fun i a b => rfl⟩⟩))
    show zupd (zupd (pco P) k f) k (r 0) j = pco P j
    by_cases z : j = k
    · rw [z, zupd_self]; exact r2 h0
    · rw [zupd_ne _ _ z, zupd_ne _ _ z]
  · subst e
    have o4 := ok.2.2.2.1
    refine Or.inr (Or.inr (Or.inr ⟨h0, by show 0 < pb P + 1; omega, rfl, rfl, rfl, by show pb P + 1 - 1 = pb P; omega, fun i a b => rfl, fun j x y => ?_⟩))
    have y' : j < pb P + 1 - 1 := y
    have z : j ≠ pb P := by omega
    exact ⟨zupd_ne _ _ z, fun _ => ⟨zupd_ne _ _ z, zupd_ne _ _ z⟩, fun _ => zupd_ne _ _ z, zupd_ne _ _ z, fun i _ _ => if_neg z⟩
section HISTORY
variable {E : zE} {S : zS} {V : zH} {p : Int} {P : zP}
theorem sp_note {h n : Int} {H : Int → zP} (HP : zPl S V p P) (HH : zHi S V h P n H) (hd : h + 3 < p ∨ p + 7 < h) {w k : Int} {F : zH → Prop} (hw : 0 ≤ w ∧ w ≤ 3) (hk : w = 1 ∨ w = 2 → 0 ≤ k ∧ k < pb P)
    (hF : ∀ V', zOff V V' h (h + 3) → (∀ P', zDlN w k P P' → zHi S V' h P' (if n < 60 then n + 1 else 60) (zHpush P H)) → F V') : SpV E 1 zm_X2_note [zrv h, zrv p, ziv w, ziv k] S V F := by
  obtain ⟨⟨⟨a0, a1, a2, a3⟩, b2, b3, b4⟩, ⟨c0, c1, c2⟩, c3⟩ := id HH
  have o1 := HP.ok.1
  have o4 := HP.ok.2.2.2.1
  refine en_X2_note (fun _ _ X => ?_)
  have kh : (S h).1 = 5 := by rw [a0]
  simp only [kh, b2, b3, b4, a1, a2, a3, HP.kp, HP.v5, HP.v10, HP.v11, HP.s1, HP.s6, HP.s7, true_and]
  refine ⟨c2, fun V4 e4 => ⟨c2, fun V8 e8 => ?_⟩⟩
  generalize hfr : V h 1 = f at *
  have fin : ∀ g, (∀ j, (j < f * 36 ∨ f * 36 + 36 ≤ j) → g j = V (h + 3) j) → (w = 3 → ∀ i, 0 ≤ i → i < pn P → g (f * 36 + i) = psh P i) → (w = 1 → ∀ i, 0 ≤ i → i < pn P → g (f * 36 + i) = pwi P k i) → (w = 2 → g (f * 36) = pco P k) → zl_X2_note_104 E X F S h (zarr V8 (h + 3) g) := by
    intro g g0 g3 g1 g2
    have eh : zarr V8 (h + 3) g h = V h := by rw [zarr_ne _ _ (by omega), e8, zput_row _ _ _ (by omega), e4, zput_row _ _ _ (by omega)]
    refine wp_X2_note_104 ?_
    rw [eh]
    refine ⟨kh, ⟨by omega, by omega⟩, by omega, fun V9 e9 => ⟨⟨by omega, by omega⟩, sp_min (fun V10 e10 => ?_)⟩⟩
    rw [hfr] at e9
    have q0 : ∀ q, q ≠ h → V10 q = zarr V8 (h + 3) g q := fun q hq => by rw [e10, zput_row _ _ _ hq, e9, zput_row _ _ _ hq]
    have q3 : V10 (h + 3) = g := by rw [q0 _ (by omega), zarr_self]
    have q1 : ∀ j, V10 (h + 1) j = zupd (V (h + 1)) f w j := fun j => by
      rw [q0 _ (by omega), zarr_ne _ _ (by omega), e8, zput_row _ _ _ (by omega), e4]; simp [zput, zupd]
    have q2 : ∀ j, V10 (h + 2) j = zupd (V (h + 2)) f k j := fun j => by
      rw [q0 _ (by omega), zarr_ne _ _ (by omega), e8, e4]; simp [zput, zupd]
    have qh : ∀ j, V10 h j = if j = 0 then (if 60 < V h 0 + 1 then 60 else V h 0 + 1) else if j = 1 then (f + 1) % 60 else V h j := fun j => by
      rw [e10, e9]
      simp only [zput, true_and]
      rw [eh]
    refine hF V10 (fun q hq => ?_) (fun P' hP' => ⟨⟨⟨a0, a1, a2, a3⟩, by rw [qh]; exact b2, by rw [qh]; exact b3, by rw [qh]; exact b4⟩, ⟨?_, ?_, ?_⟩, fun j ja jb => ?_⟩)
    · rw [q0 _ (by omega), zarr_ne _ _ (by omega), e8, zput_row _ _ _ (by omega), e4, zput_row _ _ _ (by omega)]
    · rw [qh, if_pos rfl, c0]; split <;> split <;> omega
    · split <;> omega
    · rw [qh, if_neg (by decide), if_pos rfl]; omega
    · have e1 : V10 h 1 = (f + 1) % 60 := by rw [qh, if_neg (by decide), if_pos rfl]
      rw [e1]
      by_cases hj : j = 0
      · subst hj
        rw [show ((f + 1) % 60 + 59 - 0) % 60 = f by omega, q1, q2, zupd_self, zupd_self, q3]
        refine ⟨HP.ok, ?_⟩
        show zDl w k _ P' P
        exact zDl.of_N HP.ok hP' g3 g1 (fun z => by rw [Int.add_zero]; exact g2 z)
      · have hjn : j - 1 < n := by revert jb; split <;> omega
        have hj60 : j < 60 := by revert jb; split <;> omega
        obtain ⟨d1, d2⟩ := c3 (j - 1) (by omega) hjn
        have ei : ((f + 1) % 60 + 59 - j) % 60 = (f + 59 - (j - 1)) % 60 := by omega
        have ne : (f + 59 - (j - 1)) % 60 ≠ f := by omega
        have eH : zHpush P H j = H (j - 1) := if_neg hj
        have eS : zSt P' (zHpush P H) j = zSt P H (j - 1) := by
          show (if j = 0 then P' else zSt P H (j - 1)) = _
          rw [if_neg hj]
        rw [eH, eS, ei, q1, q2, zupd_ne _ _ ne, zupd_ne _ _ ne, q3]
        have ei2 : 0 ≤ (f + 59 - (j - 1)) % 60 ∧ (f + 59 - (j - 1)) % 60 < 60 := by omega
        generalize (f + 59 - (j - 1)) % 60 = t at *
        have on : pn (zSt P H (j - 1)) ≤ 36 := by
          unfold zSt
          split
          · omega
          · exact (c3 (j - 1 - 1) (by omega) (by omega)).1.1.2
        exact ⟨d1, d2.congr (fun i ia ib => g0 _ (by omega)) on⟩
  have row : ∀ q, q ≠ h + 1 → q ≠ h + 2 → V8 q = V q := fun q q1 q2 => by rw [e8, zput_row _ _ _ q2, e4, zput_row _ _ _ q1]
  refine ⟨fun z3 => ⟨fun z1 => ⟨fun z2 => ?_, fun z2 => ?_⟩, fun z1 => ?_⟩, fun z3 => ?_⟩
  · have := fin (V8 (h + 3)) (fun j _ => by rw [row _ (by omega) (by omega)]) (fun z => absurd z z3) (fun z => absurd z z1) (fun z => absurd z z2)
    rw [zarr_id] at this; exact this
  · have hk' := hk (Or.inr z2)
    refine ⟨⟨by omega, by omega⟩, ⟨by omega, by omega⟩, ⟨by omega, by omega⟩, fun V19 e19 => ?_⟩
    rw [e19, zput_arr V8 (g := zupd (V8 (h + 3)) (f * 36) (V8 (p + 6) k)) (fun j => rfl)]
    refine fin _ (fun j hj => ?_) (fun z => absurd z z3) (fun z => absurd z z1) (fun _ => ?_)
    · rw [zupd_ne _ _ (by omega), row _ (by omega) (by omega)]
    · rw [zupd_self, row _ (by omega) (by omega)]; exact (HP.bt hk').2.2.2.1
  · have hk' := hk (Or.inl z1)
    refine ⟨⟨by omega, by omega⟩, ⟨by omega, by omega⟩, ⟨by omega, by omega, by omega, by omega, by omega⟩, fun V27 e27 => ?_⟩
    rw [e27, zcpy_arr V8 (fun j => rfl)]
    refine fin _ (fun j hj => ?_) (fun z => absurd z z3) (fun z i ia ib => ?_) (fun z => absurd z (by omega))
    · rw [if_neg (by omega), row _ (by omega) (by omega)]
    · rw [if_pos (by omega), row _ (by omega) (by omega), show k * 36 + (f * 36 + i - f * 36) = k * 36 + i by omega]
      exact (HP.bt hk').2.2.2.2 i ia ib
  · refine ⟨⟨by omega, by omega⟩, ⟨by omega, by omega, by omega, by omega, by omega⟩, fun V34 e34 => ?_⟩
    rw [e34, zcpy_arr V8 (fun j => rfl)]
    refine fin _ (fun j hj => ?_) (fun z i ia ib => ?_) (fun z => absurd z (by omega)) (fun z => absurd z (by omega))
    · rw [if_neg (by omega), row _ (by omega) (by omega)]
    · rw [if_pos (by omega), row _ (by omega) (by omega), show 0 + (f * 36 + i - f * 36) = i by omega]
      exact HP.sh ⟨ia, ib⟩
/-- the class's wirings go up wherever STEPS may have changed -/
def zWst (V V' : zH) (p : Int) (P P' : zP) : Prop := (V' p 4 = V p 4 ∧ zSteq P P') ∨ V' p 4 = V p 4 + 1
theorem zPC.shown {V : zH} {p : Int} {P : zP} (H : zPC V p P) (g : Int → Int) : zPC (zarr V (p + 1) g) p (zSetSh P g) := by
  obtain ⟨c0, c1, c2, c3, c4, c5⟩ := H
  have e : ∀ q, q ≠ p + 1 → zarr V (p + 1) g q = V q := fun q hq => zarr_ne V g hq
  refine ⟨by rw [e p (by omega)]; exact c0, by rw [e p (by omega)]; exact c1, by rw [e p (by omega)]; exact c2, by rw [e p (by omega)]; exact c3, fun i a b => by rw [zarr_self]; rfl, fun k a b => ?_⟩
  obtain ⟨d1, d2, d3, d4, d5⟩ := c5 k a b
  exact ⟨by rw [e (p + 2) (by omega)]; exact d1, fun z => ⟨by rw [e (p + 3) (by omega)]; exact (d2 z).1, by rw [e (p + 4) (by omega)]; exact (d2 z).2⟩, fun z => by rw [e (p + 5) (by omega)]; exact d3 z, by rw [e (p + 6) (by omega)]; exact d4, fun i ia ib => by rw [e (p + 7) (by omega)]; exact d5 i ia ib⟩
theorem zPC.wired {V : zH} {p k : Int} {P : zP} (H : zPC V p P) (ok : pn P ≤ 36) {g r : Int → Int} (g0 : ∀ j, (j < k * 36 ∨ k * 36 + 36 ≤ j) → g j = V (p + 7) j) (g1 : ∀ i, 0 ≤ i → i < pn P → g (k * 36 + i) = r i) : zPC (zarr V (p + 7) g) p (zWire P k r) := by
  obtain ⟨c0, c1, c2, c3, c4, c5⟩ := H
  have e : ∀ q, q ≠ p + 7 → zarr V (p + 7) g q = V q := fun q hq => zarr_ne V g hq
  refine ⟨by rw [e p (by omega)]; exact c0, by rw [e p (by omega)]; exact c1, by rw [e p (by omega)]; exact c2, by rw [e p (by omega)]; exact c3, fun i a b => by rw [e (p + 1) (by omega)]; exact c4 i a b, fun j a b => ?_⟩
  obtain ⟨d1, d2, d3, d4, d5⟩ := c5 j a b
  refine ⟨by rw [e (p + 2) (by omega)]; exact d1, fun z => ⟨by rw [e (p + 3) (by omega)]; exact (d2 z).1, by rw [e (p + 4) (by omega)]; exact (d2 z).2⟩, fun z => by rw [e (p + 5) (by omega)]; exact d3 z, by rw [e (p + 6) (by omega)]; exact d4, fun i ia ib => ?_⟩
  have ib' : i < pn P := ib
  rw [zarr_self]
  show g (j * 36 + i) = if j = k then r i else pwi P j i
  by_cases z : j = k
  · rw [if_pos z, z]; exact g1 i ia ib
  · rw [if_neg z, g0 _ (by omega)]; exact d5 i ia ib
theorem zPC.priced {V : zH} {p k v : Int} {P : zP} (H : zPC V p P) : zPC (zput V (p + 6) k v) p (zPrice P k v) := by
  obtain ⟨c0, c1, c2, c3, c4, c5⟩ := H
  have e : ∀ q, q ≠ p + 6 → zput V (p + 6) k v q = V q := fun q hq => zput_row V _ _ hq
  refine ⟨by rw [e p (by omega)]; exact c0, by rw [e p (by omega)]; exact c1, by rw [e p (by omega)]; exact c2, by rw [e p (by omega)]; exact c3, fun i a b => by rw [e (p + 1) (by omega)]; exact c4 i a b, fun j a b => ?_⟩
  obtain ⟨d1, d2, d3, d4, d5⟩ := c5 j a b
  refine ⟨by rw [e (p + 2) (by omega)]; exact d1, fun z => ⟨by rw [e (p + 3) (by omega)]; exact (d2 z).1, by rw [e (p + 4) (by omega)]; exact (d2 z).2⟩, fun z => by rw [e (p + 5) (by omega)]; exact d3 z, ?_, fun i ia ib => by rw [e (p + 7) (by omega)]; exact d5 i ia ib⟩
  show zput V (p + 6) k v (p + 6) j = zupd (pco P) k v j
  by_cases z : j = k
  · rw [z, zput_self, zupd_self]
  · rw [zput_nk _ _ _ _ z, zupd_ne _ _ z]; exact d4
theorem zPA.off {V' : zH} (H : zPA S V p) (h : V' p = V p) : zPA S V' p := H.frame (fun j _ _ => by rw [h])
theorem zPl.off {V' : zH} (H : zPl S V p P) {lo hi : Int} (h : zOff V V' lo hi) (d : hi < p ∨ p + 7 < lo) : zPl S V' p P := H.congr (fun q a b => h q (by omega))
theorem sp_takeBack {h n : Int} {H : Int → zP} (HP : zPl S V p P) (HH : zHi S V h P n H) (hd : h + 3 < p ∨ p + 7 < h) (hn : 0 < n) (hw : 0 ≤ V p 4 ∧ V p 4 ≤ 100000) {F : zH → Prop}
    (hF : ∀ V', zPl S V' p (H 0) → zHi S V' h (H 0) (n - 1) (fun j => H (j + 1)) → zWst V V' p P (H 0) → (∀ q, (q < h ∨ h + 3 < q) → (q < p ∨ p + 7 < q) → V' q = V q) → F V') : SpV E 1 zm_X2_takeBack [zrv h, zrv p] S V F := by
  obtain ⟨⟨⟨a0, a1, a2, a3⟩, b2, b3, b4⟩, ⟨c0, c1, c2⟩, c3⟩ := id HH
  have o1 := HP.ok.1
  have o4 := HP.ok.2.2.2.1
  refine en_X2_takeBack ?_
  have kh : (S h).1 = 5 := by rw [a0]
  obtain ⟨k0, d0⟩ := c3 0 (by omega) hn
  have es : zSt P H 0 = P := rfl
  rw [es, show V h 1 + 59 - 0 = V h 1 + 59 by omega] at d0
  simp only [kh, b2, b3, b4, a1, a2, a3, c0, HP.kp, HP.v5, HP.v10, HP.v11, HP.s1, HP.s6, HP.s7, true_and, show V h 1 + 60 - 1 = V h 1 + 59 by omega]
  refine ⟨⟨by omega, by omega⟩, ⟨by omega, by omega⟩, by omega, fun V5 e5 => ⟨⟨by omega, by omega⟩, fun V8 e8 => ⟨by omega, ?_⟩⟩⟩
  generalize hfr : V h 1 = f at *
  have ht : 0 ≤ (f + 59) % 60 ∧ (f + 59) % 60 < 60 := by omega
  have row : ∀ q, q ≠ h → V8 q = V q := fun q hq => by rw [e8, zput_row _ _ _ hq, e5, zput_row _ _ _ hq]
  have H8 : zPl S V8 p P := HP.congr (fun q _ _ => row q (by omega))
  have rh : ∀ j, V8 h j = if j = 0 then n - 1 else if j = 1 then (f + 59) % 60 else V h j := fun j => by
    rw [e8, e5]
    simp only [zput, true_and]
  have hist : ∀ V' : zH, (∀ q, h ≤ q → q ≤ h + 3 → V' q = V8 q) → zHi S V' h (H 0) (n - 1) (fun j => H (j + 1)) := by
    intro V' e
    refine zHi.congr (V := V8) ⟨⟨⟨a0, a1, a2, a3⟩, by rw [rh]; exact b2, by rw [rh]; exact b3, by rw [rh]; exact b4⟩, ⟨by rw [rh]; rfl, by omega, by rw [rh, if_neg (by decide), if_pos rfl]; exact ht⟩, fun j ja jb => ?_⟩ e
    obtain ⟨d1, d2⟩ := c3 (j + 1) (by omega) (by omega)
    refine ⟨d1, ?_⟩
    rw [rh, if_neg (by decide), if_pos rfl, row _ (by omega), row _ (by omega), row _ (by omega), show ((f + 59) % 60 + 59 - j) % 60 = (f + 59 - (j + 1)) % 60 by omega]
    have e1 : zSt (H 0) (fun j => H (j + 1)) j = zSt P H (j + 1) := by
      unfold zSt
      rw [if_neg (show j + 1 ≠ 0 by omega)]
      by_cases z : j = 0
      · rw [if_pos z, z]; rfl
      · rw [if_neg z]
        show H (j - 1 + 1) = H (j + 1 - 1)
        rw [show j - 1 + 1 = j + 1 - 1 by omega]
    rw [e1]; exact d2
  generalize hT : (f + 59) % 60 = t at *
  generalize hW : V (h + 1) t = w at *
  generalize hB : V (h + 2) t = k at *
  have frame : ∀ V' : zH, (∀ q, (q < p ∨ p + 7 < q) → V' q = V8 q) → ∀ q, (q < h ∨ h + 3 < q) → (q < p ∨ p + 7 < q) → V' q = V q := fun V' e q q1 q2 => by rw [e q q2, row q (by omega)]
  unfold zDl at d0
  refine ⟨fun z3 => ⟨fun z1 => ⟨fun z2 => ?_, fun z2 => ?_⟩, fun z1 => ?_⟩, fun z3 => ?_⟩
  · obtain ⟨hb, e⟩ : 0 < pb P ∧ zPeq (zDelB P) (H 0) := by
      rcases d0 with q | q | q | q
      · exact absurd q.1 z3
      · exact absurd q.1 z1
      · exact absurd q.1 z2
      · exact q.2
    have e84 : V8 p 4 = V p 4 := by rw [row p (by omega)]
    refine sp_removeLast H8 hb (by omega) (fun V' q1 q2 q3 => hF V' (zPl.of_peq q1.1 q1.2.1 e k0) (hist V' (fun q _ _ => q3 q (by omega))) (Or.inr (by omega)) (frame V' (fun q hq => q3 q hq)))
  · obtain ⟨hk, e⟩ : (0 ≤ k ∧ k < pb P) ∧ zPeq (zPrice P k (V (h + 3) (t * 36 + 0))) (H 0) := by
      rcases d0 with q | q | q | q
      · exact absurd q.1 z3
      · exact absurd q.1 z1
      · exact q.2
      · omega
    rw [Int.add_zero] at e
    refine ⟨by omega, ⟨by omega, by omega⟩, ⟨by omega, by omega⟩, ⟨by omega, by omega⟩, fun V26 e26 => hF V26 ?_ (hist V26 (fun q _ _ => by rw [e26, zput_row _ _ _ (by omega)])) (Or.inl ⟨?_, ?_⟩) (frame V26 (fun q hq => by rw [e26, zput_row _ _ _ (by omega)]))⟩
    · refine zPl.of_peq (A := zPrice P k (V (h + 3) (t * 36))) ?_ ?_ e k0
      · exact H8.1.off (by rw [e26, zput_row _ _ _ (by omega)])
      · rw [e26]; exact H8.2.1.priced
    · rw [e26, zput_row _ _ _ (by omega), row p (by omega)]
    · exact zSteq.symm (zSteq.trans (zSteq.of_eq k0 e.symm) (zSteq.refl P))
  · obtain ⟨hk, e⟩ : (0 ≤ k ∧ k < pb P) ∧ zPeq (zWire P k (fun i => V (h + 3) (t * 36 + i))) (H 0) := by
      rcases d0 with q | q | q | q
      · exact absurd q.1 z3
      · exact q.2
      · omega
      · omega
    refine ⟨⟨by omega, by omega⟩, by omega, ⟨by omega, by omega⟩, ⟨by omega, by omega, by omega, by omega, by omega⟩, fun V36 e36 => ⟨⟨by omega, by omega⟩, fun V39 e39 => ?_⟩⟩
    rw [zcpy_arr V8 (fun j => rfl)] at e36
    have r39 : ∀ q, q ≠ p → V39 q = V36 q := fun q hq => by rw [e39, zput_row _ _ _ hq]
    have p39 : ∀ j, V39 p j = if j = 4 then V p 4 + 1 else V8 p j := fun j => by
      rw [e39, e36]; simp only [zput, true_and]; rw [zarr_ne _ _ (by omega)]
    have C := H8.2.1.wired (k := k) (g := fun j => if k * 36 ≤ j ∧ j < k * 36 + 36 then V8 (h + 3) (t * 36 + (j - k * 36)) else V8 (p + 7) j) (r := fun i => V (h + 3) (t * 36 + i)) o1.2 (fun j hj => if_neg (by omega)) (fun i ia ib => by
      rw [if_pos (by omega), row _ (by omega), show t * 36 + (k * 36 + i - k * 36) = t * 36 + i by omega])
    rw [← e36] at C
    refine hF V39 (zPl.of_peq (A := zWire P k (fun i => V (h + 3) (t * 36 + i))) (H8.1.frame (fun j x y => by rw [p39, if_neg (by omega)])) ?_ e k0) (hist V39 (fun q _ _ => by rw [r39 q (by omega), e36, zarr_ne _ _ (by omega)])) (Or.inr (by rw [p39]; rfl)) (frame V39 (fun q hq => by rw [r39 q (by omega), e36, zarr_ne _ _ (by omega)]))
    obtain ⟨u0, u1, u2, u3, u4, u5⟩ := C
    have up : ∀ j, j ≠ 4 → V39 p j = V36 p j := fun j hj => by rw [p39, if_neg hj, e36, zarr_ne _ _ (by omega)]
    refine ⟨by rw [up 0 (by decide)]; exact u0, by rw [up 1 (by decide)]; exact u1, by rw [up 2 (by decide)]; exact u2, by rw [up 3 (by decide)]; exact u3, fun i x y => by rw [r39 _ (by omega)]; exact u4 i x y, fun j x y => ?_⟩
    obtain ⟨d1, d2, d3, d4, d5⟩ := u5 j x y
    exact ⟨by rw [r39 _ (by omega)]; exact d1, fun z => ⟨by rw [r39 _ (by omega)]; exact (d2 z).1, by rw [r39 _ (by omega)]; exact (d2 z).2⟩, fun z => by rw [r39 _ (by omega)]; exact d3 z, by rw [r39 _ (by omega)]; exact d4, fun i ia ib => by rw [r39 _ (by omega)]; exact d5 i ia ib⟩
  · obtain e : zPeq (zSetSh P (fun i => V (h + 3) (t * 36 + i))) (H 0) := by
      rcases d0 with q | q | q | q
      · exact q.2
      · omega
      · omega
      · omega
    refine ⟨⟨by omega, by omega⟩, ⟨by omega, by omega, by omega, by omega, by omega⟩, fun V46 e46 => ?_⟩
    rw [zcpy_arr V8 (fun j => rfl)] at e46
    refine hF V46 ?_ (hist V46 (fun q _ _ => by rw [e46, zarr_ne _ _ (by omega)])) (Or.inl ⟨?_, ?_⟩) (frame V46 (fun q hq => by rw [e46, zarr_ne _ _ (by omega)]))
    · have C := H8.2.1.shown (fun j => if 0 ≤ j ∧ j < 0 + 36 then V8 (h + 3) (t * 36 + (j - 0)) else V8 (p + 1) j)
      rw [← e46] at C
      refine zPl.of_peq (H8.1.off (by rw [e46, zarr_ne _ _ (by omega)])) C (zPeq.trans (Q := zSetSh P (fun i => V (h + 3) (t * 36 + i))) ⟨rfl, rfl, rfl, rfl, fun i x y => ?_, fun _ _ _ => ⟨rfl, fun _ => ⟨rfl, rfl⟩, fun _ => rfl, rfl, fun _ _ _ => rfl⟩⟩ e) k0
      have y' : i < pn P := y
      show (if 0 ≤ i ∧ i < 0 + 36 then V8 (h + 3) (t * 36 + (i - 0)) else V8 (p + 1) i) = V (h + 3) (t * 36 + i)
      rw [if_pos (by omega), row _ (by omega), show t * 36 + (i - 0) = t * 36 + i by omega]
    · rw [e46, zarr_ne _ _ (by omega), row p (by omega)]
    · exact zSteq.symm (zSteq.trans (zSteq.of_eq k0 e.symm) (zSteq.refl P))
end HISTORY
