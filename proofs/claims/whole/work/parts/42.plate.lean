/-! THE PLATE, as the document has it: numbers and rows; what a button's STEPS are -/
/-- ((lamps, colours, width, buttons), shown, kind, a, b, other, cost, wires) -/
abbrev zP : Type := (Int × Int × Int × Int) × (Int → Int) × (Int → Int) × (Int → Int) × (Int → Int) × (Int → Int) × (Int → Int) × (Int → Int → Int)
abbrev pn (P : zP) : Int := P.1.1
abbrev pm (P : zP) : Int := P.1.2.1
abbrev pw (P : zP) : Int := P.1.2.2.1
abbrev pb (P : zP) : Int := P.1.2.2.2
abbrev psh (P : zP) : Int → Int := P.2.1
abbrev pkd (P : zP) : Int → Int := P.2.2.1
abbrev ppa (P : zP) : Int → Int := P.2.2.2.1
abbrev pad (P : zP) : Int → Int := P.2.2.2.2.1
abbrev pot (P : zP) : Int → Int := P.2.2.2.2.2.1
abbrev pco (P : zP) : Int → Int := P.2.2.2.2.2.2.1
abbrev pwi (P : zP) : Int → Int → Int := P.2.2.2.2.2.2.2
def zLineOk (n w a : Int) : Prop := (100 ≤ a ∧ a - 100 < w) ∨ (0 ≤ a ∧ a < 100 ∧ a * w < n)
/-- one button's numbers are as button() lets them be -/
def zBok (P : zP) (k : Int) : Prop :=
  (0 ≤ pkd P k ∧ pkd P k ≤ 4) ∧ ((pkd P k = 1 ∨ pkd P k = 4) → 0 ≤ ppa P k ∧ ppa P k < pn P) ∧ ((pkd P k = 2 ∨ pkd P k = 3) → zLineOk (pn P) (pw P) (ppa P k)) ∧ (pkd P k ≠ 0 → 0 ≤ pad P k ∧ pad P k < pm P) ∧ (pkd P k = 4 → 0 ≤ pot P k ∧ pot P k < k) ∧
  (0 ≤ pco P k ∧ pco P k ≤ 1000) ∧ ∀ i, 0 ≤ i → i < pn P → 0 ≤ pwi P k i ∧ pwi P k i < pm P
def zPok (P : zP) : Prop :=
  (1 ≤ pn P ∧ pn P ≤ 36) ∧ (2 ≤ pm P ∧ pm P ≤ 12) ∧ (1 ≤ pw P ∧ pw P ≤ pn P) ∧ (0 ≤ pb P ∧ pb P ≤ 36) ∧ (∀ i, 0 ≤ i → i < pn P → 0 ≤ psh P i ∧ psh P i < pm P) ∧ ∀ k, 0 ≤ k → k < pb P → zBok P k
/-- lamp i is on the line a -/
abbrev zOn (w a i : Int) : Prop := (100 ≤ a ∧ i % w = a - 100) ∨ (a < 100 ∧ i / w = a)
/-- lamp i is in the cross of a -/
abbrev zIn (w a i : Int) : Prop := (i / w = a / w ∧ (i % w = a % w ∨ i % w = a % w + 1 ∨ a % w = i % w + 1)) ∨ (i % w = a % w ∧ (i / w = a / w + 1 ∨ a / w = i / w + 1))
def zown (P : zP) (k i : Int) : Int :=
  if pkd P k = 0 then pwi P k i else if pkd P k = 2 ∨ pkd P k = 3 then (if zOn (pw P) (ppa P k) i then pad P k else 0) else (if zIn (pw P) (ppa P k) i then pad P k else 0)
def zstp (P : zP) (k i : Int) : Int := (zown P k i + if pkd P k = 4 then zown P (pot P k) i else 0) % pm P
theorem zown_0 {P : zP} {k i : Int} (h : pkd P k = 0) : zown P k i = pwi P k i := by unfold zown; rw [if_pos h]
theorem zown_on {P : zP} {k i : Int} (h : pkd P k = 2 ∨ pkd P k = 3) (hc : zOn (pw P) (ppa P k) i) : zown P k i = pad P k := by
  unfold zown; rw [if_neg (by omega), if_pos h, if_pos hc]
theorem zown_off {P : zP} {k i : Int} (h : pkd P k = 2 ∨ pkd P k = 3) (hc : ¬ zOn (pw P) (ppa P k) i) : zown P k i = 0 := by
  unfold zown; rw [if_neg (by omega), if_pos h, if_neg hc]
theorem zown_in {P : zP} {k i : Int} (h0 : pkd P k ≠ 0) (h : ¬ (pkd P k = 2 ∨ pkd P k = 3)) (hc : zIn (pw P) (ppa P k) i) : zown P k i = pad P k := by
  unfold zown; rw [if_neg h0, if_neg h, if_pos hc]
theorem zown_out {P : zP} {k i : Int} (h0 : pkd P k ≠ 0) (h : ¬ (pkd P k = 2 ∨ pkd P k = 3)) (hc : ¬ zIn (pw P) (ppa P k) i) : zown P k i = 0 := by
  unfold zown; rw [if_neg h0, if_neg h, if_neg hc]
theorem zown_le {P : zP} {k i : Int} (ok : zPok P) (hk : 0 ≤ k ∧ k < pb P) (hi : 0 ≤ i ∧ i < pn P) : 0 ≤ zown P k i ∧ zown P k i < pm P := by
  obtain ⟨o1, o2, o3, o4, o5, o6⟩ := ok
  obtain ⟨b1, b2, b3, b4, b5, b6, b7⟩ := o6 k hk.1 hk.2
  by_cases h0 : pkd P k = 0
  · rw [zown_0 h0]; exact b7 i hi.1 hi.2
  · have h4 := b4 h0
    by_cases h2 : pkd P k = 2 ∨ pkd P k = 3
    · by_cases hc : zOn (pw P) (ppa P k) i
      · rw [zown_on h2 hc]; exact h4
      · rw [zown_off h2 hc]; omega
    · by_cases hc : zIn (pw P) (ppa P k) i
      · rw [zown_in h0 h2 hc]; exact h4
      · rw [zown_out h0 h2 hc]; omega
theorem zstp_le {P : zP} (ok : zPok P) (k i : Int) : 0 ≤ zstp P k i ∧ zstp P k i < pm P :=
  ⟨Int.emod_nonneg _ (by have := ok.2.1.1; omega), Int.emod_lt_of_pos _ (by have := ok.2.1.1; omega)⟩
/-! the class's Plate at p: its own cell and seven rows behind it -/
def zPA (S : zS) (V : zH) (p : Int) : Prop :=
  S p = (6, 12) ∧ S (p + 1) = (1, 36) ∧ S (p + 2) = (1, 36) ∧ S (p + 3) = (1, 36) ∧ S (p + 4) = (1, 36) ∧ S (p + 5) = (1, 36) ∧ S (p + 6) = (1, 36) ∧ S (p + 7) = (1, 1296) ∧
  V p 5 = p + 1 ∧ V p 6 = p + 2 ∧ V p 7 = p + 3 ∧ V p 8 = p + 4 ∧ V p 9 = p + 5 ∧ V p 10 = p + 6 ∧ V p 11 = p + 7
def zPCb (V : zH) (p : Int) (P : zP) (k : Int) : Prop :=
  V (p + 2) k = pkd P k ∧ (pkd P k ≠ 0 → V (p + 3) k = ppa P k ∧ V (p + 4) k = pad P k) ∧ (pkd P k = 4 → V (p + 5) k = pot P k) ∧ V (p + 6) k = pco P k ∧ ∀ i, 0 ≤ i → i < pn P → V (p + 7) (k * 36 + i) = pwi P k i
def zPC (V : zH) (p : Int) (P : zP) : Prop :=
  V p 0 = pn P ∧ V p 1 = pm P ∧ V p 2 = pw P ∧ V p 3 = pb P ∧ (∀ i, 0 ≤ i → i < pn P → V (p + 1) i = psh P i) ∧ ∀ k, 0 ≤ k → k < pb P → zPCb V p P k
def zPl (S : zS) (V : zH) (p : Int) (P : zP) : Prop := zPA S V p ∧ zPC V p P ∧ zPok P
section PLATE
variable {E : zE} {S : zS} {V : zH} {p : Int} {P : zP}
theorem zPl.kp (H : zPl S V p P) : (S p).1 = 6 := by rw [H.1.1]
theorem zPl.s1 (H : zPl S V p P) : S (p + 1) = (1, 36) := H.1.2.1
theorem zPl.s2 (H : zPl S V p P) : S (p + 2) = (1, 36) := H.1.2.2.1
theorem zPl.s3 (H : zPl S V p P) : S (p + 3) = (1, 36) := H.1.2.2.2.1
theorem zPl.s4 (H : zPl S V p P) : S (p + 4) = (1, 36) := H.1.2.2.2.2.1
theorem zPl.s5 (H : zPl S V p P) : S (p + 5) = (1, 36) := H.1.2.2.2.2.2.1
theorem zPl.s6 (H : zPl S V p P) : S (p + 6) = (1, 36) := H.1.2.2.2.2.2.2.1
theorem zPl.s7 (H : zPl S V p P) : S (p + 7) = (1, 1296) := H.1.2.2.2.2.2.2.2.1
theorem zPl.v5 (H : zPl S V p P) : V p 5 = p + 1 := H.1.2.2.2.2.2.2.2.2.1
theorem zPl.v6 (H : zPl S V p P) : V p 6 = p + 2 := H.1.2.2.2.2.2.2.2.2.2.1
theorem zPl.v7 (H : zPl S V p P) : V p 7 = p + 3 := H.1.2.2.2.2.2.2.2.2.2.2.1
theorem zPl.v8 (H : zPl S V p P) : V p 8 = p + 4 := H.1.2.2.2.2.2.2.2.2.2.2.2.1
theorem zPl.v9 (H : zPl S V p P) : V p 9 = p + 5 := H.1.2.2.2.2.2.2.2.2.2.2.2.2.1
theorem zPl.v10 (H : zPl S V p P) : V p 10 = p + 6 := H.1.2.2.2.2.2.2.2.2.2.2.2.2.2.1
theorem zPl.v11 (H : zPl S V p P) : V p 11 = p + 7 := H.1.2.2.2.2.2.2.2.2.2.2.2.2.2.2
theorem zPl.n (H : zPl S V p P) : V p 0 = pn P := H.2.1.1
theorem zPl.m (H : zPl S V p P) : V p 1 = pm P := H.2.1.2.1
theorem zPl.w (H : zPl S V p P) : V p 2 = pw P := H.2.1.2.2.1
theorem zPl.b (H : zPl S V p P) : V p 3 = pb P := H.2.1.2.2.2.1
theorem zPl.sh (H : zPl S V p P) {i : Int} (h : 0 ≤ i ∧ i < pn P) : V (p + 1) i = psh P i := H.2.1.2.2.2.2.1 i h.1 h.2
theorem zPl.bt (H : zPl S V p P) {k : Int} (h : 0 ≤ k ∧ k < pb P) : zPCb V p P k := H.2.1.2.2.2.2.2 k h.1 h.2
theorem zPl.ok (H : zPl S V p P) : zPok P := H.2.2
theorem sp_hasLamp (H : zPl S V p P) {i : Int} {F : Int → Prop} (h : F (if 0 ≤ i ∧ i < pn P then 1 else 0)) : SpF E 0 zm_X3_hasLamp [zrv p, ziv i] S V F := by
  refine en_X3_hasLamp (fun hi => ⟨fun c => ?_, fun c => ⟨H.kp, fun c2 => ?_, fun c2 => ?_⟩⟩)
  · rw [if_neg (by omega)] at h; exact h
  · rw [H.n] at c2
    rw [if_neg (by omega)] at h; exact h
  · rw [H.n] at c2
    rw [if_pos ⟨c, c2⟩] at h; exact h
theorem sp_hasButton (H : zPl S V p P) {i : Int} {F : Int → Prop} (h : F (if 0 ≤ i ∧ i < pb P then 1 else 0)) : SpF E 0 zm_X3_hasButton [zrv p, ziv i] S V F := by
  refine en_X3_hasButton (fun hi => ⟨fun c => ?_, fun c => ⟨H.kp, fun c2 => ?_, fun c2 => ?_⟩⟩)
  · rw [if_neg (by omega)] at h; exact h
  · rw [H.b] at c2
    rw [if_neg (by omega)] at h; exact h
  · rw [H.b] at c2
    rw [if_pos ⟨c, c2⟩] at h; exact h
theorem zrows_lt {n w a : Int} (hw : 0 < w) : a < (n + w - 1) / w ↔ a * w < n := by
  have h : a + 1 ≤ (n + w - 1) / w ↔ (a + 1) * w ≤ n + w - 1 := Int.le_ediv_iff_mul_le hw
  rw [Int.add_mul, Int.one_mul] at h
  constructor
  · intro q
    have := h.mp (by omega)
    omega
  · intro q
    have := h.mpr (by omega)
    omega
theorem zdiv_le {i w : Int} (hi : 0 ≤ i) (hw : 0 < w) : 0 ≤ i / w ∧ i / w ≤ i := ⟨Int.ediv_nonneg hi (by omega), Int.ediv_le_self w hi⟩
theorem zmod_le (i : Int) {w : Int} (hw : 0 < w) : 0 ≤ i % w ∧ i % w < w := ⟨Int.emod_nonneg i (by omega), Int.emod_lt_of_pos i hw⟩
theorem sp_hasLine (H : zPl S V p P) {a : Int} {F : Int → Prop} (h1 : zLineOk (pn P) (pw P) a → F 1) (h0 : ¬ zLineOk (pn P) (pw P) a → F 0) : SpF E 0 zm_X3_hasLine [zrv p, ziv a] S V F := by
  obtain ⟨⟨o1, o1'⟩, -, ⟨o3, o3'⟩, -⟩ := H.ok
  refine en_X3_hasLine (fun ha => ?_)
  simp only [H.kp, H.n, H.w, true_and]
  refine ⟨⟨by omega, by omega⟩, ⟨by omega, by omega⟩, by omega, by omega, fun x hx => ⟨fun c => ⟨fun c2 => h0 ?_, fun c2 => ⟨fun c3 => h0 ?_, fun c3 => h1 ?_⟩⟩, fun c => ⟨⟨by omega, by have := ha.2; omega⟩, fun c2 => h0 ?_, fun c2 => h1 ?_⟩⟩⟩
  · unfold zLineOk; omega
  · have := zrows_lt (n := pn P) (a := a) (show 0 < pw P by omega)
    rw [← hx] at this
    unfold zLineOk
    rintro (q | ⟨q1, q2, q3⟩)
    · omega
    · have := this.mpr q3; omega
  · have := zrows_lt (n := pn P) (a := a) (show 0 < pw P by omega)
    rw [← hx] at this
    exact Or.inr ⟨c2, c, this.mp c3⟩
  · unfold zLineOk; omega
  · exact Or.inl ⟨c, c2⟩
theorem sp_isOnLine (H : zPl S V p P) {a i : Int} {F : Int → Prop} (hi : 0 ≤ i) (h1 : zOn (pw P) a i → F 1) (h0 : ¬ zOn (pw P) a i → F 0) : SpF E 0 zm_X3_isOnLine [zrv p, ziv a, ziv i] S V F := by
  have o3 := H.ok.2.2.1
  refine en_X3_isOnLine (fun ha _ => ?_)
  simp only [H.kp, H.w, true_and]
  refine ⟨fun c => ⟨hi, by omega, fun c2 => ?_, fun c2 => ?_⟩, fun c => ⟨hi, by omega, ⟨by omega, by have := ha.2; omega⟩, fun c2 => ?_, fun c2 => ?_⟩⟩
  · exact h0 (by omega)
  · exact h1 (by omega)
  · exact h0 (by omega)
  · exact h1 (by omega)
theorem sp_isInCross (H : zPl S V p P) {a i : Int} {F : Int → Prop} (ha : 0 ≤ a ∧ a < pn P) (hi : 0 ≤ i ∧ i < pn P) (h1 : zIn (pw P) a i → F 1) (h0 : ¬ zIn (pw P) a i → F 0) : SpF E 1 zm_X3_isInCross [zrv p, ziv a, ziv i] S V F := by
  have o1 := H.ok.1
  have o3 := H.ok.2.2.1
  have d1 := zdiv_le hi.1 (show 0 < pw P by omega)
  have d2 := zdiv_le ha.1 (show 0 < pw P by omega)
  have m1 := zmod_le i (show 0 < pw P by omega)
  have m2 := zmod_le a (show 0 < pw P by omega)
  refine en_X3_isInCross (fun _ _ => ?_)
  simp only [H.kp, H.w, true_and]
  refine ⟨hi.1, by omega, ha.1, ⟨by omega, by omega⟩, sp_abs (by omega) ⟨⟨by omega, by omega⟩, sp_abs (by omega) ?_⟩⟩
  refine ⟨⟨by split <;> split <;> omega, by split <;> split <;> omega⟩, fun c => h0 ?_, fun c => h1 ?_⟩
  · intro z
    revert c
    split <;> split <;> omega
  · revert c
    split <;> split <;> omega
theorem sp_own (H : zPl S V p P) {k i : Int} {F : Int → Prop} (hk : 0 ≤ k ∧ k < pb P) (hi : 0 ≤ i ∧ i < pn P) (h : F (zown P k i)) : SpF E 2 zm_X3_ownStepAt [zrv p, ziv k, ziv i] S V F := by
  have o1 := H.ok.1
  have o4 := H.ok.2.2.2.1
  obtain ⟨b1, b2, b3, b4, b5⟩ := H.bt hk
  obtain ⟨c1, c2, c3, c4, -⟩ := H.ok.2.2.2.2.2 k hk.1 hk.2
  have cross : pkd P k ≠ 0 → ¬ (pkd P k = 2 ∨ pkd P k = 3) → ∀ X, zl_X3_ownStepAt_73 E X F S p k i V := by
    intro h0 h2 X
    refine wp_X3_ownStepAt_73 ?_
    simp only [H.kp, H.v7, H.v8, H.s3, H.s4, true_and, (b2 h0).1, (b2 h0).2]
    refine ⟨⟨hk.1, by omega⟩, sp_isInCross H (c2 (by omega)) hi (fun hc => ⟨fun c => absurd c (by decide), fun c => ⟨⟨hk.1, by omega⟩, ?_⟩⟩) (fun hc => ⟨fun c => ?_, fun c => absurd rfl c⟩)⟩
    · rw [zown_in h0 h2 hc] at h; exact h
    · rw [zown_out h0 h2 hc] at h; exact h
  have line : (pkd P k = 2 ∨ pkd P k = 3) → ∀ X, zl_X3_ownStepAt_48 E X F S p k i V := by
    intro h2 X
    have h0 : pkd P k ≠ 0 := by omega
    refine wp_X3_ownStepAt_48 ?_
    simp only [H.kp, H.v7, H.v8, H.s3, H.s4, true_and, (b2 h0).1, (b2 h0).2]
    refine ⟨⟨hk.1, by omega⟩, sp_isOnLine H hi.1 (fun hc => ⟨fun c => absurd c (by decide), fun c => ⟨⟨hk.1, by omega⟩, ?_⟩⟩) (fun hc => ⟨fun c => ?_, fun c => absurd rfl c⟩)⟩
    · rw [zown_on h2 hc] at h; exact h
    · rw [zown_off h2 hc] at h; exact h
  refine en_X3_ownStepAt (fun _ _ X => ?_)
  simp only [H.kp, H.v6, H.v11, H.s2, H.s7, true_and, b1]
  refine ⟨⟨hk.1, by omega⟩, fun c => ⟨⟨by omega, by omega⟩, ⟨by omega, by omega⟩, ⟨by omega, by omega⟩, ?_⟩, fun c => cross (by omega) (by omega) X, fun c => line (by omega) X, fun c => line (by omega) X, fun c => cross (by omega) (by omega) X⟩
  rw [b5 i hi.1 hi.2, ← zown_0 c]
  exact h
theorem sp_step (H : zPl S V p P) {k i : Int} {F : Int → Prop} (hk : 0 ≤ k ∧ k < pb P) (hi : 0 ≤ i ∧ i < pn P) (h : F (zstp P k i)) : SpF E 3 zm_X3_stepAt [zrv p, ziv k, ziv i] S V F := by
  have o2 := H.ok.2.1
  have o4 := H.ok.2.2.2.1
  obtain ⟨b1, b2, b3, b4, b5⟩ := H.bt hk
  obtain ⟨c1, c2, c3, c4, c5, -⟩ := H.ok.2.2.2.2.2 k hk.1 hk.2
  have l1 := zown_le H.ok hk hi
  unfold zstp at h
  refine en_X3_stepAt (fun _ _ => ?_)
  simp only [H.kp, H.v6, H.v9, H.s2, H.s5, H.m, true_and, b1]
  refine sp_own H hk hi ⟨⟨hk.1, by omega⟩, fun c => ⟨by omega, by omega, ?_⟩, fun c => ?_⟩
  · rw [if_neg c, Int.add_zero] at h; exact h
  · rw [b3 c]
    have l2 := zown_le (k := pot P k) H.ok ⟨(c5 c).1, by have := (c5 c).2; omega⟩ hi
    refine ⟨⟨hk.1, by omega⟩, sp_hasButton H ⟨fun z => ?_, fun z => sp_own H ⟨(c5 c).1, by have := (c5 c).2; omega⟩ hi ⟨⟨by omega, by omega⟩, fun x hx => ⟨by omega, by omega, ?_⟩⟩⟩⟩
    · rw [if_pos ⟨(c5 c).1, by have := (c5 c).2; omega⟩] at z; omega
    · rw [if_pos c] at h
      rw [hx]; exact h
end PLATE
