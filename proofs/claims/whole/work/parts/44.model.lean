/-! THE REFERENCE at o: its own cell and thirteen rows behind it; a plate laid in a row from place c on -/
def zMA (S : zS) (V : zH) (o : Int) : Prop :=
  (S o = (11, 25) ∧ S (o + 1) = (1, 1516) ∧ S (o + 2) = (1, 1516) ∧ S (o + 3) = (1, 90960) ∧ S (o + 4) = (2, 80) ∧ S (o + 5) = (1, 1369) ∧ S (o + 6) = (1, 37) ∧ S (o + 7) = (1, 37) ∧ S (o + 8) = (1, 37) ∧ S (o + 9) = (1, 36) ∧ S (o + 10) = (1, 36) ∧ S (o + 11) = (1, 36) ∧ S (o + 12) = (2, 65536) ∧ S (o + 13) = (1, 36)) ∧
  (V o 0 = o + 1 ∧ V o 1 = o + 2 ∧ V o 3 = o + 3 ∧ V o 8 = o + 4 ∧ V o 9 = o + 5 ∧ V o 11 = o + 6 ∧ V o 12 = o + 7 ∧ V o 13 = o + 8 ∧ V o 16 = o + 9 ∧ V o 20 = o + 10 ∧ V o 21 = o + 11 ∧ V o 22 = o + 12 ∧ V o 23 = o + 13)
def zMCb (V : zH) (a c : Int) (P : zP) (k : Int) : Prop :=
  V a (c + (40 + k)) = pkd P k ∧ (pkd P k ≠ 0 → V a (c + (76 + k)) = ppa P k ∧ V a (c + (112 + k)) = pad P k) ∧ (pkd P k = 4 → V a (c + (148 + k)) = pot P k) ∧ V a (c + (184 + k)) = pco P k ∧ ∀ i, 0 ≤ i → i < pn P → V a (c + (220 + 36 * k + i)) = pwi P k i
def zMC (V : zH) (a c : Int) (P : zP) : Prop :=
  V a (c + 0) = pn P ∧ V a (c + 1) = pm P ∧ V a (c + 2) = pw P ∧ V a (c + 3) = pb P ∧ (∀ i, 0 ≤ i → i < pn P → V a (c + (4 + i)) = psh P i) ∧ ∀ k, 0 ≤ k → k < pb P → zMCb V a c P k
def zMo (S : zS) (V : zH) (o : Int) (P : zP) : Prop := zMA S V o ∧ zMC V (o + 1) 0 P ∧ zPok P
section MODEL
variable {E : zE} {S : zS} {V : zH} {o : Int} {P : zP}
theorem zMo.ko (H : zMo S V o P) : (S o).1 = 11 := by rw [H.1.1.1]
theorem zMo.t1 (H : zMo S V o P) : S (o + 1) = (1, 1516) := H.1.1.2.1
theorem zMo.t2 (H : zMo S V o P) : S (o + 2) = (1, 1516) := H.1.1.2.2.1
theorem zMo.t3 (H : zMo S V o P) : S (o + 3) = (1, 90960) := H.1.1.2.2.2.1
theorem zMo.t4 (H : zMo S V o P) : S (o + 4) = (2, 80) := H.1.1.2.2.2.2.1
theorem zMo.t5 (H : zMo S V o P) : S (o + 5) = (1, 1369) := H.1.1.2.2.2.2.2.1
theorem zMo.t6 (H : zMo S V o P) : S (o + 6) = (1, 37) := H.1.1.2.2.2.2.2.2.1
theorem zMo.t7 (H : zMo S V o P) : S (o + 7) = (1, 37) := H.1.1.2.2.2.2.2.2.2.1
theorem zMo.t8 (H : zMo S V o P) : S (o + 8) = (1, 37) := H.1.1.2.2.2.2.2.2.2.2.1
theorem zMo.t9 (H : zMo S V o P) : S (o + 9) = (1, 36) := H.1.1.2.2.2.2.2.2.2.2.2.1
theorem zMo.t10 (H : zMo S V o P) : S (o + 10) = (1, 36) := H.1.1.2.2.2.2.2.2.2.2.2.2.1
theorem zMo.t11 (H : zMo S V o P) : S (o + 11) = (1, 36) := H.1.1.2.2.2.2.2.2.2.2.2.2.2.1
theorem zMo.t12 (H : zMo S V o P) : S (o + 12) = (2, 65536) := H.1.1.2.2.2.2.2.2.2.2.2.2.2.2.1
theorem zMo.t13 (H : zMo S V o P) : S (o + 13) = (1, 36) := H.1.1.2.2.2.2.2.2.2.2.2.2.2.2.2
theorem zMo.f0 (H : zMo S V o P) : V o 0 = o + 1 := H.1.2.1
theorem zMo.f1 (H : zMo S V o P) : V o 1 = o + 2 := H.1.2.2.1
theorem zMo.f3 (H : zMo S V o P) : V o 3 = o + 3 := H.1.2.2.2.1
theorem zMo.f8 (H : zMo S V o P) : V o 8 = o + 4 := H.1.2.2.2.2.1
theorem zMo.f9 (H : zMo S V o P) : V o 9 = o + 5 := H.1.2.2.2.2.2.1
theorem zMo.f11 (H : zMo S V o P) : V o 11 = o + 6 := H.1.2.2.2.2.2.2.1
theorem zMo.f12 (H : zMo S V o P) : V o 12 = o + 7 := H.1.2.2.2.2.2.2.2.1
theorem zMo.f13 (H : zMo S V o P) : V o 13 = o + 8 := H.1.2.2.2.2.2.2.2.2.1
theorem zMo.f16 (H : zMo S V o P) : V o 16 = o + 9 := H.1.2.2.2.2.2.2.2.2.2.1
theorem zMo.f20 (H : zMo S V o P) : V o 20 = o + 10 := H.1.2.2.2.2.2.2.2.2.2.2.1
theorem zMo.f21 (H : zMo S V o P) : V o 21 = o + 11 := H.1.2.2.2.2.2.2.2.2.2.2.2.1
theorem zMo.f22 (H : zMo S V o P) : V o 22 = o + 12 := H.1.2.2.2.2.2.2.2.2.2.2.2.2.1
theorem zMo.f23 (H : zMo S V o P) : V o 23 = o + 13 := H.1.2.2.2.2.2.2.2.2.2.2.2.2.2
theorem zMo.n (H : zMo S V o P) : V (o + 1) 0 = pn P := H.2.1.1
theorem zMo.m (H : zMo S V o P) : V (o + 1) 1 = pm P := H.2.1.2.1
theorem zMo.w (H : zMo S V o P) : V (o + 1) 2 = pw P := H.2.1.2.2.1
theorem zMo.b (H : zMo S V o P) : V (o + 1) 3 = pb P := H.2.1.2.2.2.1
theorem zMo.sh (H : zMo S V o P) {i : Int} (h : 0 ≤ i ∧ i < pn P) : V (o + 1) (4 + i) = psh P i := by
  have q := H.2.1.2.2.2.2.1 i h.1 h.2
  rw [Int.zero_add] at q; exact q
theorem zMo.bt (H : zMo S V o P) {k : Int} (h : 0 ≤ k ∧ k < pb P) : V (o + 1) (40 + k) = pkd P k ∧ (pkd P k ≠ 0 → V (o + 1) (76 + k) = ppa P k ∧ V (o + 1) (112 + k) = pad P k) ∧ (pkd P k = 4 → V (o + 1) (148 + k) = pot P k) ∧ V (o + 1) (184 + k) = pco P k ∧ ∀ i, 0 ≤ i → i < pn P → V (o + 1) (220 + 36 * k + i) = pwi P k i := by
  have q := H.2.1.2.2.2.2.2 k h.1 h.2
  unfold zMCb at q
  simp only [Int.zero_add] at q
  exact q
theorem zMo.ok (H : zMo S V o P) : zPok P := H.2.2
theorem s8_n (H : zMo S V o P) {F : Int → Prop} (h : F (pn P)) : SpF E 0 zm_X8_n [zrv o] S V F := by
  refine en_X8_n ?_
  simp only [H.ko, H.f0, H.t1, H.n, true_and]
  exact ⟨⟨by omega, by omega⟩, h⟩
theorem s8_m (H : zMo S V o P) {F : Int → Prop} (h : F (pm P)) : SpF E 0 zm_X8_m [zrv o] S V F := by
  refine en_X8_m ?_
  simp only [H.ko, H.f0, H.t1, H.m, true_and]
  exact ⟨⟨by omega, by omega⟩, h⟩
theorem s8_w (H : zMo S V o P) {F : Int → Prop} (h : F (pw P)) : SpF E 0 zm_X8_w [zrv o] S V F := by
  refine en_X8_w ?_
  simp only [H.ko, H.f0, H.t1, H.w, true_and]
  exact ⟨⟨by omega, by omega⟩, h⟩
theorem s8_b (H : zMo S V o P) {F : Int → Prop} (h : F (pb P)) : SpF E 0 zm_X8_buttons [zrv o] S V F := by
  refine en_X8_buttons ?_
  simp only [H.ko, H.f0, H.t1, H.b, true_and]
  exact ⟨⟨by omega, by omega⟩, h⟩
theorem s8_in {x lo hi : Int} {F : Int → Prop} (h1 : lo ≤ x ∧ x ≤ hi → F 1) (h0 : ¬ (lo ≤ x ∧ x ≤ hi) → F 0) : SpF E 0 zm_X8_in [zjv x, zjv lo, zjv hi] S V F :=
  en_X8_in (fun _ _ _ => ⟨fun c => h0 (by omega), fun c => ⟨fun c2 => h0 (by omega), fun c2 => h1 (by omega)⟩⟩)
theorem s8_isButton (H : zMo S V o P) {k : Int} {F : Int → Prop} (h1 : 0 ≤ k ∧ k < pb P → F 1) (h0 : ¬ (0 ≤ k ∧ k < pb P) → F 0) : SpF E 1 zm_X8_isButton [zrv o, ziv k] S V F := by
  have o4 := H.ok.2.2.2.1
  refine en_X8_isButton (fun _ => ⟨H.ko, s8_b H ⟨⟨by omega, by omega⟩, s8_in (fun c => ⟨Or.inr rfl, h1 (by omega)⟩) (fun c => ⟨Or.inl rfl, h0 (by omega)⟩)⟩⟩)
theorem s8_isLine (H : zMo S V o P) {a : Int} {F : Int → Prop} (h1 : zLineOk (pn P) (pw P) a → F 1) (h0 : ¬ zLineOk (pn P) (pw P) a → F 0) : SpF E 1 zm_X8_isLine [zrv o, ziv a] S V F := by
  obtain ⟨⟨o1, o1'⟩, -, ⟨o3, o3'⟩, -⟩ := H.ok
  refine en_X8_isLine (fun ha => ⟨fun c => ⟨fun c2 => h0 (by unfold zLineOk; omega), fun c2 => ⟨H.ko, s8_w H ⟨?_, s8_n H ⟨fun c3 => h0 ?_, fun c3 => h1 (Or.inr ⟨c2, c, c3⟩)⟩⟩⟩⟩, fun c => ⟨⟨by omega, by have := ha.2; omega⟩, H.ko, s8_w H ⟨fun c3 => h0 (by unfold zLineOk; omega), fun c3 => h1 (Or.inl ⟨c, c3⟩)⟩⟩⟩)
  · have := zmul_le (a := a) (b := pw P) (A := 99) (B := 36) ⟨c2, by omega⟩ ⟨by omega, by omega⟩
    exact ⟨by omega, by omega⟩
  · unfold zLineOk; omega
theorem s8_isStuck (H : zMo S V o P) {k : Int} {F : Int → Prop} (hk : 0 ≤ k ∧ k < pb P) (h1 : pkd P k = 3 → F 1) (h0 : pkd P k ≠ 3 → F 0) : SpF E 0 zm_X8_isStuck [zrv o, ziv k] S V F := by
  have o4 := H.ok.2.2.2.1
  refine en_X8_isStuck (fun _ => ?_)
  simp only [H.ko, H.f0, H.t1, (H.bt hk).1, true_and]
  exact ⟨⟨by omega, by omega⟩, ⟨by omega, by omega⟩, h0, h1⟩
/-- the cross as the reference sees it -/
theorem zIn_iff {w a i : Int} (hw : 0 < w) : zIn w a i ↔ i = a ∨ (i / w = a / w ∧ (i - a = 1 ∨ i - a = -1)) ∨ ((i - a = w ∨ i - a = -w) ∧ i % w = a % w) := by
  unfold zIn
  have e1 := Int.mul_ediv_add_emod i w
  have e2 := Int.mul_ediv_add_emod a w
  have m1 := zmod_le i hw
  have m2 := zmod_le a hw
  generalize hq1 : i / w = q1 at *
  generalize hq2 : a / w = q2 at *
  generalize i % w = r1 at *
  generalize a % w = r2 at *
  constructor
  · rintro (⟨h1, h2⟩ | ⟨h1, h2⟩)
    · subst h1
      rcases h2 with h2 | h2 | h2
      · left; omega
      · right; left; exact ⟨rfl, by omega⟩
      · right; left; exact ⟨rfl, by omega⟩
    · rcases h2 with h2 | h2
      · subst h2
        rw [Int.mul_add, Int.mul_one] at e1
        right; right; exact ⟨by omega, h1⟩
      · subst h2
        rw [Int.mul_add, Int.mul_one] at e2
        right; right; exact ⟨by omega, h1⟩
  · rintro (h | ⟨h1, h2⟩ | ⟨h1, h2⟩)
    · subst h
      left
      have : q1 = q2 := hq1.symm.trans hq2
      subst this
      exact ⟨rfl, by omega⟩
    · subst h1
      left
      exact ⟨rfl, by omega⟩
    · right
      refine ⟨h2, ?_⟩
      subst h2
      rcases h1 with h1 | h1
      · left
        have : w * q1 = w * (q2 + 1) := by rw [Int.mul_add, Int.mul_one]; omega
        exact Int.eq_of_mul_eq_mul_left (by omega) this
      · right
        have : w * q2 = w * (q1 + 1) := by rw [Int.mul_add, Int.mul_one]; omega
        exact Int.eq_of_mul_eq_mul_left (by omega) this
theorem s8_cross (H : zMo S V o P) {k i : Int} {F : Int → Prop} (hk : 0 ≤ k ∧ k < pb P) (h14 : pkd P k = 1 ∨ pkd P k = 4) (hi : 0 ≤ i ∧ i < pn P) (h : F (zown P k i)) : SpF E 1 zm_X8_cross [zrv o, ziv k, ziv i] S V F := by
  have o1 := H.ok.1
  have o3 := H.ok.2.2.1
  have o4 := H.ok.2.2.2.1
  obtain ⟨b1, b2, b3, b4, b5⟩ := H.bt hk
  obtain ⟨c1, c2, c3, c4, -⟩ := H.ok.2.2.2.2.2 k hk.1 hk.2
  have k0 : pkd P k ≠ 0 := by omega
  have k2 : ¬ (pkd P k = 2 ∨ pkd P k = 3) := by omega
  have b2' := b2 k0
  have hp := c2 h14
  have w0 : 0 < pw P := by omega
  have n1 : z32 (112 + k) := ⟨by omega, by omega⟩
  have n2 : (0 : Int) ≤ 112 + k ∧ 112 + k < 1516 := by omega
  have n3 : z32 (i - ppa P k) := ⟨by omega, by omega⟩
  have n4 : -2147483647 ≤ i - ppa P k := by omega
  have n5 : z32 (76 + k) := ⟨by omega, by omega⟩
  have n6 : (0 : Int) ≤ 76 + k ∧ 76 + k < 1516 := by omega
  have fin : zIn (pw P) (ppa P k) i → F (pad P k) := fun q => by rw [zown_in k0 k2 q] at h; exact h
  have fout : ¬ zIn (pw P) (ppa P k) i → F 0 := fun q => by rw [zown_out k0 k2 q] at h; exact h
  clear h c1 c2 c3 c4 b1 b2 b3 b4 b5 h14 k0 k2 o1 o3 o4
  refine en_X8_cross (fun _ _ X => ?_)
  have l63 : zIn (pw P) (ppa P k) i → zl_X8_cross_63 E X F S o k i (ppa P k) V := by
    intro q
    refine wp_X8_cross_63 ?_
    simp only [H.ko, H.f0, H.t1, b2'.2, true_and]
    exact ⟨fun _ => ⟨n1, n2, fin q⟩, fun _ => ⟨n1, n2, fin q⟩⟩
  have l67 : (zIn (pw P) (ppa P k) i ↔ i = ppa P k) → zl_X8_cross_67 E X F S o k i (ppa P k) V := by
    intro q
    refine wp_X8_cross_67 ?_
    simp only [H.ko, H.f0, H.t1, b2'.2, true_and]
    exact ⟨fun z => ⟨n1, n2, fin (q.mpr z)⟩, fun z => fout (fun y => z (q.mp y))⟩
  have l35 : ¬ (i / pw P = ppa P k / pw P ∧ (i - ppa P k = 1 ∨ i - ppa P k = -1)) → zl_X8_cross_35 E X F S o k i (ppa P k) V := by
    intro q
    refine wp_X8_cross_35 ⟨n3, sp_abs n4 ⟨H.ko, s8_w H ⟨fun z => l67 ?_, fun z => s8_w H ⟨hi.1, w0, s8_w H ⟨hp.1, w0, fun z2 => l67 ?_, fun z2 => l63 ?_⟩⟩⟩⟩⟩
    · rw [zIn_iff w0]
      constructor
      · rintro (r | r | ⟨r, -⟩)
        · exact r
        · exact absurd r q
        · exfalso; clear q l67 l63 fin fout; revert z; split <;> omega
      · intro r; exact Or.inl r
    · rw [zIn_iff w0]
      constructor
      · rintro (r | r | ⟨-, r⟩)
        · exact r
        · exact absurd r q
        · exact absurd r z2
      · intro r; exact Or.inl r
    · rw [zIn_iff w0]
      right; right
      refine ⟨?_, z2⟩
      clear q l67 l63 fin fout
      revert z; split <;> omega
  simp only [H.ko, H.f0, H.t1, b2'.1, true_and]
  refine ⟨n5, n6, fun x hx => ?_⟩
  subst hx
  refine s8_w H ⟨hi.1, w0, s8_w H ⟨hp.1, w0, fun z => l35 (fun q => z q.1), fun z => ⟨n3, sp_abs n4 ⟨fun z2 => l63 ?_, fun z2 => l35 ?_⟩⟩⟩⟩
  · rw [zIn_iff w0]
    right; left
    refine ⟨z, ?_⟩
    clear l35 l67 l63 fin fout
    revert z2; split <;> omega
  · intro q
    replace q := q.2
    clear l35 l67 l63 fin fout
    revert z2; split <;> omega
theorem s8_own (H : zMo S V o P) {k i : Int} {F : Int → Prop} (hk : 0 ≤ k ∧ k < pb P) (hi : 0 ≤ i ∧ i < pn P) (h : F (zown P k i)) : SpF E 2 zm_X8_own [zrv o, ziv k, ziv i] S V F := by
  have o1 := H.ok.1
  have o3 := H.ok.2.2.1
  have o4 := H.ok.2.2.2.1
  obtain ⟨b1, b2, b3, b4, b5⟩ := H.bt hk
  obtain ⟨c1, c2, c3, c4, -⟩ := H.ok.2.2.2.2.2 k hk.1 hk.2
  refine en_X8_own (fun _ _ X => ?_)
  have line : (pkd P k = 2 ∨ pkd P k = 3) → zl_X8_own_56 E X F S o k i V := by
    intro h2
    have b2' := b2 (by omega)
    have c3' := c3 h2
    have on : zOn (pw P) (ppa P k) i → F (pad P k) := fun q => by rw [zown_on h2 q] at h; exact h
    have off : ¬ zOn (pw P) (ppa P k) i → F 0 := fun q => by rw [zown_off h2 q] at h; exact h
    refine wp_X8_own_56 ?_
    simp only [H.ko, H.f0, H.t1, b2'.1, b2'.2, true_and]
    refine ⟨⟨by omega, by omega⟩, ⟨by omega, by omega⟩, fun z => s8_w H ⟨hi.1, by omega, fun z2 => off ?_, fun z2 => ⟨⟨by omega, by omega⟩, ⟨by omega, by omega⟩, on (Or.inr ⟨z, z2⟩)⟩⟩, fun z => s8_w H ⟨hi.1, by omega, ⟨by omega, by unfold zLineOk at c3'; omega⟩, fun z2 => off ?_, fun z2 => ⟨⟨by omega, by omega⟩, ⟨by omega, by omega⟩, on (Or.inl ⟨z, z2⟩)⟩⟩⟩
    · rintro (q | q)
      · omega
      · exact z2 q.2
    · rintro (q | q)
      · exact z2 q.2
      · omega
  simp only [H.ko, H.f0, H.t1, b1, true_and]
  refine ⟨⟨by omega, by omega⟩, ⟨by omega, by omega⟩, fun z => ⟨⟨by omega, by omega⟩, ⟨by omega, by omega⟩, ⟨by omega, by omega⟩, ⟨by omega, by omega⟩, ?_⟩, fun z => s8_cross H hk (by omega) hi h, fun z => line (by omega), fun z => line (by omega), fun z => s8_cross H hk (by omega) hi h⟩
  rw [b5 i hi.1 hi.2, ← zown_0 z]
  exact h
theorem s8_steps (H : zMo S V o P) {k i : Int} {F : Int → Prop} (hk : 0 ≤ k ∧ k < pb P) (hi : 0 ≤ i ∧ i < pn P) (h : F (zstp P k i)) : SpF E 3 zm_X8_steps [zrv o, ziv k, ziv i] S V F := by
  have o2 := H.ok.2.1
  have o4 := H.ok.2.2.2.1
  obtain ⟨b1, b2, b3, b4, b5⟩ := H.bt hk
  obtain ⟨c1, c2, c3, c4, c5, -⟩ := H.ok.2.2.2.2.2 k hk.1 hk.2
  have l1 := zown_le H.ok hk hi
  unfold zstp at h
  refine en_X8_steps (fun _ _ => ?_)
  simp only [H.ko, H.f0, H.t1, b1, true_and]
  refine s8_own H hk hi ⟨⟨by omega, by omega⟩, ⟨by omega, by omega⟩, fun z => ⟨⟨by omega, by omega⟩, s8_m H ⟨by omega, by omega, ?_⟩⟩, fun z => ?_⟩
  · rw [if_neg z] at h; exact h
  · rw [b3 z]
    have l2 := zown_le (k := pot P k) H.ok ⟨(c5 z).1, by have := (c5 z).2; omega⟩ hi
    refine ⟨⟨by omega, by omega⟩, ⟨by omega, by omega⟩, s8_own H ⟨(c5 z).1, by have := (c5 z).2; omega⟩ hi ⟨⟨by omega, by omega⟩, s8_m H ⟨by omega, by omega, ?_⟩⟩⟩
    rw [if_pos z] at h; exact h
end MODEL
