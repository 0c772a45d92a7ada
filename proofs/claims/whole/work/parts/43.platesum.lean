/-! THE CLASS'S PLATE: methods that look, with a loop -/
theorem zdown {Q : Int → Prop} {N : Int} (hN : Q N) (hs : ∀ i, 0 ≤ i → i < N → Q (i + 1) → Q i) : ∀ i, 0 ≤ i → i ≤ N → Q i := by
  have key : ∀ (t : Nat) (i : Int), 0 ≤ i → i + t = N → Q i := by
    intro t
    induction t with
    | zero => intro i hi ht; rw [show i = N by omega]; exact hN
    | succ t ih => intro i hi ht; exact hs i hi (by omega) (ih (i + 1) (by omega) (by omega))
  intro i h0 h1
  exact key (N - i).toNat i h0 (by omega)
/-- a loop that begins at c -/
theorem zdownFrom {Q : Int → Prop} {c N : Int} (hN : Q N) (hs : ∀ i, c ≤ i → i < N → Q (i + 1) → Q i) : ∀ i, c ≤ i → i ≤ N → Q i := by
  have key : ∀ (t : Nat) (i : Int), c ≤ i → i + t = N → Q i := by
    intro t
    induction t with
    | zero => intro i hi ht; rw [show i = N by omega]; exact hN
    | succ t ih => intro i hi ht; exact hs i hi (by omega) (ih (i + 1) (by omega) (by omega))
  intro i h0 h1
  exact key (N - i).toNat i h0 (by omega)
theorem zmul_le {a b A B : Int} (ha : 0 ≤ a ∧ a ≤ A) (hb : 0 ≤ b ∧ b ≤ B) : 0 ≤ a * b ∧ a * b ≤ A * B :=
  ⟨Int.mul_nonneg ha.1 hb.1, Int.mul_le_mul ha.2 hb.2 hb.1 (by omega)⟩
/-- a sum of products of numbers below 12 -/
theorem zdot_le {f g : Int → Int} {n : Int} (hn : 0 ≤ n) (hf : ∀ j, 0 ≤ j → j < n → 0 ≤ f j ∧ f j ≤ 11) (hg : ∀ j, 0 ≤ j → j < n → 0 ≤ g j ∧ g j ≤ 11) : 0 ≤ zsum (fun j => f j * g j) n ∧ zsum (fun j => f j * g j) n ≤ n * 121 :=
  zsum_le hn (fun j a b => zmul_le (hf j a b) (hg j a b))
section PLATESUM
variable {E : zE} {S : zS} {V : zH} {p : Int} {P : zP}
theorem sp_countLit (H : zPl S V p P) {F : Int → Prop} (h : F (zsum (fun i => if psh P i = 0 then 0 else 1) (pn P))) : SpF E 0 zm_X3_countLit [zrv p] S V F := by
  have o1 := H.ok.1
  refine en_X3_countLit (fun X => ?_)
  refine zdown (Q := fun i => zl_X3_countLit_4 E X F S p (zsum (fun i => if psh P i = 0 then 0 else 1) i) i V) (N := pn P) ?_ (fun i h0 h1 ih => ?_) 0 (by omega) (by omega)
  · refine wp_X3_countLit_4 ?_
    simp only [H.kp, H.n, true_and]
    exact ⟨fun _ => h, fun c => absurd c (by omega)⟩
  · refine wp_X3_countLit_4 ?_
    have b := zsum_le (f := fun i => if psh P i = 0 then 0 else 1) (c := 1) h0 (fun j _ _ => by split <;> omega)
    simp only [H.kp, H.n, H.v5, H.s1, H.sh ⟨h0, h1⟩, true_and]
    rw [zsum_s _ h0] at ih
    refine ⟨fun c => absurd c (by omega), fun _ => ⟨⟨h0, by omega⟩, fun z => ⟨⟨by omega, by omega⟩, ?_⟩, fun z => ⟨⟨by omega, by omega⟩, ⟨by omega, by omega⟩, ?_⟩⟩⟩
    · simp only [if_pos z, Int.add_zero] at ih; exact ih
    · simp only [if_neg z] at ih; exact ih
theorem sp_sumShown (H : zPl S V p P) {F : Int → Prop} (h : F (zsum (psh P) (pn P))) : SpF E 0 zm_X3_sumShown [zrv p] S V F := by
  have o1 := H.ok.1
  have o2 := H.ok.2.1
  refine en_X3_sumShown (fun X => ?_)
  refine zdown (Q := fun i => zl_X3_sumShown_4 E X F S p (zsum (psh P) i) i V) (N := pn P) ?_ (fun i h0 h1 ih => ?_) 0 (by omega) (by omega)
  · refine wp_X3_sumShown_4 ?_
    simp only [H.kp, H.n, true_and]
    exact ⟨fun _ => h, fun c => absurd c (by omega)⟩
  · refine wp_X3_sumShown_4 ?_
    have b := zsum_le (f := psh P) (c := 12) h0 (fun j a b => by have := H.ok.2.2.2.2.1 j a (by omega); omega)
    have b2 := H.ok.2.2.2.2.1 i h0 h1
    simp only [H.kp, H.n, H.v5, H.s1, H.sh ⟨h0, h1⟩, true_and]
    rw [zsum_s _ h0] at ih
    exact ⟨fun c => absurd c (by omega), fun _ => ⟨⟨h0, by omega⟩, ⟨by omega, by omega⟩, fun x hx => ⟨⟨by omega, by omega⟩, by rw [hx]; exact ih⟩⟩⟩
theorem sp_allBelow (H : zPl S V p P) {t N n : Int} {F : Int → Prop} (ht : S t = (1, N)) (hn : 0 ≤ n ∧ n ≤ N ∧ n ≤ 2000000) (h1 : (∀ i, 0 ≤ i → i < n → V t i < pm P) → F 1) (h0 : (∃ i, 0 ≤ i ∧ i < n ∧ pm P ≤ V t i) → F 0) : SpF E 0 zm_X3_allBelowColours [zrv p, zrv t, ziv n] S V F := by
  refine en_X3_allBelowColours (fun _ X => ?_)
  have key := zdown (Q := fun i => (∀ j, 0 ≤ j → j < i → V t j < pm P) → zl_X3_allBelowColours_2 E X F S p t n i V) (N := n) (fun hj => ?_) (fun i a b ih hj => ?_) 0 (by omega) (by omega)
  · exact key (fun j a b => by omega)
  · refine wp_X3_allBelowColours_2 ⟨fun _ => h1 hj, fun c => absurd c (by omega)⟩
  · refine wp_X3_allBelowColours_2 ?_
    simp only [H.kp, H.m, ht, true_and]
    refine ⟨fun c => absurd c (by omega), fun _ => ⟨fun c => absurd c (by omega), fun _ => ⟨⟨a, by omega⟩, fun z => ⟨⟨by omega, by omega⟩, ih (fun j ja jb => ?_)⟩, fun z => h0 ⟨i, a, b, z⟩⟩⟩⟩
    by_cases hji : j = i
    · rw [hji]; exact z
    · exact hj j ja (by omega)
/-- the first STUCK button that is pushed -/
theorem sp_firstStuck (H : zPl S V p P) {t : Int} {F : Int → Prop} (ht : S t = (1, 36)) (h1 : (∀ k, 0 ≤ k → k < pb P → pkd P k = 3 → V t k = 0) → F (-1)) (h0 : ∀ k, 0 ≤ k → k < pb P → pkd P k = 3 → V t k ≠ 0 → (∀ j, 0 ≤ j → j < k → pkd P j = 3 → V t j = 0) → F k) : SpF E 0 zm_X3_firstStuckPushed [zrv p, zrv t] S V F := by
  have o4 := H.ok.2.2.2.1
  refine en_X3_firstStuckPushed (fun X => ?_)
  have key := zdown (Q := fun i => (∀ j, 0 ≤ j → j < i → pkd P j = 3 → V t j = 0) → zl_X3_firstStuckPushed_2 E X F S p t i V) (N := pb P) (fun hj => ?_) (fun i a b ih hj => ?_) 0 (by omega) (by omega)
  · exact key (fun j a b => by omega)
  · refine wp_X3_firstStuckPushed_2 ?_
    simp only [H.kp, H.b, true_and]
    exact ⟨fun _ => h1 hj, fun c => absurd c (by omega)⟩
  · refine wp_X3_firstStuckPushed_2 ?_
    have b1 := (H.bt ⟨a, b⟩).1
    simp only [H.kp, H.b, H.v6, H.s2, b1, ht, true_and]
    have nx : (pkd P i = 3 → V t i = 0) → ∀ j, 0 ≤ j → j < i + 1 → pkd P j = 3 → V t j = 0 := by
      intro q j ja jb
      by_cases hji : j = i
      · rw [hji]; exact q
      · exact hj j ja (by omega)
    exact ⟨fun c => absurd c (by omega), fun _ => ⟨⟨a, by omega⟩, fun z => ⟨⟨by omega, by omega⟩, ih (nx (fun q => absurd q z))⟩, fun z => ⟨⟨a, by omega⟩, fun z2 => ⟨⟨by omega, by omega⟩, ih (nx (fun _ => z2))⟩, fun z2 => h0 i a b z z2 hj⟩⟩⟩
theorem sp_patternAt (H : zPl S V p P) {t i : Int} {F : Int → Prop} (ht : S t = (1, 36)) (hb : ∀ k, 0 ≤ k → k < pb P → 0 ≤ V t k ∧ V t k ≤ 11) (hi : 0 ≤ i ∧ i < pn P) (h : F (zsum (fun k => V t k * zstp P k i) (pb P) % pm P)) : SpF E 4 zm_X3_patternAt [zrv p, zrv t, ziv i] S V F := by
  have o2 := H.ok.2.1
  have o4 := H.ok.2.2.2.1
  have sb : ∀ k, 0 ≤ zstp P k i ∧ zstp P k i ≤ 11 := fun k => by have := zstp_le H.ok k i; omega
  refine en_X3_patternAt (fun _ X => ?_)
  refine zdown (Q := fun k => zl_X3_patternAt_5 E X F S p t i (zsum (fun k => V t k * zstp P k i) k) k V) (N := pb P) ?_ (fun k h0 h1 ih => ?_) 0 (by omega) (by omega)
  · refine wp_X3_patternAt_5 ?_
    have b := zdot_le (f := fun k => V t k) (g := fun k => zstp P k i) o4.1 hb (fun j _ _ => sb j)
    simp only [H.kp, H.b, H.m, true_and]
    exact ⟨fun _ => ⟨b.1, by omega, h⟩, fun c => absurd c (by omega)⟩
  · refine wp_X3_patternAt_5 ?_
    have b := zdot_le (f := fun k => V t k) (g := fun k => zstp P k i) h0 (fun j ja jb => hb j ja (by omega)) (fun j _ _ => sb j)
    have b2 := zmul_le (hb k h0 h1) (sb k)
    rw [zsum_s _ h0] at ih
    simp only [H.kp, H.b, H.m, ht, true_and]
    refine ⟨fun c => absurd c (by omega), fun _ => ⟨⟨h0, by omega⟩, fun z => ⟨⟨by omega, by omega⟩, ?_⟩, fun z => sp_step H ⟨h0, h1⟩ hi ⟨⟨by omega, by omega⟩, ⟨by omega, by omega⟩, fun x hx => ⟨⟨by omega, by omega⟩, ?_⟩⟩⟩⟩
    · rw [z, Int.zero_mul, Int.add_zero] at ih; exact ih
    · rw [hx]; exact ih
theorem sp_weighSteps (H : zPl S V p P) {t k : Int} {F : Int → Prop} (ht : S t = (1, 36)) (hb : ∀ i, 0 ≤ i → i < pn P → 0 ≤ V t i ∧ V t i ≤ 11) (hk : 0 ≤ k ∧ k < pb P) (h : F (zsum (fun i => V t i * zstp P k i) (pn P) % pm P)) : SpF E 4 zm_X3_weighSteps [zrv p, zrv t, ziv k] S V F := by
  have o1 := H.ok.1
  have o2 := H.ok.2.1
  have sb : ∀ i, 0 ≤ zstp P k i ∧ zstp P k i ≤ 11 := fun i => by have := zstp_le H.ok k i; omega
  refine en_X3_weighSteps (fun _ X => ?_)
  refine zdown (Q := fun i => zl_X3_weighSteps_5 E X F S p t k (zsum (fun i => V t i * zstp P k i) i) i V) (N := pn P) ?_ (fun i h0 h1 ih => ?_) 0 (by omega) (by omega)
  · refine wp_X3_weighSteps_5 ?_
    have b := zdot_le (f := fun i => V t i) (g := fun i => zstp P k i) (show 0 ≤ pn P by omega) hb (fun j _ _ => sb j)
    simp only [H.kp, H.n, H.m, true_and]
    exact ⟨fun _ => ⟨b.1, by omega, h⟩, fun c => absurd c (by omega)⟩
  · refine wp_X3_weighSteps_5 ?_
    have b := zdot_le (f := fun i => V t i) (g := fun i => zstp P k i) h0 (fun j ja jb => hb j ja (by omega)) (fun j _ _ => sb j)
    have b2 := zmul_le (hb i h0 h1) (sb i)
    rw [zsum_s _ h0] at ih
    simp only [H.kp, H.n, H.m, ht, true_and]
    refine ⟨fun c => absurd c (by omega), fun _ => ⟨⟨h0, by omega⟩, fun z => ⟨⟨by omega, by omega⟩, ?_⟩, fun z => sp_step H hk ⟨h0, h1⟩ ⟨⟨by omega, by omega⟩, ⟨by omega, by omega⟩, fun x hx => ⟨⟨by omega, by omega⟩, ?_⟩⟩⟩⟩
    · rw [z, Int.zero_mul, Int.add_zero] at ih; exact ih
    · rw [hx]; exact ih
theorem sp_weighShown (H : zPl S V p P) {t c N : Int} {F : Int → Prop} (ht : S t = (1, N)) (hc : 0 ≤ c ∧ c + pn P ≤ N ∧ N ≤ 1000000) (hb : ∀ i, 0 ≤ i → i < pn P → 0 ≤ V t (c + i) ∧ V t (c + i) ≤ 11) (h : F (zsum (fun i => V t (c + i) * psh P i) (pn P) % pm P)) : SpF E 0 zm_X3_weighShown [zrv p, zrv t, ziv c] S V F := by
  have o1 := H.ok.1
  have o2 := H.ok.2.1
  have sb : ∀ i, 0 ≤ i → i < pn P → 0 ≤ psh P i ∧ psh P i ≤ 11 := fun i a b => by have := H.ok.2.2.2.2.1 i a b; omega
  refine en_X3_weighShown (fun _ X => ?_)
  refine zdown (Q := fun i => zl_X3_weighShown_5 E X F S p t c (zsum (fun i => V t (c + i) * psh P i) i) i V) (N := pn P) ?_ (fun i h0 h1 ih => ?_) 0 (by omega) (by omega)
  · refine wp_X3_weighShown_5 ?_
    have b := zdot_le (f := fun i => V t (c + i)) (g := psh P) (show 0 ≤ pn P by omega) hb sb
    simp only [H.kp, H.n, H.m, true_and]
    exact ⟨fun _ => ⟨b.1, by omega, h⟩, fun c => absurd c (by omega)⟩
  · refine wp_X3_weighShown_5 ?_
    have b := zdot_le (f := fun i => V t (c + i)) (g := psh P) h0 (fun j ja jb => hb j ja (by omega)) (fun j ja jb => sb j ja (by omega))
    have b2 := zmul_le (hb i h0 h1) (sb i h0 h1)
    rw [zsum_s _ h0] at ih
    simp only [H.kp, H.n, H.m, H.v5, H.s1, H.sh ⟨h0, h1⟩, ht, true_and]
    exact ⟨fun c => absurd c (by omega), fun _ => ⟨⟨by omega, by omega⟩, ⟨by omega, by omega⟩, ⟨h0, by omega⟩, ⟨by omega, by omega⟩, ⟨by omega, by omega⟩, fun x hx => ⟨⟨by omega, by omega⟩, by rw [hx]; exact ih⟩⟩⟩
/-- whether chase() may: the n-th button a CROSS of lamp n that adds 1 -/
def zChase (P : zP) : Prop := pb P = pn P ∧ ∀ k, 0 ≤ k → k < pb P → pkd P k = 1 ∧ ppa P k = k ∧ pad P k = 1
theorem sp_allCrosses (H : zPl S V p P) {F : Int → Prop} (h1 : zChase P → F 1) (h0 : ¬ zChase P → F 0) : SpF E 0 zm_X3_isAllCrosses [zrv p] S V F := by
  have o4 := H.ok.2.2.2.1
  refine en_X3_isAllCrosses (fun X => ?_)
  simp only [H.kp, H.b, H.n, true_and]
  refine ⟨fun e => ?_, fun e => h0 (fun z => e z.1)⟩
  have key := zdown (Q := fun i => (∀ k, 0 ≤ k → k < i → pkd P k = 1 ∧ ppa P k = k ∧ pad P k = 1) → zl_X3_isAllCrosses_15 E X F S p i V) (N := pb P) (fun hj => ?_) (fun i a b ih hj => ?_) 0 (by omega) (by omega)
  · exact key (fun j a b => by omega)
  · refine wp_X3_isAllCrosses_15 ?_
    simp only [H.kp, H.b, true_and]
    exact ⟨fun _ => h1 ⟨e, hj⟩, fun c => absurd c (by omega)⟩
  · refine wp_X3_isAllCrosses_15 ?_
    obtain ⟨b1, b2, -⟩ := H.bt ⟨a, b⟩
    simp only [H.kp, H.b, H.v6, H.s2, H.v7, H.s3, H.v8, H.s4, b1, true_and]
    refine ⟨fun c => absurd c (by omega), fun _ => ⟨⟨a, by omega⟩, fun z => h0 (fun q => z (q.2 i a b).1), fun z => ⟨⟨a, by omega⟩, fun z2 => h0 (fun q => ?_), fun z2 => ⟨⟨a, by omega⟩, fun z3 => ⟨⟨by omega, by omega⟩, ih (fun k ka kb => ?_)⟩, fun z3 => h0 (fun q => ?_)⟩⟩⟩⟩
    · rw [(b2 (by omega)).1] at z2; exact z2 (q.2 i a b).2.1
    · by_cases hk : k = i
      · rw [hk]
        rw [(b2 (by omega)).1] at z2
        rw [(b2 (by omega)).2] at z3
        exact ⟨z, z2, z3⟩
      · exact hj k ka (by omega)
    · rw [(b2 (by omega)).2] at z3; exact z3 (q.2 i a b).2.2
/-- whether button() takes these numbers -/
def zTakes (P : zP) (kind a b other : Int) : Prop :=
  kind = 0 ∨ ((0 ≤ b ∧ b < pm P) ∧ ((kind = 1 ∧ 0 ≤ a ∧ a < pn P) ∨ ((kind = 2 ∨ kind = 3) ∧ zLineOk (pn P) (pw P) a) ∨ (kind = 4 ∧ (0 ≤ a ∧ a < pn P) ∧ 0 ≤ other ∧ other < pb P)))
theorem sp_takesButton (H : zPl S V p P) {kind a b other : Int} {F : Int → Prop} (h1 : zTakes P kind a b other → F 1) (h0 : ¬ zTakes P kind a b other → F 0) : SpF E 1 zm_X3_takesButton [zrv p, ziv kind, ziv a, ziv b, ziv other] S V F := by
  refine en_X3_takesButton (fun _ _ _ _ => ?_)
  simp only [H.kp, H.m, true_and]
  refine ⟨fun z => ⟨fun c => h0 (by unfold zTakes; omega), fun c => ⟨fun c2 => ⟨fun z1 => ?_, fun z1 => ?_, fun z1 => ?_, fun z1 => ?_, fun z1 => h0 (by unfold zTakes; omega)⟩, fun c2 => h0 (by unfold zTakes; omega)⟩⟩, fun z => h1 (Or.inl z)⟩
  · refine sp_hasLamp H ⟨by split <;> omega, ?_⟩
    by_cases q : 0 ≤ a ∧ a < pn P
    · rw [if_pos q]; exact h1 (by unfold zTakes; omega)
    · rw [if_neg q]; exact h0 (by unfold zTakes; omega)
  · exact sp_hasLine H (fun q => ⟨Or.inr rfl, h1 (Or.inr ⟨⟨c, c2⟩, Or.inr (Or.inl ⟨Or.inl z1, q⟩)⟩)⟩) (fun q => ⟨Or.inl rfl, h0 (by rintro (r | ⟨-, r | r | r⟩); exact z r; omega; exact q r.2; omega)⟩)
  · exact sp_hasLine H (fun q => ⟨Or.inr rfl, h1 (Or.inr ⟨⟨c, c2⟩, Or.inr (Or.inl ⟨Or.inr z1, q⟩)⟩)⟩) (fun q => ⟨Or.inl rfl, h0 (by rintro (r | ⟨-, r | r | r⟩); exact z r; omega; exact q r.2; omega)⟩)
  · refine sp_hasLamp H ⟨fun q => h0 ?_, fun q => sp_hasButton H ⟨fun q2 => h0 ?_, fun q2 => h1 ?_⟩⟩
    · have : ¬ (0 ≤ a ∧ a < pn P) := fun r => by rw [if_pos r] at q; omega
      unfold zTakes; omega
    · have : ¬ (0 ≤ other ∧ other < pb P) := fun r => by rw [if_pos r] at q2; omega
      unfold zTakes; omega
    · have r1 : 0 ≤ a ∧ a < pn P := Classical.byContradiction fun r => by rw [if_neg r] at q; omega
      have r2 : 0 ≤ other ∧ other < pb P := Classical.byContradiction fun r => by rw [if_neg r] at q2; omega
      exact Or.inr ⟨⟨c, c2⟩, Or.inr (Or.inr ⟨z1, r1, r2⟩)⟩
end PLATESUM
