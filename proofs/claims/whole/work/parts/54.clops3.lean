/-! CELLS ARE ADDED: what was kept is kept; keep(), check() -/
def zExt (S S' : zS) : Prop := ∀ q, (S q).1 ≠ 0 → S' q = S q
theorem zExt.refl (S : zS) : zExt S S := fun _ _ => rfl
theorem zExt.trans {S S' S'' : zS} (h : zExt S S') (g : zExt S' S'') : zExt S S'' := fun q hq => by rw [g q (by rw [h q hq]; exact hq), h q hq]
theorem zExt.s {S S' : zS} (e : zExt S S') {a k n : Int} (h : S a = (k, n)) (hk : k ≠ 0) : S' a = (k, n) := by rw [e a (by rw [h]; exact hk)]; exact h
theorem zExt.new {S S' : zS} {r : Int} {c : Int × Int} (hr : (S r).1 = 0) (e : S' = zSn S r c) : zExt S S' := fun q hq => by
  rw [e, zSn_ne _ _ (fun z => by rw [z] at hq; exact hq hr)]
theorem zPA.ext {S S' : zS} {V : zH} {p : Int} (e : zExt S S') (H : zPA S V p) : zPA S' V p := by
  obtain ⟨h0, h1, h2, h3, h4, h5, h6, h7, r⟩ := H
  exact ⟨e.s h0 (by decide), e.s h1 (by decide), e.s h2 (by decide), e.s h3 (by decide), e.s h4 (by decide), e.s h5 (by decide), e.s h6 (by decide), e.s h7 (by decide), r⟩
theorem zPl.ext {S S' : zS} {V : zH} {p : Int} {P : zP} (e : zExt S S') (H : zPl S V p P) : zPl S' V p P := ⟨H.1.ext e, H.2⟩
theorem zBd.ext {S S' : zS} {V : zH} {b : Int} {B : zB} (e : zExt S S') (H : zBd S V b B) : zBd S' V b B := ⟨⟨e.s H.1.1 (by decide), e.s H.1.2.1 (by decide), H.1.2.2⟩, H.2⟩
theorem zHi.ext {S S' : zS} {V : zH} {h : Int} {P : zP} {n : Int} {Hs : Int → zP} (e : zExt S S') (H : zHi S V h P n Hs) : zHi S' V h P n Hs := by
  obtain ⟨⟨⟨a0, a1, a2, a3⟩, b⟩, c⟩ := H
  exact ⟨⟨⟨e.s a0 (by decide), e.s a1 (by decide), e.s a2 (by decide), e.s a3 (by decide)⟩, b⟩, c⟩
theorem zTo.ext {S S' : zS} {V : zH} {t : Int} {T : zT} (e : zExt S S') (H : zTo S V t T) : zTo S' V t T := ⟨⟨e.s H.1.1 (by decide), e.s H.1.2.1 (by decide), H.1.2.2⟩, H.2⟩
theorem zLi.ext {S S' : zS} {V : zH} {x ls n : Int} {f : Int → Int} (e : zExt S S') (H : zLi S V x ls n f) : zLi S' V x ls n f := ⟨⟨e.s H.1.1 (by decide), H.1.2⟩, H.2⟩
theorem zFA.ext {S S' : zS} {V : zH} {fm la wk : Int} (e : zExt S S') (H : zFA S V fm la wk) : zFA S' V fm la wk := by
  obtain ⟨⟨a0, a1, a2, a3, a4⟩, b⟩ := H
  exact ⟨⟨e.s a0 (by decide), e.s a1 (by decide), e.s a2 (by decide), e.s a3 (by decide), e.s a4 (by decide)⟩, b⟩
theorem zSoA.ext {S S' : zS} {V : zH} {p so : Int} (e : zExt S S') (H : zSoA S V p so) : zSoA S' V p so := by
  obtain ⟨⟨a0, a1, a2, a3⟩, b, c⟩ := H
  exact ⟨⟨e.s a0 (by decide), e.s a1 (by decide), e.s a2 (by decide), e.s a3 (by decide)⟩, b, c.ext e⟩
theorem zSeA.ext {S S' : zS} {V : zH} {so se : Int} (e : zExt S S') (H : zSeA S V so se) : zSeA S' V so se := by
  obtain ⟨⟨a0, a1, a2, a3, a4, a5, a6⟩, b⟩ := H
  exact ⟨⟨e.s a0 (by decide), e.s a1 (by decide), e.s a2 (by decide), e.s a3 (by decide), e.s a4 (by decide), e.s a5 (by decide), e.s a6 (by decide)⟩, b⟩
theorem zSo.ext {S S' : zS} {V : zH} {p lo so kb : Int} {P : zP} (e : zExt S S') (H : zSo S V p lo so kb P) : zSo S' V p lo so kb P := by
  obtain ⟨h1, h2, h3, h4, h5, h6⟩ := H
  refine ⟨h1, h2.ext e, h3, h4, ?_, ?_⟩
  · rcases h5 with q | ⟨q1, q2, q3⟩
    · exact Or.inl q
    · exact Or.inr ⟨q1, q2.ext e, q3⟩
  · rcases h6 with q | ⟨q1, q2⟩
    · exact Or.inl q
    · exact Or.inr ⟨q1, q2.ext e⟩
theorem zSo.kb {S : zS} {V : zH} {p lo so r : Int} {P : zP} (H : zSo S V p lo so 0 P) (ht : ∀ q, (S q).1 ≠ 0 → q < r) : zSo S V p lo so r P := by
  obtain ⟨h1, h2, h3, h4, h5, h6⟩ := H
  refine ⟨⟨h1.1, Or.inr (Or.inl ?_)⟩, h2, h3, h4, ?_, ?_⟩
  · have := ht (so + 6 + 2) (by rw [h2.2.2.1.2.2.2.1]; decide)
    omega
  · rcases h5 with q | ⟨q1, q2, q3⟩
    · exact Or.inl q
    · refine Or.inr ⟨⟨q1.1, q1.2.1, Or.inr (Or.inl ?_)⟩, q2, q3⟩
      have := ht (V so 4 + 1 + 2) (by rw [q2.1.2.2.2.1]; decide)
      omega
  · rcases h6 with q | ⟨q1, q2⟩
    · exact Or.inl q
    · refine Or.inr ⟨⟨q1.1, q1.2.1, Or.inr (Or.inl ?_), q1.2.2.2⟩, q2⟩
      exact ht (V so 5 + 6) (by rw [q2.1.2.2.2.2.2.2]; decide)
theorem zKe.ext {S S' : zS} {V : zH} {lo kb : Int} {K : Option zP} (e : zExt S S') (H : zKe S V lo kb K) : zKe S' V lo kb K := by
  cases K with
  | none => exact H
  | some Q => exact ⟨H.1, H.2.ext e⟩
theorem zCl.ext {S S' : zS} {V : zH} {x w : Int} {s : zSig} (e : zExt S S') (H : zCl S V x s w) : zCl S' V x s w :=
  ⟨⟨e.s H.1.1 (by decide), H.1.2⟩, H.pl.ext e, H.bd.ext e, H.hi.ext e, H.to.ext e, H.li.ext e, H.tp, H.wi, H.ke.ext e, H.sv.imp id (fun z => z.ext e)⟩
def zKeep (s : zSig) : zSig := (gP s, gB s, (gn s, gH s), some (gP s), gT s, (gl s, gL s))
section CLOPS3
variable {E : zE} {S : zS} {V : zH} {x w : Int} {s : zSig}
/-- a kept plate's cells are taken, at kb, apart from all others -/
theorem zCl.kept (H : zCl S V x s w) {V' : zH} {kb : Int} (h6 : V' x 6 = kb) (hx : ∀ j, j ≠ 6 → V' x j = V x j) (hk : 0 < kb ∧ x + 32 ≤ kb) (hP : zPl S V' kb (gP s)) (h4 : 0 ≤ V' kb 4 ∧ V' kb 4 ≤ w + 1) (hf : ∀ q, q ≠ x → (q < kb ∨ kb + 7 < q) → V' q = V q) (hs : V x 7 = 0 ∨ zSo S V (x + 1) (x + 32) (V x 7) kb (gP s)) : zCl S V' x (zKeep s) (w + 1) := by
  have hw := H.wi
  refine ⟨⟨H.xa.1, by rw [hx 0 (by decide)]; exact H.v0, by rw [hx 1 (by decide)]; exact H.v1, by rw [hx 2 (by decide)]; exact H.v2, by rw [hx 3 (by decide)]; exact H.v3⟩, H.pl.congr (fun q _ _ => hf q (by omega) (by omega)), H.bd.congr (fun q _ _ => hf q (by omega) (by omega)), H.hi.congr (fun q _ _ => hf q (by omega) (by omega)), H.to.congr (fun q _ _ => hf q (by omega) (by omega)), ?_, H.tp, ⟨hw.1, by rw [hf (x + 1) (by omega) (by omega)]; omega, by rw [hf (x + 1) (by omega) (by omega)]; omega, fun _ => by rw [h6]; exact h4⟩, by rw [h6]; exact ⟨hk, hP⟩, ?_⟩
  · obtain ⟨⟨l1, l2⟩, l3, l4, l5⟩ := H.li
    exact ⟨⟨l1, by rw [hx 4 (by decide)]; exact l2⟩, by rw [hx 5 (by decide)]; exact l3, l4, fun i a b => by rw [hf (x + 17) (by omega) (by omega)]; exact l5 i a b⟩
  · rw [hx 7 (by decide), h6]
    rcases hs with z | z
    · exact Or.inl z
    · refine Or.inr (z.congr (fun q q1 q2 => hf q (by omega) (by omega)) (Or.inl ⟨by rw [hf (x + 1) (by omega) (by omega)], zSteq.refl _⟩))
theorem cl_keep (H : zCl S V x s w) (hw : w ≤ 90000) (hS : (S (x + 31)).1 ≠ 0) {mc ms : Nat} (hm : 8 ≤ mc ∧ 1524 ≤ ms) {F : Int → zS → zH → Prop} (h : ∀ S' V', zExt S S' → zCl S' V' x (zKeep s) (w + 1) → zFrm V V' x → F 1 S' V') : SaI E 2 mc ms zm_X7_keep [zrv x] S V F := by
  have hw' := H.wi
  have hk := H.ke
  refine en_X7_keep ⟨H.kx, fun z => ?_, fun z => ⟨by omega, fun r hr q S1 V1 s1 v1 => ?_⟩⟩
  · cases hK : gK s with
    | none => rw [hK] at hk; exact absurd hk (by show ¬ V x 6 = 0; omega)
    | some Q =>
      rw [hK] at hk
      obtain ⟨⟨k1, k2⟩, k3⟩ := hk
      rw [H.v0]
      refine ⟨k3.kp, sp_copyFrom k3.1 H.pl (by omega) (by have := hw'.2.2.2 z; omega) (fun V' p' w' o' => ⟨by omega, h S V' (zExt.refl S) ?_ (fun q _ _ => o' q (by omega))⟩)⟩
      have e0 : V' x = V x := o' x (by omega)
      refine H.kept (kb := V x 6) (by rw [e0]) (fun j _ => by rw [e0]) ⟨k1, k2⟩ p' (by have := hw'.2.2.2 z; omega) (fun q _ hq => o' q hq) H.sv
  · have top := fun q' hq' => (q.2 q' hq').1
    have rx := top _ hS
    have E1 : zExt S S1 := zExt.new q.1 s1
    have rS : S1 r = (6, 12) := by rw [s1, zSn_self]
    refine ⟨7, 1512, by omega, sp_plateInit rS (fun j => by rw [v1, zVn_self]) hr (fun q' hq' => ?_) (by omega) (fun S2 V2 p2 w2 sl vl tp => ?_)⟩
    · by_cases zq : q' = r
      · omega
      · rw [s1, zSn_ne _ _ zq] at hq'
        have := top q' hq'; omega
    · have E2 : zExt S S2 := fun q' hq' => by rw [sl q' (by have := top q' hq'; omega)]; exact E1 q' hq'
      have e2 : ∀ q', q' < r ∨ r + 7 < q' → V2 q' = V q' := fun q' hq' => by rw [vl q' hq', v1, zVn_row _ (by omega)]
      refine ⟨(H.ext E2).kx, fun V3 e3 => ⟨p2.kp, by omega, ?_⟩⟩
      rw [e2 x (by omega), H.v0]
      have f3 : ∀ q', q' ≠ x → V3 q' = V2 q' := fun q' hq' => by rw [e3, zput_row _ _ _ hq']
      have p3 : zPl S2 V3 r zP00 := p2.congr (fun q' _ _ => f3 q' (by omega))
      have H3 : zPl S2 V3 (x + 1) (gP s) := (H.pl.ext E2).congr (fun q' _ _ => by rw [f3 q' (by omega), e2 q' (by omega)])
      refine sp_copyFrom p3.1 H3 (by omega) (by rw [f3 r (by omega)]; omega) (fun V' p' w' o' => h S2 V' E2 ?_ (fun q' _ _ => ?_))
      · have ex : ∀ j, V' x j = if j = 6 then r else V x j := fun j => by
          rw [o' x (by omega), e3]; simp only [zput, true_and]; rw [e2 x (by omega)]
        refine (H.ext E2).kept (kb := r) (by rw [ex]; rfl) (fun j hj => by rw [ex, if_neg hj]) ⟨hr, by omega⟩ p' ?_ (fun q' q1 q2 => ?_) ?_
        · rw [w', f3 r (by omega), w2]; omega
        · rw [o' q' q2, f3 q' q1, e2 q' q2]
        · rcases H.sv with zs | zs
          · exact Or.inl zs
          · rw [z] at zs
            exact Or.inr ((zs.kb top).ext E2)
      · rw [o' q' (by omega), f3 q' (by omega), e2 q' (by omega)]
/-! check() -/
/-- the first of n that p holds of -/
def zFst (p : Int → Prop) (n i : Int) : Prop := (0 ≤ i ∧ i < n) ∧ p i ∧ ∀ j, 0 ≤ j → j < i → ¬ p j
theorem zFst.uniq {p : Int → Prop} {n i j : Int} (h : zFst p n i) (g : zFst p n j) : i = j := by
  obtain ⟨h1, h2, h3⟩ := h
  obtain ⟨g1, g2, g3⟩ := g
  rcases Int.lt_trichotomy i j with z | z | z
  · exact absurd h2 (g3 i h1.1 z)
  · exact z
  · exact absurd g2 (h3 j g1.1 z)
def zCkP (P : zP) (f : Int → Int) (a : Int) : Prop :=
  (∃ k, zFst (fun k => pkd P k = 3 ∧ f k ≠ 0) (pb P) k ∧ a = 200 + k) ∨ ((∀ k, 0 ≤ k → k < pb P → pkd P k = 3 → f k = 0) ∧ ((∃ i, zFst (fun i => zsum (fun k => f k * zstp P k i) (pb P) % pm P ≠ psh P i) (pn P) i ∧ a = 300 + i) ∨ ((∀ i, 0 ≤ i → i < pn P → zsum (fun k => f k * zstp P k i) (pb P) % pm P = psh P i) ∧ a = -1)))
def zCkW (P : zP) (f : Int → Int) (a : Int) : Prop :=
  (∃ k, zFst (fun k => pkd P k ≠ 3 ∧ zsum (fun i => f i * zstp P k i) (pn P) % pm P ≠ 0) (pb P) k ∧ a = 200 + k) ∨ ((∀ k, 0 ≤ k → k < pb P → pkd P k ≠ 3 → zsum (fun i => f i * zstp P k i) (pn P) % pm P = 0) ∧ a = if zsum (fun i => f i * psh P i) (pn P) % pm P = 0 then 300 else -1)
theorem zCkP.uniq {P : zP} {f : Int → Int} {a b : Int} (h : zCkP P f a) (g : zCkP P f b) : a = b := by
  rcases h with ⟨k, h1, h2⟩ | ⟨h0, ⟨i, h1, h2⟩ | ⟨h1, h2⟩⟩
  · rcases g with ⟨l, g1, g2⟩ | ⟨g0, -⟩
    · rw [h2, g2, h1.uniq g1]
    · exact absurd (g0 k h1.1.1 h1.1.2 h1.2.1.1) h1.2.1.2
  · rcases g with ⟨l, g1, g2⟩ | ⟨g0, ⟨j, g1, g2⟩ | ⟨g1, g2⟩⟩
    · exact absurd (h0 l g1.1.1 g1.1.2 g1.2.1.1) g1.2.1.2
    · rw [h2, g2, h1.uniq g1]
    · exact absurd (g1 i h1.1.1 h1.1.2) h1.2.1
  · rcases g with ⟨l, g1, g2⟩ | ⟨g0, ⟨j, g1, g2⟩ | ⟨g1, g2⟩⟩
    · exact absurd (h0 l g1.1.1 g1.1.2 g1.2.1.1) g1.2.1.2
    · exact absurd (h1 j g1.1.1 g1.1.2) g1.2.1
    · rw [h2, g2]
theorem zCkW.uniq {P : zP} {f : Int → Int} {a b : Int} (h : zCkW P f a) (g : zCkW P f b) : a = b := by
  rcases h with ⟨k, h1, h2⟩ | ⟨h1, h2⟩
  · rcases g with ⟨l, g1, g2⟩ | ⟨g1, -⟩
    · rw [h2, g2, h1.uniq g1]
    · exact absurd (g1 k h1.1.1 h1.1.2 h1.2.1.1) h1.2.1.2
  · rcases g with ⟨l, g1, g2⟩ | ⟨g1, g2⟩
    · exact absurd (h1 l g1.1.1 g1.1.2 g1.2.1.1) g1.2.1.2
    · rw [h2, g2]
/-- what check() answers -/
def zCk (s : zSig) (what a : Int) : Prop :=
  ((gl s ≠ (if what = 0 then pb (gP s) else pn (gP s)) ∨ ∃ i, 0 ≤ i ∧ i < gl s ∧ pm (gP s) ≤ gL s i) ∧ a = 100) ∨ ((gl s = (if what = 0 then pb (gP s) else pn (gP s)) ∧ ∀ i, 0 ≤ i → i < gl s → gL s i < pm (gP s)) ∧ (if what = 0 then zCkP (gP s) (gL s) a else zCkW (gP s) (gL s) a))
theorem zCk.uniq {s : zSig} {what a b : Int} (h : zCk s what a) (g : zCk s what b) : a = b := by
  rcases h with ⟨h1, h2⟩ | ⟨h1, h2⟩
  · rcases g with ⟨g1, g2⟩ | ⟨g1, g2⟩
    · rw [h2, g2]
    · rcases h1 with z | ⟨i, i1, i2, i3⟩
      · exact absurd g1.1 z
      · have := g1.2 i i1 i2; omega
  · rcases g with ⟨g1, g2⟩ | ⟨g1, g2⟩
    · rcases g1 with z | ⟨i, i1, i2, i3⟩
      · exact absurd h1.1 z
      · have := h1.2 i i1 i2; omega
    · by_cases z : what = 0
      · rw [if_pos z] at h2 g2; exact h2.uniq g2
      · rw [if_neg z] at h2 g2; exact h2.uniq g2
theorem sp_checkPushing (hx : (S x).1 = 10 ∧ V x 0 = x + 1 ∧ V x 4 = x + 17 ∧ S (x + 17) = (1, 36)) {P : zP} (HP : zPl S V (x + 1) P) {f : Int → Int} (hf : ∀ i, 0 ≤ i → i < pb P → V (x + 17) i = f i ∧ 0 ≤ f i ∧ f i ≤ 11) {F : Int → Prop} (h : ∀ a, zCkP P f a → F a) : SpF E 5 zm_X7_checkPushing [zrv x] S V F := by
  obtain ⟨x0, x1, x2, x3⟩ := hx
  have o1 := HP.ok.1
  have o4 := HP.ok.2.2.2.1
  refine en_X7_checkPushing (fun X => ?_)
  rw [x1, x2]
  refine ⟨x0, HP.kp, sp_firstStuck HP x3 (fun c => ⟨fun _ => ?_, fun q => absurd rfl q⟩) (fun k ka kb k3 kn kj => ⟨fun q => absurd q (by omega), fun _ => ⟨⟨by omega, by omega⟩, h _ (Or.inl ⟨k, ⟨⟨ka, kb⟩, ⟨k3, by rw [← (hf k ka kb).1]; exact kn⟩, fun j ja jb q => q.2 (by rw [← (hf j ja (by omega)).1]; exact kj j ja jb q.1)⟩, rfl⟩)⟩⟩)⟩
  have c' : ∀ k, 0 ≤ k → k < pb P → pkd P k = 3 → f k = 0 := fun k a b q => by rw [← (hf k a b).1]; exact c k a b q
  have es : ∀ i, zsum (fun k => V (x + 17) k * zstp P k i) (pb P) = zsum (fun k => f k * zstp P k i) (pb P) := fun i => zsum_congr (fun k a b => by rw [(hf k a b).1])
  have key := zdown (Q := fun i => (∀ j, 0 ≤ j → j < i → zsum (fun k => f k * zstp P k j) (pb P) % pm P = psh P j) → zl_X7_checkPushing_25 E X F S x i V) (N := pn P) (fun hj => ?_) (fun i a b ih hj => ?_) 0 (by omega) (by omega)
  · exact key (fun j _ _ => by omega)
  · refine wp_X7_checkPushing_25 ?_
    rw [x1, HP.n]
    exact ⟨x0, HP.kp, fun _ => h _ (Or.inr ⟨c', Or.inr ⟨hj, rfl⟩⟩), fun q => by omega⟩
  · refine wp_X7_checkPushing_25 ?_
    rw [x1, x2, HP.n, HP.v5, HP.s1, HP.sh ⟨a, b⟩]
    refine ⟨x0, HP.kp, fun q => by omega, fun _ => sp_patternAt HP x3 (fun k ka kb => by rw [(hf k ka kb).1]; exact (hf k ka kb).2) ⟨a, b⟩ ?_⟩
    rw [es]
    refine ⟨rfl, ⟨a, by show i < 36; omega⟩, fun z => ⟨⟨by omega, by omega⟩, ih (fun j ja jb => ?_)⟩, fun z => ⟨⟨by omega, by omega⟩, h _ (Or.inr ⟨c', Or.inl ⟨i, ⟨⟨a, b⟩, z, fun j ja jb q => q (hj j ja jb)⟩, rfl⟩⟩)⟩⟩
    by_cases hji : j = i
    · rw [hji]; exact z
    · exact hj j ja (by omega)
theorem sp_checkWeights (hx : (S x).1 = 10 ∧ V x 0 = x + 1 ∧ V x 4 = x + 17 ∧ S (x + 17) = (1, 36)) {P : zP} (HP : zPl S V (x + 1) P) {f : Int → Int} (hf : ∀ i, 0 ≤ i → i < pn P → V (x + 17) i = f i ∧ 0 ≤ f i ∧ f i ≤ 11) {F : Int → Prop} (h : ∀ a, zCkW P f a → F a) : SpF E 5 zm_X7_checkWeights [zrv x] S V F := by
  obtain ⟨x0, x1, x2, x3⟩ := hx
  have o1 := HP.ok.1
  have o4 := HP.ok.2.2.2.1
  refine en_X7_checkWeights (fun X => ?_)
  have es : ∀ k, zsum (fun i => V (x + 17) i * zstp P k i) (pn P) = zsum (fun i => f i * zstp P k i) (pn P) := fun k => zsum_congr (fun i a b => by rw [(hf i a b).1])
  have e0 : zsum (fun i => V (x + 17) (0 + i) * psh P i) (pn P) = zsum (fun i => f i * psh P i) (pn P) := zsum_congr (fun i a b => by rw [Int.zero_add, (hf i a b).1])
  have key := zdown (Q := fun i => (∀ k, 0 ≤ k → k < i → pkd P k ≠ 3 → zsum (fun i => f i * zstp P k i) (pn P) % pm P = 0) → zl_X7_checkWeights_2 E X F S x i V) (N := pb P) (fun hj => ?_) (fun i a b ih hj => ?_) 0 (by omega) (by omega)
  · exact key (fun j _ _ => by omega)
  · refine wp_X7_checkWeights_2 ?_
    rw [x1, x2, HP.b]
    refine ⟨x0, HP.kp, fun _ => sp_weighShown HP x3 (by omega) (fun i ia ib => by rw [Int.zero_add, (hf i ia ib).1]; exact (hf i ia ib).2) ?_, fun q => by omega⟩
    rw [e0]
    exact ⟨fun z => h _ (Or.inr ⟨hj, by rw [if_neg z]⟩), fun z => h _ (Or.inr ⟨hj, by rw [if_pos z]⟩)⟩
  · refine wp_X7_checkWeights_2 ?_
    rw [x1, x2, HP.b, HP.v6, HP.s2, (HP.bt ⟨a, b⟩).1]
    have nx : (pkd P i ≠ 3 → zsum (fun j => f j * zstp P i j) (pn P) % pm P = 0) → ∀ k, 0 ≤ k → k < i + 1 → pkd P k ≠ 3 → zsum (fun j => f j * zstp P k j) (pn P) % pm P = 0 := by
      intro q j ja jb
      by_cases hji : j = i
      · rw [hji]; exact q
      · exact hj j ja (by omega)
    refine ⟨x0, HP.kp, fun q => by omega, fun _ => ⟨rfl, ⟨a, by show i < 36; omega⟩, fun z => ⟨⟨by omega, by omega⟩, ih (nx (fun q => absurd z q))⟩, fun z => sp_weighSteps HP x3 (fun j ja jb => by rw [(hf j ja jb).1]; exact (hf j ja jb).2) ⟨a, b⟩ ?_⟩⟩
    rw [es]
    exact ⟨fun z1 => ⟨⟨by omega, by omega⟩, ih (nx (fun _ => z1))⟩, fun z1 => ⟨⟨by omega, by omega⟩, h _ (Or.inl ⟨i, ⟨⟨a, b⟩, ⟨z, z1⟩, fun j ja jb q => q.2 (hj j ja jb q.1)⟩, rfl⟩)⟩⟩
theorem cl_check (H : zCl S V x s w) {what : Int} {F : Int → zH → Prop} (h1 : what = 0 ∨ what = 1 → ∀ V' a, zCk s what a → zCl S V' x (zList0 s) (w + 1) → zFrm V V' x → F a V') (h0 : ¬ (what = 0 ∨ what = 1) → F (-2) V) : SpI E 6 zm_X7_check [zrv x, ziv what] S V F := by
  obtain ⟨⟨l1, l2⟩, l3, l4, l5⟩ := H.li
  have o1 := H.pl.ok.1
  have o4 := H.pl.ok.2.2.2.1
  refine en_X7_check (fun _ X => ?_)
  have key : what = 0 ∨ what = 1 → zl_X7_check_12 E X F S x what V := by
    intro hw
    refine wp_X7_check_12 ⟨H.kx, fun x2 e2 V4 e4 => ?_⟩
    rw [l3] at e2
    subst e2
    have f4 : ∀ q, q ≠ x → V4 q = V q := fun q hq => by rw [e4, zput_row _ _ _ hq]
    have ex : ∀ j, V4 x j = if j = 5 then 0 else V x j := fun j => by rw [e4]; simp only [zput, true_and]
    have P4 : zPl S V4 (x + 1) (gP s) := H.pl.congr (fun q _ _ => f4 q (by omega))
    have C4 : zCl S V4 x (zList0 s) (w + 1) := H.near (s' := zList0 s) (fun j hj => by rw [ex, if_neg hj]) P4 (H.bd.congr (fun q _ _ => f4 q (by omega))) (H.hi.congr (fun q _ _ => f4 q (by omega))) (H.to.congr (fun q _ _ => f4 q (by omega))) ⟨⟨l1, by rw [ex]; exact l2⟩, by rw [ex]; rfl, ⟨Int.le_refl 0, by show (0 : Int) ≤ 36; omega⟩, fun i a b => absurd b (by show ¬ i < 0; omega)⟩ H.tp rfl (Or.inl ⟨by rw [f4 (x + 1) (by omega)], zSteq.refl _⟩) (fun q hq => f4 q (by omega))
    have done : ∀ a, zCk s what a → F a V4 := fun a ha => h1 hw V4 a ha C4 (fun q _ _ => f4 q (by omega))
    have hx4 : (S x).1 = 10 ∧ V4 x 0 = x + 1 ∧ V4 x 4 = x + 17 ∧ S (x + 17) = (1, 36) := ⟨H.kx, by rw [ex]; exact H.v0, by rw [ex]; exact H.v4, l1⟩
    have hl : ∀ i, 0 ≤ i → i < gl s → V4 (x + 17) i = gL s i ∧ 0 ≤ gL s i ∧ gL s i ≤ 11 := fun i a b => by rw [f4 _ (by omega)]; exact l5 i a b
    rw [H.v0, H.v4, H.pl.n, H.pl.b]
    refine ⟨fun z => ⟨H.p, fun x8 e8 => ⟨fun c => done 100 (Or.inl ⟨Or.inl (by rw [if_neg z]; omega), rfl⟩), fun c => sp_allBelow P4 l1 (by omega) (fun c2 => ⟨fun _ => ⟨fun _ => ?_, fun q => absurd q z⟩, fun q => absurd q (by decide)⟩) (fun c2 => ⟨fun q => absurd rfl q, fun _ => ?_⟩)⟩⟩, fun z => ⟨H.p, fun x8 e8 => ⟨fun c => done 100 (Or.inl ⟨Or.inl (by rw [if_pos z]; omega), rfl⟩), fun c => sp_allBelow P4 l1 (by omega) (fun c2 => ⟨fun _ => ⟨fun q => absurd z q, fun _ => ?_⟩, fun q => absurd q (by decide)⟩) (fun c2 => ⟨fun q => absurd rfl q, fun _ => ?_⟩)⟩⟩⟩
    · refine sp_checkWeights hx4 P4 (fun i a b => hl i a (by omega)) (fun a ha => done a (Or.inr ⟨⟨by rw [if_neg z]; omega, fun i ia ib => by rw [← (hl i ia ib).1]; exact c2 i ia ib⟩, by rw [if_neg z]; exact ha⟩))
    · obtain ⟨i, ia, ib, ic⟩ := c2
      exact done 100 (Or.inl ⟨Or.inr ⟨i, ia, ib, by rw [← (hl i ia ib).1]; exact ic⟩, rfl⟩)
    · refine sp_checkPushing hx4 P4 (fun i a b => hl i a (by omega)) (fun a ha => done a (Or.inr ⟨⟨by rw [if_pos z]; omega, fun i ia ib => by rw [← (hl i ia ib).1]; exact c2 i ia ib⟩, by rw [if_pos z]; exact ha⟩))
    · obtain ⟨i, ia, ib, ic⟩ := c2
      exact done 100 (Or.inl ⟨Or.inr ⟨i, ia, ib, by rw [← (hl i ia ib).1]; exact ic⟩, rfl⟩)
  exact ⟨fun z => key (Or.inl z), fun z => ⟨fun z1 => key (Or.inr z1), fun z1 => h0 (by omega)⟩⟩
end CLOPS3
