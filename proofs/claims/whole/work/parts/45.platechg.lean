/-! THE CLASS'S PLATE: methods that change it -/
theorem zPA.frame {S : zS} {V V' : zH} {p : Int} (H : zPA S V p) (h : ∀ j, 5 ≤ j → j ≤ 11 → V' p j = V p j) : zPA S V' p := by
  obtain ⟨h0, h1, h2, h3, h4, h5, h6, h7, v5, v6, v7, v8, v9, v10, v11⟩ := H
  exact ⟨h0, h1, h2, h3, h4, h5, h6, h7, by rw [h 5 (by omega) (by omega)]; exact v5, by rw [h 6 (by omega) (by omega)]; exact v6, by rw [h 7 (by omega) (by omega)]; exact v7, by rw [h 8 (by omega) (by omega)]; exact v8, by rw [h 9 (by omega) (by omega)]; exact v9, by rw [h 10 (by omega) (by omega)]; exact v10, by rw [h 11 (by omega) (by omega)]; exact v11⟩
/-- a plate's cells are all that it depends on -/
theorem zPl.congr {S : zS} {V V' : zH} {p : Int} {P : zP} (H : zPl S V p P) (h : ∀ q, p ≤ q → q ≤ p + 7 → V' q = V q) : zPl S V' p P := by
  obtain ⟨HA, ⟨c0, c1, c2, c3, c4, c5⟩, Hok⟩ := H
  refine ⟨HA.frame (fun j _ _ => by rw [h p (by omega) (by omega)]), ⟨by rw [h p (by omega) (by omega)]; exact c0, by rw [h p (by omega) (by omega)]; exact c1, by rw [h p (by omega) (by omega)]; exact c2, by rw [h p (by omega) (by omega)]; exact c3, fun i a b => by rw [h (p + 1) (by omega) (by omega)]; exact c4 i a b, fun k a b => ?_⟩, Hok⟩
  obtain ⟨d1, d2, d3, d4, d5⟩ := c5 k a b
  refine ⟨by rw [h (p + 2) (by omega) (by omega)]; exact d1, fun z => ⟨by rw [h (p + 3) (by omega) (by omega)]; exact (d2 z).1, by rw [h (p + 4) (by omega) (by omega)]; exact (d2 z).2⟩, fun z => by rw [h (p + 5) (by omega) (by omega)]; exact d3 z, by rw [h (p + 6) (by omega) (by omega)]; exact d4, fun i ia ib => by rw [h (p + 7) (by omega) (by omega)]; exact d5 i ia ib⟩
/-- plates alike, where it matters -/
def zPeq (P Q : zP) : Prop :=
  pn P = pn Q ∧ pm P = pm Q ∧ pw P = pw Q ∧ pb P = pb Q ∧ (∀ i, 0 ≤ i → i < pn P → psh P i = psh Q i) ∧
  ∀ k, 0 ≤ k → k < pb P → pkd P k = pkd Q k ∧ (pkd P k ≠ 0 → ppa P k = ppa Q k ∧ pad P k = pad Q k) ∧ (pkd P k = 4 → pot P k = pot Q k) ∧ pco P k = pco Q k ∧ ∀ i, 0 ≤ i → i < pn P → pwi P k i = pwi Q k i
theorem zPeq.refl (P : zP) : zPeq P P := ⟨rfl, rfl, rfl, rfl, fun _ _ _ => rfl, fun _ _ _ => ⟨rfl, fun _ => ⟨rfl, rfl⟩, fun _ => rfl, rfl, fun _ _ _ => rfl⟩⟩
theorem zPeq.symm {P Q : zP} (h : zPeq P Q) : zPeq Q P := by
  obtain ⟨h1, h2, h3, h4, h5, h6⟩ := h
  refine ⟨h1.symm, h2.symm, h3.symm, h4.symm, fun i a b => (h5 i a (by omega)).symm, fun k a b => ?_⟩
  obtain ⟨d1, d2, d3, d4, d5⟩ := h6 k a (by omega)
  exact ⟨d1.symm, fun z => ⟨(d2 (by rw [d1]; exact z)).1.symm, (d2 (by rw [d1]; exact z)).2.symm⟩, fun z => (d3 (by rw [d1]; exact z)).symm, d4.symm, fun i ia ib => (d5 i ia (by omega)).symm⟩
theorem zPC.of_eq {V : zH} {p : Int} {P Q : zP} (H : zPC V p P) (h : zPeq P Q) : zPC V p Q := by
  obtain ⟨h1, h2, h3, h4, h5, h6⟩ := h
  obtain ⟨c0, c1, c2, c3, c4, c5⟩ := H
  refine ⟨by omega, by omega, by omega, by omega, fun i a b => by rw [c4 i a (by omega), h5 i a (by omega)], fun k a b => ?_⟩
  obtain ⟨d1, d2, d3, d4, d5⟩ := h6 k a (by omega)
  obtain ⟨e1, e2, e3, e4, e5⟩ := c5 k a (by omega)
  refine ⟨by rw [e1, d1], fun z => ?_, fun z => ?_, by rw [e4, d4], fun i ia ib => by rw [e5 i ia (by omega), d5 i ia (by omega)]⟩
  · have z' : pkd P k ≠ 0 := by rw [d1]; exact z
    exact ⟨by rw [(e2 z').1, (d2 z').1], by rw [(e2 z').2, (d2 z').2]⟩
  · have z' : pkd P k = 4 := by rw [d1]; exact z
    rw [e3 z', d3 z']
def zSetSh (P : zP) (f : Int → Int) : zP := (P.1, f, P.2.2)
theorem zstp_sh (P : zP) (f : Int → Int) (k i : Int) : zstp (zSetSh P f) k i = zstp P k i := rfl
theorem zPok.sh {P : zP} (h : zPok P) {f : Int → Int} (hf : ∀ i, 0 ≤ i → i < pn P → 0 ≤ f i ∧ f i < pm P) : zPok (zSetSh P f) :=
  ⟨h.1, h.2.1, h.2.2.1, h.2.2.2.1, hf, h.2.2.2.2.2⟩
section PLATECHG
variable {E : zE} {S : zS} {V : zH} {p : Int} {P : zP}
theorem zPl.setSh (H : zPl S V p P) {f g : Int → Int} (hg : ∀ i, 0 ≤ i → i < pn P → g i = f i) (hf : ∀ i, 0 ≤ i → i < pn P → 0 ≤ f i ∧ f i < pm P) : zPl S (zarr V (p + 1) g) p (zSetSh P f) := by
  have e : ∀ q, q ≠ p + 1 → zarr V (p + 1) g q = V q := fun q hq => zarr_ne V g hq
  refine ⟨H.1.frame (fun j _ _ => by rw [e p (by omega)]), ⟨by rw [e p (by omega)]; exact H.n, by rw [e p (by omega)]; exact H.m, by rw [e p (by omega)]; exact H.w, by rw [e p (by omega)]; exact H.b, fun i a b => by rw [zarr_self]; exact hg i a b, fun k a b => ?_⟩, H.ok.sh hf⟩
  obtain ⟨d1, d2, d3, d4, d5⟩ := H.bt ⟨a, b⟩
  exact ⟨by rw [e (p + 2) (by omega)]; exact d1, fun z => ⟨by rw [e (p + 3) (by omega)]; exact (d2 z).1, by rw [e (p + 4) (by omega)]; exact (d2 z).2⟩, fun z => by rw [e (p + 5) (by omega)]; exact d3 z, by rw [e (p + 6) (by omega)]; exact d4, fun i ia ib => by rw [e (p + 7) (by omega)]; exact d5 i ia ib⟩
theorem sp_turn (H : zPl S V p P) {i y : Int} {F : Int → zH → Prop} (hi : 0 ≤ i ∧ i < pn P) (hy : 0 ≤ y ∧ y ≤ 1000000) (h : F (if (psh P i + y) % pm P = psh P i then 0 else 1) (zput V (p + 1) i ((psh P i + y) % pm P))) : SpI E 0 zm_X3_turn [zrv p, ziv i, ziv y] S V F := by
  have o1 := H.ok.1
  have o2 := H.ok.2.1
  have b := H.ok.2.2.2.2.1 i hi.1 hi.2
  refine en_X3_turn (fun _ _ => ?_)
  simp only [H.kp, H.v5, H.s1, H.m, H.sh hi, true_and]
  refine ⟨⟨hi.1, by omega⟩, fun x hx => ?_⟩
  subst hx
  refine ⟨⟨by omega, by omega⟩, by omega, by omega, fun V9 e => ⟨fun c => ?_, fun c => ?_⟩⟩
  · rw [if_neg c] at h; rw [e]; exact h
  · rw [if_pos c] at h; rw [e]; exact h
/-- what the lamps show when s is added to each -/
def zAdd (P : zP) (s : Int → Int) : Int → Int := fun i => (psh P i + s i) % pm P
def zChg (P : zP) (s : Int → Int) : Int := zsum (fun i => if zAdd P s i = psh P i then 0 else 1) (pn P)
theorem zAdd_le {P : zP} (ok : zPok P) (s : Int → Int) (i : Int) : 0 ≤ zAdd P s i ∧ zAdd P s i < pm P := zmod_le _ (by have := ok.2.1; omega)
/-- the lamps up to i have got theirs -/
def zPart (P : zP) (s : Int → Int) (c : Int) : Int → Int := fun j => if 0 ≤ j ∧ j < c then zAdd P s j else psh P j
theorem zPart_le {P : zP} (ok : zPok P) (s : Int → Int) (c : Int) : ∀ i, 0 ≤ i → i < pn P → 0 ≤ zPart P s c i ∧ zPart P s c i < pm P := by
  intro i a b
  unfold zPart
  split
  · exact zAdd_le ok s i
  · exact ok.2.2.2.2.1 i a b
theorem zChg_le (P : zP) (s : Int → Int) {n : Int} (hn : 0 ≤ n) : 0 ≤ zsum (fun i => if zAdd P s i = psh P i then 0 else 1) n ∧ zsum (fun i => if zAdd P s i = psh P i then 0 else 1) n ≤ n := by
  have := zsum_le (f := fun i => if zAdd P s i = psh P i then 0 else 1) (c := 1) hn (fun j _ _ => by split <;> omega)
  omega
/-- the row of what is shown, in the heap, lamp by lamp -/
def zPartV (V : zH) (a : Int) (P : zP) (s : Int → Int) (c : Int) : Int → Int := fun j => if 0 ≤ j ∧ j < c then zAdd P s j else V a j
theorem sp_pushOne (H : zPl S V p P) {k t : Int} {F : Int → zH → Prop} (hk : 0 ≤ k ∧ k < pb P) (ht : 0 ≤ t) (h : F (zChg P (fun i => t % pm P * zstp P k i)) (zarr V (p + 1) (zPartV V (p + 1) P (fun i => t % pm P * zstp P k i) (pn P)))) : SpI E 4 zm_X3_pushOne [zrv p, ziv k, ziv t] S V F := by
  have o1 := H.ok.1
  have o2 := H.ok.2.1
  generalize hs : (fun i => t % pm P * zstp P k i) = s at h
  have tm := zmod_le t (show 0 < pm P by omega)
  have sb : ∀ i, 0 ≤ s i ∧ s i ≤ 121 := fun i => by
    have q := zstp_le H.ok k i
    have := zmul_le (a := t % pm P) (b := zstp P k i) (A := 11) (B := 11) ⟨tm.1, by omega⟩ ⟨q.1, by omega⟩
    rw [← hs]
    show 0 ≤ t % pm P * zstp P k i ∧ t % pm P * zstp P k i ≤ 121
    omega
  refine en_X3_pushOne (fun _ _ X => ?_)
  have key := zdown (Q := fun i => zl_X3_pushOne_5 E X F S p k t (zsum (fun i => if zAdd P s i = psh P i then 0 else 1) i) i (zarr V (p + 1) (zPartV V (p + 1) P s i))) (N := pn P) ?_ (fun i h0 h1 ih => ?_) 0 (by omega) (by omega)
  · rw [show zarr V (p + 1) (zPartV V (p + 1) P s 0) = V from (zarr_ext V _ (fun j => if_neg (by omega))).trans (zarr_id V _)] at key
    exact key
  · refine wp_X3_pushOne_5 ?_
    have Hi : zPl S (zarr V (p + 1) (zPartV V (p + 1) P s (pn P))) p (zSetSh P (zPart P s (pn P))) := H.setSh (fun j a b => by unfold zPartV zPart; rw [if_pos ⟨a, b⟩, if_pos ⟨a, b⟩]) (zPart_le H.ok s _)
    simp only [Hi.kp, Hi.n, true_and]
    exact ⟨fun _ => h, fun c => absurd c (by show ¬ pn P < pn P; omega)⟩
  · refine wp_X3_pushOne_5 ?_
    have Hi : zPl S (zarr V (p + 1) (zPartV V (p + 1) P s i)) p (zSetSh P (zPart P s i)) := H.setSh (fun j a b => by
      unfold zPartV zPart
      split
      · rfl
      · exact H.sh ⟨a, b⟩) (zPart_le H.ok s _)
    have b := zChg_le P s h0
    simp only [Hi.kp, Hi.n, Hi.m, true_and]
    refine ⟨fun c => absurd c (by show ¬ pn P ≤ i; omega), fun _ => ⟨ht, by show 0 < pm P; omega, sp_step Hi hk ⟨h0, h1⟩ ⟨?_, sp_turn Hi ⟨h0, h1⟩ ?_ ⟨?_, fun x hx => ⟨⟨by omega, by omega⟩, ?_⟩⟩⟩⟩⟩
    · have q : 0 ≤ t % pm P * zstp P k i ∧ t % pm P * zstp P k i ≤ 121 := by have := sb i; rw [← hs] at this; exact this
      show z32 (t % pm P * zstp P k i)
      exact ⟨by omega, by omega⟩
    · have q : 0 ≤ t % pm P * zstp P k i ∧ t % pm P * zstp P k i ≤ 121 := by have := sb i; rw [← hs] at this; exact this
      show 0 ≤ t % pm P * zstp P k i ∧ t % pm P * zstp P k i ≤ 1000000
      omega
    · split <;> exact ⟨by omega, by omega⟩
    · have e1 : psh (zSetSh P (zPart P s i)) i = psh P i := by
        show zPart P s i i = psh P i
        unfold zPart
        rw [if_neg (by omega)]
      have e2 : (psh (zSetSh P (zPart P s i)) i + t % pm (zSetSh P (zPart P s i)) * zstp (zSetSh P (zPart P s i)) k i) % pm (zSetSh P (zPart P s i)) = zAdd P s i := by
        rw [e1]
        show (psh P i + t % pm P * zstp P k i) % pm P = zAdd P s i
        unfold zAdd
        rw [← hs]
      rw [e2, e1] at hx
      rw [e2, zput_zarr V (g := zPartV V (p + 1) P s (i + 1))]
      · rw [zsum_s _ h0] at ih
        rw [hx]; exact ih
      · intro j
        unfold zPartV
        by_cases hj : j = i
        · rw [if_pos hj, if_pos (by omega), hj]
        · rw [if_neg hj]
          by_cases hj2 : 0 ≤ j ∧ j < i
          · rw [if_pos hj2, if_pos (by omega)]
          · rw [if_neg hj2, if_neg (by omega)]
theorem sp_pushAll (H : zPl S V p P) {t : Int} {F : Int → zH → Prop} (ht : S t = (1, 36)) (htp : t < p ∨ p + 7 < t) (hb : ∀ k, 0 ≤ k → k < pb P → 0 ≤ V t k ∧ V t k ≤ 11) (h : F (zChg P (fun i => zsum (fun k => V t k * zstp P k i) (pb P) % pm P)) (zarr V (p + 1) (zPartV V (p + 1) P (fun i => zsum (fun k => V t k * zstp P k i) (pb P) % pm P) (pn P)))) : SpI E 5 zm_X3_pushAll [zrv p, zrv t] S V F := by
  have o1 := H.ok.1
  have o2 := H.ok.2.1
  generalize hs : (fun i => zsum (fun k => V t k * zstp P k i) (pb P) % pm P) = s at h
  have sb : ∀ i, 0 ≤ s i ∧ s i < pm P := fun i => by rw [← hs]; exact zmod_le _ (by omega)
  refine en_X3_pushAll (fun X => ?_)
  have key := zdown (Q := fun i => zl_X3_pushAll_4 E X F S p t (zsum (fun i => if zAdd P s i = psh P i then 0 else 1) i) i (zarr V (p + 1) (zPartV V (p + 1) P s i))) (N := pn P) ?_ (fun i h0 h1 ih => ?_) 0 (by omega) (by omega)
  · rw [show zarr V (p + 1) (zPartV V (p + 1) P s 0) = V from (zarr_ext V _ (fun j => if_neg (by omega))).trans (zarr_id V _)] at key
    exact key
  · refine wp_X3_pushAll_4 ?_
    have Hi : zPl S (zarr V (p + 1) (zPartV V (p + 1) P s (pn P))) p (zSetSh P (zPart P s (pn P))) := H.setSh (fun j a b => by unfold zPartV zPart; rw [if_pos ⟨a, b⟩, if_pos ⟨a, b⟩]) (zPart_le H.ok s _)
    simp only [Hi.kp, Hi.n, true_and]
    exact ⟨fun _ => h, fun c => absurd c (by show ¬ pn P < pn P; omega)⟩
  · refine wp_X3_pushAll_4 ?_
    have Hi : zPl S (zarr V (p + 1) (zPartV V (p + 1) P s i)) p (zSetSh P (zPart P s i)) := H.setSh (fun j a b => by
      unfold zPartV zPart
      split
      · rfl
      · exact H.sh ⟨a, b⟩) (zPart_le H.ok s _)
    have b := zChg_le P s h0
    have et : zarr V (p + 1) (zPartV V (p + 1) P s i) t = V t := zarr_ne V _ (by omega)
    simp only [Hi.kp, Hi.n, true_and]
    refine ⟨fun c => absurd c (by show ¬ pn P ≤ i; omega), fun _ => sp_patternAt Hi ht (by rw [et]; exact hb) ⟨h0, h1⟩ (sp_turn Hi ⟨h0, h1⟩ ?_ ⟨?_, fun x hx => ⟨⟨by omega, by omega⟩, ?_⟩⟩)⟩
    · have q := zmod_le (zsum (fun k => zarr V (p + 1) (zPartV V (p + 1) P s i) t k * zstp (zSetSh P (zPart P s i)) k i) (pb (zSetSh P (zPart P s i)))) (show 0 < pm (zSetSh P (zPart P s i)) by show 0 < pm P; omega)
      have q2 : pm (zSetSh P (zPart P s i)) ≤ 12 := o2.2
      omega
    · split <;> exact ⟨by omega, by omega⟩
    · have e1 : psh (zSetSh P (zPart P s i)) i = psh P i := by
        show zPart P s i i = psh P i
        unfold zPart
        rw [if_neg (by omega)]
      have e2 : (psh (zSetSh P (zPart P s i)) i + zsum (fun k => zarr V (p + 1) (zPartV V (p + 1) P s i) t k * zstp (zSetSh P (zPart P s i)) k i) (pb (zSetSh P (zPart P s i))) % pm (zSetSh P (zPart P s i))) % pm (zSetSh P (zPart P s i)) = zAdd P s i := by
        rw [e1, et]
        show (psh P i + zsum (fun k => V t k * zstp P k i) (pb P) % pm P) % pm P = zAdd P s i
        unfold zAdd
        rw [← hs]
      rw [e2, e1] at hx
      rw [e2, zput_zarr V (g := zPartV V (p + 1) P s (i + 1))]
      · rw [zsum_s _ h0] at ih
        rw [hx]; exact ih
      · intro j
        unfold zPartV
        by_cases hj : j = i
        · rw [if_pos hj, if_pos (by omega), hj]
        · rw [if_neg hj]
          by_cases hj2 : 0 ≤ j ∧ j < i
          · rw [if_pos hj2, if_pos (by omega)]
          · rw [if_neg hj2, if_neg (by omega)]
end PLATECHG
