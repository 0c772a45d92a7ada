/-! THE CLASS'S PLATE: chase, a new plate, a copy, buttons -/
/-- chase(): how many pushes, and what is shown, when j lamps below the first row are done -/
def zchN (P : zP) : Nat → Int × (Int → Int)
  | 0 => (0, psh P)
  | j + 1 => if (zchN P j).2 j = 0 then zchN P j else ((zchN P j).1 + (pm P - (zchN P j).2 j), zAdd (zSetSh P (zchN P j).2) (fun i => (pm P - (zchN P j).2 j) % pm P * zstp P (pw P + j) i))
def zch (P : zP) (i : Int) : Int × (Int → Int) := zchN P (i - pw P).toNat
theorem zch_0 (P : zP) : zch P (pw P) = (0, psh P) := by unfold zch; rw [show (pw P - pw P).toNat = 0 by omega]; rfl
theorem zch_s {P : zP} {i : Int} (h : pw P ≤ i) : zch P (i + 1) = if (zch P i).2 (i - pw P) = 0 then zch P i else ((zch P i).1 + (pm P - (zch P i).2 (i - pw P)), zAdd (zSetSh P (zch P i).2) (fun j => (pm P - (zch P i).2 (i - pw P)) % pm P * zstp P i j)) := by
  unfold zch
  rw [show (i + 1 - pw P).toNat = (i - pw P).toNat + 1 by omega]
  show (if (zchN P (i - pw P).toNat).2 (((i - pw P).toNat : Nat) : Int) = 0 then _ else _) = _
  rw [show (((i - pw P).toNat : Nat) : Int) = i - pw P by omega, show pw P + (i - pw P) = i by omega]
theorem zch_le {P : zP} (ok : zPok P) {i : Int} (hi : pw P ≤ i) (hn : i ≤ pn P) : (0 ≤ (zch P i).1 ∧ (zch P i).1 ≤ 432) ∧ ∀ j, 0 ≤ j → j < pn P → 0 ≤ (zch P i).2 j ∧ (zch P i).2 j < pm P := by
  have o1 := ok.1
  have o2 := ok.2.1
  have o3 := ok.2.2.1
  have key : ∀ t : Nat, pw P + t ≤ pn P → (0 ≤ (zchN P t).1 ∧ (zchN P t).1 ≤ (t : Int) * 12) ∧ ∀ j, 0 ≤ j → j < pn P → 0 ≤ (zchN P t).2 j ∧ (zchN P t).2 j < pm P := by
    intro t
    induction t with
    | zero => intro _; exact ⟨⟨by show (0 : Int) ≤ 0; omega, by show (0 : Int) ≤ 0 * 12; omega⟩, ok.2.2.2.2.1⟩
    | succ t ih =>
      intro ht
      obtain ⟨h1, h2⟩ := ih (by omega)
      unfold zchN
      split
      · exact ⟨by omega, h2⟩
      · refine ⟨?_, fun j _ _ => zAdd_le (ok.sh h2) (fun i => (pm P - (zchN P t).2 t) % pm P * zstp P (pw P + t) i) j⟩
        have := h2 t (by omega) (by omega)
        dsimp only
        omega
  have h := key (i - pw P).toNat (by omega)
  refine ⟨?_, h.2⟩
  have h1 := h.1
  show 0 ≤ (zchN P (i - pw P).toNat).1 ∧ (zchN P (i - pw P).toNat).1 ≤ 432
  omega
/-- only the cells lo .. hi have changed -/
def zOff (V V' : zH) (lo hi : Int) : Prop := ∀ q, q < lo ∨ hi < q → V' q = V q
theorem zOff.refl (V : zH) (lo hi : Int) : zOff V V lo hi := fun _ _ => rfl
theorem zOff.arr (V : zH) {a lo hi : Int} (f : Int → Int) (h : lo ≤ a ∧ a ≤ hi) : zOff V (zarr V a f) lo hi := fun q hq => zarr_ne V f (by omega)
theorem zOff.put (V : zH) {a lo hi : Int} (k x : Int) (h : lo ≤ a ∧ a ≤ hi) : zOff V (zput V a k x) lo hi := fun q hq => zput_row V k x (by omega)
theorem zOff.trans {V V' V'' : zH} {lo hi : Int} (h1 : zOff V V' lo hi) (h2 : zOff V' V'' lo hi) : zOff V V'' lo hi := fun q hq => (h2 q hq).trans (h1 q hq)
theorem zOff.mono {V V' : zH} {lo hi lo' hi' : Int} (h : zOff V V' lo hi) (h1 : lo' ≤ lo) (h2 : hi ≤ hi') : zOff V V' lo' hi' := fun q hq => h q (by omega)
section PLATECHG2
variable {E : zE} {S : zS} {V : zH} {p : Int} {P : zP}
theorem sp_push (H : zPl S V p P) {k t : Int} {F : Int → zH → Prop} (hk : 0 ≤ k ∧ k < pb P) (ht : 0 ≤ t) (h : ∀ g, (∀ i, 0 ≤ i → i < pn P → g i = zAdd P (fun i => t % pm P * zstp P k i) i) → F (zChg P (fun i => t % pm P * zstp P k i)) (zarr V (p + 1) g)) : SpI E 4 zm_X3_pushOne [zrv p, ziv k, ziv t] S V F :=
  sp_pushOne H hk ht (h _ (fun i a b => by unfold zPartV; rw [if_pos ⟨a, b⟩]))
theorem sp_chase (H : zPl S V p P) (hc : zChase P) {F : Int → zH → Prop} (h : ∀ g, (∀ i, 0 ≤ i → i < pn P → g i = (zch P (pn P)).2 i) → F (zch P (pn P)).1 (zarr V (p + 1) g)) : SpI E 5 zm_X3_chaseDown [zrv p] S V F := by
  have o1 := H.ok.1
  have o2 := H.ok.2.1
  have o3 := H.ok.2.2.1
  refine en_X3_chaseDown (fun X => ⟨H.kp, fun x hx => ?_⟩)
  rw [H.w] at hx
  subst hx
  have key := zdownFrom (Q := fun i => ∀ g, (∀ j, 0 ≤ j → j < pn P → g j = (zch P i).2 j) → zl_X3_chaseDown_7 E X F S p (zch P i).1 i (zarr V (p + 1) g)) (c := pw P) (N := pn P) (fun g hg => ?_) (fun i h0 h1 ih g hg => ?_) (pw P) (by omega) (by omega)
  · have := key (V (p + 1)) (fun j a b => by rw [zch_0]; exact H.sh ⟨a, b⟩)
    rw [zch_0, zarr_id] at this
    exact this
  · refine wp_X3_chaseDown_7 ?_
    have Hi := H.setSh hg (zch_le H.ok (by omega) (by omega)).2
    simp only [Hi.kp, Hi.n, true_and]
    exact ⟨fun _ => h g hg, fun c => absurd c (by show ¬ pn P < pn P; omega)⟩
  · refine wp_X3_chaseDown_7 ?_
    have Hb := zch_le H.ok h0 (by omega)
    have Hi := H.setSh hg Hb.2
    have e1 : zarr V (p + 1) g (p + 1) (i - pw P) = (zch P i).2 (i - pw P) := by rw [zarr_self]; exact hg _ (by omega) (by omega)
    have hz := Hb.2 (i - pw P) (by omega) (by omega)
    have hs := zch_s h0
    have e0 : pw (zSetSh P (zch P i).2) = pw P := rfl
    simp only [Hi.kp, Hi.n, Hi.m, Hi.w, Hi.v5, Hi.s1, e0, e1, true_and]
    refine ⟨fun c => absurd c (by show ¬ pn P ≤ i; omega), fun _ => ⟨⟨by omega, by omega⟩, ⟨by omega, by omega⟩, fun x hx => ?_⟩⟩
    subst hx
    refine ⟨fun z => ⟨⟨by omega, by omega⟩, ?_⟩, fun z => ⟨⟨by show _ ≤ pm P - _; omega, by show pm P - _ < _; omega⟩, sp_push Hi ⟨by omega, by show i < pb P; rw [hc.1]; exact h1⟩ (by show 0 ≤ pm P - _; omega) (fun g2 hg2 => ?_)⟩⟩
    · rw [if_pos z] at hs
      rw [hs] at ih
      exact ih g hg
    · rw [if_neg z] at hs
      rw [hs] at ih
      have e2 : zarr (zarr V (p + 1) g) (p + 1) g2 p 1 = pm P := by rw [zarr_ne _ _ (by omega), zarr_ne _ _ (by omega)]; exact H.m
      rw [e2]
      refine ⟨⟨by omega, by omega⟩, ⟨by omega, by omega⟩, fun x hx => ⟨⟨by omega, by omega⟩, ?_⟩⟩
      rw [zarr_zarr, hx]
      exact ih g2 hg2
/-- a new plate: nothing is shown, there is no button -/
def zNewP (n m w : Int) (P : zP) : zP := ((n, m, w, 0), (fun _ => 0), P.2.2)
theorem zNewP_ok {n m w : Int} (P : zP) (h1 : 1 ≤ n ∧ n ≤ 36) (h2 : 2 ≤ m ∧ m ≤ 12) (h3 : 1 ≤ w ∧ w ≤ n) : zPok (zNewP n m w P) :=
  ⟨h1, h2, h3, ⟨Int.le_refl 0, by show (0 : Int) ≤ 36; omega⟩, fun i _ _ => ⟨Int.le_refl 0, by show (0 : Int) < m; omega⟩, fun k a b => absurd b (by show ¬ k < 0; omega)⟩
theorem sp_makeNew (H : zPl S V p P) {n m w : Int} {F : zH → Prop} (h1 : 1 ≤ n ∧ n ≤ 36) (h2 : 2 ≤ m ∧ m ≤ 12) (h3 : 1 ≤ w ∧ w ≤ n) (hw : 0 ≤ V p 4 ∧ V p 4 ≤ 100000) (h : ∀ V', zPl S V' p (zNewP n m w P) → V' p 4 = V p 4 + 1 → zOff V V' p (p + 7) → F V') : SpV E 1 zm_X3_makeNew [zrv p, ziv n, ziv m, ziv w] S V F := by
  refine en_X3_makeNew (fun _ _ _ => ?_)
  simp only [H.kp, H.v5, true_and]
  intro V2 e2 V4 e4 V6 e6 V8 e8
  refine ⟨⟨by omega, by omega⟩, fun V11 e11 => ?_⟩
  refine sp_fill H.s1 ⟨by omega, by omega⟩ ?_
  have ev : V11 = zput (zput (zput (zput (zput V p 0 n) p 1 m) p 2 w) p 3 0) p 4 (V p 4 + 1) := by rw [e11, e8, e6, e4, e2]
  have hp : ∀ j, V11 p j = if j = 4 then V p 4 + 1 else if j = 3 then 0 else if j = 2 then w else if j = 1 then m else if j = 0 then n else V p j := by
    intro j
    rw [ev]
    simp only [zput, true_and]
  have hq : ∀ q, q ≠ p → V11 q = V q := by
    intro q hq
    rw [ev]
    simp only [zput_row _ _ _ hq]
  have hp' : ∀ j, zarr V11 (p + 1) (fun j => if 0 ≤ j ∧ j < 36 then 0 else V11 (p + 1) j) p j = V11 p j := fun j => by rw [zarr_ne _ _ (by omega)]
  refine h _ ⟨H.1.frame (fun j a b => ?_), ⟨?_, ?_, ?_, ?_, fun i a b => ?_, fun k a b => absurd b (by show ¬ k < 0; omega)⟩, zNewP_ok P h1 h2 h3⟩ ?_ (fun q hq2 => ?_)
  · rw [hp', hp]; simp (disch := omega) only [if_neg]
  · rw [hp', hp]; rfl
  · rw [hp', hp]; rfl
  · rw [hp', hp]; rfl
  · rw [hp', hp]; rfl
  · rw [zarr_self]
    have : i < n := b
    rw [if_pos (by omega)]; rfl
  · rw [hp', hp]; rfl
  · rw [zarr_ne _ _ (by omega), hq q (by omega)]
end PLATECHG2
