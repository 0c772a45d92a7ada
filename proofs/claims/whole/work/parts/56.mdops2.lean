/-! THE REFERENCE: more of its calls -/
section MDOPS2
variable {E : zE} {S : zS} {V : zH} {o : Int} {s : zSig}
theorem md_chase (H : zMd S V o s) {F : Int → zH → Prop} (h1 : zChase (gP s) → ∀ V', zMd S V' o (zAct s (zSetSh (gP s) (zch (gP s) (pn (gP s))).2)) → zFro V V' o → F (zch (gP s) (pn (gP s))).1 V') (h0 : ¬ zChase (gP s) → F (-1) V) : SpI E 5 zm_X8_chase [zrv o] S V F := by
  have M := H.mo
  generalize hP : gP s = P at *
  have o1 := M.ok.1
  have o2 := M.ok.2.1
  have o3 := M.ok.2.2.1
  have o4 := M.ok.2.2.2.1
  refine en_X8_chase (fun X => ⟨M.ko, s8_b M (s8_n M ?_)⟩)
  have bad : ¬ zChase P → ∀ i, zl_X8_chase_19 E X F S o 0 i V := by
    intro nc i
    refine wp_X8_chase_19 ⟨M.ko, s8_n M ⟨fun _ => ⟨fun q => absurd rfl q, fun _ => h0 nc⟩, fun _ => ⟨fun _ => ⟨fun q => absurd rfl q, fun _ => h0 nc⟩, fun q => absurd rfl q⟩⟩⟩
  refine ⟨fun c => bad (fun q => c q.1) 0, fun c => ?_⟩
  have run : zChase P → SpV E 0 zm_X8_act [zrv o] S V (fun V7 => SpF E 0 zm_X8_w [zrv o] S V7 (fun x8 => zl_X8_chase_99 E X F S o 0 x8 V7)) := by
    intro hc
    refine md_act H (fun V1 f1 g1 hh h19 => ?_)
    have M1 : zMo S V1 o P := by rw [← hP] at M ⊢; exact M.acted f1 g1
    refine s8_w M1 ?_
    have e0 : V1 o = V1 o := rfl
    have key := zdownFrom (Q := fun i => ∀ g, zMo S (zarr V1 (o + 1) g) o (zSetSh P (zch P i).2) → zl_X8_chase_99 E X F S o (zch P i).1 i (zarr V1 (o + 1) g)) (c := pw P) (N := pn P) (fun g Mg => ?_) (fun i a b ih g Mg => ?_) (pw P) (by omega) (by omega)
    · have := key (V1 (o + 1)) (by
        rw [zarr_id, zch_0]
        exact M1)
      rw [zarr_id, zch_0] at this
      exact this
    · refine wp_X8_chase_99 ⟨M.ko, s8_n Mg ⟨fun _ => ?_, fun q => absurd q (by show ¬ pn P < pn P; omega)⟩⟩
      refine h1 hc _ ?_ (fun q hq => by rw [zarr_ne _ _ (by omega), f1 q (by omega) (by omega)])
      exact H.act f1 g1 hh h19 (fun q hq => zarr_ne _ _ hq) Mg.2.1 Mg.ok
    · have lb := zch_le M.ok a (by omega)
      have lv := lb.2 (i - pw P) (by omega) (by omega)
      have ev : zarr V1 (o + 1) g (o + 1) (4 + i - pw P) = (zch P i).2 (i - pw P) := by
        have := Mg.sh (i := i - pw P) ⟨by omega, by show i - pw P < pn P; omega⟩
        rw [show 4 + (i - pw P) = 4 + i - pw P by omega] at this
        exact this
      have hs := zch_s (P := P) a
      refine wp_X8_chase_99 ⟨M.ko, s8_n Mg ⟨fun q => absurd q (by show ¬ pn P ≤ i; omega), fun _ => ⟨⟨by omega, by omega⟩, s8_w Mg ⟨?_, ?_⟩⟩⟩⟩
      · show z32 (4 + i - pw P)
        exact ⟨by omega, by omega⟩
      · rw [Mg.f0, Mg.t1]
        refine ⟨rfl, ⟨by show 0 ≤ 4 + i - pw P; omega, by show 4 + i - pw P < 1516; omega⟩, fun x11 e11 => ?_⟩
        have e11' : x11 = (zch P i).2 (i - pw P) := by rw [e11]; exact ev
        clear e11
        subst e11'
        refine ⟨fun z => ⟨⟨by omega, by omega⟩, ?_⟩, fun z => s8_m Mg ⟨?_, ?_, fun x19 e19 => s8_m Mg ⟨?_, md_pushed Mg ⟨by omega, by show i < pb P; omega⟩ (by show 0 ≤ pm P - _; omega) (fun g2 M2 => ⟨⟨by omega, by omega⟩, ?_⟩)⟩⟩⟩
        · rw [if_pos z] at hs
          rw [← hs]
          exact ih g (by rw [hs]; exact Mg)
        · show z32 (pm P - _)
          exact ⟨by omega, by omega⟩
        · show z32 (_ + (pm P - _))
          exact ⟨by omega, by omega⟩
        · show z32 (pm P - _)
          exact ⟨by omega, by omega⟩
        · rw [if_neg z] at hs
          rw [zarr_zarr]
          rw [zarr_zarr] at M2
          have e19' : x19 = (zch P (i + 1)).1 := by rw [e19, hs]; rfl
          rw [e19']
          refine ih g2 ?_
          rw [hs]
          exact M2
  have key := zdown (Q := fun i => (∀ k, 0 ≤ k → k < i → pkd P k = 1 ∧ ppa P k = k ∧ pad P k = 1) → zl_X8_chase_19 E X F S o 1 i V) (N := pn P) (fun hj => ?_) (fun i a b ih hj => ?_) 0 (by omega) (by omega)
  · exact key (fun k _ _ => by omega)
  · have hc : zChase P := ⟨c, fun k a b => hj k a (by omega)⟩
    exact wp_X8_chase_19 ⟨M.ko, s8_n M ⟨fun _ => ⟨fun _ => run hc, fun q => absurd q (by decide)⟩, fun q => by omega⟩⟩
  · obtain ⟨d1, d2, -⟩ := M.bt (k := i) ⟨a, by omega⟩
    refine wp_X8_chase_19 ⟨M.ko, s8_n M ⟨fun q => by omega, fun _ => ⟨fun q => absurd q (by decide), fun _ => ?_⟩⟩⟩
    rw [M.f0, M.t1, d1]
    refine ⟨⟨by omega, by omega⟩, rfl, ⟨by omega, by show 40 + i < 1516; omega⟩, fun z => ⟨⟨by omega, by omega⟩, bad (fun q => z (q.2 i a (by omega)).1) _⟩, fun z => ?_⟩
    have d2' := d2 (by omega)
    rw [d2'.1, d2'.2]
    refine ⟨⟨by omega, by omega⟩, ⟨by omega, by show 76 + i < 1516; omega⟩, fun z2 => ⟨⟨by omega, by omega⟩, bad (fun q => z2 (q.2 i a (by omega)).2.1) _⟩, fun z2 => ⟨⟨by omega, by omega⟩, ⟨by omega, by show 112 + i < 1516; omega⟩, fun z3 => ⟨⟨by omega, by omega⟩, bad (fun q => z3 (q.2 i a (by omega)).2.2) _⟩, fun z3 => ⟨⟨by omega, by omega⟩, ih (fun k ka kb => ?_)⟩⟩⟩
    by_cases hk : k = i
    · rw [hk]; exact ⟨z, z2, z3⟩
    · exact hj k ka (by omega)
theorem md_button (H : zMd S V o s) {kind a b other : Int} {F : Int → zH → Prop} (h1 : pb (gP s) < 36 ∧ zTakes (gP s) kind a b other → ∀ V', zMd S V' o (zAct s (zAddB (gP s) kind a b other)) → zFro V V' o → F (pb (gP s)) V') (h0 : ¬ (pb (gP s) < 36 ∧ zTakes (gP s) kind a b other) → F (-1) V) : SpI E 2 zm_X8_button [zrv o, ziv kind, ziv a, ziv b, ziv other] S V F := by
  have M := H.mo
  generalize hP : gP s = P at *
  have o1 := M.ok.1
  have o2 := M.ok.2.1
  have o4 := M.ok.2.2.2.1
  refine en_X8_button (fun _ _ _ _ X => ?_)
  have run : pb P < 36 → zTakes P kind a b other → zl_X8_button_105 E X F S o kind a b other V := by
    intro hb ht
    refine wp_X8_button_105 ⟨M.ko, md_act H (fun V1 f1 g1 hh h19 => ?_)⟩
    have M1 : zMo S V1 o P := by rw [← hP] at M ⊢; exact M.acted f1 g1
    refine s8_b M1 ?_
    have fin : ∀ c2 c3 c4 V5, (kind ≠ 0 → c2 = a ∧ c3 = b) → (kind = 4 → c4 = other) → V5 = zput (zput (zput (zput (zput (zput V1 (o + 1) 3 (pb P + 1)) (o + 1) (40 + pb P) kind) (o + 1) (76 + pb P) c2) (o + 1) (112 + pb P) c3) (o + 1) (148 + pb P) c4) (o + 1) (184 + pb P) 1 → zl_X8_button_211 E X F S o (pb P) 0 V5 := by
      intro c2 c3 c4 V5 k2 k4 e5
      have r5 : ∀ q, q ≠ o + 1 → V5 q = V1 q := fun q hq => by rw [e5]; simp only [zput_row _ _ _ hq]
      have p5 : ∀ j, V5 (o + 1) j = if j = 184 + pb P then 1 else if j = 148 + pb P then c4 else if j = 112 + pb P then c3 else if j = 76 + pb P then c2 else if j = 40 + pb P then kind else if j = 3 then pb P + 1 else V1 (o + 1) j := fun j => by
        rw [e5]; simp only [zput, true_and]
      clear e5
      have key := zdown (Q := fun i => ∀ g, (∀ j, (j < 220 + 36 * pb P ∨ 220 + 36 * pb P + 36 ≤ j) → g j = V5 (o + 1) j) → (∀ j, 0 ≤ j → j < i → g (220 + 36 * pb P + j) = 0) → zl_X8_button_211 E X F S o (pb P) i (zarr V5 (o + 1) g)) (N := 36) (fun g g0 g1' => ?_) (fun i x y ih g g0 g1' => ?_) 0 (by omega) (by omega)
      · have k := key (V5 (o + 1)) (fun j _ => rfl) (fun j _ _ => by omega)
        rw [zarr_id] at k; exact k
      · refine wp_X8_button_211 ⟨fun _ => h1 ⟨hb, ht⟩ _ (H.act f1 g1 hh h19 (fun q hq => by rw [zarr_ne _ _ hq, r5 q hq]) ?_ (zAddB_ok M.ok hb ht)) (fun q hq => by rw [zarr_ne _ _ (by omega), r5 q (by omega), f1 q (by omega) (by omega)]), fun q => by omega⟩
        unfold zMC zMCb
        rw [zarr_self]
        simp only [Int.zero_add]
        refine ⟨?_, ?_, ?_, ?_, fun i x y => ?_, fun k x y => ?_⟩
        · rw [g0 _ (by omega), p5]; simp (disch := omega) only [if_neg]; exact M1.n
        · rw [g0 _ (by omega), p5]; simp (disch := omega) only [if_neg]; exact M1.m
        · rw [g0 _ (by omega), p5]; simp (disch := omega) only [if_neg]; exact M1.w
        · rw [g0 _ (by omega), p5]; simp (disch := omega) only [if_neg, if_true]; rfl
        · have y' : i < pn P := y
          rw [g0 _ (by omega), p5]; simp (disch := omega) only [if_neg]; exact M1.sh ⟨x, y⟩
        · have y' : k < pb P + 1 := y
          by_cases hk : k = pb P
          · subst hk
            have e1 : pkd (zAddB P kind a b other) (pb P) = kind := zupd_self _ _ _
            rw [e1]
            refine ⟨?_, fun z => ⟨?_, ?_⟩, fun z => ?_, ?_, fun i ia ib => ?_⟩
            · rw [g0 _ (by omega), p5]; simp (disch := omega) only [if_neg, if_true]
            · rw [g0 _ (by omega), p5]; simp (disch := omega) only [if_neg, if_true]; rw [(k2 z).1]; exact (zupd_self _ _ _).symm
            · rw [g0 _ (by omega), p5]; simp (disch := omega) only [if_neg, if_true]; rw [(k2 z).2]; exact (zupd_self _ _ _).symm
            · rw [g0 _ (by omega), p5]; simp (disch := omega) only [if_neg, if_true]; rw [k4 z]; exact (zupd_self _ _ _).symm
            · rw [g0 _ (by omega), p5]; simp only [if_true]; exact (zupd_self _ _ _).symm
            · have ib' : i < pn P := ib
              rw [g1' i ia (by omega)]; exact (if_pos rfl).symm
          · obtain ⟨d1, d2, d3, d4, d5⟩ := M1.bt (k := k) ⟨x, by omega⟩
            have e1 : pkd (zAddB P kind a b other) k = pkd P k := zupd_ne _ _ hk
            rw [e1]
            refine ⟨?_, fun z => ⟨?_, ?_⟩, fun z => ?_, ?_, fun i ia ib => ?_⟩
            · rw [g0 _ (by omega), p5]; simp (disch := omega) only [if_neg]; exact d1
            · rw [g0 _ (by omega), p5]; simp (disch := omega) only [if_neg]; exact (d2 z).1.trans (zupd_ne _ _ hk).symm
            · rw [g0 _ (by omega), p5]; simp (disch := omega) only [if_neg]; exact (d2 z).2.trans (zupd_ne _ _ hk).symm
            · rw [g0 _ (by omega), p5]; simp (disch := omega) only [if_neg]; exact (d3 z).trans (zupd_ne _ _ hk).symm
            · rw [g0 _ (by omega), p5]; simp (disch := omega) only [if_neg]; exact d4.trans (zupd_ne _ _ hk).symm
            · have ib' : i < pn P := ib
              rw [g0 _ (by omega), p5]; simp (disch := omega) only [if_neg]; exact (d5 i ia ib).trans (if_neg hk).symm
      · have e0 : zarr V5 (o + 1) g o 0 = o + 1 := by rw [zarr_ne _ _ (by omega), r5 _ (by omega)]; exact M1.f0
        refine wp_X8_button_211 ⟨fun q => by omega, fun _ => ?_⟩
        rw [e0, M.t1]
        refine ⟨M.ko, ⟨by omega, by omega⟩, ⟨by omega, by omega⟩, ⟨by omega, by omega⟩, rfl, ⟨by omega, by show 220 + 36 * pb P + i < 1516; omega⟩, fun V8 e8 => ⟨⟨by omega, by omega⟩, ?_⟩⟩
        rw [e8, zput_zarr V5 (g := zupd g (220 + 36 * pb P + i) 0) (fun j => rfl)]
        refine ih _ (fun j hj => by rw [zupd_ne _ _ (by omega)]; exact g0 j hj) (fun j ja jb => ?_)
        by_cases hj : j = i
        · rw [hj, zupd_self]
        · rw [zupd_ne _ _ (by omega)]; exact g1' j ja (by omega)
    have b40 : z32 (40 + pb P) := ⟨by omega, by omega⟩
    have b76 : z32 (76 + pb P) := ⟨by omega, by omega⟩
    have b112 : z32 (112 + pb P) := ⟨by omega, by omega⟩
    have b148 : z32 (148 + pb P) := ⟨by omega, by omega⟩
    have b184 : z32 (184 + pb P) := ⟨by omega, by omega⟩
    have l40 : (0 : Int) ≤ 40 + pb P ∧ 40 + pb P < 1516 := by omega
    have l76 : (0 : Int) ≤ 76 + pb P ∧ 76 + pb P < 1516 := by omega
    have l112 : (0 : Int) ≤ 112 + pb P ∧ 112 + pb P < 1516 := by omega
    have l148 : (0 : Int) ≤ 148 + pb P ∧ 148 + pb P < 1516 := by omega
    have l184 : (0 : Int) ≤ 184 + pb P ∧ 184 + pb P < 1516 := by omega
    simp only [M1.f0, M1.t1, M1.b, true_and]
    refine ⟨by omega, ⟨by omega, by omega⟩, fun V9 e9 => ⟨b40, l40, fun V13 e13 => ⟨b76, fun z => ⟨l76, fun V18 e18 => ⟨b112, fun z' => ⟨l112, fun V23 e23 => ⟨b148, fun z4 => ⟨l148, fun V28 e28 => ⟨b184, l184, fun V32 e32 => ?_⟩⟩, fun z4 => ⟨l148, fun V28 e28 => ⟨b184, l184, fun V32 e32 => ?_⟩⟩⟩⟩, fun z' => absurd z' z⟩⟩, fun z => ⟨l76, fun V18 e18 => ⟨b112, fun z' => absurd z z', fun z' => ⟨l112, fun V23 e23 => ⟨b148, fun z4 => ⟨l148, fun V28 e28 => ⟨b184, l184, fun V32 e32 => ?_⟩⟩, fun z4 => by omega⟩⟩⟩⟩⟩⟩⟩
    · exact fin a b 0 V32 (fun _ => ⟨rfl, rfl⟩) (fun q => absurd q z4) (by rw [e32, e28, e23, e18, e13, e9])
    · exact fin a b other V32 (fun _ => ⟨rfl, rfl⟩) (fun _ => rfl) (by rw [e32, e28, e23, e18, e13, e9])
    · exact fin 0 0 0 V32 (fun q => absurd z q) (fun q => absurd q z4) (by rw [e32, e28, e23, e18, e13, e9])
  have line : pb P < 36 → (kind = 2 ∨ kind = 3) → zl_X8_button_37 E X F S o kind a b other V := by
    intro hb hk
    refine wp_X8_button_37 ⟨M.ko, s8_isLine M (fun hl => ⟨fun q => absurd q (by decide), fun _ => s8_m M ⟨⟨by omega, by omega⟩, s8_in (fun hv => ⟨fun q => absurd q (by decide), fun _ => ⟨fun _ => run hb (Or.inr ⟨by omega, Or.inr (Or.inl ⟨hk, hl⟩)⟩), fun q => by omega⟩⟩) (fun hv => ⟨fun _ => h0 (fun q => ?_), fun q => absurd rfl q⟩)⟩⟩) (fun hl => ⟨fun _ => h0 (fun q => ?_), fun q => absurd rfl q⟩)⟩
    · rcases q.2 with r | ⟨r, -⟩
      · omega
      · omega
    · rcases q.2 with r | ⟨-, r | ⟨-, r⟩ | r⟩
      · omega
      · omega
      · exact hl r
      · omega
  refine s8_in (fun hk => ⟨fun q => absurd q (by decide), fun _ => ⟨M.ko, s8_b M ⟨fun hb => ⟨fun z => run (by omega) (Or.inl z), fun z => ⟨fun z2 => line (by omega) (Or.inl z2), fun z2 => ⟨fun z3 => s8_n M ⟨⟨by omega, by omega⟩, s8_in (fun ha => ⟨fun q => absurd q (by decide), fun _ => s8_m M ⟨⟨by omega, by omega⟩, s8_in (fun hv => ⟨fun q => absurd q (by decide), fun _ => ⟨fun z4 => run (by omega) (Or.inr ⟨by omega, Or.inl (by omega)⟩), fun z4 => s8_b M ⟨⟨by omega, by omega⟩, s8_in (fun ho => ⟨fun _ => run (by omega) (Or.inr ⟨by omega, Or.inr (Or.inr (by omega))⟩), fun q => absurd q (by decide)⟩) (fun ho => ⟨fun q => absurd rfl q, fun _ => h0 (fun q => ?_)⟩)⟩⟩⟩) (fun hv => ⟨fun _ => h0 (fun q => ?_), fun q => absurd rfl q⟩)⟩⟩) (fun ha => ⟨fun _ => h0 (fun q => ?_), fun q => absurd rfl q⟩)⟩, fun z3 => line (by omega) (Or.inr z3)⟩⟩⟩, fun hb => h0 (fun q => by omega)⟩⟩⟩) (fun hk => ⟨fun _ => h0 (fun q => ?_), fun q => absurd rfl q⟩)
  · rcases q.2 with r | ⟨-, r | ⟨r, -⟩ | r⟩ <;> omega
  · rcases q.2 with r | ⟨r, -⟩ <;> omega
  · rcases q.2 with r | ⟨-, r | ⟨r, -⟩ | r⟩ <;> omega
  · rcases q.2 with r | ⟨-, r | ⟨r, -⟩ | r⟩ <;> omega
end MDOPS2
