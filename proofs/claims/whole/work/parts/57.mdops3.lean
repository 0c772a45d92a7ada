/-! THE REFERENCE: board, wires, a new plate, undo, keep, back -/
section MDOPS3
variable {E : zE} {S : zS} {V : zH} {o : Int} {s : zSig}
/-- only o's own numbers and its row of entries have changed -/
theorem zMd.board (H : zMd S V o s) {V' : zH} {B : zB} (hB : zMB V' o B) (g : ∀ j, j ≠ 6 → j ≠ 7 → V' o j = V o j) (f : ∀ q, q ≠ o → q ≠ o + 4 → V' q = V q) : zMd S V' o (zSetB s B) :=
  ⟨H.mo.frame (fun j hj => g j (by omega) (by omega)) (f _ (by omega) (by omega)), hB, H.h.congr (g 4 (by decide) (by decide)) (g 5 (by decide) (by decide)) (f _ (by omega) (by omega)), H.k.congr (g 2 (by decide) (by decide)) (f _ (by omega) (by omega)), H.t.congr (g 17 (by decide) (by decide)) (g 18 (by decide) (by decide)) (g 19 (by decide) (by decide)) (f _ (by omega) (by omega)), H.l.congr (g 24 (by decide) (by decide)) (f _ (by omega) (by omega)), H.tp⟩
theorem md_board (H : zMd S V o s) {k n : Int} {F : Int → zH → Prop} (h1 : ((0 ≤ k ∧ k ≤ 3) ∧ (0 ≤ n ∧ n ≤ 80)) ∨ k = 4 → ∀ V', zMd S V' o (zSetB s (k, (if k = 4 then 0 else n), fun _ => 0)) → zFro V V' o → F 1 V') (h0 : ¬ (((0 ≤ k ∧ k ≤ 3) ∧ (0 ≤ n ∧ n ≤ 80)) ∨ k = 4) → F 0 V) : SpI E 1 zm_X8_board [zrv o, ziv k, ziv n] S V F := by
  have M := H.mo
  refine en_X8_board (fun _ _ X => ?_)
  have lay : ((0 ≤ k ∧ k ≤ 3) ∧ (0 ≤ n ∧ n ≤ 80)) ∨ k = 4 → zl_X8_board_31 E X F S o k n V := by
    intro hc
    refine wp_X8_board_31 ⟨M.ko, fun V2 e2 => ?_⟩
    have fin : ∀ V5 c, c = (if k = 4 then 0 else n) → V5 = zput V2 o 7 c → zl_X8_board_52 E X F S o 0 V5 := by
      intro V5 c hcc e5
      have hc0 : 0 ≤ c ∧ c ≤ 80 := by rw [hcc]; split <;> omega
      have p5 : ∀ j, V5 o j = if j = 7 then c else if j = 6 then k else V o j := fun j => by rw [e5, e2]; simp only [zput, true_and]
      have r5 : ∀ q, q ≠ o → V5 q = V q := fun q hq => by rw [e5, zput_row _ _ _ hq, e2, zput_row _ _ _ hq]
      have key := zdown (Q := fun i => ∀ g, (∀ j, 0 ≤ j → j < i → g j = 0) → zl_X8_board_52 E X F S o i (zarr V5 (o + 4) g)) (N := c) (fun g hg => ?_) (fun i a b ih g hg => ?_) 0 (by omega) (by omega)
      · have k := key (V5 (o + 4)) (fun j _ _ => by omega)
        rw [zarr_id] at k; exact k
      · have po : ∀ j, zarr V5 (o + 4) g o j = if j = 7 then c else if j = 6 then k else V o j := fun j => by rw [zarr_ne _ _ (by omega), p5]
        have e7 : zarr V5 (o + 4) g o 7 = c := by rw [po]; rfl
        refine wp_X8_board_52 ?_
        rw [e7]
        refine ⟨M.ko, fun _ => h1 hc _ (H.board ⟨by rw [po]; rfl, fun _ => ⟨by rw [e7]; exact hcc, fun i a b => by rw [zarr_self]; exact hg i a (by rw [hcc]; exact b)⟩, ?_, ?_, fun z => ?_, fun i _ _ => ⟨?_, fun _ => z32_0⟩⟩ (fun j j6 j7 => by rw [po, if_neg j7, if_neg j6]) (fun q q1 q2 => by rw [zarr_ne _ _ q2, r5 q q1])) (fun q hq => by rw [zarr_ne _ _ (by omega), r5 q (by omega)]), fun q => by omega⟩
        · show -1 ≤ k ∧ k ≤ 4
          omega
        · show 0 ≤ (if k = 4 then 0 else n) ∧ (if k = 4 then 0 else n) ≤ 80
          rw [← hcc]; exact hc0
        · have z' : k = -1 ∨ k = 4 := z
          show (if k = 4 then 0 else n) = 0
          rw [if_pos (by omega)]
        · show z64 0
          unfold z64; omega
      · have e7 : zarr V5 (o + 4) g o 7 = c := by rw [zarr_ne _ _ (by omega), p5]; rfl
        have e8 : zarr V5 (o + 4) g o 8 = o + 4 := by rw [zarr_ne _ _ (by omega), p5]; exact M.f8
        refine wp_X8_board_52 ?_
        rw [e7, e8, M.t4]
        refine ⟨M.ko, fun q => by omega, fun _ => ⟨rfl, ⟨a, by show i < 80; omega⟩, fun V6 e6 => ⟨⟨by omega, by omega⟩, ?_⟩⟩⟩
        rw [e6, zput_zarr V5 (g := zupd g i 0) (fun j => rfl)]
        refine ih _ (fun j ja jb => ?_)
        by_cases hj : j = i
        · rw [hj, zupd_self]
        · rw [zupd_ne _ _ hj]; exact hg j ja (by omega)
    exact ⟨fun z V5 e5 => fin V5 n (by rw [if_neg z]) e5, fun z V5 e5 => fin V5 0 (by rw [if_pos z]) e5⟩
  refine s8_in (fun hk => ⟨fun q => absurd q (by decide), fun _ => ⟨fun z => lay (by omega), fun z => s8_in (fun hn => ⟨fun _ => lay (by omega), fun q => absurd q (by decide)⟩) (fun hn => ⟨fun q => absurd rfl q, fun _ => h0 (by omega)⟩)⟩⟩) (fun hk => ⟨fun _ => h0 (by omega), fun q => absurd rfl q⟩)
theorem md_entry (H : zMd S V o s) {i v : Int} {F : Int → zH → Prop} (h1 : 0 ≤ i ∧ i < bn (gB s) → ∀ V', zMd S V' o (zSetB s (zWrite (gB s) i v)) → zFro V V' o → F 1 V') (h0 : ¬ (0 ≤ i ∧ i < bn (gB s)) → F 0 V) : SpI E 1 zm_X8_entry [zrv o, ziv i, zjv v] S V F := by
  have M := H.mo
  obtain ⟨b6, b7, d1, d2, d3, d4⟩ := H.b
  refine en_X8_entry (fun _ hv => ?_)
  rw [b6, M.f8, M.t4]
  refine ⟨M.ko, s8_in (fun hk => ⟨fun q => absurd q (by decide), fun _ => ?_⟩) (fun hk => ⟨fun _ => h0 (fun q => by have := d3 (by omega); omega), fun q => absurd rfl q⟩)⟩
  obtain ⟨e7, ee⟩ := b7 (by omega)
  rw [e7]
  have fin : 0 ≤ i ∧ i < bn (gB s) → ∀ V', V' = zput V (o + 4) i (zcut (bk (gB s)) v) → F 1 V' := by
    intro hi V' e
    have r : ∀ q, q ≠ o + 4 → V' q = V q := fun q hq => by rw [e, zput_row _ _ _ hq]
    refine h1 hi V' (H.board ⟨by rw [r o (by omega)]; exact b6, fun _ => ⟨by rw [r o (by omega)]; exact e7, fun j a b => ?_⟩, zWrite_ok ⟨d1, d2, d3, d4⟩ hv⟩ (fun j _ _ => by rw [r o (by omega)]) (fun q _ q2 => r q q2)) (fun q hq => r q (by omega))
    show V' (o + 4) j = zupd (be (gB s)) i (zcut (bk (gB s)) v) j
    rw [e]
    by_cases hj : j = i
    · subst hj; rw [zput_self, zupd_self]
    · rw [zput_nk _ _ _ _ hj, zupd_ne _ _ hj]; exact ee j a b
  refine ⟨⟨by omega, by omega⟩, s8_in (fun hi => ⟨fun _ => ⟨fun z0 => ⟨fun z1 => ⟨fun z2 => ⟨rfl, ⟨hi.1, by show i < 80; omega⟩, fun V' e => fin (by omega) V' ?_⟩, fun z2 => ⟨rfl, ⟨hi.1, by show i < 80; omega⟩, fun V' e => fin (by omega) V' ?_⟩⟩, fun z1 => ⟨rfl, ⟨hi.1, by show i < 80; omega⟩, fun V' e => fin (by omega) V' ?_⟩⟩, fun z0 => ⟨rfl, ⟨hi.1, by show i < 80; omega⟩, fun V' e => fin (by omega) V' ?_⟩⟩, fun q => absurd q (by decide)⟩) (fun hi => ⟨fun q => absurd rfl q, fun _ => h0 (by omega)⟩)⟩
  · rw [e]; unfold zcut; rw [if_neg z0, if_neg z1, if_neg z2]
  · rw [e]; unfold zcut; rw [if_neg z0, if_neg z1, if_pos z2]
  · rw [e]; unfold zcut; rw [if_neg z0, if_pos z1]
  · rw [e]; unfold zcut; rw [if_pos z0]
theorem s8_told {P : zP} {B : zB} (M : zMo S V o P) (HB : zMB V o B) (hb : bk B ≠ -1) {i : Int} {F : Int → Prop} (hi : 0 ≤ i ∧ i ≤ 79) (h : F (zbst B (pm P) i)) : SpF E 1 zm_X8_told [zrv o, ziv i] S V F := by
  obtain ⟨b6, b7, d1, d2, d3, d4⟩ := HB
  obtain ⟨e7, ee⟩ := b7 hb
  have o2 := M.ok.2.1
  unfold zbst at h
  refine en_X8_told (fun _ => ?_)
  rw [b6, M.f8, M.t4, e7]
  refine ⟨M.ko, fun z2 => ⟨fun z3 => ⟨hi.1, fun x5 e5 => ⟨fun z4 => ?_, fun z4 => ⟨fun c => ?_, fun c => ?_⟩⟩⟩, fun z3 => ⟨hi.1, fun x5 e5 => ⟨fun z4 => by omega, fun z4 => ⟨fun c => ?_, fun c => ?_⟩⟩⟩⟩, fun z2 => ⟨hi.1, fun x5 e5 => ⟨fun z4 => by omega, fun z4 => ⟨fun c => ?_, fun c => ?_⟩⟩⟩⟩
  · rw [if_neg (by omega), if_neg z2, if_neg z3] at h; exact h
  · rw [Int.ediv_one] at e5
    subst e5
    have k01 : bk B = 0 ∨ bk B = 1 := by omega
    rw [if_pos k01, if_pos c] at h
    refine ⟨rfl, ⟨hi.1, by show x5 < 80; omega⟩, s8_m M (sp_fmodl (by omega) ?_)⟩
    have ml := zmod_le (be B x5) (show 0 < pm P by omega)
    rw [ee x5 hi.1 c, zl2i_id ⟨by omega, by omega⟩]; exact h
  · rw [Int.ediv_one] at e5
    subst e5
    rw [if_pos (by omega), if_neg (by omega)] at h; exact h
  · rw [if_neg (by omega), if_neg z2, if_pos z3, ← e5, if_pos c] at h
    have hq := zdiv_le hi.1 (show (0 : Int) < 64 by omega)
    rw [← e5] at hq
    refine ⟨rfl, ⟨hq.1, by show x5 < 80; omega⟩, ?_⟩
    rw [ee x5 hq.1 c, zbit_eq (by omega)]; exact h
  · rw [if_neg (by omega), if_neg z2, if_pos z3, ← e5, if_neg (by omega)] at h; exact h
  · rw [if_neg (by omega), if_pos z2, ← e5, if_pos c] at h
    have hq := zdiv_le hi.1 (show (0 : Int) < 32 by omega)
    rw [← e5] at hq
    refine ⟨rfl, ⟨hq.1, by show x5 < 80; omega⟩, ?_⟩
    rw [ee x5 hq.1 c, zbit_eq (by omega)]; exact h
  · rw [if_neg (by omega), if_pos z2, ← e5, if_neg (by omega)] at h; exact h
theorem zMC.wire {P : zP} {k : Int} {f g : Int → Int} (H : zMC V (o + 1) 0 P) (ok : zPok P) (hk : 0 ≤ k ∧ k < pb P) (h0 : ∀ j, (j < 220 + 36 * k ∨ 220 + 36 * k + 36 ≤ j) → g j = V (o + 1) j) (h1 : ∀ i, 0 ≤ i → i < pn P → g (220 + 36 * k + i) = f i) : zMC (zarr V (o + 1) g) (o + 1) 0 (zWire P k f) := by
  obtain ⟨c0, c1, c2, c3, c4, c5⟩ := H
  have o1 := ok.1
  have o4 := ok.2.2.2.1
  unfold zMC zMCb
  rw [zarr_self]
  simp only [Int.zero_add] at *
  refine ⟨by rw [h0 _ (by omega)]; exact c0, by rw [h0 _ (by omega)]; exact c1, by rw [h0 _ (by omega)]; exact c2, by rw [h0 _ (by omega)]; exact c3, fun i a b => ?_, fun j a b => ?_⟩
  · have b' : i < pn P := b
    rw [h0 _ (by omega)]; exact c4 i a b
  · have b' : j < pb P := b
    obtain ⟨d1, d2, d3, d4, d5⟩ := c5 j a b
    simp only [Int.zero_add] at *
    refine ⟨by rw [h0 _ (by omega)]; exact d1, fun z => ⟨by rw [h0 _ (by omega)]; exact (d2 z).1, by rw [h0 _ (by omega)]; exact (d2 z).2⟩, fun z => by rw [h0 _ (by omega)]; exact d3 z, by rw [h0 _ (by omega)]; exact d4, fun i ia ib => ?_⟩
    have ib' : i < pn P := ib
    show g (220 + 36 * j + i) = if j = k then f i else pwi P j i
    by_cases hj : j = k
    · rw [if_pos hj, hj]; exact h1 i ia ib
    · rw [if_neg hj, h0 _ (by omega)]; exact d5 i ia ib
theorem md_wire (H : zMd S V o s) {k : Int} {F : Int → zH → Prop} (h1 : (0 ≤ k ∧ k < pb (gP s)) ∧ pkd (gP s) k = 0 ∧ bk (gB s) ≠ -1 → ∀ V', zMd S V' o (zSetB (zAct s (zWire (gP s) k (zbst (gB s) (pm (gP s))))) zGone) → zFro V V' o → F (zsum (fun i => if zbst (gB s) (pm (gP s)) i = 0 then 0 else 1) (pn (gP s))) V') (h0 : ¬ ((0 ≤ k ∧ k < pb (gP s)) ∧ pkd (gP s) k = 0 ∧ bk (gB s) ≠ -1) → F (-1) V) : SpI E 2 zm_X8_wire [zrv o, ziv k] S V F := by
  have M := H.mo
  have HB := H.b
  generalize hP : gP s = P at *
  generalize hBB : gB s = B at *
  have o1 := M.ok.1
  have o2 := M.ok.2.1
  have o4 := M.ok.2.2.2.1
  refine en_X8_wire (fun _ X => ⟨M.ko, s8_isButton M (fun hk => ⟨fun q => absurd q (by decide), fun _ => ?_⟩) (fun hk => ⟨fun _ => h0 (fun q => hk q.1), fun q => absurd rfl q⟩)⟩)
  rw [M.f0, M.t1, (M.bt hk).1, HB.1]
  refine ⟨⟨by omega, by omega⟩, rfl, ⟨by omega, by show 40 + k < 1516; omega⟩, fun z => h0 (fun q => z q.2.1), fun z => ⟨fun zb => ?_, fun zb => h0 (fun q => ?_)⟩⟩
  · have hb : bk B ≠ -1 := by omega
    refine md_act H (fun V1 f1 g1 hh h19 => ?_)
    have M1 : zMo S V1 o P := by rw [← hP] at M ⊢; exact M.acted f1 g1
    have key := zdown (Q := fun i => ∀ g, (∀ j, (j < 220 + 36 * k ∨ 220 + 36 * k + i ≤ j) → g j = V1 (o + 1) j) → (∀ j, 0 ≤ j → j < i → g (220 + 36 * k + j) = zbst B (pm P) j) → zl_X8_wire_37 E X F S o k (zsum (fun i => if zbst B (pm P) i = 0 then 0 else 1) i) i (zarr V1 (o + 1) g)) (N := pn P) (fun g g0 g2 => ?_) (fun i a b ih g g0 g2 => ?_) 0 (by omega) (by omega)
    · have k := key (V1 (o + 1)) (fun j _ => rfl) (fun j _ _ => by omega)
      rw [zarr_id] at k; exact k
    · have C : zMC (zarr V1 (o + 1) g) (o + 1) 0 (zWire P k (zbst B (pm P))) := M1.2.1.wire M1.ok hk (fun j hj => g0 j (by omega)) g2
      have ok' : zPok (zWire P k (zbst B (pm P))) := zWire_ok M.ok (fun i _ _ => zbst_le B o2.1 i)
      have A := H.act f1 g1 hh h19 (fun q hq => zarr_ne V1 g hq) C ok'
      refine wp_X8_wire_37 ⟨M.ko, s8_n (P := zWire P k (zbst B (pm P))) ⟨M1.1.frame (fun j _ => by rw [zarr_ne _ _ (by omega)]), C, ok'⟩ ⟨fun _ V5 e5 => ?_, fun q => absurd q (by show ¬ pn P < pn P; omega)⟩⟩
      have p5 : ∀ j, V5 o j = if j = 6 then -1 else zarr V1 (o + 1) g o j := fun j => by rw [e5]; simp only [zput, true_and]
      have r5 : ∀ q, q ≠ o → V5 q = zarr V1 (o + 1) g q := fun q hq => by rw [e5, zput_row _ _ _ hq]
      refine h1 ⟨hk, z, hb⟩ V5 (A.board ⟨by rw [p5]; rfl, fun q => absurd rfl q, ?_⟩ (fun j j6 _ => by rw [p5, if_neg j6]) (fun q q1 _ => r5 q q1)) (fun q hq => by rw [r5 q (by omega), zarr_ne _ _ (by omega), f1 q (by omega) (by omega)])
      exact ⟨⟨by show (-1 : Int) ≤ -1; omega, by show (-1 : Int) ≤ 4; omega⟩, ⟨Int.le_refl 0, by show (0 : Int) ≤ 80; omega⟩, fun _ => rfl, fun i a b => absurd b (by show ¬ i < 0; omega)⟩
    · have C : zMC (zarr V1 (o + 1) g) (o + 1) 0 (zWire P k (fun j => if j < i then zbst B (pm P) j else V1 (o + 1) (220 + 36 * k + j))) := M1.2.1.wire M1.ok hk (fun j hj => g0 j (by omega)) (fun j ja jb => by
        by_cases hj : j < i
        · rw [if_pos hj]; exact g2 j ja hj
        · rw [if_neg hj, g0 _ (by omega)])
      have ok' : zPok (zWire P k (fun j => if j < i then zbst B (pm P) j else V1 (o + 1) (220 + 36 * k + j))) := zWire_ok M.ok (fun j ja jb => by
        by_cases hj : j < i
        · rw [if_pos hj]; exact zbst_le B o2.1 j
        · rw [if_neg hj, (M1.bt hk).2.2.2.2 j ja jb]; exact (M.ok.2.2.2.2.2 k hk.1 hk.2).2.2.2.2.2.2 j ja jb)
      have Mi : zMo S (zarr V1 (o + 1) g) o (zWire P k (fun j => if j < i then zbst B (pm P) j else V1 (o + 1) (220 + 36 * k + j))) := ⟨M1.1.frame (fun j _ => by rw [zarr_ne _ _ (by omega)]), C, ok'⟩
      have HB1 : zMB (zarr V1 (o + 1) g) o B := HB.congr (by rw [zarr_ne _ _ (by omega), g1 6 (by decide) (by decide) (by decide)]) (by rw [zarr_ne _ _ (by omega), g1 7 (by decide) (by decide) (by decide)]) (by rw [zarr_ne _ _ (by omega), f1 _ (by omega) (by omega)])
      have bb := zsum_le (f := fun i => if zbst B (pm P) i = 0 then 0 else 1) (c := 1) a (fun j _ _ => by split <;> omega)
      refine wp_X8_wire_37 ⟨M.ko, s8_n Mi ⟨fun q => absurd q (by show ¬ pn P ≤ i; omega), fun _ => s8_told Mi HB1 hb ⟨a, by omega⟩ ?_⟩⟩
      rw [Mi.f0, M.t1]
      refine ⟨⟨by omega, by omega⟩, ⟨by omega, by omega⟩, ⟨by omega, by omega⟩, rfl, ⟨by omega, by show 220 + 36 * k + i < 1516; omega⟩, fun V14 e14 => ?_⟩
      have nx := ih (zupd g (220 + 36 * k + i) (zbst B (pm P) i)) (fun j hj => by rw [zupd_ne _ _ (by omega)]; exact g0 j (by omega)) (fun j x y => by
        by_cases hj : j = i
        · rw [hj, zupd_self]
        · rw [zupd_ne _ _ (by omega)]; exact g2 j x (by omega))
      rw [zsum_s _ a] at nx
      have e14' : V14 = zarr V1 (o + 1) (zupd g (220 + 36 * k + i) (zbst B (pm P) i)) := by
        rw [e14]; exact zput_zarr V1 (fun j => rfl)
      rw [e14']
      refine ⟨fun q => ⟨⟨by omega, by omega⟩, ⟨by omega, by omega⟩, ?_⟩, fun q => ⟨⟨by omega, by omega⟩, ⟨by omega, by omega⟩, ?_⟩⟩
      · have q' : zbst B (pm P) i = 0 := q
        simp only [if_pos q'] at nx; exact nx
      · have q' : zbst B (pm P) i ≠ 0 := q
        simp only [if_neg q'] at nx; exact nx
  · have := HB.2.2.1; have := q.2.2; omega
end MDOPS3
