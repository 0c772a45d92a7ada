/-! THE REFERENCE: its state, and its calls that ask no lattice -/
theorem zMC.copy {V V' : zH} {a c b d : Int} {P : zP} (H : zMC V a c P) (ok : zPok P) (e : ∀ j, 0 ≤ j → j < 1516 → V' b (d + j) = V a (c + j)) : zMC V' b d P := by
  obtain ⟨h0, h1, h2, h3, h4, h5⟩ := H
  have o1 := ok.1
  have o4 := ok.2.2.2.1
  refine ⟨by rw [e 0 (by omega) (by omega)]; exact h0, by rw [e 1 (by omega) (by omega)]; exact h1, by rw [e 2 (by omega) (by omega)]; exact h2, by rw [e 3 (by omega) (by omega)]; exact h3, fun i x y => by rw [e _ (by omega) (by omega)]; exact h4 i x y, fun k x y => ?_⟩
  obtain ⟨d1, d2, d3, d4, d5⟩ := h5 k x y
  exact ⟨by rw [e _ (by omega) (by omega)]; exact d1, fun z => ⟨by rw [e _ (by omega) (by omega)]; exact (d2 z).1, by rw [e _ (by omega) (by omega)]; exact (d2 z).2⟩, fun z => by rw [e _ (by omega) (by omega)]; exact d3 z, by rw [e _ (by omega) (by omega)]; exact d4, fun i ia ib => by rw [e _ (by omega) (by omega)]; exact d5 i ia ib⟩
def zMB (V : zH) (o : Int) (B : zB) : Prop := V o 6 = bk B ∧ (bk B ≠ -1 → V o 7 = bn B ∧ ∀ i, 0 ≤ i → i < bn B → V (o + 4) i = be B i) ∧ zDok B
def zMH (V : zH) (o n : Int) (H : Int → zP) : Prop := V o 5 = n ∧ (0 ≤ n ∧ n ≤ 60) ∧ (0 ≤ V o 4 ∧ V o 4 < 60) ∧ ∀ j, 0 ≤ j → j < n → zMC V (o + 3) ((V o 4 + 60 - j) % 60 * 1516) (H j) ∧ zPok (H j)
def zMK (V : zH) (o : Int) (K : Option zP) : Prop :=
  match K with
  | none => V o 2 = 0
  | some Q => V o 2 = 1 ∧ zMC V (o + 2) 0 Q ∧ zPok Q
def zMT (V : zH) (o : Int) (T : zT) : Prop := V o 17 = tn T ∧ V o 18 = (if tk T = 1 then 1 else 0) ∧ V o 19 = tg T ∧ (∀ i, 0 ≤ i → i < tn T → V (o + 9) i = tr T i) ∧ zTok T
def zML (V : zH) (o n : Int) (f : Int → Int) : Prop := V o 24 = n ∧ (0 ≤ n ∧ n ≤ 36) ∧ ∀ i, 0 ≤ i → i < n → V (o + 13) i = f i ∧ 0 ≤ f i ∧ f i ≤ 11
def zMd (S : zS) (V : zH) (o : Int) (s : zSig) : Prop := zMo S V o (gP s) ∧ zMB V o (gB s) ∧ zMH V o (gn s) (gH s) ∧ zMK V o (gK s) ∧ zMT V o (gT s) ∧ zML V o (gl s) (gL s) ∧ zTP (gT s) (gP s)
theorem zMA.frame {S : zS} {V V' : zH} {o : Int} (H : zMA S V o) (h : ∀ j, j = 0 ∨ j = 1 ∨ j = 3 ∨ j = 8 ∨ j = 9 ∨ j = 11 ∨ j = 12 ∨ j = 13 ∨ j = 16 ∨ j = 20 ∨ j = 21 ∨ j = 22 ∨ j = 23 → V' o j = V o j) : zMA S V' o := by
  unfold zMA at *
  rw [h 0 (by decide), h 1 (by decide), h 3 (by decide), h 8 (by decide), h 9 (by decide), h 11 (by decide), h 12 (by decide), h 13 (by decide), h 16 (by decide), h 20 (by decide), h 21 (by decide), h 22 (by decide), h 23 (by decide)]
  exact H
theorem zMC.row {V V' : zH} {a c : Int} {P : zP} (H : zMC V a c P) (e : V' a = V a) : zMC V' a c P := by
  unfold zMC zMCb at *
  rw [e]; exact H
theorem zMo.frame {S : zS} {V V' : zH} {o : Int} {P : zP} (H : zMo S V o P) (h : ∀ j, j = 0 ∨ j = 1 ∨ j = 3 ∨ j = 8 ∨ j = 9 ∨ j = 11 ∨ j = 12 ∨ j = 13 ∨ j = 16 ∨ j = 20 ∨ j = 21 ∨ j = 22 ∨ j = 23 → V' o j = V o j) (h1 : V' (o + 1) = V (o + 1)) : zMo S V' o P := ⟨H.1.frame h, H.2.1.row h1, H.2.2⟩
theorem zMB.congr {V V' : zH} {o : Int} {B : zB} (H : zMB V o B) (h6 : V' o 6 = V o 6) (h7 : V' o 7 = V o 7) (h : V' (o + 4) = V (o + 4)) : zMB V' o B := by
  unfold zMB at *; rw [h6, h7, h]; exact H
theorem zMH.congr {V V' : zH} {o n : Int} {Hs : Int → zP} (H : zMH V o n Hs) (h4 : V' o 4 = V o 4) (h5 : V' o 5 = V o 5) (h : V' (o + 3) = V (o + 3)) : zMH V' o n Hs := by
  unfold zMH zMC zMCb at *; rw [h4, h5, h]; exact H
theorem zMK.congr {V V' : zH} {o : Int} {K : Option zP} (H : zMK V o K) (h2 : V' o 2 = V o 2) (h : V' (o + 2) = V (o + 2)) : zMK V' o K := by
  cases K with
  | none => show V' o 2 = 0; rw [h2]; exact H
  | some Q => exact ⟨by rw [h2]; exact H.1, H.2.1.row h, H.2.2⟩
theorem zMT.congr {V V' : zH} {o : Int} {T : zT} (H : zMT V o T) (h17 : V' o 17 = V o 17) (h18 : V' o 18 = V o 18) (h19 : V' o 19 = V o 19) (h : V' (o + 9) = V (o + 9)) : zMT V' o T := by
  unfold zMT at *; rw [h17, h18, h19, h]; exact H
theorem zMT.stop {V V' : zH} {o : Int} {T : zT} (H : zMT V o T) (h17 : V' o 17 = V o 17) (h18 : V' o 18 = V o 18) (h19 : V' o 19 = 0) (h : V' (o + 9) = V (o + 9)) : zMT V' o (zStop T) := by
  obtain ⟨t1, t2, t3, t4, t5, t6, t7, t8⟩ := H
  exact ⟨by rw [h17]; exact t1, by rw [h18]; exact t2, h19, fun i a b => by rw [h]; exact t4 i a b, t5, t6, Or.inl rfl, t8⟩
theorem zML.congr {V V' : zH} {o n : Int} {f : Int → Int} (H : zML V o n f) (h24 : V' o 24 = V o 24) (h : V' (o + 13) = V (o + 13)) : zML V' o n f := by
  unfold zML at *; rw [h24, h]; exact H
/-- the class's cells stay as they are -/
def zFro (V V' : zH) (o : Int) : Prop := ∀ q, q < o ∨ o + 13 < q → V' q = V q
section MDOPS
variable {E : zE} {S : zS} {V : zH} {o : Int} {s : zSig}
theorem zMd.mo (H : zMd S V o s) : zMo S V o (gP s) := H.1
theorem zMd.b (H : zMd S V o s) : zMB V o (gB s) := H.2.1
theorem zMd.h (H : zMd S V o s) : zMH V o (gn s) (gH s) := H.2.2.1
theorem zMd.k (H : zMd S V o s) : zMK V o (gK s) := H.2.2.2.1
theorem zMd.t (H : zMd S V o s) : zMT V o (gT s) := H.2.2.2.2.1
theorem zMd.l (H : zMd S V o s) : zML V o (gl s) (gL s) := H.2.2.2.2.2.1
theorem zMd.tp (H : zMd S V o s) : zTP (gT s) (gP s) := H.2.2.2.2.2.2
theorem md_act (H : zMd S V o s) {F : zH → Prop} (h : ∀ V', (∀ q, q ≠ o → q ≠ o + 3 → V' q = V q) → (∀ j, j ≠ 4 → j ≠ 5 → j ≠ 19 → V' o j = V o j) → zMH V' o (if gn s < 60 then gn s + 1 else 60) (zHpush (gP s) (gH s)) → V' o 19 = 0 → F V') : SpV E 0 zm_X8_act [zrv o] S V F := by
  obtain ⟨h5, hn, h4, hj⟩ := H.h
  have M := H.mo
  refine en_X8_act (fun X => ⟨M.ko, ⟨by omega, by omega⟩, by omega, fun V4 e4 => ?_⟩)
  generalize hf : (V o 4 + 1) % 60 = f at e4
  have hf' : 0 ≤ f ∧ f < 60 := by omega
  have r4 : ∀ q, q ≠ o → V4 q = V q := fun q hq => by rw [e4, zput_row _ _ _ hq]
  have p4 : ∀ j, V4 o j = if j = 4 then f else V o j := fun j => by rw [e4]; simp only [zput, true_and]
  have key := zdown (Q := fun i => ∀ g, (∀ j, (j < f * 1516 ∨ f * 1516 + i ≤ j) → g j = V (o + 3) j) → (∀ j, 0 ≤ j → j < i → g (f * 1516 + j) = V (o + 1) j) → zl_X8_act_15 E X F S o i (zarr V4 (o + 3) g)) (N := 1516) (fun g g0 g1 => ?_) (fun i a b ih g g0 g1 => ?_) 0 (by omega) (by omega)
  · have k2 := key (V4 (o + 3)) (fun j _ => by rw [r4 _ (by omega)]) (fun j _ _ => by omega)
    rw [zarr_id] at k2; exact k2
  · have po : ∀ j, zarr V4 (o + 3) g o j = if j = 4 then f else V o j := fun j => by rw [zarr_ne _ _ (by omega), p4]
    have fin : ∀ V6, (∀ q, q ≠ o → V6 q = zarr V4 (o + 3) g q) → (∀ j, V6 o j = if j = 19 then 0 else if j = 5 then (if gn s < 60 then gn s + 1 else 60) else if j = 4 then f else V o j) → F V6 := by
      intro V6 r6 p6
      have r36 : V6 (o + 3) = g := by rw [r6 _ (by omega), zarr_self]
      refine h V6 (fun q q1 q2 => by rw [r6 q q1, zarr_ne _ _ q2, r4 q q1]) (fun j j1 j2 j3 => by rw [p6, if_neg j3, if_neg j2, if_neg j1]) ⟨by rw [p6]; rfl, by split <;> omega, by rw [p6]; exact hf', fun j ja jb => ?_⟩ (by rw [p6]; rfl)
      have e6 : V6 o 4 = f := by rw [p6]; rfl
      rw [e6]
      by_cases hj0 : j = 0
      · subst hj0
        rw [show (f + 60 - 0) % 60 = f by omega]
        refine ⟨?_, M.ok⟩
        show zMC V6 (o + 3) (f * 1516) (gP s)
        refine M.2.1.copy M.ok (fun j x y => ?_)
        rw [r36, Int.zero_add]; exact g1 j x y
      · have jn : j - 1 < gn s ∧ j < 60 := by revert jb; split <;> omega
        obtain ⟨q1, q2⟩ := hj (j - 1) (by omega) jn.1
        have eH : zHpush (gP s) (gH s) j = gH s (j - 1) := if_neg hj0
        rw [eH]
        have ei : (f + 60 - j) % 60 = (V o 4 + 60 - (j - 1)) % 60 := by omega
        have en : (f + 60 - j) % 60 ≠ f := by omega
        rw [← ei] at q1
        have et : 0 ≤ (f + 60 - j) % 60 ∧ (f + 60 - j) % 60 < 60 := by omega
        generalize (f + 60 - j) % 60 = t at *
        exact ⟨q1.copy q2 (fun i x y => by rw [r36, g0 _ (by omega)]), q2⟩
    refine wp_X8_act_15 ⟨fun _ => ⟨M.ko, fun c => ?_, fun c => ?_⟩, fun c => by omega⟩
    · intro V5 e5 V6 e6
      rw [po, if_neg (by decide), h5] at c
      refine fin V6 (fun q hq => by rw [e6, zput_row _ _ _ hq, e5, zput_row _ _ _ hq]) (fun j => ?_)
      rw [e6, e5]; simp only [zput, true_and]
      rw [po, if_neg (show ¬ gn s < 60 by omega)]
    · rw [po, if_neg (by decide), h5] at c ⊢
      refine ⟨⟨by omega, by omega⟩, fun V5 e5 V6 e6 => ?_⟩
      refine fin V6 (fun q hq => by rw [e6, zput_row _ _ _ hq, e5, zput_row _ _ _ hq]) (fun j => ?_)
      rw [e6, e5]; simp only [zput, true_and]
      rw [po, if_pos c]
  · have po : ∀ j, zarr V4 (o + 3) g o j = if j = 4 then f else V o j := fun j => by rw [zarr_ne _ _ (by omega), p4]
    have e0 : zarr V4 (o + 3) g o 0 = o + 1 := by rw [po]; exact M.f0
    have e3 : zarr V4 (o + 3) g o 3 = o + 3 := by rw [po]; exact M.f3
    have e44 : zarr V4 (o + 3) g o 4 = f := by rw [po]; rfl
    have e1 : zarr V4 (o + 3) g (o + 1) i = V (o + 1) i := by rw [zarr_ne _ _ (by omega), r4 _ (by omega)]
    refine wp_X8_act_15 ⟨fun c => by omega, fun _ => ?_⟩
    rw [e0, e3, e44, e1, M.t1, M.t3]
    refine ⟨M.ko, ⟨by omega, by omega⟩, ⟨by omega, by omega⟩, rfl, ⟨a, b⟩, rfl, ⟨by omega, by show f * 1516 + i < 90960; omega⟩, fun V20 e20 => ⟨⟨by omega, by omega⟩, ?_⟩⟩
    rw [e20, zput_zarr V4 (g := zupd g (f * 1516 + i) (V (o + 1) i)) (fun j => rfl)]
    refine ih _ (fun j hj => by rw [zupd_ne _ _ (by omega)]; exact g0 j (by omega)) (fun j ja jb => ?_)
    by_cases hji : j = i
    · rw [hji, zupd_self]
    · rw [zupd_ne _ _ (by omega)]; exact g1 j ja (by omega)
/-- an act is done: V1 behind act(), V2 behind the change of the row s -/
theorem zMd.act (H : zMd S V o s) {V1 V2 : zH} {P' : zP} (f1 : ∀ q, q ≠ o → q ≠ o + 3 → V1 q = V q) (g1 : ∀ j, j ≠ 4 → j ≠ 5 → j ≠ 19 → V1 o j = V o j) (hH : zMH V1 o (if gn s < 60 then gn s + 1 else 60) (zHpush (gP s) (gH s))) (h19 : V1 o 19 = 0) (f2 : ∀ q, q ≠ o + 1 → V2 q = V1 q) (C : zMC V2 (o + 1) 0 P') (ok : zPok P') : zMd S V2 o (zAct s P') := by
  have e0 : V2 o = V1 o := f2 o (by omega)
  refine ⟨⟨H.mo.1.frame (fun j hj => by rw [e0, g1 j (by omega) (by omega) (by omega)]), C, ok⟩, H.b.congr (by rw [e0, g1 6 (by decide) (by decide) (by decide)]) (by rw [e0, g1 7 (by decide) (by decide) (by decide)]) (by rw [f2 _ (by omega), f1 _ (by omega) (by omega)]), hH.congr (by rw [e0]) (by rw [e0]) (f2 _ (by omega)), H.k.congr (by rw [e0, g1 2 (by decide) (by decide) (by decide)]) (by rw [f2 _ (by omega), f1 _ (by omega) (by omega)]), H.t.stop (by rw [e0, g1 17 (by decide) (by decide) (by decide)]) (by rw [e0, g1 18 (by decide) (by decide) (by decide)]) (by rw [e0]; exact h19) (by rw [f2 _ (by omega), f1 _ (by omega) (by omega)]), H.l.congr (by rw [e0, g1 24 (by decide) (by decide) (by decide)]) (by rw [f2 _ (by omega), f1 _ (by omega) (by omega)]), zTP.of0 rfl⟩
/-- the plate as it stands behind act() -/
theorem zMo.acted (M : zMo S V o (gP s)) {V1 : zH} (f1 : ∀ q, q ≠ o → q ≠ o + 3 → V1 q = V q) (g1 : ∀ j, j ≠ 4 → j ≠ 5 → j ≠ 19 → V1 o j = V o j) : zMo S V1 o (gP s) :=
  M.frame (fun j hj => g1 j (by omega) (by omega) (by omega)) (f1 _ (by omega) (by omega))
theorem zMC.set {V' : zH} {P P' : zP} (H : zMC V (o + 1) 0 P) (e : zMC V' (o + 1) 0 P') : zMC V' (o + 1) 0 P' := e
/-- only the shown numbers differ -/
theorem zMC.sh {P : zP} {f g : Int → Int} (H : zMC V (o + 1) 0 P) (on : pn P ≤ 36) (h0 : ∀ j, (j < 4 ∨ 4 + pn P ≤ j) → g j = V (o + 1) j) (h1 : ∀ i, 0 ≤ i → i < pn P → g (4 + i) = f i) (ob : pb P ≤ 36) (hp : 0 ≤ pn P) : zMC (zarr V (o + 1) g) (o + 1) 0 (zSetSh P f) := by
  obtain ⟨c0, c1, c2, c3, c4, c5⟩ := H
  simp only [Int.zero_add] at *
  unfold zMC zMCb
  rw [zarr_self]
  simp only [Int.zero_add]
  refine ⟨by rw [h0 _ (by omega)]; exact c0, by rw [h0 _ (by omega)]; exact c1, by rw [h0 _ (by omega)]; exact c2, by rw [h0 _ (by omega)]; exact c3, h1, fun k a b => ?_⟩
  have a' : 0 ≤ k := a
  obtain ⟨d1, d2, d3, d4, d5⟩ := c5 k a b
  simp only [Int.zero_add] at *
  exact ⟨by rw [h0 _ (by omega)]; exact d1, fun z => ⟨by rw [h0 _ (by omega)]; exact (d2 z).1, by rw [h0 _ (by omega)]; exact (d2 z).2⟩, fun z => by rw [h0 _ (by omega)]; exact d3 z, by rw [h0 _ (by omega)]; exact d4, fun i ia ib => by rw [h0 _ (by omega)]; exact d5 i ia ib⟩
theorem zMo.sh' {P : zP} {f g : Int → Int} (M : zMo S V o P) (h0 : ∀ j, (j < 4 ∨ 4 + pn P ≤ j) → g j = V (o + 1) j) (h1 : ∀ i, 0 ≤ i → i < pn P → g (4 + i) = f i) (hf : ∀ i, 0 ≤ i → i < pn P → 0 ≤ f i ∧ f i < pm P) : zMo S (zarr V (o + 1) g) o (zSetSh P f) :=
  ⟨M.1.frame (fun j _ => by rw [zarr_ne _ _ (by omega)]), M.2.1.sh M.ok.1.2 h0 h1 M.ok.2.2.2.1.2 (by have := M.ok.1; omega), M.ok.sh hf⟩
theorem md_cost (H : zMd S V o s) {k v : Int} {F : Int → zH → Prop} (h1 : (0 ≤ k ∧ k < pb (gP s)) ∧ (0 ≤ v ∧ v ≤ 1000) → ∀ V', zMd S V' o (zAct s (zPrice (gP s) k v)) → zFro V V' o → F (pco (gP s) k) V') (h0 : ¬ ((0 ≤ k ∧ k < pb (gP s)) ∧ (0 ≤ v ∧ v ≤ 1000)) → F (-1) V) : SpI E 2 zm_X8_cost [zrv o, ziv k, ziv v] S V F := by
  have M := H.mo
  have o1 := M.ok.1
  have o4 := M.ok.2.2.2.1
  refine en_X8_cost (fun _ _ => ⟨M.ko, s8_isButton M (fun hk => ⟨fun q => absurd q (by decide), fun _ => s8_in (fun hv => ⟨fun _ => ?_, fun q => absurd q (by decide)⟩) (fun hv => ⟨fun q => absurd rfl q, fun _ => h0 (by omega)⟩)⟩) (fun hk => ⟨fun _ => h0 (by omega), fun q => absurd rfl q⟩)⟩)
  refine md_act H (fun V1 f1 g1 hh h19 => ?_)
  have M1 := M.acted f1 g1
  rw [M1.f0, M1.t1]
  refine ⟨⟨by omega, by omega⟩, rfl, ⟨by omega, by show 184 + k < 1516; omega⟩, fun x13 e13 V2 e2 => ?_⟩
  rw [(M1.bt hk).2.2.2.1] at e13
  rw [e13]
  have r2 : ∀ q, q ≠ o + 1 → V2 q = V1 q := fun q hq => by rw [e2, zput_row _ _ _ hq]
  have e1 : ∀ j, V2 (o + 1) j = zupd (V1 (o + 1)) (184 + k) v j := fun j => by rw [e2]; simp only [zput, zupd, true_and]
  obtain ⟨c0, c1, c2, c3, c4, c5⟩ := M1.2.1
  simp only [Int.zero_add] at c0 c1 c2 c3 c4
  refine h1 ⟨hk, hv⟩ V2 (H.act f1 g1 hh h19 r2 ⟨?_, ?_, ?_, ?_, fun i a b => ?_, fun j a b => ?_⟩ ?_) (fun q hq => by rw [r2 q (by omega), f1 q (by omega) (by omega)])
  · rw [e1, zupd_ne _ _ (by omega)]; exact c0
  · rw [e1, zupd_ne _ _ (by omega)]; exact c1
  · rw [e1, zupd_ne _ _ (by omega)]; exact c2
  · rw [e1, zupd_ne _ _ (by omega)]; exact c3
  · have b' : i < pn (gP s) := b
    rw [e1, zupd_ne _ _ (by omega), Int.zero_add]; exact c4 i a b
  · have b' : j < pb (gP s) := b
    obtain ⟨d1, d2, d3, d4, d5⟩ := M1.bt (k := j) ⟨a, b⟩
    unfold zMCb
    simp only [Int.zero_add, e1]
    refine ⟨by rw [zupd_ne _ _ (by omega)]; exact d1, fun z => ⟨by rw [zupd_ne _ _ (by omega)]; exact (d2 z).1, by rw [zupd_ne _ _ (by omega)]; exact (d2 z).2⟩, fun z => by rw [zupd_ne _ _ (by omega)]; exact d3 z, ?_, fun i ia ib => by rw [zupd_ne _ _ (by omega)]; exact d5 i ia ib⟩
    show zupd (V1 (o + 1)) (184 + k) v (184 + j) = zupd (pco (gP s)) k v j
    by_cases hj : j = k
    · rw [hj, zupd_self, zupd_self]
    · rw [zupd_ne _ _ (by omega), zupd_ne _ _ hj]; exact d4
  · obtain ⟨k1, k2, k3, k4, k5, k6⟩ := M.ok
    refine ⟨k1, k2, k3, k4, k5, fun j a b => ?_⟩
    obtain ⟨c1, c2, c3, c4, c5, c6, c7⟩ := k6 j a b
    refine ⟨c1, c2, c3, c4, c5, ?_, c7⟩
    show 0 ≤ zupd (pco (gP s)) k v j ∧ zupd (pco (gP s)) k v j ≤ 1000
    by_cases hj : j = k
    · rw [hj, zupd_self]; omega
    · rw [zupd_ne _ _ hj]; exact c6
theorem md_light (H : zMd S V o s) {i v : Int} {F : Int → zH → Prop} (h1 : (0 ≤ i ∧ i < pn (gP s)) ∧ (0 ≤ v ∧ v < pm (gP s)) → ∀ V', zMd S V' o (zAct s (zSetSh (gP s) (zupd (psh (gP s)) i v))) → zFro V V' o → F (psh (gP s) i) V') (h0 : ¬ ((0 ≤ i ∧ i < pn (gP s)) ∧ (0 ≤ v ∧ v < pm (gP s))) → F (-1) V) : SpI E 1 zm_X8_light [zrv o, ziv i, ziv v] S V F := by
  have M := H.mo
  have o1 := M.ok.1
  have o2 := M.ok.2.1
  refine en_X8_light (fun _ _ => ⟨M.ko, s8_n M ⟨⟨by omega, by omega⟩, s8_in (fun hi => ⟨fun q => absurd q (by decide), fun _ => s8_m M ⟨⟨by omega, by omega⟩, s8_in (fun hv => ⟨fun _ => ?_, fun q => absurd q (by decide)⟩) (fun hv => ⟨fun q => absurd rfl q, fun _ => h0 (by omega)⟩)⟩⟩) (fun hi => ⟨fun _ => h0 (by omega), fun q => absurd rfl q⟩)⟩⟩)
  refine md_act H (fun V1 f1 g1 hh h19 => ?_)
  have M1 := M.acted f1 g1
  rw [M1.f0, M1.t1]
  refine ⟨⟨by omega, by omega⟩, rfl, ⟨by omega, by show 4 + i < 1516; omega⟩, fun x13 e13 V2 e2 => ?_⟩
  rw [M1.sh ⟨hi.1, by omega⟩] at e13
  rw [e13]
  rw [zput_arr V1 (g := zupd (V1 (o + 1)) (4 + i) v) (fun j => rfl)] at e2
  have r2 : ∀ q, q ≠ o + 1 → V2 q = V1 q := fun q hq => by rw [e2, zarr_ne _ _ hq]
  have M2 : zMo S V2 o (zSetSh (gP s) (zupd (psh (gP s)) i v)) := by
    rw [e2]
    refine M1.sh' (fun j hj => zupd_ne _ _ (by omega)) (fun j a b => ?_) (fun j a b => ?_)
    · by_cases hj : j = i
      · rw [hj, zupd_self, zupd_self]
      · rw [zupd_ne _ _ (by omega), zupd_ne _ _ hj]; exact M1.sh ⟨a, b⟩
    · by_cases hj : j = i
      · rw [hj, zupd_self]; omega
      · rw [zupd_ne _ _ hj]; exact M.ok.2.2.2.2.1 j a b
  exact h1 ⟨⟨hi.1, by omega⟩, hv.1, by omega⟩ V2 (H.act f1 g1 hh h19 r2 M2.2.1 M2.ok) (fun q hq => by rw [r2 q (by omega), f1 q (by omega) (by omega)])
/-- the row s, lamp by lamp -/
def zRowP (r : Int → Int) (P : zP) (t : Int → Int) (c : Int) : Int → Int := fun j => if 4 ≤ j ∧ j < 4 + c then zAdd P t (j - 4) else r j
theorem md_pushed {P : zP} (M : zMo S V o P) {k t : Int} {F : Int → zH → Prop} (hk : 0 ≤ k ∧ k < pb P) (ht : 0 ≤ t) (h : ∀ g, zMo S (zarr V (o + 1) g) o (zSetSh P (zAdd P (fun i => t % pm P * zstp P k i))) → F (zChg P (fun i => t % pm P * zstp P k i)) (zarr V (o + 1) g)) : SpI E 4 zm_X8_pushed [zrv o, ziv k, ziv t] S V F := by
  have o1 := M.ok.1
  have o2 := M.ok.2.1
  generalize hs : (fun i => t % pm P * zstp P k i) = u at h
  have tm := zmod_le t (show 0 < pm P by omega)
  have sb : ∀ i, 0 ≤ t % pm P * zstp P k i ∧ t % pm P * zstp P k i ≤ 121 := fun i => by
    have q := zstp_le M.ok k i
    have := zmul_le (a := t % pm P) (b := zstp P k i) (A := 11) (B := 11) ⟨tm.1, by omega⟩ ⟨q.1, by omega⟩
    omega
  have Hi : ∀ i, 0 ≤ i → i ≤ pn P → zMo S (zarr V (o + 1) (zRowP (V (o + 1)) P u i)) o (zSetSh P (zPart P u i)) := fun i a b => M.sh' (fun j hj => if_neg (by omega)) (fun j ja jb => by
    unfold zRowP zPart
    by_cases hj : j < i
    · rw [if_pos (by omega), if_pos (by omega), show 4 + j - 4 = j by omega]
    · rw [if_neg (by omega), if_neg (by omega)]; exact M.sh ⟨ja, jb⟩) (zPart_le M.ok u _)
  refine en_X8_pushed (fun _ _ X => ?_)
  have key := zdown (Q := fun i => zl_X8_pushed_5 E X F S o k t (zsum (fun i => if zAdd P u i = psh P i then 0 else 1) i) i (zarr V (o + 1) (zRowP (V (o + 1)) P u i))) (N := pn P) ?_ (fun i h0 h1 ih => ?_) 0 (by omega) (by omega)
  · rw [show zarr V (o + 1) (zRowP (V (o + 1)) P u 0) = V from (zarr_ext V _ (fun j => if_neg (by omega))).trans (zarr_id V _)] at key
    exact key
  · have M' := Hi (pn P) (by omega) (by omega)
    refine wp_X8_pushed_5 ⟨M.ko, s8_n M' ⟨fun _ => h _ ?_, fun c => absurd c (by show ¬ pn P < pn P; omega)⟩⟩
    refine M.sh' (fun j hj => if_neg (by omega)) (fun j ja jb => ?_) (fun j ja jb => zAdd_le M.ok u j)
    unfold zRowP
    rw [if_pos (by omega), show 4 + j - 4 = j by omega]
  · have M' := Hi i h0 (by omega)
    have b := zChg_le P u h0
    have b5 := M.ok.2.2.2.2.1 i h0 h1
    have bu := sb i
    have e4 : zarr V (o + 1) (zRowP (V (o + 1)) P u i) (o + 1) (4 + i) = psh P i := by
      rw [M'.sh ⟨h0, h1⟩]
      show zPart P u i i = psh P i
      unfold zPart; rw [if_neg (by omega)]
    refine wp_X8_pushed_5 ⟨M.ko, s8_n M' ⟨fun c => absurd c (by show ¬ pn P ≤ i; omega), fun _ => ?_⟩⟩
    rw [M'.f0, M'.t1, e4]
    rw [zsum_s _ h0] at ih
    refine ⟨⟨by omega, by omega⟩, rfl, ⟨by omega, by show 4 + i < 1516; omega⟩, s8_m M' ⟨ht, by show 0 < pm P; omega, s8_steps M' hk ⟨h0, h1⟩ ⟨?_, ?_, s8_m M' ⟨?_, by show 0 < pm P; omega, fun x20 e20 => ?_⟩⟩⟩⟩
    · show z32 (t % pm P * zstp P k i)
      exact ⟨by omega, by omega⟩
    · show z32 (psh P i + t % pm P * zstp P k i)
      exact ⟨by omega, by omega⟩
    · show 0 ≤ psh P i + t % pm P * zstp P k i
      omega
    · have e20' : x20 = zAdd P u i := by
        rw [e20]
        show (psh P i + t % pm P * zstp P k i) % pm P = zAdd P u i
        unfold zAdd; rw [← hs]
      have nx : ∀ V24, V24 = zput (zarr V (o + 1) (zRowP (V (o + 1)) P u i)) (o + 1) (4 + i) x20 → V24 = zarr V (o + 1) (zRowP (V (o + 1)) P u (i + 1)) := by
        intro V24 e24
        rw [e24, e20']
        refine zput_zarr V (fun j => ?_)
        unfold zRowP
        by_cases hj : j = 4 + i
        · rw [if_pos hj, if_pos (by omega), hj, show 4 + i - 4 = i by omega]
        · rw [if_neg hj]
          by_cases hj2 : 4 ≤ j ∧ j < 4 + i
          · rw [if_pos hj2, if_pos (by omega)]
          · rw [if_neg hj2, if_neg (by omega)]
      refine ⟨fun z => ⟨⟨by omega, by omega⟩, fun V24 e24 => ⟨⟨by omega, by omega⟩, ?_⟩⟩, fun z => ⟨⟨by omega, by omega⟩, fun V24 e24 => ⟨⟨by omega, by omega⟩, ?_⟩⟩⟩
      · rw [nx V24 e24]
        rw [e20'] at z
        simp only [if_pos z] at ih; exact ih
      · rw [nx V24 e24]
        rw [e20'] at z
        simp only [if_neg z] at ih; exact ih
theorem md_push (H : zMd S V o s) {k t : Int} {F : Int → zH → Prop} (h1 : (0 ≤ k ∧ k < pb (gP s)) ∧ pkd (gP s) k ≠ 3 ∧ (0 ≤ t ∧ t ≤ 1000000) → ∀ V', zMd S V' o (zAct s (zSetSh (gP s) (zAdd (gP s) (fun i => t % pm (gP s) * zstp (gP s) k i)))) → zFro V V' o → F (zChg (gP s) (fun i => t % pm (gP s) * zstp (gP s) k i)) V') (h0 : ¬ ((0 ≤ k ∧ k < pb (gP s)) ∧ pkd (gP s) k ≠ 3 ∧ (0 ≤ t ∧ t ≤ 1000000)) → F (-1) V) : SpI E 5 zm_X8_push [zrv o, ziv k, ziv t] S V F := by
  have M := H.mo
  refine en_X8_push (fun _ _ => ⟨M.ko, s8_isButton M (fun hk => ⟨fun q => absurd q (by decide), fun _ => s8_isStuck M hk (fun h3 => ⟨fun _ => h0 (fun q => q.2.1 h3), fun q => absurd q (by decide)⟩) (fun h3 => ⟨fun q => absurd rfl q, fun _ => s8_in (fun ht => ⟨fun _ => ?_, fun q => absurd q (by decide)⟩) (fun ht => ⟨fun q => absurd rfl q, fun _ => h0 (fun q => ht q.2.2)⟩)⟩)⟩) (fun hk => ⟨fun _ => h0 (fun q => hk q.1), fun q => absurd rfl q⟩)⟩)
  refine md_act H (fun V1 f1 g1 hh h19 => ?_)
  have M1 := M.acted f1 g1
  refine md_pushed M1 hk ht.1 (fun g M2 => ?_)
  exact h1 ⟨hk, h3, ht⟩ _ (H.act f1 g1 hh h19 (fun q hq => zarr_ne _ _ hq) M2.2.1 M2.ok) (fun q hq => by rw [zarr_ne _ _ (by omega), f1 q (by omega) (by omega)])
end MDOPS
