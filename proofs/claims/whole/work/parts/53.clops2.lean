/-! THE CLASS: more calls that ask no Solver -/
theorem ztop_next {S : zS} {r r' : Int} (ht : ∀ q, (S q).1 ≠ 0 → q ≤ r) (hr : (S r).1 ≠ 0) (h : (S r').1 = 0 ∧ ∀ q : Int, (S q).1 ≠ 0 → q < r' ∧ (S (r' - 1)).1 ≠ 0) : r' = r + 1 := by
  have h1 := (h.2 r hr).1
  have h2 := ht _ (h.2 r hr).2
  omega
theorem ztop_new {S S' : zS} {r k n : Int} (ht : ∀ q, (S q).1 ≠ 0 → q ≤ r) (e : S' = zSn S (r + 1) (k, n)) (hk : k ≠ 0) : (∀ q, (S' q).1 ≠ 0 → q ≤ r + 1) ∧ (S' (r + 1)).1 ≠ 0 := by
  refine ⟨fun q hq => ?_, by rw [e, zSn_self]; exact hk⟩
  by_cases z : q = r + 1
  · omega
  · rw [e, zSn_ne _ _ z] at hq
    have := ht q hq; omega
def zP00 : zP := ((1, 2, 1, 0), (fun _ => 0), (fun _ => 0), (fun _ => 0), (fun _ => 0), (fun _ => 0), (fun _ => 0), fun _ _ => 0)
theorem zP00_ok : zPok zP00 := zNewP_ok zP00 (by omega) (by omega) (by omega)
section CLOPS2
variable {E : zE} {S : zS} {V : zH} {x w : Int} {s : zSig}
theorem sp_plateInit {r : Int} (hS : S r = (6, 12)) (h0 : ∀ j, V r j = 0) (hr : 0 < r) (ht : ∀ q, (S q).1 ≠ 0 → q ≤ r) {mc ms : Nat} (hm : 7 ≤ mc ∧ 1512 ≤ ms) {F : zS → zH → Prop} (h : ∀ S' V', zPl S' V' r zP00 → V' r 4 = 0 → (∀ q, q ≤ r → S' q = S q) → (∀ q, q < r ∨ r + 7 < q → V' q = V q) → (∀ q, (S' q).1 ≠ 0 → q ≤ r + 7) → F S' V') : SaV E 1 mc ms zm_X3_init [zrv r] S V F := by
  refine en_X3_init ⟨by rw [hS], hr, fun V3 e3 V5 e5 V7 e7 => ⟨by omega, fun r1 _ q1 S1 V1 s1 v1 W1 w1 => ?_⟩⟩
  obtain rfl := ztop_next ht (by rw [hS]; decide) q1
  obtain ⟨t1, n1⟩ := ztop_new ht s1 (by decide)
  refine ⟨by omega, fun r2 _ q2 S2 V2 s2 v2 W2 w2 => ?_⟩
  obtain rfl := ztop_next t1 n1 q2
  obtain ⟨t2, n2⟩ := ztop_new t1 s2 (by decide)
  refine ⟨by omega, fun r3 _ q3 S3 V3' s3 v3 W3 w3 => ?_⟩
  obtain rfl := ztop_next t2 n2 q3
  obtain ⟨t3, n3⟩ := ztop_new t2 s3 (by decide)
  refine ⟨by omega, fun r4 _ q4 S4 V4 s4 v4 W4 w4 => ?_⟩
  obtain rfl := ztop_next t3 n3 q4
  obtain ⟨t4, n4⟩ := ztop_new t3 s4 (by decide)
  refine ⟨by omega, fun r5 _ q5 S5 V5' s5 v5 W5 w5 => ?_⟩
  obtain rfl := ztop_next t4 n4 q5
  obtain ⟨t5, n5⟩ := ztop_new t4 s5 (by decide)
  refine ⟨by omega, fun r6 _ q6 S6 V6 s6 v6 W6 w6 => ?_⟩
  obtain rfl := ztop_next t5 n5 q6
  obtain ⟨t6, n6⟩ := ztop_new t5 s6 (by decide)
  refine ⟨by omega, fun r7 _ q7 S7 V7' s7 v7 W7 w7 => ?_⟩
  obtain rfl := ztop_next t6 n6 q7
  obtain ⟨t7, n7⟩ := ztop_new t6 s7 (by decide)
  refine ⟨by omega, ?_⟩
  have eS : ∀ q, S7 q = if q = r + 7 then (1, 1296) else if q = r + 6 then (1, 36) else if q = r + 5 then (1, 36) else if q = r + 4 then (1, 36) else if q = r + 3 then (1, 36) else if q = r + 2 then (1, 36) else if q = r + 1 then (1, 36) else S q := fun q => by
    rw [s7, s6, s5, s4, s3, s2, s1]
    simp only [zSn, show r + 1 + 1 = r + 2 by omega, show r + 2 + 1 = r + 3 by omega, show r + 3 + 1 = r + 4 by omega, show r + 4 + 1 = r + 5 by omega, show r + 5 + 1 = r + 6 by omega, show r + 6 + 1 = r + 7 by omega]
  have lo : ∀ q, q < r ∨ r + 7 < q → W7 q = V q := fun q hq => by
    rw [w7, zput_row _ _ _ (by omega), v7, zVn_row _ (by omega), w6, zput_row _ _ _ (by omega), v6, zVn_row _ (by omega), w5, zput_row _ _ _ (by omega), v5, zVn_row _ (by omega), w4, zput_row _ _ _ (by omega), v4, zVn_row _ (by omega), w3, zput_row _ _ _ (by omega), v3, zVn_row _ (by omega), w2, zput_row _ _ _ (by omega), v2, zVn_row _ (by omega), w1, zput_row _ _ _ (by omega), v1, zVn_row _ (by omega), e7, zput_row _ _ _ (by omega), e5, zput_row _ _ _ (by omega), e3, zput_row _ _ _ (by omega)]
  have own : ∀ j, W7 r j = if j = 11 then r + 7 else if j = 10 then r + 6 else if j = 9 then r + 5 else if j = 8 then r + 4 else if j = 7 then r + 3 else if j = 6 then r + 2 else if j = 5 then r + 1 else if j = 2 then 1 else if j = 1 then 2 else if j = 0 then 1 else 0 := fun j => by
    rw [w7]; simp only [zput, true_and]
    rw [v7, zVn_ne _ _ (by omega), w6]; simp only [zput, true_and]
    rw [v6, zVn_ne _ _ (by omega), w5]; simp only [zput, true_and]
    rw [v5, zVn_ne _ _ (by omega), w4]; simp only [zput, true_and]
    rw [v4, zVn_ne _ _ (by omega), w3]; simp only [zput, true_and]
    rw [v3, zVn_ne _ _ (by omega), w2]; simp only [zput, true_and]
    rw [v2, zVn_ne _ _ (by omega), w1]; simp only [zput, true_and]
    rw [v1, zVn_ne _ _ (by omega), e7, e5, e3]; simp only [zput, true_and]
    rw [h0 j, show r + 1 + 1 = r + 2 by omega, show r + 2 + 1 = r + 3 by omega, show r + 3 + 1 = r + 4 by omega, show r + 4 + 1 = r + 5 by omega, show r + 5 + 1 = r + 6 by omega, show r + 6 + 1 = r + 7 by omega]
  have sh : ∀ j, W7 (r + 1) j = 0 := fun j => by
    rw [w7, zput_row _ _ _ (by omega), v7, zVn_row _ (by omega), w6, zput_row _ _ _ (by omega), v6, zVn_row _ (by omega), w5, zput_row _ _ _ (by omega), v5, zVn_row _ (by omega), w4, zput_row _ _ _ (by omega), v4, zVn_row _ (by omega), w3, zput_row _ _ _ (by omega), v3, zVn_row _ (by omega), w2, zput_row _ _ _ (by omega), v2, zVn_row _ (by omega), w1, zput_row _ _ _ (by omega), v1, zVn_self]
  refine h S7 W7 ⟨⟨?_, ?_, ?_, ?_, ?_, ?_, ?_, ?_, by rw [own]; rfl, by rw [own]; rfl, by rw [own]; rfl, by rw [own]; rfl, by rw [own]; rfl, by rw [own]; rfl, by rw [own]; rfl⟩, ⟨by rw [own]; rfl, by rw [own]; rfl, by rw [own]; rfl, by rw [own]; rfl, fun i _ _ => sh i, fun k a b => absurd b (by show ¬ k < 0; omega)⟩, zP00_ok⟩ (by rw [own]; rfl) (fun q hq => ?_) lo (fun q hq => ?_)
  · rw [eS]; simp (disch := omega) only [if_neg]; exact hS
  · rw [eS]; simp (disch := omega) only [if_neg, if_pos, if_true]
  · rw [eS]; simp (disch := omega) only [if_neg, if_pos, if_true]
  · rw [eS]; simp (disch := omega) only [if_neg, if_pos, if_true]
  · rw [eS]; simp (disch := omega) only [if_neg, if_pos, if_true]
  · rw [eS]; simp (disch := omega) only [if_neg, if_pos, if_true]
  · rw [eS]; simp (disch := omega) only [if_neg, if_pos, if_true]
  · rw [eS]; simp (disch := omega) only [if_neg, if_pos, if_true]
  · rw [eS]; simp (disch := omega) only [if_neg]
  · have := t7 q hq; omega
def zFresh (s : zSig) (Q : zP) : zSig := (Q, gB s, (0, gH s), gK s, zStop (gT s), (gl s, gL s))
theorem sp_forget {P : zP} {n : Int} {Hs : Int → zP} {T : zT} {F : zH → Prop} (hx : zXA S V x) (hh : zHi S V (x + 11) P n Hs) (ht : zTo S V (x + 15) T) (h : ∀ V', (∀ q, q ≠ x + 11 → q ≠ x + 15 → V' q = V q) → (∀ P', zHi S V' (x + 11) P' 0 Hs) → zTo S V' (x + 15) (zStop T) → F V') : SpV E 0 zm_X7_forgetActs [zrv x] S V F := by
  obtain ⟨x0, x1, x2, x3, x4⟩ := hx
  obtain ⟨⟨⟨a0, a1, a2, a3⟩, b2, b3, b4⟩, ⟨c0, c1, c2⟩, c3⟩ := hh
  refine en_X7_forgetActs ?_
  rw [x3, x4, x0, a0, ht.1.1]
  refine ⟨rfl, rfl, fun V3 e3 => ⟨rfl, fun V6 e6 => h V6 (fun q q1 q2 => ?_) (fun P' => ?_) ?_⟩⟩
  · rw [e6, zput_row _ _ _ q2, e3, zput_row _ _ _ q1]
  · have eh : ∀ j, V6 (x + 11) j = if j = 0 then 0 else V (x + 11) j := fun j => by
      rw [e6, zput_row _ _ _ (by omega), e3]; simp only [zput, true_and]
    exact ⟨⟨⟨a0, a1, a2, a3⟩, by rw [eh]; exact b2, by rw [eh]; exact b3, by rw [eh]; exact b4⟩, ⟨by rw [eh]; rfl, by omega, by rw [eh]; exact c2⟩, fun j u v => by omega⟩
  · rw [e6]
    exact (ht.congr (fun q _ _ => by rw [e3, zput_row _ _ _ (by omega)])).stop
theorem cl_plate (H : zCl S V x s w) (hw : w ≤ 90000) {n m wi : Int} {F : Int → zH → Prop} (h1 : (1 ≤ n ∧ n ≤ 36) ∧ (2 ≤ m ∧ m ≤ 12) ∧ (1 ≤ wi ∧ wi ≤ n) → ∀ V', zCl S V' x (zFresh s (zNewP n m wi (gP s))) (w + 1) → zFrm V V' x → F 1 V') (h0 : ¬ ((1 ≤ n ∧ n ≤ 36) ∧ (2 ≤ m ∧ m ≤ 12) ∧ (1 ≤ wi ∧ wi ≤ n)) → F 0 V) : SpI E 2 zm_X7_plate [zrv x, ziv n, ziv m, ziv wi] S V F := by
  have hw' := H.wi
  refine en_X7_plate (fun _ _ _ => ⟨fun c => h0 (by omega), fun c1 => ⟨fun c => h0 (by omega), fun c2 => ⟨fun c => h0 (by omega), fun c3 => ⟨fun c => h0 (by omega), fun c4 => ⟨fun c => h0 (by omega), fun c5 => ⟨fun c6 => ?_, fun c => h0 (by omega)⟩⟩⟩⟩⟩⟩)
  simp only [H.kx, H.v0, H.p, true_and]
  refine sp_makeNew H.pl ⟨c1, c2⟩ ⟨c3, c4⟩ ⟨c5, c6⟩ (by omega) (fun V1 p1 w1 o1 => ?_)
  rw [show x + 1 + 7 = x + 8 by omega] at o1
  have e0 : V1 x = V x := o1 x (by omega)
  have X1 : zXA S V1 x := by unfold zXA; rw [e0]; exact H.xa
  refine sp_forget X1 (H.hi.congr (fun q _ _ => o1 q (by omega))) (H.to.congr (fun q _ _ => o1 q (by omega))) (fun V2 f2 hh ht => ?_)
  have e02 : V2 x = V x := by rw [f2 x (by omega) (by omega), e0]
  refine h1 ⟨⟨c1, c2⟩, ⟨c3, c4⟩, c5, c6⟩ V2 (H.near (s' := zFresh s (zNewP n m wi (gP s))) (fun j _ => by rw [e02]) (p1.congr (fun q _ _ => f2 q (by omega) (by omega))) (H.bd.congr (fun q _ _ => by rw [f2 q (by omega) (by omega), o1 q (by omega)])) (hh _) ht (H.li.congr e02 (by rw [f2 _ (by omega) (by omega), o1 _ (by omega)])) (zTP.of0 rfl) rfl (Or.inr (by rw [f2 (x + 1) (by omega) (by omega)]; exact w1)) (fun q hq => by rw [f2 q (by omega) (by omega), o1 q (by omega)])) (fun q _ _ => by rw [f2 q (by omega) (by omega), o1 q (by omega)])
theorem cl_undo (H : zCl S V x s w) (hw : w ≤ 90000) {F : Int → zH → Prop} (h1 : 0 < gn s → ∀ V', zCl S V' x (gH s 0, gB s, (gn s - 1, fun j => gH s (j + 1)), gK s, zStop (gT s), (gl s, gL s)) (w + 1) → zFrm V V' x → F (gn s - 1) V') (h0 : gn s = 0 → F (-1) V) : SpI E 2 zm_X7_undo [zrv x] S V F := by
  have hw' := H.wi
  have hn := H.hi.2.1
  refine en_X7_undo ?_
  simp only [H.kx, H.v0, H.v2, H.h, hn.1, true_and]
  refine ⟨fun z => sp_takeBack H.pl H.hi (by omega) (by omega) (by omega) (fun V1 p1 hh1 w1 f1 => ?_), h0⟩
  have e0 : V1 x = V x := f1 x (by omega) (by omega)
  rw [e0, H.v2, H.v3, hh1.2.1.1]
  refine ⟨H.t, fun V2 e2 => ⟨H.h, ?_⟩⟩
  have f2 : ∀ q, q ≠ x + 15 → V2 q = V1 q := fun q hq => by rw [e2, zput_row _ _ _ hq]
  have e02 : V2 x = V x := by rw [f2 x (by omega), e0]
  refine h1 (by omega) V2 (H.near (s' := (gH s 0, gB s, (gn s - 1, fun j => gH s (j + 1)), gK s, zStop (gT s), (gl s, gL s))) (fun j _ => by rw [e02]) (p1.congr (fun q _ _ => f2 q (by omega))) (H.bd.congr (fun q _ _ => by rw [f2 q (by omega), f1 q (by omega) (by omega)])) (hh1.congr (fun q _ _ => f2 q (by omega))) ?_ (H.li.congr e02 (by rw [f2 _ (by omega), f1 _ (by omega) (by omega)])) (zTP.of0 rfl) rfl ?_ (fun q hq => by rw [f2 q (by omega), f1 q (by omega) (by omega)])) (fun q _ _ => by rw [f2 q (by omega), f1 q (by omega) (by omega)])
  · rw [e2]
    exact (H.to.congr (fun q _ _ => f1 q (by omega) (by omega))).stop
  · unfold zWst at *
    rw [f2 (x + 1) (by omega)]; exact w1
theorem cl_back (H : zCl S V x s w) (hw : w ≤ 90000) {F : Int → zH → Prop} (h1 : ∀ Q, gK s = some Q → ∀ V', zCl S V' x (zFresh s Q) (w + 1) → zFrm V V' x → F 1 V') (h0 : gK s = none → F 0 V) : SpI E 2 zm_X7_back [zrv x] S V F := by
  have hw' := H.wi
  have hk := H.ke
  refine en_X7_back ?_
  simp only [H.kx, H.v0, H.p, true_and]
  refine ⟨fun z => ?_, fun z => ?_⟩
  · cases hK : gK s with
    | none => rw [hK] at hk; exact absurd hk (by show ¬ V x 6 = 0; omega)
    | some Q =>
      rw [hK] at hk
      obtain ⟨⟨k1, k2⟩, k3⟩ := hk
      refine sp_copyFrom H.pl.1 k3 (by omega) (by omega) (fun V1 p1 w1 o1 => ?_)
      rw [show x + 1 + 7 = x + 8 by omega] at o1
      have e0 : V1 x = V x := o1 x (by omega)
      have X1 : zXA S V1 x := by unfold zXA; rw [e0]; exact H.xa
      refine sp_forget X1 (H.hi.congr (fun q _ _ => o1 q (by omega))) (H.to.congr (fun q _ _ => o1 q (by omega))) (fun V2 f2 hh ht => ?_)
      have e02 : V2 x = V x := by rw [f2 x (by omega) (by omega), e0]
      exact h1 Q hK V2 (H.near (s' := zFresh s Q) (fun j _ => by rw [e02]) (p1.congr (fun q _ _ => f2 q (by omega) (by omega))) (H.bd.congr (fun q _ _ => by rw [f2 q (by omega) (by omega), o1 q (by omega)])) (hh _) ht (H.li.congr e02 (by rw [f2 _ (by omega) (by omega), o1 _ (by omega)])) (zTP.of0 rfl) rfl (Or.inr (by rw [f2 (x + 1) (by omega) (by omega)]; exact w1)) (fun q hq => by rw [f2 q (by omega) (by omega), o1 q (by omega)])) (fun q _ _ => by rw [f2 q (by omega) (by omega), o1 q (by omega)])
  · cases hK : gK s with
    | none => exact h0 hK
    | some Q => rw [hK] at hk; exact absurd hk.1.1 (by omega)
/-- what count() answers -/
def zCount (s : zSig) (a : Int) : Int := if a = 0 then pn (gP s) else if a = 1 then pm (gP s) else if a = 2 then pw (gP s) else if a = 3 then pb (gP s) else if a = 4 then gn s else if a = 5 then zsum (fun i => if psh (gP s) i = 0 then 0 else 1) (pn (gP s)) else if a = 6 then zsum (psh (gP s)) (pn (gP s)) else if a = 7 then (if bk (gB s) = -1 then -1 else bn (gB s)) else -1
theorem cl_count (H : zCl S V x s w) {a : Int} {F : Int → Prop} (h : F (zCount s a)) : SpF E 1 zm_X7_count [zrv x, ziv a] S V F := by
  unfold zCount at h
  refine en_X7_count (fun _ => ?_)
  simp only [H.kx, H.v0, H.v1, H.v2, H.p, H.b, H.h, H.pl.n, H.pl.m, H.pl.w, H.pl.b, H.hi.2.1.1, H.bd.2.1.1, H.bd.2.1.2.1, true_and]
  refine ⟨fun z => ?_, fun z => ?_, fun z => ?_, fun z => ?_, fun z => ?_, fun z => sp_countLit H.pl ?_, fun z => sp_sumShown H.pl ?_, fun z => ⟨fun z1 => ?_, fun z1 => ?_⟩, fun z => ?_⟩
  all_goals simp (disch := omega) only [if_neg, if_pos] at h
  all_goals exact h
theorem cl_shown (H : zCl S V x s w) {i : Int} {F : Int → Prop} (h : F (if 0 ≤ i ∧ i < pn (gP s) then psh (gP s) i else -1)) : SpF E 1 zm_X7_shown [zrv x, ziv i] S V F := by
  have o1 := H.pl.ok.1
  refine en_X7_shown (fun _ => ?_)
  simp only [H.kx, H.v0, H.p, H.pl.v5, H.pl.s1, true_and]
  refine sp_hasLamp H.pl ⟨fun z => ?_, fun z => ?_⟩
  · have : ¬ (0 ≤ i ∧ i < pn (gP s)) := fun q => by rw [if_pos q] at z; omega
    rw [if_neg this] at h; exact h
  · have hi : 0 ≤ i ∧ i < pn (gP s) := Classical.byContradiction fun q => by rw [if_neg q] at z; omega
    rw [if_pos hi] at h
    rw [H.pl.sh hi]
    exact ⟨⟨hi.1, by omega⟩, h⟩
theorem cl_step (H : zCl S V x s w) {k i : Int} {F : Int → Prop} (h : F (if (0 ≤ k ∧ k < pb (gP s)) ∧ (0 ≤ i ∧ i < pn (gP s)) then zstp (gP s) k i else -1)) : SpF E 4 zm_X7_step [zrv x, ziv k, ziv i] S V F := by
  refine en_X7_step (fun _ _ => ?_)
  simp only [H.kx, H.v0, H.p, true_and]
  refine sp_hasButton H.pl ⟨fun z => ?_, fun z => sp_hasLamp H.pl ⟨fun z1 => ?_, fun z1 => ?_⟩⟩
  · have : ¬ (0 ≤ k ∧ k < pb (gP s)) := fun q => by rw [if_pos q] at z; omega
    rw [if_neg (fun q => this q.1)] at h; exact h
  · have : ¬ (0 ≤ i ∧ i < pn (gP s)) := fun q => by rw [if_pos q] at z1; omega
    rw [if_neg (fun q => this q.2)] at h; exact h
  · have hk : 0 ≤ k ∧ k < pb (gP s) := Classical.byContradiction fun q => by rw [if_neg q] at z; omega
    have hi : 0 ≤ i ∧ i < pn (gP s) := Classical.byContradiction fun q => by rw [if_neg q] at z1; omega
    rw [if_pos ⟨hk, hi⟩] at h
    exact sp_step H.pl hk hi h
theorem cl_row (H : zCl S V x s w) {i : Int} {F : Int → Prop} (h : F (if 0 ≤ i ∧ i < tn (gT s) then tr (gT s) i else -1)) : SpF E 0 zm_X7_row [zrv x, ziv i] S V F := by
  obtain ⟨⟨t1, t2, t3⟩, ⟨t4, t5, t6, t7⟩, t8⟩ := H.to
  have t9 := t8.2.1
  refine en_X7_row (fun _ => ?_)
  simp only [H.kx, H.v3, H.t, t3, t2, t5, true_and]
  refine ⟨fun z => ?_, fun z => ⟨fun z1 => ?_, fun z1 => ⟨⟨z, by omega⟩, ?_⟩⟩⟩
  · rw [if_neg (by omega)] at h; exact h
  · rw [if_neg (by omega)] at h; exact h
  · rw [if_pos ⟨z, z1⟩] at h
    rw [t7 i z z1]; exact h
/-- whether apply() may -/
def zApply (s : zSig) : Prop := tk (gT s) = 1 ∧ tn (gT s) = pb (gP s) ∧ ∀ k, 0 ≤ k → k < pb (gP s) → tr (gT s) k < pm (gP s) ∧ (pkd (gP s) k = 3 → tr (gT s) k = 0)
def zAppl (s : zSig) : Int → Int := fun i => zsum (fun k => tr (gT s) k * zstp (gP s) k i) (pb (gP s)) % pm (gP s)
theorem cl_apply (H : zCl S V x s w) {F : Int → zH → Prop} (h1 : zApply s → ∀ V', zCl S V' x (zAct s (zSetSh (gP s) (zAdd (gP s) (zAppl s)))) (w + 1) → zFrm V V' x → F (zChg (gP s) (zAppl s)) V') (h0 : ¬ zApply s → F (-1) V) : SpI E 6 zm_X7_apply [zrv x] S V F := by
  obtain ⟨⟨t1, t2, t3⟩, ⟨t4, t5, t6, t7⟩, t8⟩ := H.to
  have t9 := t8.2.1
  refine en_X7_apply ?_
  simp only [H.kx, H.v0, H.v3, H.t, H.p, t3, t4, t5, true_and]
  refine ⟨fun z => h0 (fun q => z q.1), fun z => en_X3_isPushing (fun _ => ⟨H.p, fun z1 => ⟨fun q => absurd rfl q, fun _ => h0 (fun q => z1 (by rw [H.pl.b]; exact q.2.1))⟩, fun z1 => ?_⟩)⟩
  rw [H.pl.b] at z1
  refine sp_allBelow H.pl t2 (by omega) (fun c => ⟨fun q => absurd q (by decide), fun _ => ?_⟩) (fun c => ⟨fun _ => ⟨fun q => absurd rfl q, fun _ => h0 (fun q => ?_)⟩, fun q => absurd rfl q⟩)
  · refine sp_firstStuck H.pl t2 (fun c2 => ⟨fun q => absurd rfl q, fun _ => ⟨fun _ => ?_, fun q => absurd q (by decide)⟩⟩) (fun k ka kb k3 kn _ => ⟨fun _ => ⟨fun q => absurd rfl q, fun _ => h0 (fun q => ?_)⟩, fun q => absurd q (by omega)⟩)
    · have ok : zApply s := ⟨z, z1, fun k a b => ⟨by rw [← t7 k a (by omega)]; exact c k a (by omega), fun q => by rw [← t7 k a (by omega)]; exact c2 k a b q⟩⟩
      refine sp_begin H (by omega) (by omega) (fun V1 f1 t1' n1 => ?_)
      have P1 : zPl S V1 (x + 1) (gP s) := H.pl.congr (fun q _ _ => f1 q (by omega))
      rw [f1 x (by omega), H.v0, H.v3, t1'.1.2.2]
      refine ⟨H.t, H.p, ?_⟩
      have er : ∀ k, 0 ≤ k → k < pb (gP s) → V1 (x + 15 + 1) k = tr (gT s) k := fun k a b => t1'.2.1.2.2.2 k a (by show k < tn (gT s); omega)
      have es : (fun i => zsum (fun k => V1 (x + 15 + 1) k * zstp (gP s) k i) (pb (gP s)) % pm (gP s)) = zAppl s := by
        funext i
        unfold zAppl
        rw [zsum_congr (f := fun k => V1 (x + 15 + 1) k * zstp (gP s) k i) (g := fun k => tr (gT s) k * zstp (gP s) k i) (fun k a b => by rw [er k a b])]
      refine sp_pushAll P1 t2 (by omega) (fun k a b => by rw [er k a b]; exact t8.2.2.2 k a (by omega)) ?_
      rw [es]
      have o2 : ∀ g, zOff V1 (zarr V1 (x + 1 + 1) g) (x + 1) (x + 8) := fun g q hq => by rw [zarr_ne _ _ (by omega)]
      refine h1 ok _ (H.act f1 t1' n1 (Or.inl ⟨rfl, _, rfl⟩) (P1.setSh (fun i a b => ?_) (fun j a b => zAdd_le P1.ok _ j)) (Or.inl ⟨by rw [zarr_ne _ _ (by omega)], zSteq.sh _ _⟩) (o2 _)) (fun q _ _ => by rw [o2 _ q (by omega), f1 q (by omega)])
      unfold zPartV
      rw [if_pos ⟨a, b⟩]
    · have := (q.2.2 k ka kb).2 k3
      rw [← t7 k ka (by omega)] at this
      exact kn this
  · obtain ⟨i, ia, ib, ic⟩ := c
    have := (q.2.2 i ia (by omega)).1
    rw [← t7 i ia ib] at this
    omega
def zTell (s : zSig) (v : Int) : zSig := (gP s, gB s, (gn s, gH s), gK s, gT s, (gl s + 1, zupd (gL s) (gl s) v))
def zList0 (s : zSig) : zSig := (gP s, gB s, (gn s, gH s), gK s, gT s, (0, gL s))
theorem cl_tell (H : zCl S V x s w) {v : Int} {F : Int → zH → Prop} (h1 : gl s < 36 ∧ (0 ≤ v ∧ v ≤ 11) → ∀ V', zCl S V' x (zTell s v) (w + 1) → zFrm V V' x → F (gl s + 1) V') (h0 : ¬ (gl s < 36 ∧ (0 ≤ v ∧ v ≤ 11)) → F (-1) V) : SpI E 0 zm_X7_tell [zrv x, ziv v] S V F := by
  obtain ⟨⟨l1, l2⟩, l3, l4, l5⟩ := H.li
  refine en_X7_tell (fun _ => ?_)
  simp only [H.kx, l1, l2, l3, true_and]
  refine ⟨fun z => h0 (by omega), fun z => ⟨fun z1 => h0 (by omega), fun z1 => ⟨fun z2 => ⟨⟨by omega, by omega⟩, fun V1 e1 => ⟨⟨by omega, by omega⟩, fun V2 e2 => ?_⟩⟩, fun z2 => h0 (by omega)⟩⟩⟩
  have f2 : ∀ q, q ≠ x → q ≠ x + 17 → V2 q = V q := fun q q1 q2 => by rw [e2, zput_row _ _ _ q1, e1, zput_row _ _ _ q2]
  have ex : ∀ j, V2 x j = if j = 5 then gl s + 1 else V x j := fun j => by rw [e2, e1]; simp only [zput, true_and]; rw [if_neg (show ¬ (x = x + 17 ∧ j = gl s) by omega)]
  have el : ∀ j, V2 (x + 17) j = zupd (V (x + 17)) (gl s) v j := fun j => by rw [e2, zput_row _ _ _ (by omega), e1]; simp only [zput, zupd, true_and]
  refine h1 (by omega) V2 (H.near (s' := zTell s v) (fun j hj => by rw [ex, if_neg hj]) (H.pl.congr (fun q _ _ => f2 q (by omega) (by omega))) (H.bd.congr (fun q _ _ => f2 q (by omega) (by omega))) (H.hi.congr (fun q _ _ => f2 q (by omega) (by omega))) (H.to.congr (fun q _ _ => f2 q (by omega) (by omega))) ⟨⟨l1, by rw [ex]; exact l2⟩, by rw [ex]; rfl, ⟨by show 0 ≤ gl s + 1; omega, by show gl s + 1 ≤ 36; omega⟩, fun i a b => ?_⟩ H.tp rfl (Or.inl ⟨by rw [f2 (x + 1) (by omega) (by omega)], zSteq.refl _⟩) (fun q hq => f2 q (by omega) (by omega))) (fun q _ _ => f2 q (by omega) (by omega))
  have b' : i < gl s + 1 := b
  rw [el]
  show zupd (V (x + 17)) (gl s) v i = zupd (gL s) (gl s) v i ∧ 0 ≤ zupd (gL s) (gl s) v i ∧ zupd (gL s) (gl s) v i ≤ 11
  by_cases hi : i = gl s
  · rw [hi, zupd_self, zupd_self]; omega
  · rw [zupd_ne _ _ hi, zupd_ne _ _ hi]; exact l5 i a (by omega)
end CLOPS2
