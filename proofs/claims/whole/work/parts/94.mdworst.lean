/-! THE REFERENCE: worst() -/
section MDWORST
variable {E : zE} {S : zS} {V : zH} {o : Int} {P : zP} {s : zSig}
theorem s8_pushes (M : zMo S V o P) {F : Int → Prop} (h : ∀ q, 1 ≤ q → (q ≤ 65536 → q = zAl P) → (65536 < q → 65536 < zAl P) → F q) : SpG E 1 zm_X8_pushes [zrv o] S V F := by
  have o2 := M.ok.2.1
  have o4 := M.ok.2.2.2.1
  refine en_X8_pushes (fun X => ?_)
  have g1 : ∀ c, 0 ≤ c → 1 ≤ zprod (fun k => if pkd P k = 3 then 1 else pm P) c := fun c a => zprod_ge c a (fun j _ _ => by split <;> omega)
  have up : ∀ c, 0 ≤ c → c ≤ pb P → zprod (fun k => if pkd P k = 3 then 1 else pm P) c ≤ zAl P := fun c a b => zprod_up a (pb P) b (fun j _ _ => by split <;> omega)
  have key := zdown (Q := fun c => zl_X8_pushes_4 E X F S o (zprod (fun k => if pkd P k = 3 then 1 else pm P) c) c V) (N := pb P) ?_ (fun c a b ih => ?_) 0 (by omega) (by omega)
  · rw [zprod_0] at key; exact key
  · exact wp_X8_pushes_4 ⟨M.ko, s8_b M ⟨fun _ => h _ (g1 _ o4.1) (fun _ => rfl) (fun q => q), fun q => by omega⟩⟩
  · have c1 := g1 c a
    rw [zprod_s _ a] at ih
    refine wp_X8_pushes_4 ⟨M.ko, s8_b M ⟨fun q => by omega, fun _ => ⟨fun z => h _ c1 (fun q => by omega) (fun _ => by have := up c a (by omega); omega), fun z => s8_isStuck M ⟨a, b⟩ (fun k3 => ⟨fun q => absurd q (by decide), fun _ => ?_⟩) (fun k3 => ⟨fun _ => s8_m M ?_, fun q => absurd rfl q⟩)⟩⟩⟩
    · rw [if_pos k3] at ih
      exact ⟨⟨by omega, by omega⟩, fun x e => ⟨⟨by omega, by omega⟩, by rw [e]; exact ih⟩⟩
    · rw [if_neg k3] at ih
      have pp := zmul_le (a := zprod (fun k => if pkd P k = 3 then 1 else pm P) c) (b := pm P) (A := 65536) (B := 12) ⟨by omega, z⟩ ⟨by omega, o2.2⟩
      exact ⟨⟨by omega, by omega⟩, fun x e => ⟨⟨by omega, by omega⟩, by rw [e]; exact ih⟩⟩
theorem s8_numberOf (M : zMo S V o P) (R : zRf V o P) {F : Int → Prop} (hx : zRd P (zpd V o) (V (o + 9))) (hD : zDp P (zpd V o) (pb P) ≤ 65536) (h : F (zNu P (zpd V o) (V (o + 9)) (pb P))) : SpF E 1 zm_X8_numberOf [zrv o] S V F := by
  have o2 := M.ok.2.1
  have o4 := M.ok.2.2.2.1
  have fg : ∀ j, 0 ≤ j → j < pb P → 1 ≤ (if pkd P (pb P - 1 - j) = 3 then 1 else zpd V o (pb P - 1 - j)) := fun j a b => by
    have := (R.1 (pb P - 1 - j) (by omega) (by omega)).1.1
    split <;> omega
  have up : ∀ t, 0 ≤ t → t ≤ pb P → zDp P (zpd V o) t ≤ 65536 := fun t a b => by
    have := zprod_up (f := fun j => if pkd P (pb P - 1 - j) = 3 then 1 else zpd V o (pb P - 1 - j)) a (pb P) b fg
    have this' : zDp P (zpd V o) t ≤ zDp P (zpd V o) (pb P) := this
    omega
  refine en_X8_numberOf (fun X => ⟨M.ko, s8_b M ⟨⟨by omega, by omega⟩, ?_⟩⟩)
  have key := zdown (Q := fun t => zl_X8_numberOf_9 E X F S o (zNu P (zpd V o) (V (o + 9)) t) (pb P - 1 - t) V) (N := pb P) ?_ (fun t a b ih => ?_) 0 (by omega) (by omega)
  · rw [Int.sub_zero] at key; exact key
  · exact wp_X8_numberOf_9 ⟨fun _ => h, fun q => by omega⟩
  · have nl := zNu_le hx t a (by omega)
    have nl1 := zNu_le hx (t + 1) (by omega) (by omega)
    have u1 := up (t + 1) (by omega) (by omega)
    have u0 := up t a (by omega)
    have xb := hx (pb P - 1 - t) (by omega) (by omega)
    have d0 := (R.1 (pb P - 1 - t) (by omega) (by omega)).1.1
    rw [zNu_s _ _ _ a] at ih nl1
    rw [show pb P - 1 - (t + 1) = pb P - 1 - t + -1 by omega] at ih
    refine wp_X8_numberOf_9 ⟨fun q => by omega, fun _ => ⟨M.ko, s8_isStuck M ⟨by omega, by omega⟩ (fun k3 => ⟨fun _ => ⟨⟨by omega, by omega⟩, ?_⟩, fun q => absurd q (by decide)⟩) (fun k3 => ⟨fun q => absurd rfl q, fun _ => s8_pivot M ⟨by omega, by omega⟩ ?_⟩)⟩⟩
    · rw [if_pos k3] at ih; exact ih
    · rw [if_neg k3] at ih nl1
      have pn := Int.mul_nonneg nl.1 (show 0 ≤ zpd V o (pb P - 1 - t) by omega)
      have z1 : z32 (zNu P (zpd V o) (V (o + 9)) t * zRw (V (o + 5)) (pb P - 1 - t) (pb P - 1 - t)) := ⟨by show -2147483648 ≤ zNu P (zpd V o) (V (o + 9)) t * zpd V o (pb P - 1 - t); omega, by show zNu P (zpd V o) (V (o + 9)) t * zpd V o (pb P - 1 - t) < 2147483648; omega⟩
      have z2 : z32 (zNu P (zpd V o) (V (o + 9)) t * zRw (V (o + 5)) (pb P - 1 - t) (pb P - 1 - t) + V (o + 9) (pb P - 1 - t)) := ⟨by show -2147483648 ≤ zNu P (zpd V o) (V (o + 9)) t * zpd V o (pb P - 1 - t) + V (o + 9) (pb P - 1 - t); omega, by show zNu P (zpd V o) (V (o + 9)) t * zpd V o (pb P - 1 - t) + V (o + 9) (pb P - 1 - t) < 2147483648; omega⟩
      rw [M.f16, M.t9]
      exact ⟨z1, rfl, ⟨by omega, by show pb P - 1 - t < 36; omega⟩, z2, fun x e => ⟨⟨by omega, by omega⟩, by rw [e]; exact ih⟩⟩
theorem s8_pushing (M : zMo S V o P) {N : Int} {F : zH → Prop} (hN : 0 ≤ N) (h : ∀ g, (∀ k, 0 ≤ k → k < pb P → g k = zDg P N k) → F (zarr V (o + 9) g)) : SpV E 1 zm_X8_pushing [zrv o, ziv N] S V F := by
  have o2 := M.ok.2.1
  have o4 := M.ok.2.2.2.1
  have Mg : ∀ g, zMo S (zarr V (o + 9) g) o P := fun g => ((zTf.refl V o).arr g ⟨by omega, by omega⟩).mo M
  refine en_X8_pushing (fun _ X => ?_)
  have key := zdown (Q := fun k => ∀ g, (∀ j, 0 ≤ j → j < k → g j = zDg P N j) → zl_X8_pushing_4 E X F S o (zLeft P N k) k (zarr V (o + 9) g)) (N := pb P) (fun g hg => ?_) (fun k a b ih g hg => ?_) 0 (by omega) (by omega)
  · have := key (V (o + 9)) (fun j _ _ => by omega)
    rw [zarr_id, zLeft_0] at this; exact this
  · exact wp_X8_pushing_4 ⟨M.ko, s8_b (Mg g) ⟨fun _ => h g hg, fun q => by omega⟩⟩
  · have lg := zLeft_ge (show 0 < pm P by omega) hN k a
    rw [zLeft_s P N a] at ih
    refine wp_X8_pushing_4 ⟨M.ko, s8_b (Mg g) ⟨fun q => by omega, fun _ => s8_isStuck (Mg g) ⟨a, b⟩ (fun k3 => ⟨fun q => absurd q (by decide), fun _ => ?_⟩) (fun k3 => ⟨fun _ => s8_m (Mg g) ?_, fun q => absurd rfl q⟩)⟩⟩
    · rw [(Mg g).f16, M.t9]
      refine ⟨rfl, ⟨a, by show k < 36; omega⟩, fun V28 e28 => ?_⟩
      rw [e28, zput_zarr V (g := zupd g k 0) (fun j => rfl)]
      refine s8_isStuck (Mg _) ⟨a, b⟩ (fun _ => ⟨fun q => absurd q (by decide), fun _ => ⟨⟨by omega, by omega⟩, ?_⟩⟩) (fun q => absurd k3 q)
      rw [if_pos k3] at ih
      refine ih _ (fun j p q => ?_)
      by_cases e : j = k
      · rw [e, zupd_self]; unfold zDg; rw [if_pos k3]
      · rw [zupd_ne _ _ e]; exact hg j p (by omega)
    · rw [(Mg g).f16, M.t9]
      refine ⟨lg, by omega, rfl, ⟨a, by show k < 36; omega⟩, fun V28 e28 => ?_⟩
      rw [e28, zput_zarr V (g := zupd g k (zLeft P N k % pm P)) (fun j => rfl)]
      refine s8_isStuck (Mg _) ⟨a, b⟩ (fun q => absurd q k3) (fun _ => ⟨fun _ => s8_m (Mg _) ⟨by omega, fun x e => ⟨⟨by omega, by omega⟩, ?_⟩⟩, fun q => absurd rfl q⟩)
      rw [if_neg k3] at ih
      rw [e]
      refine ih _ (fun j p q => ?_)
      by_cases e : j = k
      · rw [e, zupd_self]; unfold zDg; rw [if_neg k3]
      · rw [zupd_ne _ _ e]; exact hg j p (by omega)
theorem s8_isLike (M : zMo S V o P) {F : Int → Prop} (h1 : (∀ k, 0 ≤ k → k < pb P → V (o + 11) k = V (o + 9) k) → F 1) (h0 : (∃ k, (0 ≤ k ∧ k < pb P) ∧ V (o + 11) k ≠ V (o + 9) k) → F 0) : SpF E 0 zm_X8_isLikeRow [zrv o, zrv (o + 11), ziv (pb P)] S V F := by
  have o4 := M.ok.2.2.2.1
  refine en_X8_isLikeRow (fun _ X => ?_)
  have no : ∀ k, 0 ≤ k → k ≤ pb P → (∃ k, (0 ≤ k ∧ k < pb P) ∧ V (o + 11) k ≠ V (o + 9) k) → zl_X8_isLikeRow_5 E X F S o (o + 11) (pb P) 0 k V := fun k a b hno => by
    refine zdown (Q := fun k => zl_X8_isLikeRow_5 E X F S o (o + 11) (pb P) 0 k V) (N := pb P) ?_ (fun c x y ih => ?_) k a b
    · exact wp_X8_isLikeRow_5 ⟨fun _ => ⟨Or.inl rfl, h0 hno⟩, fun q => by omega⟩
    · exact wp_X8_isLikeRow_5 ⟨fun q => by omega, fun _ => ⟨fun _ => ⟨⟨by omega, by omega⟩, ih⟩, fun q => absurd rfl q⟩⟩
  refine zdown (Q := fun k => (∀ j, 0 ≤ j → j < k → V (o + 11) j = V (o + 9) j) → zl_X8_isLikeRow_5 E X F S o (o + 11) (pb P) 1 k V) (N := pb P) (fun he => ?_) (fun c x y ih he => ?_) 0 (by omega) (by omega) (fun j _ _ => by omega)
  · exact wp_X8_isLikeRow_5 ⟨fun _ => ⟨Or.inr rfl, h1 he⟩, fun q => by omega⟩
  · refine wp_X8_isLikeRow_5 ⟨fun q => by omega, fun _ => ⟨fun q => absurd q (by decide), fun _ => ?_⟩⟩
    rw [M.f16, M.t9, M.t11]
    refine ⟨rfl, ⟨x, by show c < 36; omega⟩, M.ko, rfl, ⟨x, by show c < 36; omega⟩, fun z => ⟨⟨by omega, by omega⟩, no (c + 1) (by omega) (by omega) ⟨c, ⟨x, y⟩, z⟩⟩, fun z => ⟨⟨by omega, by omega⟩, ih (fun j p q => ?_)⟩⟩
    by_cases e : j = c
    · rw [e]; exact z
    · exact he j p (by omega)
theorem s8_isAhead (M : zMo S V o P) {F : Int → Prop} (hx : ∀ k, 0 ≤ k → k < pb P → 0 ≤ V (o + 9) k ∧ V (o + 9) k < pm P) (hh : ∀ i, 0 ≤ i → i < pn P → 0 ≤ V (o + 10) i ∧ V (o + 10) i < pm P) (h1 : zNp P (zPt P (V (o + 9))) < zNp P (V (o + 10)) → F 1) (h0 : zNp P (V (o + 10)) ≤ zNp P (zPt P (V (o + 9))) → F 0) : SpF E 5 zm_X8_isAhead [zrv o] S V F := by
  have o1 := M.ok.1
  have o2 := M.ok.2.1
  have ok := M.ok
  refine en_X8_isAhead (fun X => ?_)
  refine zdown (Q := fun i => (∀ j, 0 ≤ j → j < i → zPt P (V (o + 9)) j = V (o + 10) j) → zl_X8_isAhead_2 E X F S o i V) (N := pn P) (fun he => ?_) (fun i a b ih he => ?_) 0 (by omega) (by omega) (fun j _ _ => by omega)
  · exact wp_X8_isAhead_2 ⟨M.ko, s8_n M ⟨fun _ => h0 (by rw [zNp_congr he]; exact Int.le_refl _), fun q => by omega⟩⟩
  · refine wp_X8_isAhead_2 ⟨M.ko, s8_n M ⟨fun q => by omega, fun _ => s8_made M ⟨a, b⟩ (fun k p q => by have := hx k p q; omega) ?_⟩⟩
    rw [M.f20, M.t10]
    refine ⟨rfl, ⟨a, by show i < 36; omega⟩, fun z => ⟨⟨by omega, by omega⟩, ih (fun j p q => ?_)⟩, fun z => ⟨fun y => h0 ?_, fun y => h1 (zNp_lt ok (fun i _ _ => zPt_bd ok _ i) hh ⟨a, b⟩ y he)⟩⟩
    · by_cases e : j = i
      · rw [e]; exact z
      · exact he j p (by omega)
    · have z' : zPt P (V (o + 9)) i ≠ V (o + 10) i := z
      have y' : V (o + 10) i ≤ zPt P (V (o + 9)) i := y
      have : zNp P (V (o + 10)) < zNp P (zPt P (V (o + 9))) := zNp_lt ok hh (fun i _ _ => zPt_bd ok (V (o + 9)) i) ⟨a, b⟩ (show V (o + 10) i < zPt P (V (o + 9)) i by omega) (fun j p q => (he j p q).symm)
      omega
/-- only the rows for searching have changed -/
def zWo (V V1 : zH) (o : Int) : Prop := ∀ q, (q < o + 9 ∨ o + 12 < q) → V1 q = V q
theorem zWo.arr {V1 : zH} (h : zWo V V1 o) {a : Int} (g : Int → Int) (ha : o + 9 ≤ a ∧ a ≤ o + 12) : zWo V (zarr V1 a g) o := fun q hq => by rw [zarr_ne _ _ (by omega)]; exact h q hq
theorem zWo.put {V1 : zH} (h : zWo V V1 o) {a i y : Int} (ha : o + 9 ≤ a ∧ a ≤ o + 12) : zWo V (zput V1 a i y) o := fun q hq => by rw [zput_row _ _ _ (by omega)]; exact h q hq
theorem zWo.tf {V1 : zH} (h : zWo V V1 o) : zTf V V1 o := ⟨fun q _ b => h q (by omega), fun j _ _ _ _ _ _ => by rw [h o (by omega)]⟩
theorem md_worst (H : zMd S V o s) {F : Int → zH → Prop}
    (hs : 65536 < zAl (gP s) → ∀ V', zMd S V' o s → zFro V V' o → F (-2) V')
    (h1 : zAl (gP s) ≤ 65536 → ∀ V' c p, zWs (gP s) c p → zMd S V' o (zSetT s (2, pn (gP s), 0, p)) → zFro V V' o → F c V') : SpJ E 6 zm_X8_worst [zrv o] S V F := by
  have M := H.mo
  generalize hP : gP s = P at *
  have ok := M.ok
  have o1 := ok.1
  have o2 := ok.2.1
  have o4 := ok.2.2.2.1
  have hL := zQu_lat P
  refine en_X8_worst (fun X => ⟨M.ko, s8_pushings M (fun V3 l3 r3 => s8_pushes (l3.mo M) (fun al a0 a1 a2 => s8_quiet (l3.mo M) r3 (fun q q0 q1 q2 => ⟨fun z => hs (by have := q2 z; have := zMany.le ok r3.1; omega) V3 (H.lf l3) l3.fro, fun z => ⟨fun y => s8_b (l3.mo M) (s8_quiet (l3.mo M) r3 (fun q' q0' q1' q2' => ?_)), fun y => hs (a2 y) V3 (H.lf l3) l3.fro⟩⟩)))⟩)
  have eq := q1 z
  have hq' : q' = zMany P (zpd V3 o) := by
    rcases Int.lt_or_le 65536 q' with w | w
    · have := q2' w; omega
    · exact q1' w
  have ea := a1 y
  have hA : zAl P ≤ 65536 := by omega
  have M3 := l3.mo M
  generalize hdd : zpd V3 o = d at *
  have Ds : zDs (pm P) (pb P) (zQu P) d := by rw [← hdd]; exact r3.1
  have Dal := zDp_all ok Ds
  have D1 : 1 ≤ zDp P d (pb P) := zprod_ge (pb P) o4.1 (fun j a b => by
    have := (Ds (pb P - 1 - j) (by omega) (by omega)).1.1
    split <;> omega)
  have Dq : al / q' = zDp P d (pb P) := by
    rw [ea, hq', ← Dal]
    exact Int.mul_ediv_cancel _ (by omega)
  have D2 : zDp P d (pb P) ≤ 65536 := by
    have := Int.mul_le_mul_of_nonneg_left (show 1 ≤ zMany P d by omega) (show 0 ≤ zDp P d (pb P) by omega)
    rw [Int.mul_one, Dal] at this
    omega
  refine ⟨by omega, by omega, fun x16 e16 => ?_⟩
  rw [Dq, zl2i_id (by unfold z32; omega)] at e16
  subst e16
  generalize hDD : zDp P d (pb P) = D at *
  -- facts of a heap with other rows for searching
  have FM : ∀ V1, zWo V3 V1 o → zMo S V1 o P := fun V1 h => h.tf.mo M3
  have F5 : ∀ V1, zWo V3 V1 o → V1 (o + 5) = V3 (o + 5) := fun V1 h => h _ (by omega)
  have FR : ∀ V1, zWo V3 V1 o → zRf V1 o P := fun V1 h => by
    unfold zRf zpd
    rw [F5 V1 h]; exact r3
  have Fp : ∀ V1, zWo V3 V1 o → zpd V1 o = d := fun V1 h => by rw [← hdd]; unfold zpd; rw [F5 V1 h]
  have dle : ∀ k, 0 ≤ k → k < pb P → d k ≤ pm P := fun k a b => (Ds.le (by omega) a b).1.2
  have same : ∀ x y, zRd P d x → zRd P d y → zQu P (fun k => x k - y k) → ∀ k, 0 ≤ k → k < pb P → x k = y k := fun x y hx hy hq => zred_uniq (fun k a b => ⟨d k, Ds k a b, hx k a b, hy k a b⟩) hq
  have neg : ∀ x y : Int → Int, zQu P (fun k => x k - y k) → zQu P (fun k => y k - x k) := fun x y h => (hL.2.2.1 (-1) _ h).eq (fun k _ _ => by show y k - x k = -1 * (x k - y k); omega)
  have tra : ∀ x y z : Int → Int, zQu P (fun k => x k - y k) → zQu P (fun k => y k - z k) → zQu P (fun k => x k - z k) := fun x y z h g => (hL.2.1 _ _ h g).eq (fun k _ _ => by show x k - z k = x k - y k + (y k - z k); omega)
  have cg : ∀ x y : Int → Int, (∀ k, 0 ≤ k → k < pb P → x k = y k) → zQu P (fun k => x k - y k) := fun x y h => hL.1.eq (fun k a b => by show x k - y k = 0; rw [h k a b, Int.sub_self])
  -- the end
  have fin : ∀ V1 W, zWo V3 V1 o → zWs P W (V1 (o + 10)) → zl_X8_worst_139 E X F S o al (pb P) W al V1 := by
    intro V1 W w1 hW
    have M1 := FM V1 w1
    refine wp_X8_worst_139 ⟨fun _ => ⟨M.ko, s8_n M1 (s8_tells M1 (Or.inl rfl) (fun V5 r5 o5 f5 => ?_))⟩, fun q => by omega⟩
    have ft : zTf V V5 o := (l3.tf.trans w1.tf).trans f5
    have Mg : ∀ g, zMo S (zarr V5 (o + 9) g) o P := fun g => ((ft.arr g ⟨by omega, by omega⟩)).mo M
    have eo : ∀ g, zarr V5 (o + 9) g o = V5 o := fun g => zarr_ne _ _ (by omega)
    have e10 : ∀ g, zarr V5 (o + 9) g (o + 10) = V1 (o + 10) := fun g => by rw [zarr_ne _ _ (by omega), r5 _ (by omega)]
    have key := zdown (Q := fun c => ∀ g, (∀ j, 0 ≤ j → j < c → g j = V1 (o + 10) j) → zl_X8_worst_269 E X F S o W c (zarr V5 (o + 9) g)) (N := pn P) (fun g hg => ?_) (fun c a b ih g hg => ?_) 0 (by omega) (by omega)
    · have := key (V5 (o + 9)) (fun j _ _ => by omega)
      rw [zarr_id] at this; exact this
    · refine wp_X8_worst_269 ⟨M.ko, s8_n (Mg g) ⟨fun _ => h1 hA _ W (V1 (o + 10)) hW (H.tf (ft.arr g ⟨by omega, by omega⟩) ⟨by rw [eo, o5]; rfl, by rw [eo, o5]; rfl, by rw [eo, o5]; rfl, fun i a b => by rw [zarr_self]; exact hg i a b, ⟨by show (0 : Int) ≤ 2; omega, by show (2 : Int) ≤ 2; omega⟩, ⟨by show 0 ≤ pn P; omega, o1.2⟩, Or.inl rfl, fun i a b => ?_⟩ (zTP.of0 rfl)) (ft.arr g ⟨by omega, by omega⟩).fro, fun q => by omega⟩⟩
      obtain ⟨⟨u, u1, u2, u3⟩, -⟩ := hW
      have := zPt_bd ok u i
      show 0 ≤ V1 (o + 10) i ∧ V1 (o + 10) i ≤ 11
      rw [u3 i a b]; omega
    · refine wp_X8_worst_269 ⟨M.ko, s8_n (Mg g) ⟨fun q => by omega, fun _ => ?_⟩⟩
      rw [(Mg g).f20, (Mg g).f16, M.t10, M.t9, e10]
      refine ⟨rfl, ⟨a, by show c < 36; omega⟩, rfl, ⟨a, by show c < 36; omega⟩, fun V9 e9 => ⟨⟨by omega, by omega⟩, ?_⟩⟩
      rw [e9, zput_zarr V5 (g := zupd g c (V1 (o + 10) c)) (fun j => rfl)]
      refine ih _ (fun j p q => ?_)
      by_cases hj : j = c
      · rw [hj, zupd_self]
      · rw [zupd_ne _ _ hj]; exact hg j p (by omega)
  -- the second round: all reduced pushings are held against each other
  have two : ∀ TB : Int → Int, (∀ u, zPu P u → zRd P d u → zMn P u (TB (zNu P d u (pb P)))) → ∀ k, 0 ≤ k → k ≤ al → ∀ V1 W, zWo V3 V1 o → V1 (o + 12) = TB → (∀ N, 0 ≤ N → N < k → zRd P d (zDg P N) → ∀ c, zMn P (zDg P N) c → c < W ∨ (c = W ∧ zNp P (V1 (o + 10)) ≤ zNp P (zPt P (zDg P N)))) → ((W = -1 ∧ ∀ N, 0 ≤ N → N < k → ¬ zRd P d (zDg P N)) ∨ (0 ≤ W ∧ ∃ u, zPu P u ∧ zMn P u W ∧ ∀ i, 0 ≤ i → i < pn P → V1 (o + 10) i = zPt P u i)) → zl_X8_worst_139 E X F S o al (pb P) W k V1 := by
    intro TB hTB
    refine zdown (N := al) (fun V1 W w1 t1 j1 j2 => ?_) (fun k k0 k1 ih V1 W w1 t1 j1 j2 => ?_)
    · refine fin V1 W w1 ⟨?_, fun v c' pv hv => ?_⟩
      · rcases j2 with ⟨e, hn⟩ | ⟨e, hu⟩
        · exfalso
          refine hn 0 (Int.le_refl 0) (by omega) (fun k a b => ?_)
          have l0 : ∀ k, 0 ≤ k → zLeft P 0 k = 0 := zind (zLeft_0 P 0) (fun k a ih => by rw [zLeft_s P 0 a, ih]; split; rfl; exact Int.zero_ediv _)
          have dk := (Ds k a b).1.1
          unfold zDg
          rw [l0 k a, Int.zero_emod]
          split <;> omega
        · exact hu
      · obtain ⟨t, t1', t2⟩ := zrep (show 0 < pm P by omega) o4.1 hL Ds pv.bd
        have tp : zPu P t := zPu.of (fun k a b => ⟨(t1' k a b).1, by have := (t1' k a b).2; have := dle k a b; omega⟩) (fun k a b h3 => by
          have := t2.2 k a b h3
          have v0 := (pv k a b).2 h3
          have this' : pm P ∣ t k - v k := this
          rw [v0, Int.sub_zero] at this'; exact this')
        obtain ⟨N, N1, N2⟩ := zDg_all ok tp
        have q1 : zQu P (fun k => v k - zDg P N k) := tra v t (zDg P N) (neg t v t2) (cg t (zDg P N) (fun k a b => (N2 k a b).symm))
        have := j1 N N1.1 (by omega) (fun k a b => by rw [N2 k a b]; exact t1' k a b) c' (hv.same q1)
        rw [zNp_congr (P := P) (p := zPt P v) (q := zPt P (zDg P N)) (fun i a b => zPt.same q1 ⟨a, b⟩)]
        exact this
    · have M1 := FM V1 w1
      refine wp_X8_worst_139 ⟨fun q => by omega, fun _ => ⟨M.ko, s8_pushing M1 k0 (fun g hg => ?_)⟩⟩
      have w9 := w1.arr (a := o + 9) g ⟨by omega, by omega⟩
      have M9 := FM _ w9
      have gp : zPu P g := fun j a b => by rw [hg j a b]; exact zDg_pu (by omega) k j a b
      rw [M9.f21]
      refine s8_keepsRow M9 (Or.inr rfl) o4 (fun wr hwr => ?_)
      rw [zarr_self] at hwr
      have w11 := w9.arr (a := o + 11) wr ⟨by omega, by omega⟩
      have M11 := FM _ w11
      have e119 : zarr (zarr V1 (o + 9) g) (o + 11) wr (o + 9) = g := by rw [zarr_ne _ _ (by omega), zarr_self]
      refine s8_lower M11 (FR _ w11) ⟨o4.1, Int.le_refl _⟩ (by rw [e119]; exact gp.bd) (fun g' b1 b2 b3 b4 => ?_)
      rw [e119] at b2
      rw [Fp _ w11] at b4
      have w13 := w11.arr (a := o + 9) g' ⟨by omega, by omega⟩
      have M13 := FM _ w13
      generalize hV : zarr (zarr (zarr V1 (o + 9) g) (o + 11) wr) (o + 9) g' = V13 at *
      have e9 : V13 (o + 9) = g' := by rw [← hV, zarr_self]
      have e11 : V13 (o + 11) = wr := by rw [← hV, zarr_ne _ _ (by omega), zarr_self]
      have e10 : V13 (o + 10) = V1 (o + 10) := by rw [← hV, zarr_ne _ _ (by omega), zarr_ne _ _ (by omega), zarr_ne _ _ (by omega)]
      have e12 : V13 (o + 12) = TB := by rw [← hV, zarr_ne _ _ (by omega), zarr_ne _ _ (by omega), zarr_ne _ _ (by omega)]; exact t1
      have g'r : zRd P d g' := fun j a b => ⟨(b1 j a b).1, b4 j a b⟩
      rw [M13.f21]
      refine s8_isLike M13 (fun he => ⟨fun _ => ?_, fun q => absurd q (by decide)⟩) (fun hne => ⟨fun q => absurd rfl q, fun _ => ⟨⟨by omega, by omega⟩, ih V13 W w13 e12 (fun N n0 n1 rd c hc => ?_) ?_⟩⟩)
      · -- a reduced one
        have ge : ∀ j, 0 ≤ j → j < pb P → g' j = zDg P k j := fun j a b => by
          have := he j a b
          rw [e11, e9, hwr j a b, hg j a b] at this
          exact this.symm
        have rdk : zRd P d (zDg P k) := fun j a b => by rw [← ge j a b]; exact g'r j a b
        have nu := zNu_congr (d := d) ge (pb P) o4.1 (Int.le_refl _)
        have mn := hTB (zDg P k) (zDg_pu (by omega) k) rdk
        have nb := zNu_le rdk (pb P) o4.1 (Int.le_refl _)
        have cpos : 0 ≤ TB (zNu P d (zDg P k) (pb P)) := by
          obtain ⟨⟨u, u1, u2, u3⟩, -⟩ := mn
          rw [← u3]; exact (zCst_le ok u1.bd).1
        refine s8_numberOf M13 (FR _ w13) (by rw [Fp _ w13, e9]; exact g'r) (by rw [Fp _ w13, hDD]; exact D2) ?_
        rw [Fp _ w13, e9, nu, M13.f22, M.t12, e12]
        refine ⟨rfl, ⟨nb.1, by show zNu P d (zDg P k) (pb P) < 65536; omega⟩, fun c ec => ?_⟩
        rw [← ec] at mn cpos
        have pe : ∀ i, 0 ≤ i → i < pn P → zPt P g' i = zPt P (zDg P k) i := fun i a b => zPt.same (cg _ _ ge) ⟨a, b⟩
        -- the pattern is kept
        have take : (W < c ∨ (W = c ∧ zNp P (zPt P (zDg P k)) < zNp P (V1 (o + 10)))) → zl_X8_worst_223 E X F S o al (pb P) c k 0 V13 := by
          intro hbt
          have key := zdown (Q := fun i => ∀ bp, (∀ j, 0 ≤ j → j < i → bp j = zPt P (zDg P k) j) → zl_X8_worst_223 E X F S o al (pb P) c k i (zarr V13 (o + 10) bp)) (N := pn P) (fun bp hbp => ?_) (fun i a b ihi bp hbp => ?_) 0 (by omega) (by omega)
          · have := key (V13 (o + 10)) (fun j _ _ => by omega)
            rw [zarr_id] at this; exact this
          · have wb := w13.arr (a := o + 10) bp ⟨by omega, by omega⟩
            refine wp_X8_worst_223 ⟨M.ko, s8_n (FM _ wb) ⟨fun _ => ⟨⟨by omega, by omega⟩, ih _ c wb (by rw [zarr_ne _ _ (by omega)]; exact e12) (fun N n0 n1 rd c' hc' => ?_) (Or.inr ⟨cpos, _, zDg_pu (by omega) k, mn, by rw [zarr_self]; exact hbp⟩)⟩, fun q => by omega⟩⟩
            rw [zarr_self, zNp_congr hbp]
            by_cases e : N = k
            · rw [e] at hc' ⊢
              exact Or.inr ⟨hc'.uniq mn, Int.le_refl _⟩
            · have := j1 N n0 (by omega) rd c' hc'
              omega
          · have wb := w13.arr (a := o + 10) bp ⟨by omega, by omega⟩
            have e9' : zarr V13 (o + 10) bp (o + 9) = g' := by rw [zarr_ne _ _ (by omega)]; exact e9
            refine wp_X8_worst_223 ⟨M.ko, s8_n (FM _ wb) ⟨fun q => by omega, fun _ => s8_made (FM _ wb) ⟨a, b⟩ (fun j p q => by rw [e9']; have := b1 j p q; omega) ?_⟩⟩
            rw [(FM _ wb).f20, M.t10, e9']
            refine ⟨rfl, ⟨a, by show i < 36; omega⟩, fun V10 e10' => ⟨⟨by omega, by omega⟩, ?_⟩⟩
            rw [e10', zput_zarr V13 (g := zupd bp i (zsum (fun k => g' k * zstp P k i) (pb P) % pm P)) (fun j => rfl)]
            refine ihi _ (fun j p q => ?_)
            by_cases e : j = i
            · rw [e, zupd_self]; exact pe i a b
            · rw [zupd_ne _ _ e]; exact hbp j p (by omega)
        have keep : (c < W ∨ (c = W ∧ zNp P (V1 (o + 10)) ≤ zNp P (zPt P (zDg P k)))) → zl_X8_worst_139 E X F S o al (pb P) W (k + 1) V13 := by
          intro hbt
          refine ih V13 W w13 e12 (fun N n0 n1 rd c' hc' => ?_) ?_
          · rw [e10]
            by_cases e : N = k
            · rw [e] at hc' ⊢
              rw [hc'.uniq mn]; exact hbt
            · exact j1 N n0 (by omega) rd c' hc'
          · rw [e10]
            rcases j2 with ⟨q, -⟩ | q
            · omega
            · exact Or.inr q
        refine ⟨fun z => take (Or.inl z), fun z => ⟨fun z1 => ⟨⟨by omega, by omega⟩, keep (Or.inl (by omega))⟩, fun z1 => ?_⟩⟩
        have hb10 : ∀ i, 0 ≤ i → i < pn P → 0 ≤ V13 (o + 10) i ∧ V13 (o + 10) i < pm P := fun i a b => by
          rcases j2 with ⟨q, -⟩ | ⟨-, u, u1, u2, u3⟩
          · omega
          · rw [e10, u3 i a b]; exact zPt_bd ok u i
        refine s8_isAhead M13 (by rw [e9]; exact b1) hb10 (fun lt => ⟨fun q => absurd q (by decide), fun _ => take (Or.inr ⟨z1.symm, ?_⟩)⟩) (fun le => ⟨fun _ => ⟨⟨by omega, by omega⟩, keep (Or.inr ⟨z1, ?_⟩)⟩, fun q => absurd rfl q⟩)
        · rw [e9, e10, zNp_congr pe] at lt; exact lt
        · rw [e9, e10, zNp_congr pe] at le; exact le
      · rw [e10]
        by_cases e : N = k
        · exfalso
          rw [e] at rd
          obtain ⟨j, ja, jb⟩ := hne
          rw [e11, e9, hwr j ja.1 ja.2, hg j ja.1 ja.2] at jb
          have q1 : zQu P (fun i => g' i - zDg P k i) := tra g' g (zDg P k) b2 (cg g (zDg P k) hg)
          exact jb (same g' (zDg P k) g'r rd q1 j ja.1 ja.2).symm
        · exact j1 N n0 (by omega) rd c hc
      · rw [e10]
        rcases j2 with ⟨q, hn⟩ | q
        · refine Or.inl ⟨q, fun N n0 n1 rd => ?_⟩
          by_cases e : N = k
          · rw [e] at rd
            obtain ⟨j, ja, jb⟩ := hne
            rw [e11, e9, hwr j ja.1 ja.2, hg j ja.1 ja.2] at jb
            have q1 : zQu P (fun i => g' i - zDg P k i) := tra g' g (zDg P k) b2 (cg g (zDg P k) hg)
            exact jb (same g' (zDg P k) g'r rd q1 j ja.1 ja.2).symm
          · exact hn N n0 (by omega) rd
        · exact Or.inr q
  -- the first round: the table of least COSTS
  have one : ∀ k, 0 ≤ k → k ≤ al → ∀ V1, zWo V3 V1 o → (∀ u N, zPu P u → zRd P d u → 0 ≤ N → N < k → zQu P (fun j => zDg P N j - u j) → V1 (o + 12) (zNu P d u (pb P)) ≤ zCst P (zDg P N)) → (∀ a, 0 ≤ a → a < D → V1 (o + 12) a = 9223372036854775807 ∨ ∃ N u, (0 ≤ N ∧ N < k) ∧ zPu P u ∧ zRd P d u ∧ zQu P (fun j => zDg P N j - u j) ∧ zNu P d u (pb P) = a ∧ V1 (o + 12) a = zCst P (zDg P N)) → zl_X8_worst_75 E X F S o al (pb P) k V1 := by
    refine zdown (N := al) (fun V1 w1 i1 i2 => ?_) (fun k k0 k1 ih V1 w1 i1 i2 => ?_)
    · refine wp_X8_worst_75 ⟨fun _ => two (V1 (o + 12)) (fun u pu ru => ?_) 0 (Int.le_refl 0) (by omega) V1 (-1) w1 rfl (fun N _ _ => by omega) (Or.inl ⟨rfl, fun N _ _ => by omega⟩), fun q => by omega⟩
      have nb := zNu_le ru (pb P) o4.1 (Int.le_refl _)
      have lo : ∀ y, zPu P y → zQu P (fun j => y j - u j) → V1 (o + 12) (zNu P d u (pb P)) ≤ zCst P y := fun y py qy => by
        obtain ⟨N, N1, N2⟩ := zDg_all ok py
        rw [← zCst_congr N2]
        exact i1 u N pu ru N1.1 (by omega) (tra _ y u (cg _ _ N2) qy)
      refine ⟨?_, lo⟩
      rcases i2 _ nb.1 (by omega) with e | ⟨N, u', N1, pu', ru', qu', eu', ec⟩
      · have := lo u pu (cg u u (fun _ _ _ => rfl))
        have := zCst_le ok pu.bd
        omega
      · have eu : ∀ j, 0 ≤ j → j < pb P → u' j = u j := fun j a b => by
          by_cases h3 : pkd P j = 3
          · rw [(pu' j a b).2 h3, (pu j a b).2 h3]
          · exact zNu_inj ru' ru (pb P) o4.1 (Int.le_refl _) eu' j (by omega) b h3
        exact ⟨zDg P N, zDg_pu (by omega) N, tra _ u' u qu' (cg _ _ eu), ec.symm⟩
    · have M1 := FM V1 w1
      refine wp_X8_worst_75 ⟨fun q => by omega, fun _ => ⟨M.ko, s8_pushing M1 k0 (fun g hg => ?_)⟩⟩
      have w9 := w1.arr (a := o + 9) g ⟨by omega, by omega⟩
      have M9 := FM _ w9
      have gp : zPu P g := fun j a b => by rw [hg j a b]; exact zDg_pu (by omega) k j a b
      refine s8_costOf M9 (by rw [zarr_self]; exact gp.bd) (s8_lower M9 (FR _ w9) ⟨o4.1, Int.le_refl _⟩ (by rw [zarr_self]; exact gp.bd) (fun g' b1 b2 b3 b4 => ?_))
      rw [zarr_self] at b2
      rw [Fp _ w9] at b4
      rw [zarr_zarr, zarr_self]
      have w13 := w1.arr (a := o + 9) g' ⟨by omega, by omega⟩
      have M13 := FM _ w13
      have g'r : zRd P d g' := fun j a b => ⟨(b1 j a b).1, b4 j a b⟩
      have q1 : zQu P (fun i => g' i - zDg P k i) := tra g' g (zDg P k) b2 (cg g (zDg P k) hg)
      have g'p : zPu P g' := zPu.of b1 (fun j a b h3 => by
        have := b2.2 j a b h3
        have g0 := (gp j a b).2 h3
        have this' : pm P ∣ g' j - g j := this
        rw [g0, Int.sub_zero] at this'; exact this')
      have ec : zCst P g = zCst P (zDg P k) := zCst_congr hg
      have cb := zCst_le ok gp.bd
      have nb := zNu_le g'r (pb P) o4.1 (Int.le_refl _)
      refine s8_numberOf M13 (FR _ w13) (by rw [Fp _ w13, zarr_self]; exact g'r) (by rw [Fp _ w13, hDD]; exact D2) ?_
      rw [Fp _ w13, zarr_self, M13.f22, M.t12, zarr_ne V1 g' (show o + 12 ≠ o + 9 by omega)]
      refine ⟨rfl, ⟨nb.1, by show zNu P d g' (pb P) < 65536; omega⟩, sp_minl (fun V15 e15 => ⟨⟨by omega, by omega⟩, ih V15 (by rw [e15]; exact w13.put ⟨by omega, by omega⟩) (fun u N pu ru n0 n1 hq => ?_) (fun a a0 a1 => ?_)⟩)⟩
      · have r15 : ∀ a, V15 (o + 12) a = if a = zNu P d g' (pb P) then (if zCst P g < V1 (o + 12) (zNu P d g' (pb P)) then zCst P g else V1 (o + 12) (zNu P d g' (pb P))) else V1 (o + 12) a := fun a => by
          rw [e15]; simp only [zput, true_and]; rw [zarr_ne _ _ (by omega)]
        rw [r15]
        by_cases e : N = k
        · have eu : ∀ j, 0 ≤ j → j < pb P → u j = g' j := same u g' ru g'r (tra u (zDg P k) g' (neg _ _ (by rw [e] at hq; exact hq)) (neg _ _ q1))
          rw [zNu_congr eu (pb P) o4.1 (Int.le_refl _), if_pos rfl, e, ← ec]
          split <;> omega
        · have := i1 u N pu ru n0 (by omega) hq
          by_cases e2 : zNu P d u (pb P) = zNu P d g' (pb P)
          · rw [if_pos e2]
            rw [e2] at this
            split <;> omega
          · rw [if_neg e2]; exact this
      · have r15 : ∀ a, V15 (o + 12) a = if a = zNu P d g' (pb P) then (if zCst P g < V1 (o + 12) (zNu P d g' (pb P)) then zCst P g else V1 (o + 12) (zNu P d g' (pb P))) else V1 (o + 12) a := fun a => by
          rw [e15]; simp only [zput, true_and]; rw [zarr_ne _ _ (by omega)]
        rw [r15]
        by_cases e : a = zNu P d g' (pb P)
        · rw [if_pos e]
          by_cases lt : zCst P g < V1 (o + 12) (zNu P d g' (pb P))
          · rw [if_pos lt]
            exact Or.inr ⟨k, g', ⟨k0, by omega⟩, g'p, g'r, neg _ _ q1, e.symm, ec⟩
          · rw [if_neg lt, ← e]
            rcases i2 a a0 a1 with z | ⟨N, u, N1, r⟩
            · exact Or.inl z
            · exact Or.inr ⟨N, u, ⟨N1.1, by omega⟩, r⟩
        · rw [if_neg e]
          rcases i2 a a0 a1 with z | ⟨N, u, N1, r⟩
          · exact Or.inl z
          · exact Or.inr ⟨N, u, ⟨N1.1, by omega⟩, r⟩
  -- the table is cleared
  have key := zdown (Q := fun c => ∀ V1, zWo V3 V1 o → (∀ j, 0 ≤ j → j < c → V1 (o + 12) j = 9223372036854775807) → zl_X8_worst_49 E X F S o al (pb P) D c V1) (N := D) (fun V1 w1 hc => ?_) (fun c a b ih V1 w1 hc => ?_) 0 (by omega) (by omega)
  · exact key V3 (fun _ _ => rfl) (fun j _ _ => by omega)
  · exact wp_X8_worst_49 ⟨fun _ => one 0 (Int.le_refl 0) (by omega) V1 w1 (fun u N _ _ _ _ => by omega) (fun a a0 a1 => Or.inl (hc a a0 a1)), fun q => by omega⟩
  · have M1 := FM V1 w1
    refine wp_X8_worst_49 ⟨fun q => by omega, fun _ => ?_⟩
    rw [M1.f22, M.t12]
    refine ⟨M.ko, rfl, ⟨a, by show c < 65536; omega⟩, fun V5 e5 => ⟨⟨by omega, by omega⟩, ih V5 (by rw [e5]; exact w1.put ⟨by omega, by omega⟩) (fun j p q => ?_)⟩⟩
    rw [e5]
    by_cases e : j = c
    · rw [e, zput_self]
    · rw [zput_nk _ _ _ _ e]; exact hc j p (by omega)
end MDWORST
