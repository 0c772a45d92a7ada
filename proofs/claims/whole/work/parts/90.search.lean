/-! THE CLASS'S SEARCH: made, and made ready -/
section SEARCHNEW
variable {E : zE} {S : zS} {V : zH} {x w so se : Int} {s : zSig} {P : zP}
theorem sp_searchInit {r : Int} {mc ms : Nat} {F : zS → zH → Prop} (hS : S r = (7, 12)) (h0 : 0 < r) (hz : ∀ j, V r j = 0) (ht : ∀ q, (S q).1 ≠ 0 → q ≤ r) (hm : 6 ≤ mc ∧ 360 ≤ ms)
    (hF : ∀ S' V', zSeA S' V' so r → (∀ q, q ≤ r → S' q = S q) → (∀ q, (q < r ∨ r + 6 < q) → V' q = V q) → F S' V') : SaV E 1 mc ms zm_X4_init [zrv r, zrv (so + 4), zrv (so + 2)] S V F := by
  have hT : (S r).1 ≠ 0 := by rw [hS]; decide
  refine en_X4_init ⟨by rw [hS], h0, by omega, fun r1 _ q1 S1 V1 s1 v1 W1 w1 => ?_⟩
  obtain rfl := ztop_next ht hT q1
  obtain ⟨t1, n1⟩ := ztop_new ht s1 (by decide)
  refine ⟨by omega, fun r2 _ q2 S2 V2 s2 v2 W2 w2 => ?_⟩
  obtain rfl := ztop_next t1 n1 q2
  obtain ⟨t2, n2⟩ := ztop_new t1 s2 (by decide)
  refine ⟨by omega, fun r3 _ q3 S3 V3 s3 v3 W3 w3 => ?_⟩
  obtain rfl := ztop_next t2 n2 q3
  obtain ⟨t3, n3⟩ := ztop_new t2 s3 (by decide)
  refine ⟨by omega, fun r4 _ q4 S4 V4 s4 v4 W4 w4 => ?_⟩
  obtain rfl := ztop_next t3 n3 q4
  obtain ⟨t4, n4⟩ := ztop_new t3 s4 (by decide)
  refine ⟨by omega, fun r5 _ q5 S5 V5 s5 v5 W5 w5 => ?_⟩
  obtain rfl := ztop_next t4 n4 q5
  obtain ⟨t5, n5⟩ := ztop_new t4 s5 (by decide)
  refine ⟨by omega, fun r6 _ q6 S6 V6 s6 v6 W6 w6 W7 w7 W8 w8 => ⟨by omega, ?_⟩⟩
  obtain rfl := ztop_next t5 n5 q6
  have eS : ∀ q, S6 q = if q = r + 6 then (1, 36) else if q = r + 5 then (1, 72) else if q = r + 4 then (1, 72) else if q = r + 3 then (1, 72) else if q = r + 2 then (1, 72) else if q = r + 1 then (1, 36) else S q := fun q => by
    rw [s6, s5, s4, s3, s2, s1]
    simp only [zSn, show r + 1 + 1 = r + 2 by omega, show r + 2 + 1 = r + 3 by omega, show r + 3 + 1 = r + 4 by omega, show r + 4 + 1 = r + 5 by omega, show r + 5 + 1 = r + 6 by omega]
  have own : ∀ j, W8 r j = if j = 1 then so + 2 else if j = 0 then so + 4 else if j = 11 then r + 6 else if j = 9 then r + 5 else if j = 8 then r + 4 else if j = 6 then r + 3 else if j = 5 then r + 2 else if j = 4 then r + 1 else 0 := fun j => by
    rw [w8, w7, w6]; simp only [zput, true_and]
    rw [v6, zVn_ne _ _ (by omega), w5]; simp only [zput, true_and]
    rw [v5, zVn_ne _ _ (by omega), w4]; simp only [zput, true_and]
    rw [v4, zVn_ne _ _ (by omega), w3]; simp only [zput, true_and]
    rw [v3, zVn_ne _ _ (by omega), w2]; simp only [zput, true_and]
    rw [v2, zVn_ne _ _ (by omega), w1]; simp only [zput, true_and]
    rw [v1, zVn_ne _ _ (by omega), hz j, show r + 1 + 1 = r + 2 by omega, show r + 2 + 1 = r + 3 by omega, show r + 3 + 1 = r + 4 by omega, show r + 4 + 1 = r + 5 by omega, show r + 5 + 1 = r + 6 by omega]
  refine hF S6 W8 ⟨⟨?_, ?_, ?_, ?_, ?_, ?_, ?_⟩, by rw [own]; rfl, by rw [own]; rfl, by rw [own]; rfl, by rw [own]; rfl, by rw [own]; rfl, by rw [own]; rfl, by rw [own]; rfl, by rw [own]; rfl⟩ (fun q hq => ?_) (fun q hq => ?_)
  · rw [eS]; simp (disch := omega) only [if_neg]; exact hS
  · rw [eS]; simp (disch := omega) only [if_neg, if_true]
  · rw [eS]; simp (disch := omega) only [if_neg, if_true]
  · rw [eS]; simp (disch := omega) only [if_neg, if_true]
  · rw [eS]; simp (disch := omega) only [if_neg, if_true]
  · rw [eS]; simp (disch := omega) only [if_neg, if_true]
  · rw [eS]; simp only [if_true]
  · rw [eS]; simp (disch := omega) only [if_neg]
  · rw [w8, zput_row _ _ _ (by omega), w7, zput_row _ _ _ (by omega), w6, zput_row _ _ _ (by omega), v6, zVn_row _ (by omega), w5, zput_row _ _ _ (by omega), v5, zVn_row _ (by omega), w4, zput_row _ _ _ (by omega), v4, zVn_row _ (by omega), w3, zput_row _ _ _ (by omega), v3, zVn_row _ (by omega), w2, zput_row _ _ _ (by omega), v2, zVn_row _ (by omega), w1, zput_row _ _ _ (by omega), v1, zVn_row _ (by omega)]
theorem zSeA.keep {V' : zH} (H : zSeA S V so se) (g : ∀ j, j = 0 ∨ j = 1 ∨ j = 4 ∨ j = 5 ∨ j = 6 ∨ j = 8 ∨ j = 9 ∨ j = 11 → V' se j = V se j) : zSeA S V' so se := by
  obtain ⟨s1, f0, f1, f4, f5, f6, f8, f9, f11⟩ := H
  exact ⟨s1, by rw [g 0 (by omega)]; exact f0, by rw [g 1 (by omega)]; exact f1, by rw [g 4 (by omega)]; exact f4, by rw [g 5 (by omega)]; exact f5, by rw [g 6 (by omega)]; exact f6, by rw [g 8 (by omega)]; exact f8, by rw [g 9 (by omega)]; exact f9, by rw [g 11 (by omega)]; exact f11⟩
/-- the Search's own cells alone have changed -/
theorem zCl.search (H : zCl S V x s w) (R : zRdy S V x so s) (h5 : V so 5 = se ∧ 0 < se) {V' : zH} (f : ∀ q, (q < se ∨ se + 6 < q) → V' q = V q) (g : ∀ j, j = 0 ∨ j = 1 ∨ j = 4 ∨ j = 5 ∨ j = 6 ∨ j = 8 ∨ j = 9 ∨ j = 11 → V' se j = V se j) : zCl S V' x s w ∧ zRdy S V' x so s ∧ V' so 5 = se := by
  have hlo := R.lo
  have hx0 := H.wi.1
  obtain ⟨⟨r1, r2⟩, r3, r4, r5⟩ := R
  obtain ⟨h1, h2, h3, h4, h5', h6⟩ := id r3
  rw [h5.1] at h6
  obtain ⟨⟨y1, y2, y3, y4⟩, y5⟩ : (x + 32 ≤ se ∧ zDj so 8 se 6 ∧ (V x 6 = 0 ∨ zDj se 6 (V x 6) 7) ∧ (V so 4 = 0 ∨ zDj (V so 4) 3 se 6)) ∧ zSeA S V so se := by
    rcases h6 with z | z
    · omega
    · exact z
  unfold zDj at y2
  have ex : V' x = V x := f x (by omega)
  have eo : ∀ q, so ≤ q → q ≤ so + 8 → V' q = V q := fun q a b => f q (by omega)
  have es := eo so (by omega) (by omega)
  have ep : V' (x + 1) = V (x + 1) := f _ (by omega)
  have tab : zTab V so (gP s) → zTab V' so (gP s) := fun t => t.congr (zSteq.refl _) eo
  have So' : zSo S V' (x + 1) (x + 32) so (V x 6) (gP s) := by
    refine ⟨h1, h2.congr es (eo _ (by omega) (by omega)) (eo _ (by omega) (by omega)), by rw [es, ep]; exact h3, fun z => tab (h4 (by rw [es, ep] at z; exact z)), ?_, ?_⟩
    · rw [es, ep]
      rcases h5' with z | ⟨z1, z2, z3⟩
      · exact Or.inl z
      · have d4 : V so 4 + 3 < se ∨ se + 6 < V so 4 := by
          rcases y4 with q | q
          · have := z1.1; omega
          · exact q
        refine Or.inr ⟨z1, z2.congr (f _ (by omega)) (f _ (by omega)), fun a b => ?_⟩
        exact (z3 a b).congr (h4 a).1 (zSteq.refl _) es (eo _ (by omega) (by omega)) (fun q c d => f q (by omega))
    · rw [es, h5.1]
      exact Or.inr ⟨⟨y1, y2, y3, y4⟩, y5.keep g⟩
  refine ⟨H.solver (fun q a b => f q (by omega)) (fun j _ => by rw [ex]) (fun z6 q a b => f q ?_) (Or.inr (by rw [ex, r1]; exact So')), ⟨⟨by rw [ex]; exact r1, r2⟩, by rw [ex]; exact So', tab r4, by rw [es, ep]; exact r5⟩, by rw [es]; exact h5.1⟩
  rcases y3 with z | z
  · omega
  · unfold zDj at z; omega
theorem sp_begin4 {F : zH → Prop} (HA : zSeA S V so se) (T : zTab V so P) (FA : zFA S V (so + 4) (so + 6) (so + 5)) (ok : zPok P) (dj : zDj so 8 se 6)
    (h : ∀ V' L, (∀ q, q ≠ se → q ≠ se + 1 → V' q = V q) → (∀ j, j ≠ 2 → j ≠ 3 → j ≠ 10 → V' se j = V se j) → V' se 2 = pn P → V' se 3 = L → V' se 10 = -1 → (0 ≤ L ∧ L ≤ V so 6) → (∀ l, 0 ≤ l → l < L → (0 ≤ V' (se + 1) l - pn P ∧ V' (se + 1) l - pn P < V so 6) ∧ V (so + 6) (V' (se + 1) l) ≠ 0) → (∀ l k, 0 ≤ l → l < k → k < L → V' (se + 1) l < V' (se + 1) k) → (∀ r, 0 ≤ r → r < V so 6 → V (so + 6) (pn P + r) ≠ 0 → ∃ l, (0 ≤ l ∧ l < L) ∧ V' (se + 1) l = pn P + r) → F V') : SpV E 0 zm_X4_begin [zrv se, ziv (pn P)] S V F := by
  have o1 := ok.1
  have o4 := ok.2.2.2.1
  have f0 := T.fr.1
  unfold zDj at dj
  have ks : (S se).1 = 7 := by rw [HA.1.1]
  have kf : (S (so + 4)).1 = 4 := by rw [FA.1.1]
  refine en_X4_begin (fun _ X => ⟨ks, fun V2 e2 V4 e4 V6 e6 => ⟨by rw [HA.2.1]; exact kf, fun x9 e9 => ?_⟩⟩)
  rw [HA.2.1, T.f1] at e9
  have key := zdown (Q := fun r => ∀ V1 L, (∀ q, q ≠ se → q ≠ se + 1 → V1 q = V q) → (∀ j, j ≠ 2 → j ≠ 3 → j ≠ 10 → V1 se j = V se j) → V1 se 2 = pn P → V1 se 3 = L → V1 se 10 = -1 → (0 ≤ L ∧ L ≤ r) → (∀ l, 0 ≤ l → l < L → (0 ≤ V1 (se + 1) l - pn P ∧ V1 (se + 1) l - pn P < r) ∧ V (so + 6) (V1 (se + 1) l) ≠ 0) → (∀ l k, 0 ≤ l → l < k → k < L → V1 (se + 1) l < V1 (se + 1) k) → (∀ r', 0 ≤ r' → r' < r → V (so + 6) (pn P + r') ≠ 0 → ∃ l, (0 ≤ l ∧ l < L) ∧ V1 (se + 1) l = pn P + r') → zl_X4_begin_23 E X F S se (pn P + r) V1) (N := V so 6) (fun V1 L c1 c2 c3 c4 c5 c6 c7 c8 c9 => ?_) (fun r a b ih V1 L c1 c2 c3 c4 c5 c6 c7 c8 c9 => ?_) 0 (by omega) (by omega)
  · rw [e9, show pn P = pn P + 0 by omega]
    have ro : ∀ j, V6 se j = if j = 10 then -1 else if j = 3 then 0 else if j = 2 then pn P else V se j := fun j => by rw [e6, e4, e2]; simp only [zput, true_and]
    exact key V6 0 (fun q a b => by rw [e6, zput_row _ _ _ a, e4, zput_row _ _ _ a, e2, zput_row _ _ _ a]) (fun j a b c => by rw [ro, if_neg c, if_neg b, if_neg a]) (by rw [ro]; rfl) (by rw [ro]; rfl) (by rw [ro]; rfl) ⟨by omega, by omega⟩ (fun l _ _ => by omega) (fun l k _ _ _ => by omega) (fun r' _ _ => by omega)
  · refine wp_X4_begin_23 ?_
    rw [c2 0 (by decide) (by decide) (by decide), HA.2.1, c1 (so + 4) (by omega) (by omega), T.f2]
    exact ⟨ks, kf, fun _ => h V1 L c1 c2 c3 c4 c5 c6 c7 c8 c9, fun q => by omega⟩
  · refine wp_X4_begin_23 ?_
    rw [c2 0 (by decide) (by decide) (by decide), HA.2.1, c1 (so + 4) (by omega) (by omega), T.f2, FA.2.1.1, FA.1.2.1, c2 4 (by decide) (by decide) (by decide), HA.2.2.2.1, HA.1.2.1, c4, c1 (so + 6) (by omega) (by omega)]
    refine ⟨ks, kf, fun q => by omega, fun _ => ⟨rfl, ⟨by omega, by show pn P + r < 72; omega⟩, fun z => ⟨⟨by omega, by omega⟩, ?_⟩, fun z => ⟨rfl, ⟨c6.1, by show L < 36; omega⟩, fun V10 e10 => ⟨⟨by omega, by omega⟩, fun V13 e13 => ⟨⟨by omega, by omega⟩, ?_⟩⟩⟩⟩⟩
    · rw [Int.add_assoc]
      refine ih V1 L c1 c2 c3 c4 c5 ⟨c6.1, by omega⟩ (fun l p q => ⟨⟨(c7 l p q).1.1, by have := (c7 l p q).1.2; omega⟩, (c7 l p q).2⟩) c8 (fun r' p q y => ?_)
      by_cases e : r' = r
      · rw [e] at y; exact absurd z y
      · exact c9 r' p (by omega) y
    · have r1 : ∀ j, V13 (se + 1) j = if j = L then pn P + r else V1 (se + 1) j := fun j => by rw [e13, zput_row _ _ _ (by omega), e10]; simp only [zput, true_and]
      have ro : ∀ j, V13 se j = if j = 3 then L + 1 else V1 se j := fun j => by rw [e13]; simp only [zput, true_and]; rw [e10, zput_row _ _ _ (by omega)]
      rw [Int.add_assoc]
      refine ih V13 (L + 1) (fun q p y => by rw [e13, zput_row _ _ _ p, e10, zput_row _ _ _ y]; exact c1 q p y) (fun j p q y => by rw [ro, if_neg q]; exact c2 j p q y) (by rw [ro]; exact c3) (by rw [ro]; rfl) (by rw [ro]; exact c5) ⟨by omega, by omega⟩ (fun l p q => ?_) (fun l k p q y => ?_) (fun r' p q y => ?_)
      · rw [r1]
        by_cases e : l = L
        · rw [if_pos e]; exact ⟨⟨by omega, by omega⟩, z⟩
        · rw [if_neg e]
          have := c7 l p (by omega)
          exact ⟨⟨this.1.1, by omega⟩, this.2⟩
      · rw [r1, r1, if_neg (show l ≠ L by omega)]
        by_cases e : k = L
        · rw [if_pos e]
          have := (c7 l p (by omega)).1; omega
        · rw [if_neg e]; exact c8 l k p q (by omega)
      · by_cases e : r' = r
        · exact ⟨L, ⟨c6.1, by omega⟩, by rw [r1, if_pos rfl, e]⟩
        · obtain ⟨l, l1, l2⟩ := c9 r' p (by omega) y
          exact ⟨l, ⟨l1.1, by omega⟩, by rw [r1, if_neg (by omega)]; exact l2⟩
theorem cl_freshSearch (H : zCl S V x s w) (R : zRdy S V x so s) (hS : (S (x + 31)).1 ≠ 0) {mc ms : Nat} (hm : V so 5 = 0 → 7 ≤ mc ∧ 372 ≤ ms) {F : Int → zS → zH → Prop}
    (h : ∀ S' V' se L co pc, zExt S S' → zCl S' V' x s w → zRdy S' V' x so s → (V' so 5 = se ∧ 0 < se) → zSr S' V' so se L (V so 6) (gP s) (V (so + 1)) (V (so + 6)) (V (so + 7)) co pc → V' se 10 = -1 → V' (so + 3) = V (so + 3) → zFrm V V' x → F se S' V') : SaR E 2 mc ms zm_X5_freshSearch [zrv so] S V F := by
  have hlo := R.lo
  obtain ⟨⟨e7, so0⟩, HS, HT, hst⟩ := id R
  have hw := H.wi
  have hkp := H.ke.pos
  have ok := H.pl.ok
  have o1 := ok.1
  have o4 := ok.2.2.2.1
  obtain ⟨⟨l1, l1'⟩, h2, h3, h4, h5, h6⟩ := id HS
  have ks : (S so).1 = 8 := by rw [h2.1.1]
  have fin : ∀ S2 V2 se (k n : Nat) X, zExt S S2 → zCl S2 V2 x s w → zRdy S2 V2 x so s → (V2 so 5 = se ∧ 0 < se) → (∀ q, so < q → q ≤ so + 8 → V2 q = V q) → V2 so 6 = V so 6 → zFrm V V2 x → k ≤ mc ∧ n ≤ ms → SpV E 0 zm_X4_begin [zrv se, ziv (pn (gP s))] S2 V2 (fun V6 => zl_X5_freshSearch_42 E X F mc ms k n S2 so 0 V6) := by
    intro S2 V2 se k n X ex C2 R2 w2 eq2 e62 fr2 hk
    obtain ⟨⟨e72, _⟩, So2, T2, st2⟩ := id R2
    obtain ⟨⟨m1, m1'⟩, m2, m3, m4, m5, m6⟩ := id So2
    rw [w2.1] at m6
    obtain ⟨⟨y1, y2, y3, y4⟩, y5⟩ : (x + 32 ≤ se ∧ zDj so 8 se 6 ∧ (V2 x 6 = 0 ∨ zDj se 6 (V2 x 6) 7) ∧ (V2 so 4 = 0 ∨ zDj (V2 so 4) 3 se 6)) ∧ zSeA S2 V2 so se := by
      rcases m6 with z | z
      · omega
      · exact z
    have dj : so + 8 < se ∨ se + 6 < so := y2
    have f0 := T2.fr.1
    refine sp_begin4 y5 T2 m2.2.2 ok y2 (fun V4 L a1 a2 a3 a4 a5 a6 a7 a8 a9 => ?_)
    have es4 : V4 so = V2 so := a1 so (by omega) (by omega)
    -- prices
    have key := zdown (Q := fun r => ∀ V5, (∀ q, q ≠ se + 2 → V5 q = V4 q) → (∀ j, 0 ≤ j → j < r → V5 (se + 2) (pn (gP s) + j) = pco (gP s) (V (so + 1) j)) → zl_X5_freshSearch_42 E X F mc ms k n S2 so r V5) (N := V so 6) (fun V5 c1 c2 => ?_) (fun r p q ih V5 c1 c2 => ?_) 0 (by omega) (by omega)
    · exact key V4 (fun _ _ => rfl) (fun j _ _ => by omega)
    · have f5 : ∀ q, (q < se ∨ se + 6 < q) → V5 q = V2 q := fun q hq => by rw [c1 q (by omega), a1 q (by omega) (by omega)]
      obtain ⟨C5, R5, w5⟩ := C2.search R2 w2 (V' := V5) f5 (fun j hj => by rw [c1 se (by omega)]; exact a2 j (by omega) (by omega) (by omega))
      have e5o : V5 so = V2 so := f5 so (by omega)
      refine wp_X5_freshSearch_42 ?_
      rw [e5o, e62, w2.1]
      refine ⟨by rw [m2.1.1], fun _ => ⟨hk, h S2 V5 se L (V5 (se + 1)) (V5 (se + 2)) ex C5 R5 ⟨w5, w2.2⟩ ⟨⟨?_, R5.2.2.1, ?_, m2.1.2.2.1, y2⟩, ⟨by rw [e5o]; exact e62, ?_, ?_, ?_, rfl, rfl, by rw [c1 se (by omega)]; exact a3, by rw [c1 se (by omega)]; exact a4⟩, ⟨?_, ?_, ?_, ?_⟩, c2⟩ (by rw [c1 se (by omega)]; exact a5) ?_ (fun q a b => by rw [f5 q (by omega)]; exact fr2 q a b)⟩, fun q => by omega⟩
      · exact y5.keep (fun j hj => by rw [c1 se (by omega)]; exact a2 j (by omega) (by omega) (by omega))
      · exact m2.2.2.congr (f5 _ (by omega)) (f5 _ (by omega))
      · rw [f5 _ (by omega)]; exact eq2 _ (by omega) (by omega)
      · rw [f5 _ (by omega)]; exact eq2 _ (by omega) (by omega)
      · rw [f5 _ (by omega)]; exact eq2 _ (by omega) (by omega)
      · rw [← e62]; exact a6
      · rw [c1 (se + 1) (by omega), ← e62, ← eq2 (so + 6) (by omega) (by omega)]; exact a7
      · rw [c1 (se + 1) (by omega)]; exact a8
      · rw [c1 (se + 1) (by omega), ← e62, ← eq2 (so + 6) (by omega) (by omega)]; exact a9
      · rw [f5 _ (by omega)]; exact eq2 _ (by omega) (by omega)
    · have e5o : V5 so = V2 so := by rw [c1 so (by omega), es4]
      have e5s : V5 se = V4 se := c1 se (by omega)
      have ep : V5 (x + 1) = V2 (x + 1) := by rw [c1 _ (by omega), a1 _ (by omega) (by omega)]
      have e1 : V5 (so + 1) = V (so + 1) := by rw [c1 _ (by omega), a1 _ (by omega) (by omega)]; exact eq2 _ (by omega) (by omega)
      have eb := (T2.fr.2.1 r p (by omega)).1
      rw [eq2 (so + 1) (by omega) (by omega)] at eb
      have pr : V5 (x + 1 + 6) (V (so + 1) r) = pco (gP s) (V (so + 1) r) := by
        rw [c1 _ (by omega), a1 _ (by omega) (by omega)]; exact (C2.pl.bt eb).2.2.2.1
      refine wp_X5_freshSearch_42 ?_
      rw [e5o, e62, m2.2.1.1, m2.2.1.2.2.1, w2.1, ep, C2.pl.v10, C2.pl.s6, m2.1.2.1, e1, pr]
      refine ⟨by rw [m2.1.1], fun q => by omega, fun _ => ⟨C2.pl.kp, rfl, ⟨p, by show r < 36; omega⟩, rfl, ⟨eb.1, by show V (so + 1) r < 36; omega⟩, by rw [y5.1.1], hk, en_X4_putPrice (fun _ _ => ?_)⟩⟩
      rw [e5s, a2 0 (by decide) (by decide) (by decide), a2 5 (by decide) (by decide) (by decide), y5.2.1, y5.2.2.2.2.1, y5.1.2.2.1, c1 (so + 4) (by omega), a1 (so + 4) (by omega) (by omega), T2.f1]
      refine ⟨by rw [y5.1.1], by rw [m2.2.2.1.1], ⟨by omega, by omega⟩, rfl, ⟨by omega, by show pn (gP s) + r < 72; omega⟩, fun V6 e6 => ⟨⟨by omega, by omega⟩, ih V6 (fun q hq => by rw [e6, zput_row _ _ _ hq]; exact c1 q hq) (fun j a b => ?_)⟩⟩
      rw [e6]
      by_cases e : j = r
      · rw [e, zput_self]
      · rw [zput_nk _ _ _ _ (by omega)]; exact c2 j a (by omega)
  refine en_X5_freshSearch (fun X => ⟨ks, fun z => ?_, fun z => ⟨by have := hm z; omega, fun r hr q S1 V1 s1 v1 => ?_⟩⟩)
  · have y5 : zSeA S V so (V so 5) := by
      rcases h6 with y | y
      · omega
      · exact y.2
    rw [h2.2.1.1, H.pl.n]
    exact ⟨H.pl.kp, by rw [y5.1.1], fin S V (V so 5) 0 0 X (zExt.refl S) H R ⟨rfl, z⟩ (fun _ _ _ => rfl) rfl (zFrm.refl V x) ⟨by omega, by omega⟩⟩
  · have hm' := hm z
    have top := fun q' hq' => (q.2 q' hq').1
    have rx := top _ hS
    have E1 : zExt S S1 := zExt.new q.1 s1
    have e1 : ∀ q', q' ≠ r → V1 q' = V q' := fun q' hq' => by rw [v1, zVn_row _ hq']
    have rso : so + 8 < r := by
      have := top (so + 6 + 2) (by rw [h2.2.2.1.2.2.2.1]; decide)
      omega
    have e13 : V1 so 3 = so + 4 := by rw [e1 so (by omega)]; exact h2.2.1.2.1
    have e18 : V1 so 8 = so + 2 := by rw [e1 so (by omega)]; exact h2.2.1.2.2.2.1
    rw [e13, e18]
    refine ⟨6, 360, by omega, sp_searchInit (by rw [s1, zSn_self]) hr (fun j => by rw [v1, zVn_self]) (fun q' hq' => ?_) (by omega) (fun S2 V2 fa sl vl => ?_)⟩
    · by_cases zq : q' = r
      · omega
      · rw [s1, zSn_ne _ _ zq] at hq'
        have := top q' hq'; omega
    · have E2 : zExt S S2 := fun q' hq' => by rw [sl q' (by have := top q' hq'; omega)]; exact E1 q' hq'
      have e2 : ∀ q', q' < r ∨ r + 6 < q' → V2 q' = V q' := fun q' hq' => by rw [vl q' hq', e1 q' (by omega)]
      refine ⟨by rw [E2.s h2.1.1 (by decide)], fun V3 e3 => ?_⟩
      have f3 : ∀ q', q' ≠ so → V3 q' = V2 q' := fun q' hq' => by rw [e3, zput_row _ _ _ hq']
      have r3 : ∀ q', q' ≠ so → (q' < r ∨ r + 6 < q') → V3 q' = V q' := fun q' a b => by rw [f3 q' a, e2 q' b]
      have eso : ∀ j, V3 so j = if j = 5 then r else V so j := fun j => by rw [e3]; simp only [zput, true_and]; rw [e2 so (by omega)]
      have es1 : V3 (so + 1) = V (so + 1) := r3 _ (by omega) (by omega)
      have e6 : V3 so 6 = V so 6 := by rw [eso]; rfl
      have e4 : V3 so 4 = V so 4 := by rw [eso]; rfl
      have ep : V3 (x + 1) = V (x + 1) := r3 _ (by omega) (by omega)
      have exx : V3 x = V x := r3 x (by omega) (by omega)
      have kl : 0 < V x 6 → V x 6 + 7 < r := fun z6 => by
        have hke := H.ke
        cases hK : gK s with
        | none => rw [hK] at hke; exact absurd hke (by show ¬ V x 6 = 0; omega)
        | some Q =>
          rw [hK] at hke
          exact top (V x 6 + 7) (by rw [hke.2.s7]; decide)
      have tab : zTab V3 so (gP s) := by
        unfold zTab
        rw [e6, es1, r3 (so + 2) (by omega) (by omega)]
        exact ⟨HT.1, HT.2.1, HT.2.2.congr (r3 _ (by omega) (by omega)) (r3 _ (by omega) (by omega)) (r3 _ (by omega) (by omega))⟩
      have d4 : V so 4 = 0 ∨ V so 4 + 3 < r := by
        rcases h5 with y | y
        · exact Or.inl y.1
        · right
          have := top (V so 4 + 1 + 2) (by rw [y.2.1.1.2.2.2.1]; decide)
          omega
      have So3 : zSo S2 V3 (x + 1) (x + 32) so (V x 6) (gP s) := by
        have A2 := h2.ext E2
        obtain ⟨a1, ⟨a2, a3, a4, a5, a6⟩, a7⟩ := A2
        refine ⟨⟨l1, l1'⟩, ⟨a1, ⟨by rw [eso]; exact a2, by rw [eso]; exact a3, by rw [eso]; exact a4, by rw [eso]; exact a5, by rw [eso]; exact a6⟩, a7.congr (r3 _ (by omega) (by omega)) (r3 _ (by omega) (by omega))⟩, ?_, fun _ => tab, ?_, ?_⟩
        · rw [ep, eso, eso, if_neg (by decide), if_neg (by decide)]; exact h3
        · rw [e4, eso, eso, ep, if_neg (by decide), if_neg (by decide)]
          rcases h5 with y | ⟨y1, y2, y3⟩
          · exact Or.inl y
          · have d4' : V so 4 + 3 < r := by
              rcases d4 with q | q
              · have := y1.1; omega
              · exact q
            have n1 : so + 8 < V so 4 ∨ V so 4 + 3 < so := y1.2.1
            refine Or.inr ⟨y1, (y2.ext E2).congr (r3 _ (by omega) (by omega)) (r3 _ (by omega) (by omega)), fun a b => ?_⟩
            have tw := y3 a b
            unfold zTabW at tw ⊢
            rw [e4, e6, es1]
            exact tw.congr (r3 _ (by omega) (by omega)) (r3 _ (by omega) (by omega)) (r3 _ (by omega) (by omega))
        · rw [eso, if_pos rfl, e4]
          refine Or.inr ⟨⟨by omega, Or.inl (by omega), ?_, ?_⟩, ?_⟩
          · rcases hkp with y | y
            · exact Or.inl y
            · exact Or.inr (Or.inr (by have := kl y.1; omega))
          · rcases d4 with y | y
            · exact Or.inl y
            · exact Or.inr (Or.inl (by omega))
          · exact fa.congr (f3 _ (by omega))
      have C3 : zCl S2 V3 x s w := (H.ext E2).solver (fun q' q1 q2 => r3 q' (by omega) (by omega)) (fun j _ => by rw [exx]) (fun z6 q' a b => by
        have := kl z6
        rcases l1' with y | y
        · omega
        · unfold zDj at y; exact r3 q' (by omega) (by omega)) (Or.inr (by rw [exx, e7]; exact So3))
      have R3 : zRdy S2 V3 x so s := ⟨⟨by rw [exx]; exact e7, so0⟩, by rw [exx]; exact So3, tab, by rw [ep, eso]; exact hst⟩
      have pn2 : V2 (V2 so 0) 0 = pn (gP s) := by rw [e2 so (by omega), h2.2.1.1, e2 (x + 1) (by omega)]; exact H.pl.n
      rw [pn2, e2 so (by omega), h2.2.1.1]
      refine ⟨by rw [E2.s H.pl.1.1 (by decide)], by rw [fa.1.1], ⟨by omega, by omega⟩, fin S2 V3 r _ _ X E2 C3 R3 ⟨by rw [eso]; rfl, hr⟩ (fun q' a b => r3 q' (by omega) (by omega)) e6 (fun q' a b => r3 q' (by omega) (by omega)) ⟨by omega, by omega⟩⟩
end SEARCHNEW
