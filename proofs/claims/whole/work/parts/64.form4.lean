/-! THE CLASS'S FORM: rows reduced, the whole form built -/
/-- b comes of a by adding multiples of the rows that lead from a column up to another -/
def zRed (m N : Int) (ld : Int → Int) (R : Int → Int → Int) (lo hi : Int) (a b : Int → Int) : Prop :=
  ∀ Q : (Int → Int) → Prop, (∀ a b, Q a → zcg m N a b → Q b) → (∀ (k : Int) a c, lo ≤ c → c < hi → ld c ≠ 0 → Q a → Q (fun j => a j + k * R c j)) → Q a → Q b
theorem zRed.refl {m N : Int} {ld : Int → Int} {R : Int → Int → Int} {lo hi : Int} (a : Int → Int) : zRed m N ld R lo hi a a := fun _ _ _ h => h
theorem zRed.cg {m N : Int} {ld : Int → Int} {R : Int → Int → Int} {lo hi : Int} {a b c : Int → Int} (h : zRed m N ld R lo hi a b) (e : zcg m N b c) : zRed m N ld R lo hi a c := fun Q q1 q2 q3 => q1 _ _ (h Q q1 q2 q3) e
theorem zRed.step {m N : Int} {ld : Int → Int} {R : Int → Int → Int} {lo hi c : Int} {a b : Int → Int} (h : zRed m N ld R lo hi a b) (k : Int) (h1 : lo ≤ c) (h2 : c < hi) (h3 : ld c ≠ 0) : zRed m N ld R lo hi a (fun j => b j + k * R c j) := fun Q q1 q2 q3 => q2 k _ c h1 h2 h3 (h Q q1 q2 q3)
/-- what a reduce has to find: leads and rows in order -/
def zLR (m N : Int) (ld : Int → Int) (R : Int → Int → Int) (lo hi : Int) : Prop := ∀ c, lo ≤ c → c < hi → (0 ≤ ld c ∧ ld c < m) ∧ (ld c ≠ 0 → R c c = ld c ∧ (∀ i, 0 ≤ i → i < c → R c i = 0) ∧ ∀ i, c ≤ i → i < N → 0 ≤ R c i ∧ R c i < m)
section FORM4
variable {E : zE} {S : zS} {V : zH} {fm la wk m h t op : Int} {A : Int → Int → Int}
theorem sp_reduce {a tb lo hi NA wd : Int} {F : zH → Prop} (HA : zFA S V fm la wk) (e0 : V fm 0 = m) (e2 : V fm 2 = wd) (hm : 2 ≤ m ∧ m ≤ 12) (hwd : 0 ≤ wd ∧ wd ≤ 72) (ha : S a = (1, NA)) (ht : 0 ≤ tb ∧ tb + wd ≤ NA ∧ NA ≤ 1000000) (hfa : fm ≠ a) (hla : la ≠ a) (hlo : 0 ≤ lo ∧ lo ≤ hi ∧ hi ≤ wd) (hs : a ≠ la + 1 ∨ ∀ c, lo ≤ c → c < hi → tb + wd ≤ c * 72 ∨ c * 72 + wd ≤ tb)
    (hL : zLR m wd (V la) (zRo (V (la + 1))) lo hi) (hr : ∀ i, lo ≤ i → i < wd → 0 ≤ V a (tb + i) ∧ V a (tb + i) < m)
    (hF : ∀ g, (∀ j, (j < tb + lo ∨ tb + wd ≤ j) → g j = V a j) → (∀ i, lo ≤ i → i < wd → 0 ≤ g (tb + i) ∧ g (tb + i) < m) → (∀ c, lo ≤ c → c < hi → V la c ≠ 0 → g (tb + c) < V la c) → zRed m wd (V la) (zRo (V (la + 1))) lo hi (fun i => V a (tb + i)) (fun i => g (tb + i)) → F (zarr V a g)) : SpV E 1 zm_X1_reduce [zrv fm, zrv a, ziv tb, ziv lo, ziv hi] S V F := by
  obtain ⟨⟨s0, s1, s2, s3, s4⟩, ⟨v4, v5, v6, v7⟩, z0⟩ := id HA
  have kf : (S fm).1 = 4 := by rw [s0]
  refine en_X1_reduce (fun _ _ _ X => ?_)
  have key := zdownFrom (Q := fun i => ∀ g, (∀ j, (j < tb + lo ∨ tb + wd ≤ j) → g j = V a j) → (∀ j, lo ≤ j → j < wd → 0 ≤ g (tb + j) ∧ g (tb + j) < m) → (∀ c, lo ≤ c → c < i → V la c ≠ 0 → g (tb + c) < V la c) → zRed m wd (V la) (zRo (V (la + 1))) lo hi (fun j => V a (tb + j)) (fun j => g (tb + j)) → zl_X1_reduce_3 E X F S fm a tb hi i (zarr V a g)) (c := lo) (N := hi) (fun g g1 g2 g3 g4 => ?_) (fun i i0 i1 ih g g1 g2 g3 g4 => ?_) lo (by omega) hlo.2.1
  · have k := key (V a) (fun _ _ => rfl) hr (fun c _ _ => by omega) (zRed.refl _)
    rw [zarr_id] at k; exact k
  · exact wp_X1_reduce_3 ⟨fun _ => hF g g1 g2 g3 g4, fun q => by omega⟩
  · obtain ⟨l1, l2⟩ := hL i i0 i1
    have r1 := g2 i i0 (by omega)
    have nx : (V la i ≠ 0 → g (tb + i) < V la i) → ∀ c, lo ≤ c → c < i + 1 → V la c ≠ 0 → g (tb + c) < V la c := by
      intro q c c0 c1
      by_cases hc : c = i
      · rw [hc]; exact q
      · exact g3 c c0 (by omega)
    refine wp_X1_reduce_3 ⟨fun q => by omega, fun _ => ?_⟩
    rw [zarr_ne _ _ hfa, v4, v5, e0, s1, zarr_ne _ _ hla, ha, zarr_self]
    refine ⟨kf, rfl, ⟨by omega, by show i < 72; omega⟩, fun x5 e5 => ?_⟩
    subst e5
    refine ⟨fun z => ⟨⟨by omega, by omega⟩, ih g g1 g2 (nx (fun q => absurd z q)) g4⟩, fun z => ⟨⟨by omega, by omega⟩, rfl, ⟨by omega, by show tb + i < NA; omega⟩, fun y => ⟨⟨by omega, by omega⟩, ih g g1 g2 (nx (fun _ => y)) g4⟩, fun y => ⟨r1.1, by omega, fun x16 e16 => ⟨⟨by omega, by omega⟩, ?_, ?_⟩⟩⟩⟩
    · have qb := zdiv_le r1.1 (show 0 < V la i by omega)
      rw [← e16] at qb
      exact ⟨by omega, by omega⟩
    · have qb := zdiv_le r1.1 (show 0 < V la i by omega)
      rw [← e16] at qb
      obtain ⟨l3, l4, l5⟩ := l2 z
      have eR : ∀ j, i ≤ j → j < wd → zarr V a g (la + 1) (i * 72 + j) = zRo (V (la + 1)) i j := fun j ja jb => by
        by_cases q : a = la + 1
        · have hs' := hs.resolve_left (fun w => w q) i i0 i1
          subst q
          rw [zarr_self, g1 _ (by omega)]; rfl
        · rw [zarr_ne _ _ (fun w => q w.symm)]; rfl
      refine sp_addTimes (m := m) (wd := wd) (NA := NA) (NB := 5184) kf (by rw [zarr_ne _ _ hfa]; exact e0) (by rw [zarr_ne _ _ hfa]; exact e2) ha s2 hfa ht ⟨by omega, by omega, by omega⟩ ⟨by omega, by omega⟩ hm ⟨by omega, by omega⟩ (fun j ja jb => by rw [zarr_self]; exact g2 j (by omega) jb) (fun j ja jb => by rw [eR j ja jb]; exact l5 j ja jb) ?_ (fun g' k1 k2 => ⟨⟨by omega, by omega⟩, ?_⟩)
      · by_cases q : a = la + 1
        · have hs' := hs.resolve_left (fun w => w q) i i0 i1
          exact Or.inr (by omega)
        · exact Or.inl (fun w => q w.symm)
      · rw [zarr_self] at k1 k2
        rw [zarr_zarr]
        have k1' : ∀ j, i ≤ j → j < wd → g' (tb + j) = (g (tb + j) + (m - x16) * zRo (V (la + 1)) i j) % m := fun j ja jb => by rw [k1 j ja jb, eR j ja jb]
        refine ih g' (fun j hj => by rw [k2 j (by omega)]; exact g1 j hj) (fun j ja jb => ?_) (fun c c0 c1 cz => ?_) ((g4.step (m - x16) i0 i1 z).cg (fun j ja jb => ?_))
        · by_cases hj : j < i
          · rw [k2 _ (by omega)]; exact g2 j ja jb
          · rw [k1' j (by omega) jb]; exact zmod_le _ (by omega)
        · by_cases hc : c = i
          · subst hc
            have e := Int.mul_ediv_add_emod (g (tb + c)) (V la c)
            have ml := zmod_le (g (tb + c)) (show 0 < V la c by omega)
            rw [← e16] at e
            have e' : g (tb + c) - x16 * V la c = g (tb + c) % V la c := by rw [Int.mul_comm x16]; omega
            rw [k1' c (by omega) (by omega), l3, zmod_sub (by omega), e']; omega
          · rw [k2 _ (by omega)]; exact g3 c c0 (by omega) cz
        · show m ∣ g' (tb + j) - (g (tb + j) + (m - x16) * zRo (V (la + 1)) i j)
          by_cases hj : j < i
          · rw [k2 _ (by omega), l4 j ja hj]; simp
          · rw [k1' j (by omega) jb]; exact zdvd_emod m _
theorem zLd.lr {ld : Int → Int} {R : Int → Int → Int} (hh : 0 ≤ h + t) (H : ∀ c, 0 ≤ c → c < h + t → zLd m h t A ld R c) {lo hi : Int} (h0 : 0 ≤ lo) (h1 : hi ≤ h + t) : zLR m (h + t) ld R lo hi := by
  intro c a b
  obtain ⟨⟨q1, q2⟩, -⟩ := H c (by omega) (by omega)
  refine ⟨q1, fun z => ?_⟩
  obtain ⟨r1, r2, r3, r4, r5⟩ := q2 z
  refine ⟨r3, r4, fun i ia ib => ?_⟩
  by_cases hi : i = c
  · rw [hi, r3]; exact q1
  · exact r5 i (by omega) ib
theorem sp_build {F : zH → Prop} (H : zFx S V fm la wk m h t op) (hU : zFu V la m) (hW : zWk m h t A (zRo (V wk)) op 0) (hA : zAll m h t A (zRo (V wk)) op 0)
    (hF : ∀ V', zFA S V' fm la wk → zFB V' fm la m h t A → (∀ q, q ≠ fm → q ≠ wk → q ≠ la → q ≠ la + 1 → V' q = V q) → F V') : SpV E 3 zm_X1_build [zrv fm] S V F := by
  obtain ⟨⟨⟨s0, s1, s2, s3, s4⟩, -, -⟩, -, ⟨hm, hh, ht, -⟩, d1, d2, d3⟩ := id H
  have kf : (S fm).1 = 4 := by rw [s0]
  refine en_X1_build (fun X => ?_)
  -- the second loop
  have second : ∀ V1 op1, zFx S V1 fm la wk m h t op1 → (∀ c, 0 ≤ c → c < h + t → zLd m h t A (V1 la) (zRo (V1 (la + 1))) c) → (∀ q, q ≠ fm → q ≠ wk → q ≠ la → q ≠ la + 1 → V1 q = V q) → zl_X1_build_44 E X F S fm h V1 := by
    intro V1 op1 H1 L1 f1
    obtain ⟨⟨-, ⟨v4, v5, v6, v7⟩, z0⟩, ⟨w0, w1, w2, w3⟩, -, -⟩ := id H1
    have key := zdownFrom (Q := fun c => ∀ g, zFA S (zarr V1 (la + 1) g) fm la wk → (∀ c', 0 ≤ c' → c' < h + t → zLd m h t A (V1 la) (zRo g) c') → (∀ c', h ≤ c' → c' < c → V1 la c' ≠ 0 → ∀ i, c' < i → i < h + t → V1 la i ≠ 0 → zRo g c' i < V1 la i) → zl_X1_build_44 E X F S fm c (zarr V1 (la + 1) g)) (c := h) (N := h + t) (fun g gA gL gR => ?_) (fun c c0 c1 ih g gA gL gR => ?_) h (by omega) (by omega)
    · have k := key (V1 (la + 1)) (by rw [zarr_id]; exact H1.1) L1 (fun c' _ _ => by omega)
      rw [zarr_id] at k; exact k
    · refine wp_X1_build_44 ?_
      have eo : zarr V1 (la + 1) g fm = V1 fm := zarr_ne _ _ (by omega)
      rw [eo, w2]
      refine ⟨kf, fun _ => hF _ gA ⟨by rw [eo]; exact ⟨w0, w1, w2⟩, ?_⟩ (fun q q1 q2 q3 q4 => by rw [zarr_ne _ _ q4, f1 q q1 q2 q3 q4]), fun q => by omega⟩
      rw [zarr_ne _ _ (show la ≠ la + 1 by omega), zarr_self]
      exact ⟨fun c a b => (gL c a b).1, fun v hv c a b hz => (gL c a b).2 v hv hz, fun c a b z i ia ib zi => gR c a (by omega) z i ia ib zi⟩
    · have eo : zarr V1 (la + 1) g fm = V1 fm := zarr_ne _ _ (by omega)
      have el : zarr V1 (la + 1) g la = V1 la := zarr_ne _ _ (by omega)
      refine wp_X1_build_44 ?_
      rw [eo, w2, v4, v5, s1, el]
      refine ⟨kf, fun q => by omega, fun _ => ⟨rfl, ⟨by omega, by show c < 72; omega⟩, fun z => ⟨⟨by omega, by omega⟩, ih g gA gL (fun c' a b zc => ?_)⟩, fun z => ⟨⟨by omega, by omega⟩, ⟨by omega, by omega⟩, ?_⟩⟩⟩
      · by_cases hc : c' = c
        · rw [hc] at zc; exact absurd z zc
        · exact gR c' a (by omega) zc
      · obtain ⟨⟨q1, q2⟩, q3⟩ := gL c (by omega) c1
        obtain ⟨r1, r2, r3, r4, r5⟩ := q2 z
        refine sp_reduce (m := m) (wd := h + t) (NA := 5184) gA (by rw [eo]; exact w0) (by rw [eo]; exact w2) hm ⟨by omega, by omega⟩ s2 ⟨by omega, by omega, by omega⟩ (by omega) (by omega) ⟨by omega, by omega, by omega⟩ (Or.inr (fun c' a b => by omega)) (by rw [el, zarr_self]; exact zLd.lr (by omega) gL (by omega) (by omega)) (fun i a b => by rw [zarr_self]; exact r5 i (by omega) b) (fun g' k1 k2 k3 k4 => ?_)
        rw [zarr_self] at k1 k4
        rw [el] at k3 k4
        rw [zarr_zarr]
        have oth : ∀ c', c' ≠ c → ∀ i, 0 ≤ i → i < 72 → g' (c' * 72 + i) = g (c' * 72 + i) := fun c' hc' i a b => k1 _ (by omega)
        have low : ∀ i, i ≤ c → g' (c * 72 + i) = g (c * 72 + i) := fun i a => k1 _ (by omega)
        have lin : zLin m h t A (zRo g' c) := by
          refine k4 (fun a => zLin m h t A a) (fun a b x y => zLin.cg hh.1 x y ht.1) (fun k a c' x1 x2 x3 x4 => x4.add ((((gL c' (by omega) x2).1.2 x3).2.1).mul k)) r2
        refine ih g' ?_ (fun c' a b => ?_) (fun c' a b zc i ia ib zi => ?_)
        · obtain ⟨gs, gv, gz⟩ := gA
          refine ⟨gs, by rw [zarr_ne _ _ (show fm ≠ la + 1 by omega)]; rw [zarr_ne _ _ (show fm ≠ la + 1 by omega)] at gv; exact gv, fun k i a b e => ?_⟩
          rw [zarr_self]
          have gz' := gz k i a b e
          rw [zarr_self] at gz'
          by_cases hk : k = c
          · rw [hk, low i (by omega), ← hk]; exact gz'
          · rw [oth k hk i a (by omega)]; exact gz'
        · by_cases hc : c' = c
          · rw [hc]
            refine ⟨⟨q1, fun _ => ⟨r1, lin, by show g' (c * 72 + c) = V1 la c; rw [low c (by omega)]; exact r3, fun i ia ib => by show g' (c * 72 + i) = 0; rw [low i (by omega)]; exact r4 i ia ib, fun i ia ib => k2 i (by omega) ib⟩⟩, q3⟩
          · exact (gL c' a b).congr hh.1 ht.1 ⟨a, b⟩ rfl (fun i ia ib => oth c' hc i ia (by omega))
        · by_cases hc : c' = c
          · rw [hc] at ia ⊢
            exact k3 i (by omega) ib zi
          · show g' (c' * 72 + i) < V1 la i
            rw [oth c' hc i (by omega) (by omega)]
            exact gR c' a (by omega) zc i ia ib zi
  -- the first loop
  have key := zdown (Q := fun c => ∀ V1 op1, zFx S V1 fm la wk m h t op1 → zFu V1 la m → zWk m h t A (zRo (V1 wk)) op1 c → zAll m h t A (zRo (V1 wk)) op1 c → (∀ c', 0 ≤ c' → c' < c → zLd m h t A (V1 la) (zRo (V1 (la + 1))) c') → (∀ q, q ≠ fm → q ≠ wk → q ≠ la → q ≠ la + 1 → V1 q = V q) → zl_X1_build_2 E X F S fm c V1) (N := h + t) (fun V1 op1 H1 U1 W1 A1 L1 f1 => ?_) (fun c c0 c1 ih V1 op1 H1 U1 W1 A1 L1 f1 => ?_) 0 (by omega) (by omega)
  · exact key V op H hU hW hA (fun c' _ _ => by omega) (fun _ _ _ _ _ => rfl)
  · refine wp_X1_build_2 ?_
    rw [H1.2.1.2.2.1]
    refine ⟨kf, fun _ x3 e3 => ?_, fun q => by omega⟩
    rw [H1.2.1.2.1] at e3
    rw [e3]
    exact second V1 op1 H1 L1 f1
  · refine wp_X1_build_2 ?_
    rw [H1.2.1.2.2.1]
    refine ⟨kf, fun q => by omega, fun _ => sp_clearColumn H1 U1 W1 ⟨c0, c1⟩ (fun g p gw gs gc => ?_)⟩
    have Hg := H1.wk g
    have eo : zarr V1 wk g fm = V1 fm := zarr_ne _ _ d1
    obtain ⟨⟨-, ⟨v4, v5, v6, v7⟩, z0⟩, ⟨w0, w1, w2, w3⟩, -, -⟩ := id H1
    rw [eo, v4, s1]
    refine ⟨rfl, ⟨c0, by show c < 72; omega⟩, fun V9 e9 => ?_⟩
    have r9 : ∀ q, q ≠ la → V9 q = zarr V1 wk g q := fun q hq => by rw [e9, zput_row _ _ _ hq]
    have ew : V9 wk = g := by rw [r9 wk (by omega), zarr_self]
    have H9 : zFx S V9 fm la wk m h t op1 := by
      obtain ⟨x1, x2, x3, x4⟩ := Hg
      exact ⟨x1.congr (r9 fm (by omega)) (r9 (la + 1) (by omega)), by rw [r9 fm (by omega)]; exact x2, x3, x4⟩
    have U9 : zFu V9 la m := fun v a b => by rw [r9 (la + 2) (by omega), zarr_ne _ _ (by omega)]; exact U1 v a b
    have el : ∀ j, V9 la j = if j = c then 0 else V1 la j := fun j => by rw [e9]; simp only [zput, true_and]; rw [zarr_ne _ _ (show la ≠ wk by omega)]
    have er : V9 (la + 1) = V1 (la + 1) := by rw [r9 (la + 1) (by omega), zarr_ne _ _ (by omega)]
    have A9 : zAll m h t A (zRo g) op1 c := fun v hv hz => gs v (A1 v hv hz)
    have L9 : ∀ c', 0 ≤ c' → c' < c → zLd m h t A (V9 la) (zRo (V9 (la + 1))) c' := fun c' a b => by
      rw [er]
      exact (L1 c' a b).congr hh.1 ht.1 ⟨a, by omega⟩ (by rw [el, if_neg (by omega)]) (fun _ _ _ => rfl)
    have f9 : ∀ q, q ≠ fm → q ≠ wk → q ≠ la → q ≠ la + 1 → V9 q = V q := fun q q1 q2 q3 q4 => by rw [r9 q q3, zarr_ne _ _ q2, f1 q q1 q2 q3 q4]
    refine ⟨fun z => ⟨⟨by omega, by omega⟩, ?_⟩, fun z => ?_⟩
    · rcases gc with ⟨-, gc⟩ | ⟨gc, -⟩
      · refine ih V9 op1 H9 U9 ?_ ?_ (fun c' a b => ?_) f9
        · rw [ew]
          intro r a b
          obtain ⟨q1, q2, q3⟩ := gw r a b
          refine ⟨q1, fun i ia ib => ?_, q3⟩
          by_cases hi : i = c
          · rw [hi]; exact gc r a b
          · exact q2 i ia (by omega)
        · rw [ew]
          exact fun v hv hz => A9 v hv (fun i a b => hz i a (by omega))
        · by_cases hc : c' = c
          · subst hc
            have e0 : V9 la c' = 0 := by rw [el, if_pos rfl]
            refine ⟨⟨by rw [e0]; omega, fun q => absurd e0 q⟩, fun v hv hz => ?_⟩
            rw [e0]
            show m ∣ v c'
            exact (A9 v hv hz).dvd (Int.dvd_refl m) ⟨c0, c1⟩ (fun r ra rb => by rw [gc r ra rb]; exact Int.dvd_zero m)
          · exact L9 c' a (by omega)
      · omega
    · rcases gc with ⟨gc, -⟩ | ⟨gc1, gc2, gc3⟩
      · omega
      · refine sp_settle (A := A) H9 U9 (by rw [ew]; exact gw) (by rw [ew]; exact A9) ⟨c0, c1⟩ gc1 (by rw [ew]; exact gc2) (by rw [ew]; exact gc3) (fun V' op' H' U' W' A' L' l' m' f' => ⟨⟨by omega, by omega⟩, ih V' op' H' U' W' A' (fun c' a b => ?_) (fun q q1 q2 q3 q4 => by rw [f' q q1 q2 q3 q4, f9 q q1 q2 q3 q4])⟩)
        by_cases hc : c' = c
        · rw [hc]; exact L'
        · exact (L9 c' a (by omega)).congr hh.1 ht.1 ⟨a, by omega⟩ (l' c' hc) (fun i ia ib => m' _ (by omega))
end FORM4
