/-! WHICH PATTERN IS HARDEST -/
/-- the pattern that a pushing shows -/
def zPt (P : zP) (x : Int → Int) (i : Int) : Int := zsum (fun k => x k * zstp P k i) (pb P) % pm P
/-- a pattern's place, lamp 0 first -/
def zNp (P : zP) (p : Int → Int) : Int := zN (pm P) (pn P) (fun i => p (pn P - 1 - i))
theorem zNp_congr {P : zP} {p q : Int → Int} (h : ∀ i, 0 ≤ i → i < pn P → p i = q i) : zNp P p = zNp P q := zN_congr (fun i a b => h _ (by omega) (by omega))
theorem zNp_inj {P : zP} (ok : zPok P) {p q : Int → Int} (hp : ∀ i, 0 ≤ i → i < pn P → 0 ≤ p i ∧ p i < pm P) (hq : ∀ i, 0 ≤ i → i < pn P → 0 ≤ q i ∧ q i < pm P) (h : zNp P p = zNp P q) : ∀ i, 0 ≤ i → i < pn P → p i = q i := by
  have o1 := ok.1
  have o2 := ok.2.1
  intro i a b
  have := zN_inj (show 0 < pm P by omega) (show 0 ≤ pn P by omega) (x := fun i => p (pn P - 1 - i)) (y := fun i => q (pn P - 1 - i)) (fun i a b => hp _ (by omega) (by omega)) (fun i a b => hq _ (by omega) (by omega)) h (pn P - 1 - i) (by omega) (by omega)
  rw [show pn P - 1 - (pn P - 1 - i) = i by omega] at this; exact this
theorem zNp_lt {P : zP} (ok : zPok P) {p q : Int → Int} (hp : ∀ i, 0 ≤ i → i < pn P → 0 ≤ p i ∧ p i < pm P) (hq : ∀ i, 0 ≤ i → i < pn P → 0 ≤ q i ∧ q i < pm P) {i : Int} (hi : 0 ≤ i ∧ i < pn P) (h : p i < q i) (e : ∀ j, 0 ≤ j → j < i → p j = q j) : zNp P p < zNp P q := by
  have o2 := ok.2.1
  refine zN_lt (show 0 < pm P by omega) (k := pn P - 1 - i) (by omega) ?_ (pn P) (by omega) (fun i a b => hp _ (by omega) (by omega)) (fun i a b => hq _ (by omega) (by omega)) (fun j a b => e _ (by omega) (by omega))
  rw [show pn P - 1 - (pn P - 1 - i) = i by omega]; exact h
/-- the least COST of the pattern that x shows -/
def zMn (P : zP) (x : Int → Int) (c : Int) : Prop := (∃ y, zPu P y ∧ zQu P (fun k => y k - x k) ∧ zCst P y = c) ∧ ∀ y, zPu P y → zQu P (fun k => y k - x k) → c ≤ zCst P y
theorem zMn.uniq {P : zP} {x : Int → Int} {c c' : Int} (h : zMn P x c) (g : zMn P x c') : c = c' := by
  obtain ⟨⟨y, y1, y2, y3⟩, h2⟩ := h
  obtain ⟨⟨z, z1, z2, z3⟩, g2⟩ := g
  have := h2 z z1 z2
  have := g2 y y1 y2
  omega
theorem zMn.same {P : zP} {x z : Int → Int} {c : Int} (h : zMn P x c) (q : zQu P (fun k => x k - z k)) : zMn P z c := by
  have hL := zQu_lat P
  obtain ⟨⟨y, y1, y2, y3⟩, h2⟩ := h
  refine ⟨⟨y, y1, (hL.2.1 _ _ y2 q).eq (fun k _ _ => by show y k - z k = y k - x k + (x k - z k); omega), y3⟩, fun u u1 u2 => h2 u u1 ((hL.sub u2 q).eq (fun k _ _ => by show u k - x k = u k - z k - (x k - z k); omega))⟩
theorem zPt.same {P : zP} {x z : Int → Int} (q : zQu P (fun k => x k - z k)) {i : Int} (hi : 0 ≤ i ∧ i < pn P) : zPt P x i = zPt P z i := by
  have := q.1 i hi.1 hi.2
  rw [zsum_lin_sub] at this
  unfold zPt
  exact Int.emod_eq_emod_iff_emod_sub_eq_zero.mpr (Int.emod_eq_zero_of_dvd this)
theorem zPt_bd {P : zP} (ok : zPok P) (x : Int → Int) (i : Int) : 0 ≤ zPt P x i ∧ zPt P x i < pm P := zmod_le _ (by have := ok.2.1; omega)
/-- c the greatest of the least COSTS, p the first pattern that has it -/
def zWs (P : zP) (c : Int) (p : Int → Int) : Prop := (∃ x, zPu P x ∧ zMn P x c ∧ ∀ i, 0 ≤ i → i < pn P → p i = zPt P x i) ∧ ∀ y c', zPu P y → zMn P y c' → c' < c ∨ (c' = c ∧ zNp P p ≤ zNp P (zPt P y))
theorem zWs.uniq {P : zP} (ok : zPok P) {c c' : Int} {p p' : Int → Int} (h : zWs P c p) (g : zWs P c' p') : c = c' ∧ ∀ i, 0 ≤ i → i < pn P → p i = p' i := by
  obtain ⟨⟨x, x1, x2, x3⟩, h2⟩ := h
  obtain ⟨⟨y, y1, y2, y3⟩, g2⟩ := g
  have a := h2 y c' y1 y2
  have b := g2 x c x1 x2
  rw [← zNp_congr y3] at a
  rw [← zNp_congr x3] at b
  exact ⟨by omega, zNp_inj ok (fun i u v => by rw [x3 i u v]; exact zPt_bd ok x i) (fun i u v => by rw [y3 i u v]; exact zPt_bd ok y i) (by omega)⟩
/-- all pushings -/
def zAl (P : zP) : Int := zprod (fun k => if pkd P k = 3 then 1 else pm P) (pb P)
theorem zMany.le {P : zP} (ok : zPok P) {d : Int → Int} (hd : zDs (pm P) (pb P) (zQu P) d) : zMany P d ≤ zAl P := by
  have o2 := ok.2.1
  refine zprod_mono (pb P) ok.2.2.2.1.1 (fun k a b => ?_)
  have dq := zdq (show 0 < pm P by omega) (hd k a b).1.1 (hd k a b).1.2
  refine ⟨dq.1.1, ?_⟩
  by_cases h3 : pkd P k = 3
  · rw [if_pos h3, hd.stuck (by omega) ⟨a, b⟩ h3, Int.ediv_self (by omega)]; omega
  · rw [if_neg h3]; exact dq.1.2
/-- how the greatest and its pattern change when the tails B are seen -/
def zUw (P : zP) (f : Int) (bo : Int → Int) (B : (Int → Int) → Prop) (g : Int) (hd : Int → Int) (g' : Int) (hd' : Int → Int) : Prop :=
  (∀ t, B t → 0 ≤ g') ∧ (∀ t, B t → ∀ c, zMn P (zlift f bo t) c → c < g' ∨ (c = g' ∧ zNp P hd' ≤ zNp P (zPt P (zlift f bo t)))) ∧ ((g' = g ∧ ∀ i, 0 ≤ i → i < pn P → hd' i = hd i) ∨ ∃ t, B t ∧ zMn P (zlift f bo t) g' ∧ ∀ i, 0 ≤ i → i < pn P → hd' i = zPt P (zlift f bo t) i) ∧ (g < g' ∨ (g = g' ∧ zNp P hd' ≤ zNp P hd))
section UW
variable {P : zP} {f g g1 g2 : Int} {bo hd hd1 hd2 : Int → Int} {A B : (Int → Int) → Prop}
theorem zUw.none (h : ∀ t, ¬ B t) : zUw P f bo B g hd g hd := ⟨fun t q => absurd q (h t), fun t q => absurd q (h t), Or.inl ⟨rfl, fun _ _ _ => rfl⟩, Or.inr ⟨rfl, Int.le_refl _⟩⟩
theorem zUw.iff (h : zUw P f bo A g hd g1 hd1) (e : ∀ w, A w ↔ B w) : zUw P f bo B g hd g1 hd1 := by
  obtain ⟨h0, h1, h2, h3⟩ := h
  refine ⟨fun t q => h0 t ((e t).mpr q), fun t q => h1 t ((e t).mpr q), ?_, h3⟩
  rcases h2 with h2 | ⟨t, t1, t2⟩
  · exact Or.inl h2
  · exact Or.inr ⟨t, (e t).mp t1, t2⟩
theorem zUw.union (h : zUw P f bo A g hd g1 hd1) (k : zUw P f bo B g1 hd1 g2 hd2) : zUw P f bo (fun w => A w ∨ B w) g hd g2 hd2 := by
  obtain ⟨h0, h1, h2, h3⟩ := h
  obtain ⟨k0, k1, k2, k3⟩ := k
  refine ⟨fun t q => ?_, fun t q c hc => ?_, ?_, by omega⟩
  · rcases q with q | q
    · have := h0 t q; omega
    · exact k0 t q
  · rcases q with q | q
    · have := h1 t q c hc; omega
    · exact k1 t q c hc
  · rcases k2 with ⟨e1, e2⟩ | ⟨t, t1, t2⟩
    · rcases h2 with ⟨d1, d2⟩ | ⟨t, t1, t2, t3⟩
      · exact Or.inl ⟨by omega, fun i a b => (e2 i a b).trans (d2 i a b)⟩
      · exact Or.inr ⟨t, Or.inl t1, by rw [e1]; exact t2, fun i a b => (e2 i a b).trans (t3 i a b)⟩
    · exact Or.inr ⟨t, Or.inr t1, t2⟩
end UW
section CLWORST
variable {E : zE} {S : zS} {V : zH} {x w so se L f : Int} {s : zSig} {P : zP} {bo ld RR co pc : Int → Int}
theorem zSr.st (H : zSr S V so se L f P bo ld RR co pc) {r i : Int} (hr : 0 ≤ r ∧ r < f) (hi : 0 ≤ i ∧ i < pn P) : V (so + 2) (r * 36 + i) = zstp P (bo r) i := by
  have := H.ta.2.1 r hr.1 (by rw [H.e6]; exact hr.2) i hi.1 hi.2
  rw [H.ebo] at this; exact this
theorem sp_pickedAt (H : zSr S V so se L f P bo ld RR co pc) (ok : zPok P) {i : Int} {F : Int → Prop} (hi : 0 ≤ i ∧ i < pn P) (hu : ∀ r, 0 ≤ r → r < f → 0 ≤ V (se + 5) (pn P + r) ∧ V (se + 5) (pn P + r) < pm P) (h : F (zPt P (zlift f bo (fun r => V (se + 5) (pn P + r))) i)) : SpF E 0 zm_X4_pickedAt [zrv se, ziv i] S V F := by
  have o1 := ok.1
  have o2 := ok.2.1
  have f36 := H.f36 ok
  have e : zPt P (zlift f bo (fun r => V (se + 5) (pn P + r))) i = zsum (fun r => V (se + 5) (pn P + r) * zstp P (bo r) i) f % pm P := by
    unfold zPt
    rw [H.fr.lift_sum _ (fun k => zstp P k i)]
  rw [e] at h
  refine en_X4_pickedAt (fun _ X => ?_)
  rw [H.v0, H.ta.f1]
  refine ⟨by rw [H.ks], by rw [H.fa.1.1], fun x3 e3 => ?_⟩
  rw [e3]
  have cb : ∀ c, 0 ≤ c → c ≤ f → 0 ≤ zsum (fun r => V (se + 5) (pn P + r) * zstp P (bo r) i) c ∧ zsum (fun r => V (se + 5) (pn P + r) * zstp P (bo r) i) c ≤ c * 121 := fun c a b => zdot_le a (fun j p q => by have := hu j p (by omega); omega) (fun j p q => by have := zstp_le ok (bo j) i; omega)
  have key := zdown (Q := fun r => zl_X4_pickedAt_10 E X F S se i (zsum (fun r => V (se + 5) (pn P + r) * zstp P (bo r) i) r) (pn P + r) V) (N := f) ?_ (fun r r0 r1 ih => ?_) 0 (by omega) (by omega)
  · rw [Int.add_zero, zsum_0] at key; exact key
  · have bb := cb f (by omega) (Int.le_refl _)
    refine wp_X4_pickedAt_10 ?_
    rw [H.v0, H.ta.f2, H.ta.f0, H.e6]
    exact ⟨by rw [H.ks], by rw [H.fa.1.1], fun _ => ⟨bb.1, by omega, h⟩, fun q => by omega⟩
  · have bb := cb r r0 (by omega)
    have u1 := hu r r0 r1
    have s1 := zstp_le ok (bo r) i
    have pp := zmul_le (a := V (se + 5) (pn P + r)) (b := zstp P (bo r) i) (A := 11) (B := 11) ⟨u1.1, by omega⟩ ⟨s1.1, by omega⟩
    rw [zsum_s _ r0, show pn P + (r + 1) = pn P + r + 1 by omega] at ih
    refine wp_X4_pickedAt_10 ?_
    rw [H.v0, H.ta.f2, H.ta.f1, H.e6, H.v9, H.k5, H.v1, H.1.2.2.2.1, show pn P + r - pn P = r by omega, H.st ⟨r0, r1⟩ hi]
    refine ⟨by rw [H.ks], by rw [H.fa.1.1], fun q => by omega, fun _ => ⟨rfl, ⟨by omega, by show pn P + r < 72; omega⟩, ⟨by omega, by omega⟩, ⟨by omega, by omega⟩, ⟨by omega, by omega⟩, rfl, ⟨by omega, by show r * 36 + i < 1296; omega⟩, ⟨by omega, by omega⟩, ⟨by omega, by omega⟩, fun x15 e15 => ⟨⟨by omega, by omega⟩, ?_⟩⟩⟩
    rw [e15]; exact ih
theorem sp_pickedAhead (H : zSr S V so se L f P bo ld RR co pc) (ok : zPok P) {F : Int → Prop} (hu : ∀ r, 0 ≤ r → r < f → 0 ≤ V (se + 5) (pn P + r) ∧ V (se + 5) (pn P + r) < pm P) (hh : ∀ i, 0 ≤ i → i < pn P → 0 ≤ V (se + 6) i ∧ V (se + 6) i < pm P)
    (h1 : zNp P (zPt P (zlift f bo (fun r => V (se + 5) (pn P + r)))) < zNp P (V (se + 6)) → F 1) (h0 : zNp P (V (se + 6)) ≤ zNp P (zPt P (zlift f bo (fun r => V (se + 5) (pn P + r)))) → F 0) : SpF E 1 zm_X4_isPickedAhead [zrv se] S V F := by
  have o1 := ok.1
  generalize hp : zPt P (zlift f bo (fun r => V (se + 5) (pn P + r))) = p at *
  have pbd : ∀ i, 0 ≤ i → i < pn P → 0 ≤ p i ∧ p i < pm P := fun i _ _ => by rw [← hp]; exact zPt_bd ok _ i
  refine en_X4_isPickedAhead (fun X => ?_)
  refine zdown (Q := fun i => (∀ j, 0 ≤ j → j < i → p j = V (se + 6) j) → zl_X4_isPickedAhead_2 E X F S se i V) (N := pn P) (fun he => ?_) (fun i a b ih he => ?_) 0 (by omega) (by omega) (fun j _ _ => by omega)
  · refine wp_X4_isPickedAhead_2 ?_
    rw [H.e2]
    exact ⟨by rw [H.ks], fun _ => h0 (by rw [zNp_congr he]; exact Int.le_refl _), fun q => by omega⟩
  · refine wp_X4_isPickedAhead_2 ?_
    rw [H.e2]
    refine ⟨by rw [H.ks], fun q => by omega, fun _ => sp_pickedAt H ok ⟨a, b⟩ hu ?_⟩
    rw [H.v11, H.k6, hp]
    refine ⟨rfl, ⟨a, by show i < 36; omega⟩, fun z => ⟨⟨by omega, by omega⟩, ih (fun j x y => ?_)⟩, fun z => ⟨fun y => h0 ?_, fun y => h1 (zNp_lt ok pbd hh ⟨a, b⟩ y he)⟩⟩
    · by_cases e : j = i
      · rw [e]; exact z
      · exact he j x (by omega)
    · have := zNp_lt ok hh pbd ⟨a, b⟩ (show V (se + 6) i < p i by omega) (fun j x y => (he j x y).symm)
      omega
/-- the pattern picked is the hardest now -/
theorem sp_take30 (H : zSr S V so se L f P bo ld RR co pc) (ok : zPok P) {X : zX} {F : zH → Prop} (hu : ∀ r, 0 ≤ r → r < f → 0 ≤ V (se + 5) (pn P + r) ∧ V (se + 5) (pn P + r) < pm P)
    (h : ∀ g, (∀ i, 0 ≤ i → i < pn P → g i = zPt P (zlift f bo (fun r => V (se + 5) (pn P + r))) i) → F (zarr V (se + 6) g)) : zl_X4_takePicked_30 E X F S se 0 V := by
  have o1 := ok.1
  have key := zdown (Q := fun i => ∀ g, (∀ j, 0 ≤ j → j < i → g j = zPt P (zlift f bo (fun r => V (se + 5) (pn P + r))) j) → zl_X4_takePicked_30 E X F S se i (zarr V (se + 6) g)) (N := pn P) (fun g hg => ?_) (fun i a b ih g hg => ?_) 0 (by omega) (by omega)
  · have := key (V (se + 6)) (fun j _ _ => by omega)
    rw [zarr_id] at this; exact this
  · have Hg := H.yf ((zYf.refl V se).arr (a := se + 6) g ⟨by omega, by omega⟩)
    refine wp_X4_takePicked_30 ?_
    rw [Hg.e2]
    exact ⟨by rw [H.ks], fun _ => h g hg, fun q => by omega⟩
  · have Hg := H.yf ((zYf.refl V se).arr (a := se + 6) g ⟨by omega, by omega⟩)
    have e5 : zarr V (se + 6) g (se + 5) = V (se + 5) := zarr_ne _ _ (by omega)
    refine wp_X4_takePicked_30 ?_
    rw [Hg.e2]
    refine ⟨by rw [H.ks], fun q => by omega, fun _ => sp_pickedAt Hg ok ⟨a, b⟩ (by rw [e5]; exact hu) ?_⟩
    rw [Hg.v11, H.k6, e5]
    refine ⟨rfl, ⟨a, by show i < 36; omega⟩, fun V7 e7 => ⟨⟨by omega, by omega⟩, ?_⟩⟩
    rw [e7, zput_zarr V (g := zupd g i (zPt P (zlift f bo (fun r => V (se + 5) (pn P + r))) i)) (fun j => rfl)]
    refine ih _ (fun j p q => ?_)
    by_cases e : j = i
    · rw [e, zupd_self]
    · rw [zupd_ne _ _ e]; exact hg j p (by omega)
/-- numbers below the leads -/
def zRt (P : zP) (f : Int) (ld t : Int → Int) : Prop := ∀ r, 0 ≤ r → r < f → 0 ≤ t r ∧ t r < zlead (pm P) (ld (pn P + r))
theorem zSr.leadb (H : zSr S V so se L f P bo ld RR co pc) (ok : zPok P) {r : Int} (hr : 0 ≤ r ∧ r < f) : 0 < zlead (pm P) (ld (pn P + r)) ∧ zlead (pm P) (ld (pn P + r)) ≤ pm P := by
  have o2 := ok.2.1
  have l := (H.lead ok hr).1
  unfold zlead
  split <;> omega
theorem zCo.mn (fr : zFree P f bo) (ok : zPok P) (hp : ∀ r, 0 ≤ r → r < f → pc (pn P + r) = pco P (bo r)) {u w : Int → Int} (hw : zCo P f bo u w) (h : ∀ v, zCo P f bo u v → zcc f (pn P) pc w ≤ zcc f (pn P) pc v) : zMn P (zlift f bo u) (zcc f (pn P) pc w) := by
  have o2 := ok.2.1
  refine ⟨⟨zlift f bo w, fr.lift_bd (by omega) hw.1, hw.2.eq (fun k _ _ => (zlift_sub k).symm), (zcc_cst fr hp).symm⟩, fun y py qy => ?_⟩
  have ey : ∀ k, 0 ≤ k → k < pb P → zlift f bo (fun r => y (bo r)) k = y k := fun k a b => fr.back (fun k a b c => (py k a b).2 c) ⟨a, b⟩
  have := h (fun r => y (bo r)) ⟨fun r a b => py.bd _ (fr.2.1 r a b).1.1 (fr.2.1 r a b).1.2, qy.eq (fun k a b => by rw [zlift_sub, ey k a b])⟩
  rw [zcc_cst fr hp (w := fun r => y (bo r)), zCst_congr ey] at this
  exact this
theorem zMn.cost (fr : zFree P f bo) (ok : zPok P) (hp : ∀ r, 0 ≤ r → r < f → pc (pn P + r) = pco P (bo r)) {u w : Int → Int} {c : Int} (h : zMn P (zlift f bo u) c) (hw : zCo P f bo u w) : c ≤ zcc f (pn P) pc w := by
  have o2 := ok.2.1
  rw [zcc_cst fr hp]
  exact h.2 _ (fr.lift_bd (by omega) hw.1) (hw.2.eq (fun k _ _ => (zlift_sub k).symm))
theorem sp_pickFrom (ok : zPok P) (hL : L ≤ 20) : ∀ (n : Nat) (r : Int) (d : Nat) (V : zH) (sp : Int) (F : zH → Prop), f - r = n → 0 ≤ r → n + 24 ≤ d → zSr S V so se L f P bo ld RR co pc → (∀ q, 0 ≤ q → q < r → 0 ≤ V (se + 5) (pn P + q) ∧ V (se + 5) (pn P + q) < zlead (pm P) (ld (pn P + q))) → sp = zsum (fun q => V (se + 5) (pn P + q) * pc (pn P + q)) (if r < zce co f (pn P) L 0 then r else zce co f (pn P) L 0) → (-1 ≤ V se 10 ∧ V se 10 ≤ 1000000) → (V se 10 = -1 ∨ ∀ i, 0 ≤ i → i < pn P → 0 ≤ V (se + 6) i ∧ V (se + 6) i < pm P) →
    (∀ V', zYf V V' se → (∀ q, 0 ≤ q → q < r → V' (se + 5) (pn P + q) = V (se + 5) (pn P + q)) → zUw P f bo (fun t => zRt P f ld t ∧ ∀ q, 0 ≤ q → q < r → t q = V (se + 5) (pn P + q)) (V se 10) (V (se + 6)) (V' se 10) (V' (se + 6)) → (-1 ≤ V' se 10 ∧ V' se 10 ≤ 1000000) → (V' se 10 = -1 ∨ ∀ i, 0 ≤ i → i < pn P → 0 ≤ V' (se + 6) i ∧ V' (se + 6) i < pm P) → F V') → SpV E d zm_X4_pickFrom [zrv se, ziv (pn P + r), ziv sp] S V F := by
  have o1 := ok.1
  have o2 := ok.2.1
  have o4 := ok.2.2.2.1
  intro n
  induction n with
  | zero =>
    intro r d V sp F hn r0 hd H hu hsp hg hh hF
    have er : r = f := by omega
    subst er
    have f36 := H.f36 ok
    have fr := H.fr
    have ce := H.ce (l := 0) (Int.le_refl 0)
    rw [show (if r < zce co r (pn P) L 0 then r else zce co r (pn P) L 0) = zce co r (pn P) L 0 by split <;> omega] at hsp
    have ub : ∀ q, 0 ≤ q → q < r → 0 ≤ V (se + 5) (pn P + q) ∧ V (se + 5) (pn P + q) < pm P := fun q a b => by
      have := hu q a b
      have := H.leadb ok ⟨a, b⟩
      omega
    refine en_X4_pickFrom (d1 := 1) (by omega) (by omega) (fun _ _ X => ?_)
    rw [H.v0, H.ta.f2, H.e6, H.v9]
    refine ⟨by rw [H.ks], by rw [H.fa.1.1], fun q => by omega, fun _ => sp_findCheapest H ok hL H.k5 ub hsp (fun V1 X1 U1 => ?_)⟩
    have H1 := H.xf X1
    have e5 : V1 (se + 5) = V (se + 5) := X1.1 _ (by omega) (by omega) (by omega)
    have e6 : V1 (se + 6) = V (se + 6) := X1.1 _ (by omega) (by omega) (by omega)
    have e10 : V1 se 10 = V se 10 := X1.2 10 (by decide)
    generalize hu' : (fun q => V (se + 5) (pn P + q)) = u at *
    have uq : ∀ q, V (se + 5) (pn P + q) = u q := fun q => by rw [← hu']
    have ubu : ∀ q, 0 ≤ q → q < r → 0 ≤ u q ∧ u q < pm P := fun q a b => by rw [← uq]; exact ub q a b
    have hl5 : zlift r bo (fun q => V1 (se + 5) (pn P + q)) = zlift r bo u := by rw [e5, hu']
    have ub1 : ∀ q, 0 ≤ q → q < r → 0 ≤ V1 (se + 5) (pn P + q) ∧ V1 (se + 5) (pn P + q) < pm P := fun q a b => by rw [e5]; exact ub q a b
    obtain ⟨c1, c2, c3⟩ := U1
    have lb : ∀ w, zCo P r bo u w → 0 ≤ zcc r (pn P) pc w ∧ zcc r (pn P) pc w ≤ pb P * 11000 := fun w hw => by
      rw [zcc_cst fr H.pr]
      exact zCst_le ok (fr.lift_bd (by omega) hw.1).bd
    -- what the search tells of the least COST
    have tell : (0 ≤ V1 se 7 ∧ V1 se 7 ≤ 1000000) ∧ ((V se 10 ≤ V1 se 7 ∧ zMn P (zlift r bo u) (V1 se 7)) ∨ (V1 se 7 = 0 ∧ 0 < V se 10 ∧ ∀ c, zMn P (zlift r bo u) c → c < V se 10)) := by
      have c2u := c2 u (zCo.self ubu)
      have lbu := lb u (zCo.self ubu)
      rcases c3 with ⟨d1, -⟩ | ⟨v, v1, v2, v3, v4⟩
      · omega
      · have lv := lb v v1
        rcases v4 with v4 | ⟨v4, v5, v6⟩
        · exact ⟨by omega, Or.inr ⟨v4.2, by omega, fun c hc => by have := hc.cost fr ok H.pr v1; omega⟩⟩
        · refine ⟨by omega, Or.inl ⟨by omega, ?_⟩⟩
          rw [v5]
          exact zCo.mn fr ok H.pr v1 (fun v' hv' => by rw [← v5]; exact c2 v' hv')
    have Bu : ∀ t, (zRt P r ld t ∧ ∀ q, 0 ≤ q → q < r → t q = u q) → zlift r bo t = zlift r bo u := fun t ht => funext (fun k => zlift_congr ht.2 k)
    have Bex : zRt P r ld u ∧ ∀ q, 0 ≤ q → q < r → u q = u q := ⟨fun q a b => by rw [← uq]; exact hu q a b, fun _ _ _ => rfl⟩
    have take : ∀ (X : zX) (V2 : zH), V2 = zput V1 se 10 (V1 se 7) → V se 10 ≤ V1 se 7 → zMn P (zlift r bo u) (V1 se 7) → (V se 10 < V1 se 7 ∨ (V se 10 = V1 se 7 ∧ zNp P (zPt P (zlift r bo u)) < zNp P (V (se + 6)))) → zl_X4_takePicked_30 E X (fun V28 => F V28) S se 0 V2 := by
      intro X V2 e2 q1 q2 q3
      have y2 : zYf V V2 se := ⟨fun q a b => by rw [e2, zput_row _ _ _ a]; exact X1.1 q a (by omega) (by omega), fun j a b => by rw [e2, zput_nk _ _ _ _ b]; exact X1.2 j a⟩
      have H2 := H.yf y2
      have e25 : V2 (se + 5) = V (se + 5) := by rw [e2, zput_row _ _ _ (by omega), e5]
      refine sp_take30 H2 ok (by rw [e25]; exact ub) (fun g hg' => ?_)
      have hl : zlift r bo (fun q => V2 (se + 5) (pn P + q)) = zlift r bo u := by rw [e25, hu']
      rw [hl] at hg'
      have es : zarr V2 (se + 6) g se = V2 se := zarr_ne _ _ (by omega)
      have e2s : V2 se 10 = V1 se 7 := by rw [e2, zput_self]
      refine hF _ (y2.arr g ⟨by omega, by omega⟩) (fun q a b => by rw [zarr_ne _ _ (by omega), e25]) ?_ (by rw [es, e2s]; omega) (Or.inr (fun i a b => by rw [zarr_self, hg' i a b]; exact zPt_bd ok _ i))
      rw [es, e2s, zarr_self]
      refine ⟨fun t _ => tell.1.1, fun t ht c hc => ?_, Or.inr ⟨u, ⟨Bex.1, fun q _ _ => (uq q).symm⟩, q2, hg'⟩, ?_⟩
      · rw [Bu t ⟨ht.1, fun q a b => by rw [ht.2 q a b, uq]⟩] at hc ⊢
        exact Or.inr ⟨hc.uniq q2, by rw [zNp_congr hg']; exact Int.le_refl _⟩
      · rw [zNp_congr hg']; omega
    have keep : (∀ c, zMn P (zlift r bo u) c → c < V se 10 ∨ (c = V se 10 ∧ zNp P (V (se + 6)) ≤ zNp P (zPt P (zlift r bo u)))) → 0 ≤ V se 10 → F V1 := by
      intro q1 q2
      refine hF V1 X1.yf (fun q a b => by rw [e5]) ?_ (by rw [e10]; exact hg) (by rw [e10, e6]; exact hh)
      rw [e10, e6]
      refine ⟨fun _ _ => q2, fun t ht c hc => ?_, Or.inl ⟨rfl, fun _ _ _ => rfl⟩, Or.inr ⟨rfl, Int.le_refl _⟩⟩
      rw [Bu t ⟨ht.1, fun q a b => by rw [ht.2 q a b, uq]⟩] at hc ⊢
      exact q1 c hc
    refine en_X4_takePicked (fun _ X => ?_)
    rw [e10]
    refine ⟨by rw [H.ks], fun z V3 e3 => ?_, fun z => ⟨fun z1 => ?_, fun z1 => ?_⟩⟩
    · rcases tell.2 with q | q
      · exact take X V3 e3 (by omega) q.2 (Or.inl z)
      · omega
    · rcases tell.2 with q | q
      · omega
      · exact keep (fun c hc => Or.inl (q.2.2 c hc)) (by omega)
    · rcases tell.2 with q | q
      · have hb : ∀ i, 0 ≤ i → i < pn P → 0 ≤ V1 (se + 6) i ∧ V1 (se + 6) i < pm P := by
          rcases hh with y | y
          · omega
          · rw [e6]; exact y
        refine sp_pickedAhead H1 ok ub1 hb (fun lt => ⟨fun q => absurd q (by decide), fun _ V9 e9 => ?_⟩) (fun le => ⟨fun _ => ?_, fun q => absurd rfl q⟩)
        · rw [hl5, e6] at lt
          exact take X V9 e9 (by omega) q.2 (Or.inr ⟨z1.symm, lt⟩)
        · rw [hl5, e6] at le
          exact keep (fun c hc => Or.inr ⟨(hc.uniq q.2).trans z1, le⟩) (by omega)
      · omega
  | succ n ih =>
    intro r d V sp F hn r0 hd H hu hsp hg hh hF
    have f36 := H.f36 ok
    have fr := H.fr
    have rf : r < f := by omega
    have ce := H.ce (l := 0) (Int.le_refl 0)
    have lb := H.leadb ok ⟨r0, rf⟩
    have pcb : ∀ q, 0 ≤ q → q < f → 0 ≤ pc (pn P + q) ∧ pc (pn P + q) ≤ 1000 := fun q a b => by
      rw [H.pr q a b]
      have h3 := (fr.2.1 q a b).1
      exact (ok.2.2.2.2.2 _ h3.1 h3.2).2.2.2.2.2.1
    have spb : 0 ≤ sp ∧ sp ≤ 36 * 12000 := by
      have := zsum_le (f := fun q => V (se + 5) (pn P + q) * pc (pn P + q)) (c := 12000) (n := if r < zce co f (pn P) L 0 then r else zce co f (pn P) L 0) (by split <;> omega) (fun q a b => by
        have b' : q < r := by split at b <;> omega
        have h1 := hu q a b'
        have h2 := H.leadb ok ⟨a, show q < f by omega⟩
        exact zmul_le (A := 12) (B := 1000) ⟨h1.1, by omega⟩ (pcb q a (by omega)))
      rw [← hsp] at this
      refine ⟨this.1, Int.le_trans this.2 ?_⟩
      split <;> omega
    have loop : ∀ (X : zX) (each : Int), each = (if r < zce co f (pn P) L 0 then pc (pn P + r) else 0) → zl_X4_pickFrom_81 E X F d S se (pn P + r) sp (zlead (pm P) (ld (pn P + r))) each 0 V := by
      intro X each he
      have eb : 0 ≤ each ∧ each ≤ 1000 := by
        have := pcb r r0 rf
        rw [he]; split <;> omega
      refine zdown (Q := fun v => ∀ V2, zYf V V2 se → (∀ q, 0 ≤ q → q < r → V2 (se + 5) (pn P + q) = V (se + 5) (pn P + q)) → zUw P f bo (fun t => (zRt P f ld t ∧ ∀ q, 0 ≤ q → q < r → t q = V (se + 5) (pn P + q)) ∧ t r < v) (V se 10) (V (se + 6)) (V2 se 10) (V2 (se + 6)) → (-1 ≤ V2 se 10 ∧ V2 se 10 ≤ 1000000) → (V2 se 10 = -1 ∨ ∀ i, 0 ≤ i → i < pn P → 0 ≤ V2 (se + 6) i ∧ V2 (se + 6) i < pm P) → zl_X4_pickFrom_81 E X F d S se (pn P + r) sp (zlead (pm P) (ld (pn P + r))) each v V2) (N := zlead (pm P) (ld (pn P + r))) (fun V2 y2 s2 U2 g2 h2 => ?_) (fun v v0 v1 ihv V2 y2 s2 U2 g2 h2 => ?_) 0 (by omega) (by omega) V (zYf.refl V se) (fun _ _ _ => rfl) (zUw.none (fun t ht => ?_)) hg hh
      · exact wp_X4_pickFrom_81 (d1 := d - 1) (by omega) (by omega) ⟨fun _ => hF V2 y2 s2 (U2.iff (fun t => ⟨fun q => q.1, fun q => ⟨q, (q.1 r r0 rf).2⟩⟩)) g2 h2, fun q => by omega⟩
      · have H2 := H.yf y2
        have vm := zmul_le (a := v) (b := each) (A := 12) (B := 1000) ⟨v0, by omega⟩ eb
        refine wp_X4_pickFrom_81 (d1 := d - 1) (by omega) (by omega) ⟨fun q => by omega, fun _ => ?_⟩
        rw [H2.v9, H.k5]
        refine ⟨by rw [H.ks], rfl, ⟨by omega, by show pn P + r < 72; omega⟩, fun V5 e5 => ⟨⟨by omega, by omega⟩, ⟨by omega, by omega⟩, ⟨by omega, by omega⟩, ?_⟩⟩
        have y5 : zYf V V5 se := ⟨fun q a b => by rw [e5, zput_row _ _ _ (by omega)]; exact y2.1 q a b, fun j a b => by rw [e5, zput_row _ _ _ (by omega)]; exact y2.2 j a b⟩
        have p5 : ∀ q, 0 ≤ q → q < r → V5 (se + 5) (pn P + q) = V (se + 5) (pn P + q) := fun q a b => by rw [e5, zput_nk _ _ _ _ (by omega)]; exact s2 q a b
        have pr5 : V5 (se + 5) (pn P + r) = v := by rw [e5, zput_self]
        have es : V5 se = V2 se := by rw [e5, zput_row _ _ _ (by omega)]
        have e6 : V5 (se + 6) = V2 (se + 6) := by rw [e5, zput_row _ _ _ (by omega)]
        rw [show pn P + r + 1 = pn P + (r + 1) by omega]
        refine ih (r + 1) (d - 1) V5 (sp + v * each) _ (by omega) (by omega) (by omega) (H.yf y5) (fun q a b => ?_) ?_ (by rw [es]; exact g2) (by rw [es, e6]; exact h2) (fun V11 y11 s11 U11 g11 h11 => ⟨⟨by omega, by omega⟩, ihv V11 (y5.trans y11) (fun q a b => by rw [s11 q a (by omega), p5 q a b]) ?_ g11 h11⟩)
        · by_cases z : q = r
          · rw [z, pr5]; exact ⟨v0, v1⟩
          · rw [p5 q a (by omega)]; exact hu q a (by omega)
        · by_cases z : r < zce co f (pn P) L 0
          · rw [show (if r + 1 < zce co f (pn P) L 0 then r + 1 else zce co f (pn P) L 0) = r + 1 by split <;> omega, zsum_s _ r0, pr5, he, if_pos z, hsp, if_pos z]
            rw [zsum_congr (n := r) (f := fun q => V5 (se + 5) (pn P + q) * pc (pn P + q)) (g := fun q => V (se + 5) (pn P + q) * pc (pn P + q)) (fun q a b => by rw [p5 q a b])]
          · rw [if_neg (by omega), he, if_neg z, Int.mul_zero, Int.add_zero, hsp, if_neg z]
            exact zsum_congr (fun q a b => by rw [p5 q a (by omega)])
        · rw [es, e6] at U11
          refine (U2.union U11).iff (fun t => ?_)
          constructor
          · intro q
            rcases q with q | q
            · exact ⟨q.1, by omega⟩
            · refine ⟨⟨q.1, fun k a b => by rw [q.2 k a (by omega), p5 k a b]⟩, ?_⟩
              rw [q.2 r r0 (by omega), pr5]; omega
          · intro q
            rcases Int.lt_or_le (t r) v with z | z
            · exact Or.inl ⟨q.1, z⟩
            · refine Or.inr ⟨q.1.1, fun k a b => ?_⟩
              by_cases y : k = r
              · rw [y, pr5]; have := q.2; omega
              · rw [q.1.2 k a (by omega), p5 k a (by omega)]
      · have := (ht.1.1 r r0 rf).1
        have := ht.2
        omega
    refine en_X4_pickFrom (d1 := d - 1) (by omega) (by omega) (fun _ _ X => ?_)
    rw [H.v0, H.ta.f2, H.ta.f0, H.e6, H.fa.2.1.1, H.fa.1.2.1, H.eld, H.v5, H.k2, H.epc]
    refine ⟨by rw [H.ks], by rw [H.fa.1.1], fun _ => ⟨rfl, ⟨by omega, by show pn P + r < 72; omega⟩, fun z x7 e7 => ?_, fun z x7 e7 => ?_⟩, fun q => by omega⟩
    · have el : zlead (pm P) (ld (pn P + r)) = x7 := by unfold zlead; rw [if_neg z, e7]
      rw [el] at loop
      refine sp_endOf H ok ⟨by omega, by omega⟩ ⟨fun y => loop X 0 (by rw [show (-1 : Int) + 1 = 0 by omega] at y; rw [if_neg (by omega)]), fun y => ⟨rfl, ⟨by omega, by show pn P + r < 72; omega⟩, fun x14 e14 => loop X x14 (by rw [show (-1 : Int) + 1 = 0 by omega] at y; rw [if_pos (by omega), e14])⟩⟩
    · have el : zlead (pm P) (ld (pn P + r)) = x7 := by unfold zlead; rw [if_pos z, e7]
      rw [el] at loop
      refine sp_endOf H ok ⟨by omega, by omega⟩ ⟨fun y => loop X 0 (by rw [show (-1 : Int) + 1 = 0 by omega] at y; rw [if_neg (by omega)]), fun y => ⟨rfl, ⟨by omega, by show pn P + r < 72; omega⟩, fun x14 e14 => loop X x14 (by rw [show (-1 : Int) + 1 = 0 by omega] at y; rw [if_pos (by omega), e14])⟩⟩
/-- every tail has one below the leads that shows the same -/
theorem zSr.rep (H : zSr S V so se L f P bo ld RR co pc) (ok : zPok P) {u : Int → Int} (hu : ∀ r, 0 ≤ r → r < f → 0 ≤ u r ∧ u r < pm P) : ∃ t, zRt P f ld t ∧ zQu P (zlift f bo (fun r => t r - u r)) := by
  have o2 := ok.2.1
  have hL := zKT_lat P f bo
  have f36 := H.f36 ok
  have key := zind (P := fun n => n ≤ f → ∃ t : Int → Int, (∀ r, 0 ≤ r → r < f → 0 ≤ t r ∧ t r < pm P) ∧ (∀ r, 0 ≤ r → r < n → t r < zlead (pm P) (ld (pn P + r))) ∧ zQu P (zlift f bo (fun r => t r - u r))) (fun _ => ⟨u, hu, fun r _ _ => by omega, (zCo.self hu).2⟩) (fun n a ih hn => ?_) f f36.1 (Int.le_refl _)
  · obtain ⟨t, t1, t2, t3⟩ := key
    exact ⟨t, fun r a b => ⟨(t1 r a b).1, t2 r a b⟩, t3⟩
  · obtain ⟨t, t1, t2, t3⟩ := ih (by omega)
    by_cases z : ld (pn P + n) = 0
    · refine ⟨t, t1, fun r p q => ?_, t3⟩
      by_cases e : r = n
      · rw [e, z]; exact (t1 n a (by omega)).2
      · exact t2 r p (by omega)
    · obtain ⟨l1, l2⟩ := H.lead ok ⟨a, show n < f by omega⟩
      obtain ⟨p1, p2, p3, p4, p5⟩ := l2 z
      have tn := t1 n a (by omega)
      generalize hq : t n / ld (pn P + n) = q
      have em : t n - q * ld (pn P + n) = t n % ld (pn P + n) := by rw [← hq, Int.emod_def, Int.mul_comm (t n / ld (pn P + n))]
      have rem := zmod_le (t n) (show 0 < ld (pn P + n) by omega)
      refine ⟨fun r => (t r - q * zRo RR (pn P + n) (pn P + r)) % pm P, fun r p y => zmod_le _ (by omega), fun r p y => ?_, hL.2.2.2 _ _ (hL.comb (-q) t3 p4) (fun r p y => ?_)⟩
      · show (t r - q * zRo RR (pn P + n) (pn P + r)) % pm P < _
        by_cases e : r = n
        · rw [e, p2, em, Int.emod_eq_of_lt rem.1 (by omega)]
          unfold zlead
          rw [if_neg z]; exact rem.2
        · have tr := t1 r p (by omega)
          rw [p5 r p (by omega), Int.mul_zero, Int.sub_zero, Int.emod_eq_of_lt tr.1 tr.2]
          exact t2 r p (by omega)
      · show pm P ∣ (t r - q * zRo RR (pn P + n) (pn P + r)) % pm P - u r - (t r - u r + -q * zRo RR (pn P + n) (pn P + r))
        rw [Int.neg_mul, show ∀ A B C D : Int, A - B - (C - B + -D) = A - (C - D) from fun A B C D => by omega]
        exact zdvd_emod _ _
theorem sp_manyPushings {p lo kb : Int} {F : Int → Prop} (HP : zPl S V p P) (HS : zSo S V p lo so kb P) (T : zTab V so P) (h1 : 65536 < zAl P → F 1) (h0 : zAl P ≤ 65536 → V so 6 ≤ 16 → F 0) : SpF E 0 zm_X5_hasManyPushings [zrv so] S V F := by
  have ok := HP.ok
  have o2 := ok.2.1
  have o4 := ok.2.2.2.1
  have f0 := T.fr.1
  have ks : (S so).1 = 8 := by rw [HS.2.1.1.1]
  obtain ⟨-, ⟨g0, g3, g7, g8, g9⟩, FA⟩ := id HS.2.1
  have e : zprod (fun _ => pm P) (V so 6) = zAl P := T.fr.prod o4.1 (fun _ => pm P)
  have g1 : ∀ c, 0 ≤ c → 1 ≤ zprod (fun _ => pm P) c := fun c a => zprod_ge c a (fun j x y => by omega)
  have pw : ∀ c, 0 ≤ c → zpw 2 c ≤ zprod (fun _ => pm P) c := zind (by rw [zpw_0, zprod_0]; exact Int.le_refl _) (fun c a ih => by
    rw [zpw_s 2 a, zprod_s _ a]
    exact Int.mul_le_mul ih o2.1 (by omega) (by have := g1 c a; omega))
  have small : zAl P ≤ 65536 → V so 6 ≤ 16 := fun z => by
    refine Classical.byContradiction fun y => ?_
    have h17 := pw 17 (by omega)
    have up := zprod_up (f := fun _ => pm P) (c := 17) (by omega) (V so 6) (by omega) (fun _ _ _ => by omega)
    have : zpw 2 17 = 131072 := by decide
    omega
  refine en_X5_hasManyPushings (fun X => ?_)
  have key := zdown (Q := fun r => zl_X5_hasManyPushings_4 E X F S so (zprod (fun _ => pm P) r) r V) (N := V so 6) ?_ (fun r r0 r1 ih => ?_) 0 (by omega) (by omega)
  · rw [zprod_0] at key; exact key
  · refine wp_X5_hasManyPushings_4 ⟨ks, fun _ => ⟨fun z => ?_, fun z => h1 (by rw [← e]; exact z)⟩, fun q => by omega⟩
    rw [e] at z
    exact h0 z (small z)
  · have c1 := g1 r r0
    have up := zprod_up (f := fun _ => pm P) r0 (V so 6) (by omega) (fun _ _ _ => by omega)
    rw [zprod_s _ r0] at ih
    refine wp_X5_hasManyPushings_4 ?_
    rw [g0, HP.m]
    refine ⟨ks, fun q => by omega, fun _ => ⟨fun z => ⟨fun q => by omega, fun _ => h1 (by rw [← e]; omega)⟩, fun z => ⟨HP.kp, ?_, fun x8 e8 => ⟨⟨by omega, by omega⟩, by rw [e8]; exact ih⟩⟩⟩⟩
    have pp := zmul_le (a := zprod (fun _ => pm P) r) (b := pm P) (A := 65536) (B := 12) ⟨by omega, z⟩ ⟨by omega, o2.2⟩
    exact ⟨by omega, by omega⟩
theorem zUw.ws (H : zSr S V so se L f P bo ld RR co pc) (ok : zPok P) {hd hd' : Int → Int} {g' : Int} (U : zUw P f bo (zRt P f ld) (-1) hd g' hd') : zWs P g' hd' := by
  have o2 := ok.2.1
  have o4 := ok.2.2.2.1
  have fr := H.fr
  obtain ⟨u0, u1, u2, u3⟩ := U
  have g0 := u0 (fun _ => 0) (fun r a b => ⟨Int.le_refl 0, (H.leadb ok ⟨a, b⟩).1⟩)
  have rb : ∀ t, zRt P f ld t → ∀ r, 0 ≤ r → r < f → 0 ≤ t r ∧ t r < pm P := fun t ht r a b => by
    have := ht r a b
    have := H.leadb ok ⟨a, b⟩
    omega
  refine ⟨?_, fun y c' py hy => ?_⟩
  · rcases u2 with ⟨e, -⟩ | ⟨t, t1, t2, t3⟩
    · omega
    · exact ⟨_, fr.lift_bd (by omega) (rb t t1), t2, t3⟩
  · have ey : ∀ k, 0 ≤ k → k < pb P → zlift f bo (fun r => y (bo r)) k = y k := fun k a b => fr.back (fun k a b c => (py k a b).2 c) ⟨a, b⟩
    obtain ⟨t, t1, t2⟩ := H.rep ok (u := fun r => y (bo r)) (fun r a b => py.bd _ (fr.2.1 r a b).1.1 (fr.2.1 r a b).1.2)
    have q1 : zQu P (fun k => zlift f bo t k - y k) := t2.eq (fun k a b => by rw [zlift_sub, ey k a b])
    have q2 : zQu P (fun k => y k - zlift f bo t k) := ((zQu_lat P).2.2.1 (-1) _ q1).eq (fun k _ _ => by show y k - zlift f bo t k = -1 * (zlift f bo t k - y k); omega)
    have := u1 t t1 c' (hy.same q2)
    rw [zNp_congr (P := P) (p := zPt P y) (q := zPt P (zlift f bo t)) (fun i a b => zPt.same q2 ⟨a, b⟩)]
    exact this
theorem cl_worst (H : zCl S V x s w) (hS : (S (x + 31)).1 ≠ 0) {mc ms : Nat} (hm : (V x 7 = 0 → 16 ≤ mc ∧ 9654 ≤ ms) ∧ 7 ≤ mc ∧ 372 ≤ ms) {F : Int → zS → zH → Prop}
    (hs : 65536 < zAl (gP s) → ∀ S' V', zExt S S' → zCl S' V' x s w → zFrm V V' x → F (-2) S' V')
    (h1 : zAl (gP s) ≤ 65536 → ∀ S' V' c p, zExt S S' → zWs (gP s) c p → zCl S' V' x (zSetT s (2, pn (gP s), 0, p)) w → zFrm V V' x → F c S' V') : SaJ E 47 mc ms zm_X7_worst [zrv x] S V F := by
  have ok := H.pl.ok
  have o1 := ok.1
  have o2 := ok.2.1
  have o4 := ok.2.2.2.1
  refine en_X7_worst ⟨H.kx, (if V x 7 = 0 then 9 else 0), (if V x 7 = 0 then 9282 else 0), ⟨by split <;> omega, by split <;> omega⟩, cl_fresh H hS (fun z => by rw [if_pos z, if_pos z]; omega) (fun S1 V1 so e1 C1 R1 fr1 => ?_)⟩
  have hlo := R1.lo
  obtain ⟨⟨r1, r2⟩, r3, T1, r5⟩ := id R1
  have S31 : (S1 (x + 31)).1 ≠ 0 := by rw [e1 _ hS]; exact hS
  refine ⟨by rw [r3.2.1.1.1], ⟨by split <;> omega, by split <;> omega⟩, sp_manyPushings C1.pl r3 T1 (fun z => ⟨fun q => absurd q (by decide), fun _ => hs z S1 V1 e1 C1 fr1⟩) (fun z f16 => ⟨fun _ => ?_, fun q => absurd rfl q⟩)⟩
  rw [C1.v3]
  refine ⟨C1.kx, 7, 372, ⟨by split <;> omega, by split <;> omega⟩, en_X5_tellWorst ⟨by rw [r3.2.1.1.1], 7, 372, ⟨by omega, by omega⟩, cl_freshSearch C1 R1 S31 (fun _ => ⟨by omega, by omega⟩) (fun S3 V3 se L co pc e3 C3 R3 w3 H3 g3 v3 f3 => ?_)⟩⟩
  have f36 := H3.f36 ok
  have L0 := H3.L0
  refine ⟨by rw [H3.ks], ⟨by omega, by omega⟩, en_X4_findHardest ?_⟩
  rw [H3.v0, H3.ta.f1, show pn (gP s) = pn (gP s) + 0 by omega]
  have ce := H3.ce (l := 0) (Int.le_refl 0)
  refine ⟨by rw [H3.ks], by rw [H3.fa.1.1], sp_pickFrom ok (by omega) (V1 so 6).toNat 0 44 V3 0 _ (by omega) (Int.le_refl 0) (by omega) H3 (fun q _ _ => by omega) ?_ (by rw [g3]; omega) (Or.inl g3) (fun V4 Y4 s4 U4 g4 h4 => ?_)⟩
  · rw [show (if 0 < zce co (V1 so 6) (pn (gP s)) L 0 then 0 else zce co (V1 so 6) (pn (gP s)) L 0) = 0 by split <;> omega, zsum_0]
  · rw [g3] at U4
    have W := zUw.ws H3 ok (U4.iff (fun t => ⟨fun q => q.1, fun q => ⟨q, fun k _ _ => by omega⟩⟩))
    obtain ⟨C4, R4, w4⟩ := C3.search R3 w3 (V' := V4) (fun q hq => Y4.1 q (by omega) (by omega)) (fun j hj => Y4.2 j (by omega) (by omega))
    have H4 := H3.yf Y4
    have y5 := R4.2.1.2.2.2.2.2
    have hlo4 := R4.lo
    have selo : x + 32 ≤ se := by
      rw [w4] at y5
      have := w3.2
      rcases y5 with q | q
      · omega
      · exact q.1.1
    rw [H4.v11]
    have pbd : ∀ i, 0 ≤ i → i < pn (gP s) → 0 ≤ V4 (se + 6) i ∧ V4 (se + 6) i < pm (gP s) := fun i a b => by
      obtain ⟨⟨y, y1, y2, y3⟩, -⟩ := W
      rw [y3 i a b]; exact zPt_bd ok y i
    refine ⟨by rw [R4.2.1.2.1.1.1], sp_tellByLamps C4.pl R4.2.1 C4.to ⟨by omega, by omega⟩ H3.k6 ⟨by omega, by omega⟩ ⟨by omega, by omega⟩ (fun i a b => ?_) (fun V5 t5 o5 => ⟨⟨by split <;> omega, by split <;> omega⟩, ?_⟩)⟩
    · have := pbd i a b
      rw [Int.zero_add]; omega
    · rw [show x + 15 + 1 = x + 16 by omega] at o5
      rw [o5 se (by omega)]
      have et : (fun i => V4 (se + 6) (0 + i)) = V4 (se + 6) := funext (fun i => by rw [Int.zero_add])
      rw [et] at t5
      exact h1 z S3 V5 _ _ (e1.trans e3) W (C4.told o5 t5 (zTP.of0 rfl)) (fun q a b => by rw [o5 q (by omega), Y4.1 q (by omega) (by omega), f3 q a b]; exact fr1 q a b)
end CLWORST
