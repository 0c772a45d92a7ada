/-! THE CLASS: least() -/
section CLLEAST
variable {E : zE} {S : zS} {V : zH} {x w so se L f : Int} {s : zSig} {P : zP} {bo ld RR co pc : Int → Int}
/-- ahead of the first level all tails of a coset are alike -/
theorem zSr.ahead (H : zSr S V so se L f P bo ld RR co pc) (ok : zPok P) {v u : Int → Int} (hv : ∀ r, 0 ≤ r → r < f → 0 ≤ v r ∧ v r < pm P) (hu : ∀ r, 0 ≤ r → r < f → 0 ≤ u r ∧ u r < pm P) (hq : zQu P (zlift f bo (fun r => v r - u r))) : ∀ r, 0 ≤ r → r < zce co f (pn P) L 0 → v r = u r := by
  have e0 := H.ce (l := 0) (Int.le_refl 0)
  have L0 := H.L0
  have key := zind (P := fun n => ∀ r, 0 ≤ r → r < n → r < zce co f (pn P) L 0 → v r = u r) (fun r a b _ => by omega) (fun n a ihn r p q y => ?_)
  · exact fun r a b => key (zce co f (pn P) L 0) (by omega) r a b b
  · by_cases z : r = n
    · subst z
      have nl : ld (pn P + r) = 0 := by
        by_cases l0 : L = 0
        · refine Classical.byContradiction fun z => ?_
          obtain ⟨l, l1, -⟩ := H.co3 r p (by omega) z
          omega
        · exact H.none (l := -1) (r := r) ⟨by omega, by omega⟩ (Or.inl rfl) ⟨p, y⟩ (by omega)
      have := H.dv ok hq (r := r) ⟨p, by omega⟩ (fun k ka kb => by show pm P ∣ v k - u k; rw [ihn k ka kb (by omega), Int.sub_self]; exact Int.dvd_zero _)
      rw [nl] at this
      have this' : pm P ∣ v r - u r := this
      have b1 := hv r p (by omega)
      have b2 := hu r p (by omega)
      have := zdvd_small this' (by omega) (by omega)
      omega
    · exact ihn r p (by omega) y
/-- a coset of tails -/
def zCo (P : zP) (f : Int) (bo u w : Int → Int) : Prop := (∀ r, 0 ≤ r → r < f → 0 ≤ w r ∧ w r < pm P) ∧ zQu P (zlift f bo (fun r => w r - u r))
theorem zCo.self {u : Int → Int} (hu : ∀ r, 0 ≤ r → r < f → 0 ≤ u r ∧ u r < pm P) : zCo P f bo u u := ⟨hu, (zKT_lat P f bo).2.2.2 _ _ (zKT_lat P f bo).1 (fun r _ _ => by rw [Int.sub_self, Int.sub_self]; exact Int.dvd_zero _)⟩
theorem sp_findCheapest (H : zSr S V so se L f P bo ld RR co pc) (ok : zPok P) (hL : L ≤ 20) {a sp : Int} {F : Int → zH → Prop} (ha : S a = (1, 72)) (hu : ∀ r, 0 ≤ r → r < f → 0 ≤ V a (pn P + r) ∧ V a (pn P + r) < pm P) (hsp : sp = zsum (fun r => V a (pn P + r) * pc (pn P + r)) (zce co f (pn P) L 0))
    (h : ∀ V', zXf V V' se → zUpd f (zcc f (pn P) pc) (zoo P f bo) (zCo P f bo (fun r => V a (pn P + r))) (V se 10) 432000 (fun r => V (se + 4) (pn P + r)) (V' se 7) (fun r => V' (se + 4) (pn P + r)) → F (V' se 7) V') : SpI E 23 zm_X4_findCheapest [zrv se, zrv a, ziv sp] S V F := by
  have o1 := ok.1
  have f36 := H.f36 ok
  have L0 := H.L0
  refine en_X4_findCheapest (fun _ => ?_)
  rw [H.v0, H.v6, ha, H.k3, H.ta.f1, H.ta.f2, H.e6]
  refine ⟨by rw [H.ks], by rw [H.fa.1.1], ⟨by omega, by omega⟩, rfl, rfl, ⟨by omega, by omega, by omega, by show pn P + (pn P + f - pn P) ≤ 72; omega, by show pn P + (pn P + f - pn P) ≤ 72; omega⟩, fun V7 e7 V9 e9 => ?_⟩
  rw [zcpy_arr V (g := fun j => if pn P ≤ j ∧ j < pn P + (pn P + f - pn P) then V a (pn P + (j - pn P)) else V (se + 3) j) (fun j => rfl)] at e7
  have x9 : zXf V V9 se := by
    rw [e9, e7]; exact ((zXf.refl V se).arr _).put7 _
  have v9 : ∀ r, 0 ≤ r → r < f → V9 (se + 3) (pn P + r) = V a (pn P + r) := fun r p q => by
    rw [e9, zput_row _ _ _ (by omega), e7, zarr_self, if_pos (by omega), show pn P + (pn P + r - pn P) = pn P + r by omega]
  have b9 : V9 se 7 = 432000 := by rw [e9, zput_self]
  have f9 : V9 (se + 4) = V (se + 4) := by rw [e9, zput_row _ _ _ (by omega), e7, zarr_ne _ _ (by omega)]
  have ce := H.ce (l := 0) (Int.le_refl 0)
  refine sp_explore ok L.toNat 0 22 V9 sp _ (by omega) (Int.le_refl 0) (by omega) (H.xf x9) (fun r p q => by rw [v9 r p q]; exact hu r p q) (by rw [hsp]; exact zsum_congr (fun r p q => by rw [v9 r p (by omega)])) (by rw [b9]; omega) (fun V' X' b' s' k' U' bb' => ?_)
  rw [b9, f9, x9.2 10 (by decide)] at U'
  refine h V' (x9.trans X') (U'.iff (fun w => ?_))
  have hL := zKT_lat P f bo
  constructor
  · intro hw
    exact ⟨hw.1, hL.2.2.2 _ _ hw.2.1 (fun r p q => by
      show pm P ∣ w r - V a (pn P + r) - (w r - V9 (se + 3) (pn P + r))
      rw [v9 r p q, Int.sub_self]; exact Int.dvd_zero _)⟩
  · intro hw
    have q9 : zQu P (zlift f bo (fun r => w r - V9 (se + 3) (pn P + r))) := hL.2.2.2 _ _ hw.2 (fun r p q => by
      show pm P ∣ w r - V9 (se + 3) (pn P + r) - (w r - V a (pn P + r))
      rw [v9 r p q, Int.sub_self]; exact Int.dvd_zero _)
    exact ⟨hw.1, q9, H.ahead ok hw.1 (fun r p q => by rw [v9 r p q]; exact hu r p q) q9⟩
theorem zlead_dvd {m d : Int} (hm : 2 ≤ m) (hd : 0 ≤ d ∧ d < m) (h : d ≠ 0 → d ∣ m) : 0 < zlead m d ∧ zlead m d ∣ m := by
  unfold zlead
  split
  · exact ⟨by omega, Int.dvd_refl m⟩
  · next z => exact ⟨by omega, h z⟩
theorem zTab.many (T : zTab V so P) (ok : zPok P) : zprod (fun r => pm P / zlead (pm P) (V (so + 6) (pn P + r))) (V so 6) = zMany P (zcd V so P) := by
  have o2 := ok.2.1
  have o4 := ok.2.2.2.1
  rw [zprod_congr (g := fun r => pm P / zcd V so P (V (so + 1) r)) (V so 6) T.fr.1.1 (fun r a b => by rw [zcd_free T ⟨a, b⟩]), T.fr.prod o4.1 (fun k => pm P / zcd V so P k)]
  refine zprod_congr (pb P) o4.1 (fun k a b => ?_)
  by_cases z : pkd P k = 3
  · have e : zcd V so P k = pm P := if_pos z
    rw [if_pos z, e, Int.ediv_self (by omega)]
  · rw [if_neg z]
theorem zTab.ordb (T : zTab V so P) (ok : zPok P) {r : Int} (hr : 0 ≤ r ∧ r < V so 6) : 1 ≤ pm P / zlead (pm P) (V (so + 6) (pn P + r)) ∧ pm P / zlead (pm P) (V (so + 6) (pn P + r)) ≤ 12 := by
  have o1 := ok.1
  have o2 := ok.2.1
  obtain ⟨l1, l2⟩ := T.how.1 (pn P + r) (by omega) (by omega)
  obtain ⟨a, b⟩ := zlead_dvd o2.1 l1 (fun z => (l2 z).1)
  have := zdq (show 0 < pm P by omega) a b
  omega
theorem sp_manyQuiet {p lo kb : Int} {F : Int → Prop} (HP : zPl S V p P) (HS : zSo S V p lo so kb P) (T : zTab V so P) (h1 : 65536 < zMany P (zcd V so P) → F 1) (h0 : zMany P (zcd V so P) ≤ 65536 → F 0) : SpF E 1 zm_X5_hasManyQuiet [zrv so] S V F := by
  have ok := HP.ok
  have o1 := ok.1
  have o2 := ok.2.1
  have o4 := ok.2.2.2.1
  have f0 := T.fr.1
  have ks : (S so).1 = 8 := by rw [HS.2.1.1.1]
  obtain ⟨-, ⟨g0, g3, g7, g8, g9⟩, FA⟩ := id HS.2.1
  have kf : (S (so + 4)).1 = 4 := by rw [FA.1.1]
  rw [← T.many ok] at h1 h0
  have g1 : ∀ c, 0 ≤ c → c ≤ V so 6 → 1 ≤ zprod (fun r => pm P / zlead (pm P) (V (so + 6) (pn P + r))) c := fun c a b => zprod_ge c a (fun j x y => (T.ordb ok ⟨x, by omega⟩).1)
  refine en_X5_hasManyQuiet (fun X => ?_)
  rw [g3, T.f1]
  refine ⟨ks, kf, fun x3 e3 => ?_⟩
  rw [e3]
  have key := zdown (Q := fun r => zl_X5_hasManyQuiet_10 E X F S so (zprod (fun r => pm P / zlead (pm P) (V (so + 6) (pn P + r))) r) (pn P + r) V) (N := V so 6) ?_ (fun r r0 r1 ih => ?_) 0 (by omega) (by omega)
  · rw [Int.add_zero, zprod_0] at key; exact key
  · refine wp_X5_hasManyQuiet_10 ?_
    rw [g3, T.f2]
    exact ⟨ks, kf, fun _ => ⟨h0, h1⟩, fun q => by omega⟩
  · have c1 := g1 r r0 (by omega)
    have ob := T.ordb ok ⟨r0, r1⟩
    have up := zprod_up (f := fun r => pm P / zlead (pm P) (V (so + 6) (pn P + r))) r0 (V so 6) (by omega) (fun j x y => (T.ordb ok ⟨x, y⟩).1)
    obtain ⟨l1, l2⟩ := T.how.1 (pn P + r) (by omega) (by omega)
    rw [zprod_s _ r0, show pn P + (r + 1) = pn P + r + 1 by omega] at ih
    refine wp_X5_hasManyQuiet_10 ?_
    rw [g3, T.f2]
    refine ⟨ks, kf, fun q => by omega, fun _ => ⟨fun z => ⟨fun q => by omega, fun _ => h1 (by omega)⟩, fun z => en_X1_orderAt (fun _ => ?_)⟩⟩
    rw [FA.2.1.1, FA.1.2.1, T.f0]
    have pp := zmul_le (a := zprod (fun r => pm P / zlead (pm P) (V (so + 6) (pn P + r))) r) (b := pm P / zlead (pm P) (V (so + 6) (pn P + r))) (A := 65536) (B := 12) ⟨by omega, z⟩ ⟨by omega, ob.2⟩
    refine ⟨kf, rfl, ⟨by omega, by show pn P + r < 72; omega⟩, fun y => ?_, fun y => ?_⟩
    · have e : zlead (pm P) (V (so + 6) (pn P + r)) = V (so + 6) (pn P + r) := by unfold zlead; rw [if_neg y]
      rw [e] at ih pp
      refine ⟨by omega, by omega, ⟨by omega, by omega⟩, fun x10 e10 => ⟨⟨by omega, by omega⟩, ?_⟩⟩
      rw [e10]; exact ih
    · have e : zlead (pm P) (V (so + 6) (pn P + r)) = pm P := by unfold zlead; rw [if_pos y]
      rw [e, Int.ediv_self (by omega)] at ih
      refine ⟨⟨by omega, by omega⟩, fun x10 e10 => ⟨⟨by omega, by omega⟩, ?_⟩⟩
      rw [e10]; exact ih
/-- with few QUIET there are few levels -/
theorem zSr.few (H : zSr S V so se L f P bo ld RR co pc) (ok : zPok P) (h : zMany P (zcd V so P) ≤ 65536) : L ≤ 16 := by
  have o2 := ok.2.1
  have L0 := H.L0
  have T := H.ta
  have e6 := H.e6
  have g1 : ∀ c, 0 ≤ c → c ≤ f → 1 ≤ zprod (fun r => pm P / zlead (pm P) (V (so + 6) (pn P + r))) c := fun c a b => zprod_ge c a (fun j x y => (T.ordb ok ⟨x, by omega⟩).1)
  rw [← T.many ok, e6] at h
  have key := zind (P := fun l => l ≤ L → zpw 2 l ≤ zprod (fun r => pm P / zlead (pm P) (V (so + 6) (pn P + r))) (zce co f (pn P) L l)) (fun _ => ?_) (fun l a ih hl => ?_) L L0.1 (Int.le_refl _)
  · have eL : zce co f (pn P) L L = f := by unfold zce; rw [if_neg (by omega)]
    rw [eL] at key
    refine Classical.byContradiction fun z => ?_
    have up : zpw 2 17 ≤ zpw 2 L := by
      have := zind (P := fun t => zpw 2 17 ≤ zpw 2 (17 + t)) (by rw [Int.add_zero]; exact Int.le_refl _) (fun t a ih => by
        rw [← Int.add_assoc, zpw_s 2 (by omega)]
        have := zpw_pos (show (0 : Int) < 2 by omega) (17 + t) (by omega)
        omega) (L - 17) (by omega)
      rw [show 17 + (L - 17) = L by omega] at this; exact this
    have : zpw 2 17 = 131072 := by decide
    omega
  · rw [zpw_0]
    have ce := H.ce (l := 0) (Int.le_refl 0)
    exact g1 _ ce.1 ce.2
  · have h1 := ih (by omega)
    have ce := H.ce (l := l) a
    have cn := H.ce (l := l + 1) (by omega)
    have el : zce co f (pn P) L l = co l - pn P := by unfold zce; rw [if_pos (by omega)]
    obtain ⟨c1, c2⟩ := H.co1 l a (by omega)
    have lt : co l - pn P < zce co f (pn P) L (l + 1) := by
      unfold zce
      split
      · next q => have := H.co2 l (l + 1) a (by omega) q; omega
      · exact c1.2
    rw [el] at h1
    have up := zprod_up (f := fun r => pm P / zlead (pm P) (V (so + 6) (pn P + r))) (c := co l - pn P + 1) (by omega) (zce co f (pn P) L (l + 1)) (by omega) (fun j x y => (T.ordb ok ⟨x, by omega⟩).1)
    rw [zprod_s _ c1.1] at up
    have or2 : 2 ≤ pm P / zlead (pm P) (V (so + 6) (pn P + (co l - pn P))) := by
      obtain ⟨lo, lq⟩ := H.lead ok c1
      have ez : ld (pn P + (co l - pn P)) ≠ 0 := by rw [show pn P + (co l - pn P) = co l by omega]; exact c2
      obtain ⟨q1, -⟩ := lq ez
      rw [H.eld]
      have el : zlead (pm P) (ld (pn P + (co l - pn P))) = ld (pn P + (co l - pn P)) := by unfold zlead; rw [if_neg ez]
      rw [el]
      have dq := zdq (show 0 < pm P by omega) (show 0 < ld (pn P + (co l - pn P)) by omega) q1
      rcases Int.lt_or_le (pm P / ld (pn P + (co l - pn P))) 2 with q | q
      · have : pm P / ld (pn P + (co l - pn P)) = 1 := by omega
        rw [this, Int.mul_one] at dq
        omega
      · exact q
    have mm := Int.mul_le_mul h1 or2 (by omega) (by have := g1 (co l - pn P) c1.1 (by omega); omega)
    rw [zpw_s 2 a]
    omega
/-- the cheapest tail as the cheapest pushing -/
theorem zUpd.lst (fr : zFree P f bo) (ok : zPok P) (hp : ∀ r, 0 ≤ r → r < f → pc (pn P + r) = pco P (bo r)) {u fo fo' : Int → Int} {b' : Int} (hu : ∀ r, 0 ≤ r → r < f → 0 ≤ u r ∧ u r < pm P) (hs : zSol P (zlift f bo u)) (U : zUpd f (zcc f (pn P) pc) (zoo P f bo) (zCo P f bo u) (-1) 432000 fo b' fo') : zLst P (zlift f bo fo') ∧ b' = zCst P (zlift f bo fo') ∧ ∀ r, 0 ≤ r → r < f → 0 ≤ fo' r ∧ fo' r < pm P := by
  have o2 := ok.2.1
  have o4 := ok.2.2.2.1
  have lb : ∀ w, zCo P f bo u w → 0 ≤ zcc f (pn P) pc w ∧ zcc f (pn P) pc w ≤ pb P * 11000 := fun w hw => by
    rw [zcc_cst fr hp]
    exact zCst_le ok (fr.lift_bd (by omega) hw.1).bd
  obtain ⟨h1, h2, h3⟩ := U
  rcases h3 with ⟨e, -⟩ | ⟨w, w1, w2, w3, w4⟩
  · exfalso
    have := h2 u (zCo.self hu)
    have := (lb u (zCo.self hu)).2
    omega
  · rcases w4 with w4 | ⟨w4, w5, w6⟩
    · have := (lb w w1).1; omega
    · have el : ∀ k, zlift f bo fo' k = zlift f bo w k := fun k => zlift_congr w2 k
      have eln : zlift f bo fo' = zlift f bo w := funext el
      rw [eln]
      have sw : zSol P (zlift f bo w) := (hs.add w1.2).cg (fun k a b => by
        show pm P ∣ zlift f bo w k - (zlift f bo u k + zlift f bo (fun r => w r - u r) k)
        rw [zlift_sub, show zlift f bo w k - (zlift f bo u k + (zlift f bo w k - zlift f bo u k)) = 0 by omega]; exact Int.dvd_zero _)
      refine ⟨⟨sw, fr.lift_bd (by omega) w1.1, fun y sy py => ?_⟩, by rw [w5, zcc_cst fr hp], fun r a b => by rw [w2 r a b]; exact w1.1 r a b⟩
      have ey : ∀ k, 0 ≤ k → k < pb P → zlift f bo (fun r => y (bo r)) k = y k := fun k a b => fr.back (fun k a b c => (py k a b).2 c) ⟨a, b⟩
      have ty : zCo P f bo u (fun r => y (bo r)) := by
        refine ⟨fun r a b => ?_, ?_⟩
        · have := (fr.2.1 r a b).1
          exact py.bd _ this.1 this.2
        · refine (sy.sub hs).eq (fun k a b => ?_)
          rw [zlift_sub, ey k a b]
      have c1 := h2 _ ty
      have ec : zcc f (pn P) pc (fun r => y (bo r)) = zCst P y := by rw [zcc_cst fr hp]; exact zCst_congr ey
      have eo : zoo P f bo (fun r => y (bo r)) = zN (pm P) (pb P) y := zN_congr ey
      rw [ec] at c1
      have ew : zcc f (pn P) pc w = zCst P (zlift f bo w) := zcc_cst fr hp
      rw [ew] at w5
      rcases Int.lt_or_le (zCst P (zlift f bo w)) (zCst P y) with q | q
      · exact Or.inl q
      · have := w6 _ ty (by rw [ec, ew]; omega)
        rw [eo] at this
        exact Or.inr ⟨by omega, this⟩
theorem cl_least (H : zCl S V x s w) (hS : (S (x + 31)).1 ≠ 0) {mc ms : Nat} (hm : (V x 7 = 0 → 16 ≤ mc ∧ 9654 ≤ ms) ∧ 7 ≤ mc ∧ 372 ≤ ms) {F : Int → zS → zH → Prop}
    (h0 : (¬ ∃ z, zSol (gP s) z) → ∀ S' V', zExt S S' → zCl S' V' x s w → zFrm V V' x → F (-1) S' V')
    (hs : (∃ z, zSol (gP s) z) → ∀ S' V' d, zExt S S' → zDs (pm (gP s)) (pb (gP s)) (zQu (gP s)) d → 65536 < zMany (gP s) d → zCl S' V' x s w → zFrm V V' x → F (-2) S' V')
    (h1 : ∀ S' V' d y, zExt S S' → zDs (pm (gP s)) (pb (gP s)) (zQu (gP s)) d → zMany (gP s) d ≤ 65536 → zLst (gP s) y → zCl S' V' x (zSetT s (1, pb (gP s), 0, y)) w → zFrm V V' x → F (zCst (gP s) y) S' V') : SaJ E 26 mc ms zm_X7_least [zrv x] S V F := by
  have ok := H.pl.ok
  have o1 := ok.1
  have o2 := ok.2.1
  have o4 := ok.2.2.2.1
  refine en_X7_least ⟨H.kx, (if V x 7 = 0 then 9 else 0), (if V x 7 = 0 then 9282 else 0), ⟨by split <;> omega, by split <;> omega⟩, cl_fresh H hS (fun z => by rw [if_pos z, if_pos z]; omega) (fun S1 V1 so e1 C1 R1 fr1 => ?_)⟩
  have hlo := R1.lo
  obtain ⟨⟨r1, r2⟩, r3, T1, r5⟩ := id R1
  have S31 : (S1 (x + 31)).1 ≠ 0 := by rw [e1 _ hS]; exact hS
  refine ⟨by rw [r3.2.1.1.1], ⟨by split <;> omega, by split <;> omega⟩, sp_solve C1.pl r3 (by omega) T1 (fun g gr gc => ⟨fun _ => ?_, fun q => absurd q (by decide)⟩) (fun g gn => ⟨fun q => absurd rfl q, fun _ => ?_⟩)⟩
  · obtain ⟨C2, R2⟩ := C1.vec R1 (V' := zarr V1 (so + 3) g) (fun q hq => zarr_ne _ _ hq)
    have f2 : zFrm V (zarr V1 (so + 3) g) x := fun q a b => by rw [zarr_ne _ _ (by omega)]; exact fr1 q a b
    have T2 := R2.2.2.1
    have e6 : zarr V1 (so + 3) g so = V1 so := zarr_ne _ _ (by omega)
    have es1 : zarr V1 (so + 3) g (so + 1) = V1 (so + 1) := zarr_ne _ _ (by omega)
    have dd := zcd_ok T2 ok
    refine sp_manyQuiet C2.pl R2.2.1 T2 (fun z => ⟨fun q => absurd q (by decide), fun _ => hs ⟨_, gc.1⟩ S1 _ _ e1 dd z C2 f2⟩) (fun z => ⟨fun _ => ?_, fun q => absurd rfl q⟩)
    rw [C2.v3]
    refine ⟨C1.kx, 7, 372, ⟨by split <;> omega, by split <;> omega⟩, en_X5_tellLeast ⟨by rw [R2.2.1.2.1.1.1], 7, 372, ⟨by omega, by omega⟩, cl_freshSearch C2 R2 S31 (fun _ => ⟨by omega, by omega⟩) (fun S3 V3 se L co pc e3 C3 R3 w3 H3 g3 v3 f3 => ?_)⟩⟩
    rw [e6, es1] at H3
    have fr := H3.fr
    have ab := (R3.2.1).2.1.2.1.2.2.2.2
    rw [ab]
    have tl : ∀ r, V3 (so + 3) (pn (gP s) + r) = g (pn (gP s) + r) := fun r => by rw [v3, zarr_self]
    have f36 := H3.f36 ok
    have ub : ∀ r, 0 ≤ r → r < V1 so 6 → 0 ≤ V3 (so + 3) (pn (gP s) + r) ∧ V3 (so + 3) (pn (gP s) + r) < pm (gP s) := fun r a b => by rw [tl]; exact gr _ (by omega) (by omega)
    have few := H3.few ok (by rw [zMany.congr o4.1 ((zcd_ok H3.ta ok).uniq dd)]; exact z)
    have ce := H3.ce (l := 0) (Int.le_refl 0)
    refine ⟨by rw [R3.2.1.2.1.1.1], by rw [H3.ks], ⟨by omega, by omega⟩, en_X4_findCheapestFor ?_⟩
    rw [H3.v0, H3.ta.f1]
    refine ⟨by rw [H3.ks], by rw [H3.fa.1.1], sp_endOf H3 ok ⟨by omega, by omega⟩ ?_⟩
    have cf := sp_costOf (E := E) (F := fun x5 => SpI E 23 zm_X4_findCheapest [zrv se, zrv (so + 3), ziv x5] S3 V3 (fun x7 V8 => SpV E 2 zm_X5_tellTail [zrv so, zrv (V8 se 8), zrv (x + 15)] S3 V8 (fun V14 => (0 + (if V x 7 = 0 then 9 else 0) + 7 ≤ mc ∧ 0 + (if V x 7 = 0 then 9282 else 0) + 372 ≤ ms) ∧ F x7 S3 V14))) H3 ok (a := so + 3) (x := 0) (y := zce co (V1 so 6) (pn (gP s)) L (-1 + 1)) (R3.2.1.2.1.1.2.2.2) ub ⟨by omega, ce.1, ce.2⟩ ?_
    · rw [Int.add_zero] at cf; exact cf
    · refine sp_findCheapest H3 ok (by omega) (R3.2.1.2.1.1.2.2.2) ub ?_ (fun V4 X4 U4 => ?_)
      · rw [show (-1 : Int) + 1 = 0 by omega, Int.sub_zero]
        exact zsum_congr (fun r _ _ => by rw [Int.zero_add])
      · rw [g3] at U4
        obtain ⟨C4, R4, w4⟩ := C3.search R3 w3 (V' := V4) (fun q hq => X4.1 q (by omega) (by omega) (by omega)) (fun j hj => X4.2 j (by omega))
        have H4 := H3.xf X4
        have hso : zSol (gP s) (zlift (V1 so 6) (V1 (so + 1)) (fun r => V3 (so + 3) (pn (gP s) + r))) := by
          have : (fun r => V3 (so + 3) (pn (gP s) + r)) = (fun r => g (pn (gP s) + r)) := funext tl
          rw [this]; exact gc.1
        obtain ⟨u1, u2, u3⟩ := U4.lst fr ok H3.pr ub hso
        have hlo4 := R4.lo
        have y5 := R4.2.1.2.2.2.2.2
        have selo : x + 32 ≤ se := by
          rw [w4] at y5
          have := w3.2
          rcases y5 with q | q
          · omega
          · exact q.1.1
        rw [H4.v8]
        refine sp_tellTail C4.pl R4.2.1 R4.2.2.1 C4.to ⟨by omega, by omega⟩ H3.k4 ⟨by omega, by omega⟩ (fun r a b => ?_) (fun V5 t5 o5 => ⟨⟨by split <;> omega, by split <;> omega⟩, ?_⟩)
        · rw [H4.e6] at b
          have := u3 r a b
          omega
        · rw [H4.e6, H4.ebo] at t5
          rw [show x + 15 + 1 = x + 16 by omega] at o5
          rw [u2]
          exact h1 S3 V5 _ _ (e1.trans e3) dd z u1 (C4.told o5 t5 (zTP.of0 rfl)) (fun q a b => by rw [o5 q (by omega), X4.1 q (by omega) (by omega) (by omega), f3 q a b]; exact f2 q a b)
  · obtain ⟨C2, R2⟩ := C1.vec R1 (V' := zarr V1 (so + 3) g) (fun q hq => zarr_ne _ _ hq)
    exact h0 gn S1 _ e1 C2 (fun q a b => by rw [zarr_ne _ _ (by omega)]; exact fr1 q a b)
end CLLEAST
