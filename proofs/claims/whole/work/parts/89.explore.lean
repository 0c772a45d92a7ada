/-! THE CLASS'S SEARCH: explore() -/
section EXPLORE
variable {E : zE} {S : zS} {so se L f : Int} {P : zP} {bo ld RR co pc : Int → Int}
theorem zXf.put7 {V V1 : zH} (h : zXf V V1 se) (x : Int) : zXf V (zput V1 se 7 x) se := ⟨fun q a b c => by rw [zput_row _ _ _ a]; exact h.1 q a b c, fun j a => by rw [zput_nk _ _ _ _ a]; exact h.2 j a⟩
theorem sp_explore (ok : zPok P) : ∀ (t : Nat) (lv : Int) (d : Nat) (V : zH) (sp : Int) (F : zH → Prop), L - lv = t → 0 ≤ lv → t + 2 ≤ d → zSr S V so se L f P bo ld RR co pc → (∀ r, 0 ≤ r → r < f → 0 ≤ V (se + 3) (pn P + r) ∧ V (se + 3) (pn P + r) < pm P) → sp = zsum (fun r => V (se + 3) (pn P + r) * pc (pn P + r)) (zce co f (pn P) L lv) → (0 ≤ V se 7 ∧ V se 7 ≤ 2147483647) →
    (∀ V', zXf V V' se → (∀ r, 0 ≤ r → r < f → 0 ≤ V' (se + 3) (pn P + r) ∧ V' (se + 3) (pn P + r) < pm P) → (∀ r, 0 ≤ r → r < zce co f (pn P) L lv → V' (se + 3) (pn P + r) = V (se + 3) (pn P + r)) → zQu P (zlift f bo (fun r => V' (se + 3) (pn P + r) - V (se + 3) (pn P + r))) → zUpd f (zcc f (pn P) pc) (zoo P f bo) (zAA P f bo (fun r => V (se + 3) (pn P + r)) (zce co f (pn P) L lv)) (V se 10) (V se 7) (fun r => V (se + 4) (pn P + r)) (V' se 7) (fun r => V' (se + 4) (pn P + r)) → (0 ≤ V' se 7 ∧ V' se 7 ≤ 2147483647) → F V') → SpV E d zm_X4_explore [zrv se, ziv lv, ziv sp] S V F := by
  have o1 := ok.1
  have o2 := ok.2.1
  have hL := zKT_lat P f bo
  intro t
  induction t with
  | zero =>
    intro lv d V sp F hlv l0 hd H hu hsp hb hF
    have f36 := H.f36 ok
    have ce : zce co f (pn P) L lv = f := by unfold zce; rw [if_neg (by omega)]
    rw [ce] at hsp hF
    refine en_X4_explore (d1 := 1) (by omega) (by omega) (fun _ _ X => ?_)
    rw [H.e3]
    have self : ∀ w, zAA P f bo (fun r => V (se + 3) (pn P + r)) f w → zcc f (pn P) pc w = sp := fun w hw => by
      rw [hsp]
      exact zsum_congr (fun r a b => by rw [hw.2.2 r a b])
    refine ⟨by rw [H.ks], fun q => by omega, fun _ => sp_takeFound H ok (fun z => hF V (zXf.refl V se) hu (fun _ _ _ => rfl) (hL.2.2.2 _ _ hL.1 (fun r _ _ => by rw [Int.sub_self, Int.sub_self]; exact Int.dvd_zero _)) (zUpd.skip (fun w hw => by rw [self w hw]; exact z)) hb) (fun z V' x1 x2 x3 x4 => ?_)⟩
    have uu : zAA P f bo (fun r => V (se + 3) (pn P + r)) f (fun r => V (se + 3) (pn P + r)) := ⟨hu, hL.2.2.2 _ _ hL.1 (fun r _ _ => by rw [Int.sub_self, Int.sub_self]; exact Int.dvd_zero _), fun _ _ _ => rfl⟩
    have s0 := H.cb ok hu (c := f) ⟨by omega, Int.le_refl _⟩
    rw [← hsp] at s0
    have eu : zcc f (pn P) pc (fun r => V (se + 3) (pn P + r)) = sp := self _ uu
    refine hF V' x1 (by rw [x2]; exact hu) (fun _ _ _ => by rw [x2]) (by rw [x2]; exact hL.2.2.2 _ _ hL.1 (fun r _ _ => by rw [Int.sub_self, Int.sub_self]; exact Int.dvd_zero _)) ⟨?_, fun w hw => ?_, Or.inr ⟨_, uu, x4, by rw [eu]; exact z, ?_⟩⟩ ?_
    · rw [x3]; split <;> omega
    · rw [self w hw, x3]; split <;> omega
    · rw [eu, x3]
      by_cases c : sp < V se 10
      · exact Or.inl ⟨c, if_pos c⟩
      · refine Or.inr ⟨by omega, if_neg c, fun w' hw' _ => ?_⟩
        have : zoo P f bo w' = zoo P f bo (fun r => V (se + 3) (pn P + r)) := zN_congr (fun k _ _ => zlift_congr (fun r a b => hw'.2.2 r a b) k)
        omega
    · rw [x3]; split <;> omega
  | succ t ih =>
    intro lv d V sp F hlv l0 hd H hu hsp hb hF
    have f36 := H.f36 ok
    have L0 := H.L0
    have fr := H.fr
    have lL : lv < L := by omega
    obtain ⟨c1, c2⟩ := H.co1 lv l0 lL
    generalize hc : co lv - pn P = c at *
    have ec : co lv = pn P + c := by omega
    rw [ec] at c2
    have ce : zce co f (pn P) L lv = c := by unfold zce; rw [if_pos lL]; exact hc
    rw [ce] at hsp hF
    obtain ⟨le0, lq⟩ := H.lead ok c1
    obtain ⟨p1, p2, p3, p4, p5⟩ := lq c2
    generalize hl : ld (pn P + c) = l at *
    have lpos : 0 < l := by omega
    -- the next level's first column
    have n0 := H.ce (show 0 ≤ lv + 1 by omega)
    have nc : c < zce co f (pn P) L (lv + 1) := by
      unfold zce
      split
      · next q => have := H.co2 lv (lv + 1) l0 (by omega) q; omega
      · omega
    generalize he : zce co f (pn P) L (lv + 1) = e at *
    -- alike up to c, alike up to e
    have prop : ∀ v w : Int → Int, (∀ r, 0 ≤ r → r < f → 0 ≤ v r ∧ v r < pm P) → (∀ r, 0 ≤ r → r < f → 0 ≤ w r ∧ w r < pm P) → zQu P (zlift f bo (fun r => v r - w r)) → (∀ r, 0 ≤ r → r ≤ c → v r = w r) → ∀ r, 0 ≤ r → r < e → v r = w r := by
      intro v w hv hw hq hcw
      have key := zind (P := fun n => ∀ r, 0 ≤ r → r < n → r < e → v r = w r) (fun r a b _ => by omega) (fun n a ihn r p q s => ?_)
      · exact fun r a b => key e (by omega) r a b b
      · by_cases z : r = n
        · subst z
          by_cases y : r ≤ c
          · exact hcw r p y
          · have nl := H.none (l := lv) (r := r) ⟨by omega, lL⟩ (Or.inr (by omega)) ⟨p, by rw [he]; exact s⟩ (by omega)
            have := H.dv ok hq (r := r) ⟨p, by omega⟩ (fun u ua ub => by show pm P ∣ v u - w u; rw [ihn u ua ub (by omega), Int.sub_self]; exact Int.dvd_zero _)
            rw [nl] at this
            have this' : pm P ∣ v r - w r := this
            have b1 := hv r p (by omega)
            have b2 := hw r p (by omega)
            have := zdvd_small this' (by omega) (by omega)
            omega
        · exact ihn r p (by omega) s
    refine en_X4_explore (d1 := d - 1) (by omega) (by omega) (fun _ _ X => ?_)
    rw [H.e3, H.v4, H.k1, H.eco, ec, H.v0, H.v6, H.fa.2.1.1, H.fa.1.2.1, H.eld]
    refine ⟨by rw [H.ks], fun _ => ⟨rfl, ⟨l0, by show lv < 36; omega⟩, fun x5 e5 => ?_⟩, fun q => by omega⟩
    subst e5
    refine sp_endOf H ok ⟨by omega, by omega⟩ ?_
    rw [he]
    refine ⟨by rw [H.fa.1.1], rfl, ⟨by omega, by show pn P + c < 72; omega⟩, ?_⟩
    rw [hl]
    refine sp_max ?_
    rw [show (if 1 < l then l else 1) = l by split <;> omega]
    refine ⟨⟨by omega, by omega⟩, sp_redAt H ok c1 (by rw [hl]; exact c2) hu (fun g g1 g2 g3 g4 => ?_)⟩
    rw [hl] at g3
    have X1 : zXf V (zarr V (se + 3) g) se := (zXf.refl V se).arr g
    have H1 := H.xf X1
    rw [H1.v6, H.k3, zarr_self]
    refine ⟨rfl, ⟨by omega, by show pn P + c < 72; omega⟩, fun v0 ev0 => ?_⟩
    have v0b := g1 c c1.1 c1.2
    rw [← ev0] at v0b
    -- the loop
    generalize hA : zAA P f bo (fun r => V (se + 3) (pn P + r)) c = A at *
    have Adef : ∀ w, A w ↔ ((∀ r, 0 ≤ r → r < f → 0 ≤ w r ∧ w r < pm P) ∧ zQu P (zlift f bo (fun r => w r - V (se + 3) (pn P + r))) ∧ ∀ r, 0 ≤ r → r < c → w r = V (se + 3) (pn P + r)) := fun w => by rw [← hA]; exact Iff.rfl
    have Adv : ∀ w, A w → l ∣ w c - v0 := fun w hw => by
      obtain ⟨w1, w2, w3⟩ := (Adef w).mp hw
      have h1 := hL.sub w2 g4
      have h2 : zQu P (zlift f bo (fun r => w r - g (pn P + r))) := hL.2.2.2 _ _ h1 (fun r _ _ => by
        show pm P ∣ w r - g (pn P + r) - (w r - V (se + 3) (pn P + r) - (g (pn P + r) - V (se + 3) (pn P + r)))
        rw [show ∀ x y z : Int, x - y - (x - z - (y - z)) = 0 from fun x y z => by omega]; exact Int.dvd_zero _)
      have := H.dv ok h2 c1 (fun s a b => by show pm P ∣ w s - g (pn P + s); rw [w3 s a b, g2 s a b, Int.sub_self]; exact Int.dvd_zero _)
      rw [hl] at this
      unfold zlead at this
      rw [if_neg c2] at this
      rw [ev0]; exact this
    have ord : ∀ v w, A v → A w → v c < w c → zoo P f bo v ≤ zoo P f bo w := fun v w hv hw h => by
      obtain ⟨v1, v2, v3⟩ := (Adef v).mp hv
      obtain ⟨w1, w2, w3⟩ := (Adef w).mp hw
      exact zoo_le fr (by omega) v1 w1 c1 h (fun s a b => by rw [v3 s a b, w3 s a b])
    have pcb : 0 ≤ pc (pn P + c) ∧ pc (pn P + c) ≤ 1000 := by
      rw [H.pr c c1.1 c1.2]
      have h3 := (fr.2.1 c c1.1 c1.2).1
      exact (ok.2.2.2.2.2 _ h3.1 h3.2).2.2.2.2.2.1
    have spb : 0 ≤ sp ∧ sp ≤ 36 * 12000 := by
      have := H.cb ok hu (c := c) ⟨c1.1, by omega⟩
      rw [← hsp] at this; omega
    -- what a tail with w c ≥ v costs at least
    have Acost : ∀ w, A w → sp + w c * pc (pn P + c) ≤ zcc f (pn P) pc w := fun w hw => by
      obtain ⟨w1, w2, w3⟩ := (Adef w).mp hw
      have := H.part ok w1 (c := c + 1) ⟨by omega, by omega⟩
      rw [zsum_s _ c1.1, zsum_congr (f := fun r => w r * pc (pn P + r)) (g := fun r => V (se + 3) (pn P + r) * pc (pn P + r)) (fun r a b => by rw [w3 r a b]), ← hsp] at this
      exact this
    have loop : ∀ (n : Nat) (v : Int) (V2 : zH), pm P + l - v ≤ n → v0 ≤ v → v ≤ pm P + l → l ∣ v - v0 → zXf V V2 se → (∀ r, 0 ≤ r → r < f → 0 ≤ V2 (se + 3) (pn P + r) ∧ V2 (se + 3) (pn P + r) < pm P) → (∀ r, 0 ≤ r → r < c → V2 (se + 3) (pn P + r) = V (se + 3) (pn P + r)) → (v < pm P → V2 (se + 3) (pn P + c) = v) → zQu P (zlift f bo (fun r => V2 (se + 3) (pn P + r) - V (se + 3) (pn P + r))) → zUpd f (zcc f (pn P) pc) (zoo P f bo) (fun w => A w ∧ w c < v) (V se 10) (V se 7) (fun r => V (se + 4) (pn P + r)) (V2 se 7) (fun r => V2 (se + 4) (pn P + r)) → (0 ≤ V2 se 7 ∧ V2 se 7 ≤ 2147483647) → zl_X4_explore_67 E X F d S se lv sp (pn P + c) (pn P + e) l v V2 := by
      intro n
      induction n with
      | zero =>
        intro v V2 hn i0 i1 i2 X2 b2 s2 q2 k2 U2 bb2
        have H2 := H.xf X2
        refine wp_X4_explore_67 (d1 := d - 1) (by omega) (by omega) ?_
        rw [H2.v0, H2.ta.f0]
        exact ⟨by rw [H.ks], by rw [H.fa.1.1], fun _ => hF V2 X2 b2 s2 k2 (U2.iff (fun w => ⟨fun h => h.1, fun h => ⟨h, by have := ((Adef w).mp h).1 c c1.1 c1.2; omega⟩⟩)) bb2, fun q => by omega⟩
      | succ n ihn =>
        intro v V2 hn i0 i1 i2 X2 b2 s2 q2 k2 U2 bb2
        have H2 := H.xf X2
        refine wp_X4_explore_67 (d1 := d - 1) (by omega) (by omega) ?_
        rw [H2.v0, H2.ta.f0, H2.v5, H2.v6, H.k2, H2.epc]
        refine ⟨by rw [H.ks], by rw [H.fa.1.1], fun _ => hF V2 X2 b2 s2 k2 (U2.iff (fun w => ⟨fun h => h.1, fun h => ⟨h, by have := ((Adef w).mp h).1 c c1.1 c1.2; omega⟩⟩)) bb2, fun vm => ?_⟩
        have q2 := q2 vm
        have vb := b2 c c1.1 c1.2
        rw [q2] at vb
        have vp := zmul_le (a := v) (b := pc (pn P + c)) (A := 12) (B := 1000) ⟨vb.1, by omega⟩ pcb
        refine ⟨rfl, ⟨by omega, by show pn P + c < 72; omega⟩, ⟨by omega, by omega⟩, ⟨by omega, by omega⟩, fun z => ?_, fun z => ?_⟩
        · -- the coset with v at c
          have csum := H2.cb ok b2 (c := e) ⟨by omega, by omega⟩
          have cfrom := zsum_from (fun r => V2 (se + 3) (pn P + r) * pc (pn P + r)) c1.1 (e - c) (by omega)
          rw [show c + (e - c) = e by omega, zsum_congr (n := c) (f := fun r => V2 (se + 3) (pn P + r) * pc (pn P + r)) (g := fun r => V (se + 3) (pn P + r) * pc (pn P + r)) (fun r a b => by rw [s2 r a b]), ← hsp] at cfrom
          have Av : ∀ w, (A w ∧ w c = v) ↔ zAA P f bo (fun r => V2 (se + 3) (pn P + r)) e w := fun w => by
            constructor
            · intro ⟨hw, hv⟩
              obtain ⟨w1, w2, w3⟩ := (Adef w).mp hw
              have h2 : zQu P (zlift f bo (fun r => w r - V2 (se + 3) (pn P + r))) := hL.2.2.2 _ _ (hL.sub w2 k2) (fun r _ _ => by
                show pm P ∣ w r - V2 (se + 3) (pn P + r) - (w r - V (se + 3) (pn P + r) - (V2 (se + 3) (pn P + r) - V (se + 3) (pn P + r)))
                rw [show ∀ x y z : Int, x - y - (x - z - (y - z)) = 0 from fun x y z => by omega]; exact Int.dvd_zero _)
              refine ⟨w1, h2, prop w _ w1 b2 h2 (fun r a b => ?_)⟩
              by_cases y : r = c
              · rw [y, q2]; exact hv
              · rw [w3 r a (by omega), s2 r a (by omega)]
            · intro ⟨w1, w2, w3⟩
              refine ⟨(Adef w).mpr ⟨w1, hL.2.2.2 _ _ (hL.2.1 _ _ w2 k2) (fun r _ _ => ?_), fun r a b => (w3 r a (by omega)).trans (s2 r a b)⟩, (w3 c c1.1 nc).trans q2⟩
              show pm P ∣ w r - V (se + 3) (pn P + r) - (w r - V2 (se + 3) (pn P + r) + (V2 (se + 3) (pn P + r) - V (se + 3) (pn P + r)))
              rw [show ∀ x y z : Int, x - z - (x - y + (y - z)) = 0 from fun x y z => by omega]; exact Int.dvd_zero _
          have vl1 : ∀ w, A w → (w c < v + l ↔ (w c < v ∨ w c = v)) := fun w hw => by
            have d1 := zdvd_sub (Adv w hw) i2
            rw [show w c - v0 - (v - v0) = w c - v by omega] at d1
            constructor
            · intro h
              rcases Int.lt_or_le (w c) v with y | y
              · exact Or.inl y
              · have := zdvd_small d1 (by omega) (by omega)
                exact Or.inr (by omega)
            · intro h; omega
          -- and the row added
          have add : ∀ V3, zXf V V3 se → (∀ r, 0 ≤ r → r < f → 0 ≤ V3 (se + 3) (pn P + r) ∧ V3 (se + 3) (pn P + r) < pm P) → (∀ r, 0 ≤ r → r < e → V3 (se + 3) (pn P + r) = V2 (se + 3) (pn P + r)) → zQu P (zlift f bo (fun r => V3 (se + 3) (pn P + r) - V (se + 3) (pn P + r))) → zUpd f (zcc f (pn P) pc) (zoo P f bo) (fun w => A w ∧ w c < v + l) (V se 10) (V se 7) (fun r => V (se + 4) (pn P + r)) (V3 se 7) (fun r => V3 (se + 4) (pn P + r)) → (0 ≤ V3 se 7 ∧ V3 se 7 ≤ 2147483647) → SpV E 1 zm_X1_addRow [zrv (so + 4), zrv (se + 3), ziv (pn P + c)] S V3 (fun V25 => (z32 (v + l)) ∧ ∀ x27 : Int, x27 = v + l → zl_X4_explore_67 E X F d S se lv sp (pn P + c) (pn P + e) l x27 V25) := by
            intro V3 X3 b3 s3 k3 U3 bb3
            have H3 := H.xf X3
            refine sp_addRow H3 ok c1 (by rw [hl]; exact c2) b3 (fun g' a1 a2 => ⟨⟨by omega, by omega⟩, fun x27 e27 => ?_⟩)
            rw [e27]
            have eo : zarr V3 (se + 3) g' se = V3 se := zarr_ne _ _ (by omega)
            have e4 : zarr V3 (se + 3) g' (se + 4) = V3 (se + 4) := zarr_ne _ _ (by omega)
            refine ihn (v + l) _ (by omega) (by omega) (by omega) ?_ (X3.arr g') (fun r a b => ?_) (fun r a b => ?_) (fun y => ?_) ?_ (by rw [eo, e4]; exact U3) (by rw [eo]; exact bb3)
            · have := zdvd_add i2 (Int.dvd_refl l)
              rw [show v - v0 + l = v + l - v0 by omega] at this; exact this
            · rw [zarr_self]
              by_cases y : r < c
              · rw [a2 r a y]; exact b3 r a b
              · rw [a1 r (by omega) b]; exact zmod_le _ (by omega)
            · rw [zarr_self, a2 r a b, s3 r a (by omega), s2 r a b]
            · rw [zarr_self, a1 c (Int.le_refl c) c1.2, s3 c c1.1 nc, q2, p2]
              exact Int.emod_eq_of_lt (by omega) y
            · rw [zarr_self]
              refine hL.2.2.2 _ _ (hL.2.1 _ _ k3 p4) (fun r a b => ?_)
              show pm P ∣ g' (pn P + r) - V (se + 3) (pn P + r) - (V3 (se + 3) (pn P + r) - V (se + 3) (pn P + r) + zRo RR (pn P + c) (pn P + r))
              rw [show ∀ p q u w : Int, p - u - (q - u + w) = p - (q + w) from fun p q u w => by omega]
              by_cases y : r < c
              · rw [a2 r a y, p5 r a y, Int.add_zero, Int.sub_self]; exact Int.dvd_zero _
              · rw [a1 r (by omega) b]; exact zdvd_emod _ _
          refine sp_costOf H2 ok H.k3 b2 ⟨c1.1, by omega, by omega⟩ ⟨⟨?_, ?_⟩, fun x12 e12 => ⟨fun y => ?_, fun y => ⟨⟨by omega, by omega⟩, ?_⟩⟩⟩
          · show -2147483648 ≤ sp + zsum (fun r => V2 (se + 3) (pn P + (c + r)) * pc (pn P + (c + r))) (e - c); omega
          · show sp + zsum (fun r => V2 (se + 3) (pn P + (c + r)) * pc (pn P + (c + r))) (e - c) < 2147483648; omega
          · refine add V2 X2 b2 (fun _ _ _ => rfl) k2 ((U2.union (B := fun w => A w ∧ w c = v) (zUpd.skip (fun w hw => ?_)) (fun x w hx hw => ord x w hx.1 hw.1 (by have := hx.2; have := hw.2; omega))).iff (fun w => ?_)) bb2
            · obtain ⟨w1, w2, w3⟩ := (Av w).mp hw
              have := H2.part ok w1 (c := e) ⟨by omega, by omega⟩
              rw [zsum_congr (n := e) (f := fun r => w r * pc (pn P + r)) (g := fun r => V2 (se + 3) (pn P + r) * pc (pn P + r)) (fun r a b => by rw [w3 r a b])] at this
              omega
            · constructor
              · intro h
                rcases h with h | h
                · exact ⟨h.1, by omega⟩
                · exact ⟨h.1, by omega⟩
              · intro h
                rcases (vl1 w h.1).mp h.2 with y | y
                · exact Or.inl ⟨h.1, y⟩
                · exact Or.inr ⟨h.1, y⟩
          · refine ih (lv + 1) (d - 1) V2 x12 _ (by omega) (by omega) (by omega) H2 b2 (by rw [he, e12]; omega) bb2 (fun V22 X22 b22 s22 k22 U22 bb22 => ?_)
            rw [he] at s22 U22
            have X3 := X2.trans X22
            have H3 := H.xf X3
            rw [H3.v0, H3.v6]
            rw [X2.2 10 (by decide)] at U22
            refine ⟨by rw [H.fa.1.1], add V22 X3 b22 s22 (hL.2.2.2 _ _ (hL.2.1 _ _ k22 k2) (fun r _ _ => ?_)) ((U2.union (B := fun w => A w ∧ w c = v) (U22.iff (fun w => (Av w).symm)) (fun x w hx hw => ord x w hx.1 hw.1 (by have := hx.2; have := hw.2; omega))).iff (fun w => ?_)) bb22⟩
            · show pm P ∣ V22 (se + 3) (pn P + r) - V (se + 3) (pn P + r) - (V22 (se + 3) (pn P + r) - V2 (se + 3) (pn P + r) + (V2 (se + 3) (pn P + r) - V (se + 3) (pn P + r)))
              rw [show ∀ x y z : Int, x - z - (x - y + (y - z)) = 0 from fun x y z => by omega]; exact Int.dvd_zero _
            · constructor
              · intro h
                rcases h with h | h
                · exact ⟨h.1, by omega⟩
                · exact ⟨h.1, by omega⟩
              · intro h
                rcases (vl1 w h.1).mp h.2 with y | y
                · exact Or.inl ⟨h.1, y⟩
                · exact Or.inr ⟨h.1, y⟩
        · -- nothing cheaper is left
          refine hF V2 X2 b2 s2 k2 ((U2.union (B := fun w => A w ∧ v ≤ w c) (zUpd.skip (fun w hw => ?_)) (fun x w hx hw => ord x w hx.1 hw.1 (by have := hx.2; have := hw.2; omega))).iff (fun w => ?_)) bb2
          · have h1 := Acost w hw.1
            have h2 := Int.mul_le_mul_of_nonneg_right hw.2 pcb.1
            omega
          · constructor
            · intro h
              rcases h with h | h
              · exact h.1
              · exact h.1
            · intro h
              rcases Int.lt_or_le (w c) v with y | y
              · exact Or.inl ⟨h, y⟩
              · exact Or.inr ⟨h, y⟩
    refine loop (pm P + l - v0).toNat v0 _ (by omega) (Int.le_refl _) (by omega) (by rw [Int.sub_self]; exact Int.dvd_zero l) X1 (by rw [zarr_self]; exact g1) (by rw [zarr_self]; exact g2) (fun _ => by rw [zarr_self]; exact ev0.symm) (by rw [zarr_self]; exact g4) ?_ (by rw [zarr_ne _ _ (by omega)]; exact hb)
    rw [zarr_ne _ _ (show se ≠ se + 3 by omega), zarr_ne _ _ (show se + 4 ≠ se + 3 by omega)]
    refine zUpd.skip (fun w hw => ?_)
    exfalso
    have wb := ((Adef w).mp hw.1).1 c c1.1 c1.2
    have := zdvd_small (Adv w hw.1) (by omega) (by omega)
    have := hw.2
    omega
end EXPLORE
