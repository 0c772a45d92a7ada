/-! THE REFERENCE: base(), element(), primes() -/
theorem zBase.cnt (m n : Int) (d : Int → Int) : zsum (fun j => if 0 ≤ j ∧ d j < m then 1 else 0) n = zBase m n d := zsum_congr (fun j a b => by
  by_cases c : d j < m
  · rw [if_pos ⟨a, c⟩, if_pos c]
  · rw [if_neg (fun q => c q.2), if_neg c])
theorem zcnt_s {m n t : Int} {d : Int → Int} (ht : 0 ≤ t ∧ t < n) : zsum (fun j => if t ≤ j ∧ d j < m then 1 else 0) n = zsum (fun j => if t + 1 ≤ j ∧ d j < m then 1 else 0) n + if d t < m then 1 else 0 := by
  have h := zsum_sub (fun j => if t ≤ j ∧ d j < m then 1 else 0) (fun j => if t + 1 ≤ j ∧ d j < m then 1 else 0) n
  have h1 : zsum (fun j => (if t ≤ j ∧ d j < m then 1 else 0) - (if t + 1 ≤ j ∧ d j < m then (1 : Int) else 0)) n = if d t < m then 1 else 0 := by
    rw [zsum_one (i := t) ht.1 ht.2 (fun j a b c => ?_)]
    · by_cases e : d t < m
      · rw [if_pos ⟨Int.le_refl t, e⟩, if_neg (by omega), if_pos e]; rfl
      · rw [if_neg (fun q => e q.2), if_neg (fun q => e q.2), if_neg e]; rfl
    · by_cases e : t ≤ j ∧ d j < m
      · rw [if_pos e, if_pos ⟨by omega, e.2⟩]; rfl
      · rw [if_neg e, if_neg (fun q => e ⟨by omega, q.2⟩)]; rfl
  rw [h1] at h
  omega
section MDBASE
variable {E : zE} {S : zS} {V : zH} {o : Int} {P : zP} {s : zSig}
theorem s8_base (M : zMo S V o P) {what : Int} {F : Int → zH → Prop} (h0 : what = 0 → ∀ V', zLf V V' o → zRf V' o P → F (zBase (pm P) (pb P) (zpd V' o)) V') (h1 : what = 1 → ∀ V', zLf V V' o → zWf V' o P → F (zBase (pm P) (pn P) (zpd V' o)) V') (h2 : ¬ (what = 0 ∨ what = 1) → F (-1) V) : SpI E 5 zm_X8_base [zrv o, ziv what] S V F := by
  have o1 := M.ok.1
  have o2 := M.ok.2.1
  have o4 := M.ok.2.2.2.1
  refine en_X8_base (fun _ X => ?_)
  have lp : ∀ N V', 0 ≤ N → N ≤ 36 → zLf V V' o → F (zBase (pm P) N (zpd V' o)) V' → zl_X8_base_48 E X F S o N 0 0 V' := by
    intro N V' n0 n1 l hF
    have M1 := l.mo M
    have cb : ∀ c, 0 ≤ c → c ≤ N → 0 ≤ zsum (fun k => if zpd V' o k < pm P then 1 else 0) c ∧ zsum (fun k => if zpd V' o k < pm P then 1 else 0) c ≤ c * 1 := fun c a b => zsum_le a (fun j x y => by split <;> omega)
    have key := zdown (Q := fun c => zl_X8_base_48 E X F S o N (zsum (fun k => if zpd V' o k < pm P then 1 else 0) c) c V') (N := N) ?_ (fun c a b ih => ?_) 0 (by omega) (by omega)
    · rw [zsum_0] at key; exact key
    · exact wp_X8_base_48 ⟨fun _ => hF, fun q => by omega⟩
    · have bb := cb c a (by omega)
      rw [zsum_s _ a] at ih
      refine wp_X8_base_48 ⟨fun q => by omega, fun _ => ⟨M.ko, s8_pivot M1 ⟨a, by omega⟩ (s8_m M1 ⟨fun z => ⟨⟨by omega, by omega⟩, ⟨by omega, by omega⟩, ?_⟩, fun z => ⟨⟨by omega, by omega⟩, ⟨by omega, by omega⟩, ?_⟩⟩)⟩⟩
      · rw [if_neg (show ¬ zpd V' o c < pm P from fun q => by have q' : zRw (V' (o + 5)) c c < pm P := q; omega)] at ih; exact ih
      · rw [if_pos (show zpd V' o c < pm P from z)] at ih; exact ih
  refine s8_in (fun c => ⟨fun _ => ⟨fun n0 => ⟨M.ko, s8_n M ⟨fun _ => s8_weights M (fun V' l w => lp (pn P) V' (by omega) (by omega) l (h1 (by omega) V' l w)), fun q => absurd q n0⟩⟩, fun e0 => ⟨M.ko, s8_b M ⟨fun q => absurd e0 q, fun _ => s8_pushings M (fun V' l r => lp (pb P) V' (by omega) (by omega) l (h0 e0 V' l r))⟩⟩⟩, fun q => absurd q (by decide)⟩) (fun c => ⟨fun q => absurd rfl q, fun _ => h2 (fun q => c (by omega))⟩)
theorem md_base (H : zMd S V o s) {what : Int} {F : Int → zH → Prop}
    (h0 : what = 0 → ∀ V' d, zDs (pm (gP s)) (pb (gP s)) (zQu (gP s)) d → zMd S V' o s → zFro V V' o → F (zBase (pm (gP s)) (pb (gP s)) d) V')
    (h1 : what = 1 → ∀ V' d, zDs (pm (gP s)) (pn (gP s)) (zWt (gP s)) d → zMd S V' o s → zFro V V' o → F (zBase (pm (gP s)) (pn (gP s)) d) V')
    (h2 : ¬ (what = 0 ∨ what = 1) → F (-1) V) : SpI E 5 zm_X8_base [zrv o, ziv what] S V F :=
  s8_base H.mo (fun e V' l r => h0 e V' _ r.1 (H.lf l) l.fro) (fun e V' l w => h1 e V' _ w.1 (H.lf l) l.fro) h2
/-- element i is looked for -/
theorem s8_el (M : zMo S V o P) {X : zX} {what i N : Int} {d : Int → Int} {F : Int → zH → Prop} (hN : 0 ≤ N ∧ N ≤ 36) (hd : ∀ k, 0 ≤ k → k < N → zRw (V (o + 5)) k k = d k ∧ d k ≤ pm P) (hi : 0 ≤ i ∧ i < zBase (pm P) N d)
    (h : ∀ k, zAt (pm P) N d i k → zl_X8_element_38 E X F S o what k (-1) V) (hz : z32 i) : zl_X8_element_38 E X F S o what N i V := by
  unfold z32 at hz
  have key := zind (P := fun t => t ≤ N → ∀ left, 0 ≤ left → left ≤ i → zsum (fun j => if t ≤ j ∧ d j < pm P then 1 else 0) N = i - left → zl_X8_element_46 E X F S o what (t - 1) left V) (fun _ left a b e => ?_) (fun k k0 ih k1 left a b e => ?_) N hN.1 (Int.le_refl _) i hi.1 (Int.le_refl _) (by rw [zsum_zero (fun j x y => by rw [if_neg (by omega)])]; omega)
  · exact wp_X8_element_38 ⟨fun q => by omega, fun _ => ⟨⟨by omega, by omega⟩, key⟩⟩
  · exfalso
    rw [zBase.cnt] at e; omega
  · rw [show k + 1 - 1 = k by omega]
    have dk := hd k k0 (by omega)
    have cs := zcnt_s (m := pm P) (d := d) (n := N) ⟨k0, show k < N by omega⟩
    refine wp_X8_element_46 ⟨M.ko, s8_pivot M ⟨k0, by omega⟩ (s8_m M ⟨fun z => ⟨⟨by omega, by omega⟩, ?_⟩, fun z => ⟨⟨by omega, by omega⟩, ?_⟩⟩)⟩
    · rw [dk.1] at z
      rw [if_pos (show d k < pm P by omega)] at cs
      by_cases l0 : left = 0
      · rw [l0, show (0 : Int) + -1 = -1 by omega]
        refine h k ⟨⟨k0, by omega⟩, by omega, ?_⟩
        rw [← (show i - left = i by omega), ← e]
        exact zsum_congr (fun j x y => by
          by_cases c : k < j ∧ d j < pm P
          · rw [if_pos c, if_pos ⟨by omega, c.2⟩]
          · rw [if_neg c, if_neg (fun q => c ⟨by omega, q.2⟩)])
      · refine wp_X8_element_38 ⟨fun q => by omega, fun _ => ⟨⟨by omega, by omega⟩, ?_⟩⟩
        rw [show k + -1 = k - 1 by omega]
        exact ih (by omega) (left + -1) (by omega) (by omega) (by omega)
    · rw [dk.1] at z
      rw [if_neg (show ¬ d k < pm P by omega)] at cs
      rw [show k + -1 = k - 1 by omega]
      exact ih (by omega) left a b (by omega)
theorem md_element (H : zMd S V o s) {what i : Int} {F : Int → zH → Prop} 
    (h01 : what = 0 → 0 ≤ i → ∀ V' d k R, zDs (pm (gP s)) (pb (gP s)) (zQu (gP s)) d → zAt (pm (gP s)) (pb (gP s)) d i k → zElm (pb (gP s)) (zQu (gP s)) d k R → zMd S V' o (zSetT s (1, pb (gP s), 0, R)) → zFro V V' o → F 1 V')
    (h00 : what = 0 → 0 ≤ i → ∀ V' d, zDs (pm (gP s)) (pb (gP s)) (zQu (gP s)) d → zBase (pm (gP s)) (pb (gP s)) d ≤ i → zMd S V' o s → zFro V V' o → F (-1) V')
    (h11 : what = 1 → 0 ≤ i → ∀ V' d k R, zDs (pm (gP s)) (pn (gP s)) (zWt (gP s)) d → zAt (pm (gP s)) (pn (gP s)) d i k → zElm (pn (gP s)) (zWt (gP s)) d k R → zMd S V' o (zSetT s (2, pn (gP s), 0, fun l => R (pn (gP s) - 1 - l))) → zFro V V' o → F 1 V')
    (h10 : what = 1 → 0 ≤ i → ∀ V' d, zDs (pm (gP s)) (pn (gP s)) (zWt (gP s)) d → zBase (pm (gP s)) (pn (gP s)) d ≤ i → zMd S V' o s → zFro V V' o → F (-1) V')
    (h2 : ¬ (0 ≤ i ∧ (what = 0 ∨ what = 1)) → ∀ V', zMd S V' o s → zFro V V' o → F (-1) V') : SpI E 6 zm_X8_element [zrv o, ziv what, ziv i] S V F := by
  have M := H.mo
  generalize hP : gP s = P at *
  have o1 := M.ok.1
  have o2 := M.ok.2.1
  have o4 := M.ok.2.2.2.1
  have bb : ∀ N d, 0 ≤ N → N ≤ 36 → 0 ≤ zBase (pm P) N d ∧ zBase (pm P) N d ≤ N * 1 := fun N d a b => zsum_le a (fun j x y => by split <;> omega)
  refine en_X8_element (fun _ hz X => ⟨M.ko, s8_base M (fun e V' l r => ?_) (fun e V' l w => ?_) (fun c => ⟨⟨by omega, by omega⟩, s8_in (fun q => by omega) (fun _ => ⟨fun q => absurd rfl q, fun _ => h2 (fun q => c q.2) V H (fun _ _ => rfl)⟩)⟩)⟩)
  · have M1 := l.mo M
    have b1 := bb (pb P) (zpd V' o) o4.1 o4.2
    refine ⟨⟨by omega, by omega⟩, s8_in (fun q => ⟨fun _ => ⟨fun n => absurd e n, fun _ => s8_b M1 ?_⟩, fun q => absurd q (by decide)⟩) (fun q => ⟨fun q => absurd rfl q, fun _ => ?_⟩)⟩
    · refine s8_el M1 (d := zpd V' o) o4 (fun k a b => ⟨rfl, (r.1.le (by omega) a b).1.2⟩) (by omega) (fun k hk => ?_) hz
      have el := r.2.1 k hk.1.1 hk.1.2
      have eb : ∀ j, 0 ≤ j → j < pb P → 0 ≤ zRw (V' (o + 5)) k j ∧ zRw (V' (o + 5)) k j < pm P := fun j a b => el.le (by omega) r.1 hk.1 hk.2.1 ⟨a, b⟩
      refine wp_X8_element_38 ⟨fun _ => ⟨fun _ => ⟨M.ko, s8_b M1 (s8_tells M1 (Or.inr rfl) (fun V5 r5 o5 f5 => ?_))⟩, fun q => by omega⟩, fun q => by omega⟩
      have f15 := l.tf.trans f5
      have eo : ∀ g, zarr V5 (o + 9) g o = V5 o := fun g => zarr_ne _ _ (by omega)
      have Mg : ∀ g, zMo S (zarr V5 (o + 9) g) o P := fun g => ((f15.arr g ⟨by omega, by omega⟩)).mo M
      have e5 : ∀ g, zarr V5 (o + 9) g (o + 5) = V' (o + 5) := fun g => by rw [zarr_ne _ _ (by omega), r5 _ (by omega)]
      have key := zdown (Q := fun c => ∀ g, (∀ j, 0 ≤ j → j < c → g j = zRw (V' (o + 5)) k j) → zl_X8_element_94 E X F S o k c (zarr V5 (o + 9) g)) (N := pb P) (fun g hg => ?_) (fun c a b ih g hg => ?_) 0 (by omega) (by omega)
      · have := key (V5 (o + 9)) (fun j _ _ => by omega)
        rw [zarr_id] at this; exact this
      · refine wp_X8_element_94 ⟨M.ko, s8_b (Mg g) ⟨fun _ => h01 e (by omega) _ _ k _ r.1 hk el (H.tf (f15.arr g ⟨by omega, by omega⟩) ⟨by rw [eo, o5]; rfl, by rw [eo, o5]; rfl, by rw [eo, o5]; rfl, fun i a b => by rw [zarr_self]; exact hg i a b, ⟨by show (0 : Int) ≤ 1; omega, by show (1 : Int) ≤ 2; omega⟩, ⟨o4.1, o4.2⟩, Or.inl rfl, fun i a b => ?_⟩ (zTP.of0 rfl)) (f15.arr g ⟨by omega, by omega⟩).fro, fun q => by omega⟩⟩
        have := eb i a b
        show 0 ≤ zRw (V' (o + 5)) k i ∧ zRw (V' (o + 5)) k i ≤ 11
        omega
      · have k36 := hk.1
        refine wp_X8_element_94 ⟨M.ko, s8_b (Mg g) ⟨fun q => by omega, fun _ => ?_⟩⟩
        rw [(Mg g).f9, (Mg g).f16, M.t5, M.t9, e5]
        refine ⟨fun z => ⟨⟨by omega, by omega⟩, ⟨by omega, by omega⟩, rfl, ⟨by omega, by show 37 * k + c < 1369; omega⟩, rfl, ⟨a, by show c < 36; omega⟩, fun V12 e12 => ⟨⟨by omega, by omega⟩, ?_⟩⟩, fun z => ⟨rfl, ⟨a, by show c < 36; omega⟩, fun V12 e12 => ⟨⟨by omega, by omega⟩, ?_⟩⟩⟩
        · rw [e12, zput_zarr V5 (g := zupd g c (V' (o + 5) (37 * k + c))) (fun j => rfl)]
          refine ih _ (fun j x y => ?_)
          by_cases hj : j = c
          · rw [hj, zupd_self]; rfl
          · rw [zupd_ne _ _ hj]; exact hg j x (by omega)
        · rw [e12, zput_zarr V5 (g := zupd g c 0) (fun j => rfl)]
          refine ih _ (fun j x y => ?_)
          by_cases hj : j = c
          · rw [hj, zupd_self, el.2.2.1 c z b]
          · rw [zupd_ne _ _ hj]; exact hg j x (by omega)
    · by_cases i0 : 0 ≤ i
      · exact h00 e i0 V' _ r.1 (by omega) (H.lf l) l.fro
      · exact h2 (fun q => i0 q.1) V' (H.lf l) l.fro
  · have M1 := l.mo M
    have b1 := bb (pn P) (zpd V' o) (by omega) o1.2
    refine ⟨⟨by omega, by omega⟩, s8_in (fun q => ⟨fun _ => ⟨fun _ => s8_n M1 ?_, fun n => by omega⟩, fun q => absurd q (by decide)⟩) (fun q => ⟨fun q => absurd rfl q, fun _ => ?_⟩)⟩
    · refine s8_el M1 (d := zpd V' o) ⟨by omega, o1.2⟩ (fun k a b => ⟨rfl, (w.1.le (by omega) a b).1.2⟩) (by omega) (fun k hk => ?_) hz
      have el := w.2.1 k hk.1.1 hk.1.2
      refine wp_X8_element_38 ⟨fun _ => ⟨fun q => absurd e q, fun _ => ⟨M.ko, s8_weigh M1 hk.1 (fun V8 f8 a17 a18 a19 a9 => h11 e (by omega) V8 _ k _ w.1 hk el (H.tf (l.tf.trans f8) ⟨a17, a18, a19, a9, ⟨by show (0 : Int) ≤ 2; omega, by show (2 : Int) ≤ 2; omega⟩, ⟨by show 0 ≤ pn P; omega, o1.2⟩, Or.inl rfl, fun i a b => ?_⟩ (zTP.of0 rfl)) (l.tf.trans f8).fro)⟩⟩, fun q => by omega⟩
      have b' : i < pn P := b
      have a' : 0 ≤ i := a
      have := el.le (by omega) w.1 hk.1 hk.2.1 (i := pn P - 1 - i) ⟨by omega, by omega⟩
      show 0 ≤ zRw (V' (o + 5)) k (pn P - 1 - i) ∧ zRw (V' (o + 5)) k (pn P - 1 - i) ≤ 11
      omega
    · by_cases i0 : 0 ≤ i
      · exact h10 e i0 V' _ w.1 (by omega) (H.lf l) l.fro
      · exact h2 (fun q => i0 q.1) V' (H.lf l) l.fro
theorem s8_often {p n : Int} {F : Int → Prop} (hp : zPrm p) (hn : 1 ≤ n ∧ n ≤ 12) (h : F (zoft p n)) : SpF E 0 zm_X8_often [ziv n, ziv p] S V F := by
  refine en_X8_often (fun _ _ X => ?_)
  have p2 : 2 ≤ p := by unfold zPrm at hp; omega
  have dv : ∀ n, 1 ≤ n → n % p = 0 → 1 ≤ n / p ∧ n / p * 2 ≤ n := fun n a b => by
    rcases hp with e | e | e | e | e <;> (subst e; omega)
  have nz : ∀ n, 1 ≤ n → n ≤ 1 → n % p ≠ 0 := fun n a b => by
    rcases hp with e | e | e | e | e <;> (subst e; omega)
  have key : ∀ (k : Nat) (n c : Int), 1 ≤ n → n + 1 ≤ 2 ^ (k + 1) → (0 ≤ c ∧ c ≤ 10 - k) → F (c + zoftN p k n) → zl_X8_often_4 E X F S p c n V := by
    intro k
    induction k with
    | zero =>
      intro n c a b hc hF
      have b' : n + 1 ≤ 2 := b
      refine wp_X8_often_4 ⟨by omega, by omega, fun _ => ?_, fun z => absurd z (nz n a (by omega))⟩
      have : c + zoftN p 0 n = c := by show c + 0 = c; omega
      rw [this] at hF; exact hF
    | succ k ih =>
      intro n c a b hc hF
      refine wp_X8_often_4 ⟨by omega, by omega, fun z => ?_, fun z x4 e4 => ⟨⟨by omega, by omega⟩, ?_⟩⟩
      · have : c + zoftN p (k + 1) n = c := by
          unfold zoftN
          rw [if_neg z]; omega
        rw [this] at hF; exact hF
      · have dd := dv n a z
        rw [e4]
        refine ih (n / p) (c + 1) dd.1 ?_ (by omega) ?_
        · have : (2 : Int) ^ (k + 1 + 1) = 2 ^ (k + 1) * 2 := Int.pow_succ 2 (k + 1)
          omega
        · have : c + zoftN p (k + 1) n = c + 1 + zoftN p k (n / p) := by
            show c + (if n % p = 0 then 1 + zoftN p k (n / p) else 0) = _
            rw [if_pos z]; omega
          rw [this] at hF; exact hF
  exact key 4 n 0 hn.1 (by show n + 1 ≤ 32; omega) (by omega) (by rw [Int.zero_add]; exact h)
theorem s8_free (M : zMo S V o P) {F : Int → Prop} (h : F (zsum (fun k => if pkd P k = 3 then 0 else 1) (pb P))) : SpF E 1 zm_X8_free [zrv o] S V F := by
  have o4 := M.ok.2.2.2.1
  refine en_X8_free (fun X => ?_)
  have cb : ∀ c, 0 ≤ c → c ≤ pb P → 0 ≤ zsum (fun k => if pkd P k = 3 then 0 else 1) c ∧ zsum (fun k => if pkd P k = 3 then 0 else 1) c ≤ c * 1 := fun c a b => zsum_le a (fun j x y => by split <;> omega)
  have key := zdown (Q := fun c => zl_X8_free_4 E X F S o (zsum (fun k => if pkd P k = 3 then 0 else 1) c) c V) (N := pb P) ?_ (fun c a b ih => ?_) 0 (by omega) (by omega)
  · rw [zsum_0] at key; exact key
  · exact wp_X8_free_4 ⟨M.ko, s8_b M ⟨fun _ => h, fun q => by omega⟩⟩
  · have bb := cb c a (by omega)
    rw [zsum_s _ a] at ih
    refine wp_X8_free_4 ⟨M.ko, s8_b M ⟨fun q => by omega, fun _ => s8_isStuck M ⟨a, b⟩ (fun k3 => ⟨fun q => absurd q (by decide), fun _ => ⟨⟨by omega, by omega⟩, ⟨by omega, by omega⟩, ?_⟩⟩) (fun k3 => ⟨fun _ => ⟨⟨by omega, by omega⟩, ⟨by omega, by omega⟩, ?_⟩, fun q => absurd rfl q⟩)⟩⟩
    · rw [if_pos k3] at ih; exact ih
    · rw [if_neg k3] at ih; exact ih
theorem s8_left (M : zMo S V o P) {N p : Int} {d : Int → Int} {F : Int → Prop} (hN : 0 ≤ N ∧ N ≤ 36) (hp : zPrm p) (hd : ∀ k, 0 ≤ k → k < N → zRw (V (o + 5)) k k = d k ∧ 0 < d k ∧ d k ∣ pm P) (h : F (zsum (fun k => zoft p (pm P / d k)) N)) : SpF E 1 zm_X8_left [zrv o, ziv N, ziv p] S V F := by
  have o2 := M.ok.2.1
  refine en_X8_left (fun _ _ X => ?_)
  have cb : ∀ c, 0 ≤ c → c ≤ N → 0 ≤ zsum (fun k => zoft p (pm P / d k)) c ∧ zsum (fun k => zoft p (pm P / d k)) c ≤ c * 4 := fun c a b => zsum_le a (fun j x y => zoft_le p 4 _)
  have key := zdown (Q := fun c => zl_X8_left_5 E X F S o N p (zsum (fun k => zoft p (pm P / d k)) c) c V) (N := N) ?_ (fun c a b ih => ?_) 0 (by omega) (by omega)
  · rw [zsum_0] at key; exact key
  · exact wp_X8_left_5 ⟨fun _ => h, fun q => by omega⟩
  · have bb := cb c a (by omega)
    rw [zsum_s _ a] at ih
    obtain ⟨d1, d2, d3⟩ := hd c a b
    have dq := zdq (show 0 < pm P by omega) d2 d3
    have ob := zoft_le p 4 (pm P / d c)
    have ob' : 0 ≤ zoft p (pm P / d c) ∧ zoft p (pm P / d c) ≤ 4 := ob
    refine wp_X8_left_5 ⟨fun q => by omega, fun _ => ⟨M.ko, s8_m M (s8_pivot M ⟨a, by omega⟩ ?_)⟩⟩
    rw [d1]
    refine ⟨by omega, d2, s8_often hp ⟨dq.1.1, by omega⟩ ⟨⟨by omega, by omega⟩, fun x12 e12 => ⟨⟨by omega, by omega⟩, ?_⟩⟩⟩
    rw [e12]; exact ih
end MDBASE
/-- the number at a STUCK button is m -/
theorem zDs.stuck {P : zP} (hm : 0 < pm P) {d : Int → Int} (hd : zDs (pm P) (pb P) (zQu P) d) {k : Int} (hk : 0 ≤ k ∧ k < pb P) (h3 : pkd P k = 3) : d k = pm P := by
  obtain ⟨⟨h1, h2⟩, ⟨z, z1, z2, z3⟩, -⟩ := hd k hk.1 hk.2
  have a := z1.2 k hk.1 hk.2 h3
  rw [z2] at a
  have := zdvd_le a h1
  have := zdvd_le h2 hm
  omega
theorem zoft_quo {p m d : Int} (hp : zPrm p) (hm : 0 < m ∧ m ≤ 12) (hd : 0 < d) (h : d ∣ m) : zoft p (m / d) = zoft p m - zoft p d := by
  have q := zdq hm.1 hd h
  have := zoft_mul hp (show 1 ≤ d by omega) q.1.1 (by rw [q.2]; omega)
  rw [q.2] at this; omega
/-- primes of WEIGHTS, both ways -/
theorem zprime3 {P : zP} (ok : zPok P) {d w : Int → Int} {p : Int} (hp : zPrm p) (hd : zDs (pm P) (pb P) (zQu P) d) (hw : zDs (pm P) (pn P) (zWt P) w) (e : zsum (fun j => zoft p (w j)) (pn P) = zsum (fun k => if pkd P k = 3 then 0 else zoft p (d k)) (pb P)) : zsum (fun j => zoft p (pm P / w j)) (pn P) = pn P * zoft p (pm P) - (zPrA P p - zPrQ P d p) := by
  have o1 := ok.1
  have o2 := ok.2.1
  have c : ∀ n, 0 ≤ n → zsum (fun _ => zoft p (pm P)) n = n * zoft p (pm P) := fun n hn => zind (P := fun n => zsum (fun _ => zoft p (pm P)) n = n * zoft p (pm P)) (by rw [zsum_0, Int.zero_mul]) (fun n a ih => by rw [zsum_s _ a, ih, Int.add_mul, Int.one_mul]) n hn
  have e1 : zsum (fun j => zoft p (pm P / w j)) (pn P) = pn P * zoft p (pm P) - zsum (fun j => zoft p (w j)) (pn P) := by
    rw [← c (pn P) (by omega), ← zsum_sub]
    exact zsum_congr (fun j a b => zoft_quo hp ⟨by omega, by omega⟩ (hw j a b).1.1 (hw j a b).1.2)
  have e2 : zPrA P p - zPrQ P d p = zsum (fun k => if pkd P k = 3 then 0 else zoft p (d k)) (pb P) := by
    unfold zPrA zPrQ
    rw [Int.mul_comm, ← zsum_mul, ← zsum_sub]
    refine zsum_congr (fun k a b => ?_)
    by_cases h3 : pkd P k = 3
    · rw [if_pos h3, if_pos h3, hd.stuck (by omega) ⟨a, b⟩ h3, Int.mul_zero, Int.ediv_self (by omega), zoft_1 (by unfold zPrm at hp; omega)]; rfl
    · rw [if_neg h3, if_neg h3, Int.mul_one, zoft_quo hp ⟨by omega, by omega⟩ (hd k a b).1.1 (hd k a b).1.2]; omega
  rw [e1, e2, e]
def zPrim (P : zP) (d : Int → Int) (what p : Int) : Int := if what = 0 then zPrA P p - zPrQ P d p else if what = 1 then zPrQ P d p else if what = 2 then zPrA P p else pn P * zoft p (pm P) - (zPrA P p - zPrQ P d p)
theorem zPrQ.congr {P : zP} {d d' : Int → Int} (e : ∀ k, 0 ≤ k → k < pb P → d k = d' k) (p : Int) : zPrQ P d p = zPrQ P d' p := zsum_congr (fun k a b => by rw [e k a b])
section MDPRIMES
variable {E : zE} {S : zS} {V : zH} {o : Int} {s : zSig}
theorem md_primes (H : zMd S V o s) {what p : Int} {F : Int → zH → Prop}
    (h : zPrm p → (0 ≤ what ∧ what ≤ 3) → ∀ V' y, (∀ d, zDs (pm (gP s)) (pb (gP s)) (zQu (gP s)) d → y = zPrim (gP s) d what p) → zMd S V' o s → zFro V V' o → F y V')
    (h0 : ¬ (zPrm p ∧ (0 ≤ what ∧ what ≤ 3)) → F (-1) V) : SpI E 5 zm_X8_primes [zrv o, ziv what, ziv p] S V F := by
  have M := H.mo
  have o1 := M.ok.1
  have o2 := M.ok.2.1
  have o4 := M.ok.2.2.2.1
  refine en_X8_primes (fun _ _ X => ?_)
  have main : zPrm p → zl_X8_primes_27 E X F S o what p V := by
    intro hp
    refine wp_X8_primes_27 (s8_in (fun c => ⟨fun _ => ⟨fun n3 => ⟨M.ko, s8_pushings M (fun V8 l8 r8 => s8_b (l8.mo M) (s8_left (l8.mo M) (d := zpd V8 o) o4 hp (fun k a b => ⟨rfl, (r8.1 k a b).1⟩) (s8_free (l8.mo M) (s8_m (l8.mo M) (s8_often hp ⟨by omega, by omega⟩ ?_)))))⟩, fun e3 => ⟨M.ko, s8_weights M (fun V8 l8 w8 => s8_n (l8.mo M) (s8_left (l8.mo M) (d := zpd V8 o) ⟨by omega, o1.2⟩ hp (fun k a b => ⟨rfl, (w8.1 k a b).1⟩) (h hp c V8 _ (fun d hd => ?_) (H.lf l8) l8.fro)))⟩⟩, fun q => absurd q (by decide)⟩) (fun c => ⟨fun q => absurd rfl q, fun _ => h0 (fun q => c q.2)⟩))
    · have fb : 0 ≤ zsum (fun k => if pkd (gP s) k = 3 then 0 else 1) (pb (gP s)) ∧ zsum (fun k => if pkd (gP s) k = 3 then 0 else 1) (pb (gP s)) ≤ pb (gP s) * 1 := zsum_le o4.1 (fun j x y => by split <;> omega)
      have ob : 0 ≤ zoft p (pm (gP s)) ∧ zoft p (pm (gP s)) ≤ 4 := zoft_le p 4 _
      have qb : 0 ≤ zsum (fun k => zoft p (pm (gP s) / zpd V8 o k)) (pb (gP s)) ∧ zsum (fun k => zoft p (pm (gP s) / zpd V8 o k)) (pb (gP s)) ≤ pb (gP s) * 4 := zsum_le o4.1 (fun j x y => zoft_le p 4 _)
      have pbb := zmul_le (a := zsum (fun k => if pkd (gP s) k = 3 then 0 else 1) (pb (gP s))) (b := zoft p (pm (gP s))) (A := 36) (B := 4) ⟨fb.1, by omega⟩ ob
      have eq : ∀ d, zDs (pm (gP s)) (pb (gP s)) (zQu (gP s)) d → zsum (fun k => zoft p (pm (gP s) / zpd V8 o k)) (pb (gP s)) = zPrQ (gP s) d p := fun d hd => zPrQ.congr (r8.1.uniq hd) p
      refine ⟨⟨by omega, by omega⟩, fun x20 e20 => ⟨fun n0 => ⟨fun n1 => h hp c V8 _ (fun d hd => ?_) (H.lf l8) l8.fro, fun e1 => h hp c V8 _ (fun d hd => ?_) (H.lf l8) l8.fro⟩, fun e0 => ⟨⟨by omega, by omega⟩, h hp c V8 _ (fun d hd => ?_) (H.lf l8) l8.fro⟩⟩⟩
      · unfold zPrim
        rw [if_neg n0, if_neg n1, if_pos (by omega), e20]; rfl
      · unfold zPrim
        rw [if_neg n0, if_pos e1, eq d hd]
      · unfold zPrim
        rw [if_pos e0, eq d hd, e20]; rfl
    · unfold zPrim
      rw [if_neg (by omega), if_neg (by omega), if_neg (by omega)]
      exact zprime3 M.ok hp hd w8.1 (w8.2.2 d hd p hp)
  exact ⟨fun e => main (Or.inl e), fun n2 => ⟨fun e => main (Or.inr (Or.inl e)), fun n3 => ⟨fun e => main (Or.inr (Or.inr (Or.inl e))), fun n5 => ⟨fun e => main (Or.inr (Or.inr (Or.inr (Or.inl e)))), fun n7 => ⟨fun n11 => h0 (fun q => by unfold zPrm at q; omega), fun e => main (Or.inr (Or.inr (Or.inr (Or.inr e))))⟩⟩⟩⟩⟩
end MDPRIMES
