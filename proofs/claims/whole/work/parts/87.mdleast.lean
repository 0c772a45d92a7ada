/-! PRODUCTS; THE REFERENCE: least() -/
def zprodN (f : Int → Int) : Nat → Int
  | 0 => 1
  | n + 1 => zprodN f n * f n
def zprod (f : Int → Int) (n : Int) : Int := zprodN f n.toNat
theorem zprod_0 (f : Int → Int) : zprod f 0 = 1 := rfl
theorem zprod_s (f : Int → Int) {n : Int} (h : 0 ≤ n) : zprod f (n + 1) = zprod f n * f n := by
  unfold zprod
  rw [show (n + 1).toNat = n.toNat + 1 by omega]
  show zprodN f n.toNat * f ((n.toNat : Nat) : Int) = _
  rw [show ((n.toNat : Nat) : Int) = n by omega]
theorem zprod_congr {f g : Int → Int} : ∀ n, 0 ≤ n → (∀ j, 0 ≤ j → j < n → f j = g j) → zprod f n = zprod g n := by
  refine zind (P := fun n => (∀ j, 0 ≤ j → j < n → f j = g j) → zprod f n = zprod g n) (fun _ => rfl) (fun n a ih h => ?_)
  rw [zprod_s _ a, zprod_s _ a, ih (fun j x y => h j x (by omega)), h n a (by omega)]
theorem zprod_ge {f : Int → Int} : ∀ n, 0 ≤ n → (∀ j, 0 ≤ j → j < n → 1 ≤ f j) → 1 ≤ zprod f n := by
  refine zind (P := fun n => (∀ j, 0 ≤ j → j < n → 1 ≤ f j) → 1 ≤ zprod f n) (fun _ => by rw [zprod_0]; omega) (fun n a ih h => ?_)
  rw [zprod_s _ a]
  have := Int.mul_le_mul (ih (fun j x y => h j x (by omega))) (h n a (by omega)) (by omega) (by have := ih (fun j x y => h j x (by omega)); omega)
  omega
theorem zprod_up {f : Int → Int} {c : Int} (hc : 0 ≤ c) : ∀ n, c ≤ n → (∀ j, 0 ≤ j → j < n → 1 ≤ f j) → zprod f c ≤ zprod f n := by
  have key := zind (P := fun t => (∀ j, 0 ≤ j → j < c + t → 1 ≤ f j) → zprod f c ≤ zprod f (c + t)) (fun _ => by rw [Int.add_zero]; exact Int.le_refl _) (fun t a ih h => by
    rw [← Int.add_assoc, zprod_s _ (by omega)]
    have h1 := ih (fun j x y => h j x (by omega))
    have h2 := zprod_ge (f := f) (c + t) (by omega) (fun j x y => h j x (by omega))
    have := Int.mul_le_mul_of_nonneg_left (h (c + t) (by omega) (by omega)) (show 0 ≤ zprod f (c + t) by omega)
    omega)
  intro n hn h
  have := key (n - c) (by omega)
  rw [show c + (n - c) = n by omega] at this
  exact this h
theorem zprod_mono {f g : Int → Int} : ∀ n, 0 ≤ n → (∀ j, 0 ≤ j → j < n → 1 ≤ f j ∧ f j ≤ g j) → zprod f n ≤ zprod g n := by
  refine zind (P := fun n => (∀ j, 0 ≤ j → j < n → 1 ≤ f j ∧ f j ≤ g j) → zprod f n ≤ zprod g n) (fun _ => Int.le_refl _) (fun n a ih h => ?_)
  rw [zprod_s _ a, zprod_s _ a]
  have h1 := ih (fun j x y => h j x (by omega))
  have h2 := zprod_ge (f := f) n a (fun j x y => (h j x (by omega)).1)
  have h3 := h n a (by omega)
  exact Int.mul_le_mul h1 h3.2 (by omega) (by omega)
theorem zprod_mul (f g : Int → Int) : ∀ n, 0 ≤ n → zprod (fun j => f j * g j) n = zprod f n * zprod g n := by
  refine zind (P := fun n => zprod (fun j => f j * g j) n = zprod f n * zprod g n) rfl (fun n a ih => ?_)
  rw [zprod_s _ a, zprod_s _ a, zprod_s _ a, ih, Int.mul_assoc, Int.mul_assoc, Int.mul_left_comm (zprod g n) (f n) (g n)]
theorem zprod_shift (f : Int → Int) : ∀ n, 0 ≤ n → zprod f (n + 1) = f 0 * zprod (fun j => f (j + 1)) n := by
  refine zind (P := fun n => zprod f (n + 1) = f 0 * zprod (fun j => f (j + 1)) n) ?_ (fun n hn ih => ?_)
  · rw [zprod_s f (Int.le_refl 0), zprod_0, zprod_0, Int.one_mul, Int.mul_one]
  · rw [zprod_s f (by omega), ih, zprod_s _ hn, Int.mul_assoc]
theorem zprod_rev : ∀ n, 0 ≤ n → ∀ f : Int → Int, zprod f n = zprod (fun j => f (n - 1 - j)) n := by
  refine zind (P := fun n => ∀ f : Int → Int, zprod f n = zprod (fun j => f (n - 1 - j)) n) (fun f => rfl) (fun n hn ih f => ?_)
  rw [zprod_s f hn, zprod_shift _ n hn, ih f]
  rw [zprod_congr (f := fun j => f (n + 1 - 1 - (j + 1))) (g := fun j => f (n - 1 - j)) n hn (fun j _ _ => by rw [show n + 1 - 1 - (j + 1) = n - 1 - j by omega])]
  rw [show n + 1 - 1 - 0 = n by omega, Int.mul_comm]
/-- a product over free buttons, both ways -/
theorem zFree.prod {P : zP} {f : Int} {bo : Int → Int} (H : zFree P f bo) (hb : 0 ≤ pb P) (g : Int → Int) : zprod (fun r => g (bo r)) f = zprod (fun k => if pkd P k = 3 then 1 else g k) (pb P) := by
  rw [zprod_rev (pb P) hb]
  have key := zind (P := fun t => t ≤ pb P → ∃ c, (0 ≤ c ∧ c ≤ f) ∧ (∀ r, 0 ≤ r → r < f → (r < c ↔ pb P - t ≤ bo r)) ∧ zprod (fun r => g (bo r)) c = zprod (fun j => if pkd P (pb P - 1 - j) = 3 then 1 else g (pb P - 1 - j)) t) (fun _ => ⟨0, ⟨by omega, H.1.1⟩, fun r a b => ?_, rfl⟩) (fun t a ih h => ?_)
  · obtain ⟨c, c1, c2, c3⟩ := key (pb P) hb (Int.le_refl _)
    have : c = f := by
      rcases Int.lt_or_eq_of_le c1.2 with q | q
      · have := (c2 c c1.1 q).mpr (by have := (H.2.1 c c1.1 q).1.1; omega)
        omega
      · exact q
    rw [← c3, this]
  · have := (H.2.1 r a b).1; omega
  · obtain ⟨c, c1, c2, c3⟩ := ih (by omega)
    by_cases h3 : pkd P (pb P - 1 - t) = 3
    · refine ⟨c, c1, fun r x y => ?_, ?_⟩
      · rw [c2 r x y]
        have := (H.2.1 r x y).2
        have : bo r ≠ pb P - 1 - t := fun q => this (by rw [q]; exact h3)
        omega
      · rw [zprod_s _ a, if_pos h3, Int.mul_one, c3]
    · obtain ⟨r, r1, r2⟩ := H.2.2.2 (pb P - 1 - t) (by omega) (by omega) h3
      have rc : r = c := by
        rcases Int.lt_trichotomy r c with q | q | q
        · have := (c2 r r1.1 r1.2).mp q; omega
        · exact q
        · have h1 := H.2.2.1 c r c1.1 q r1.2
          have := (c2 c c1.1 (by omega)).mpr (by omega)
          omega
      refine ⟨c + 1, ⟨by omega, by omega⟩, fun s x y => ?_, ?_⟩
      · have h2 := c2 s x y
        constructor
        · intro q
          by_cases e : s = c
          · rw [e, ← rc, r2]; omega
          · have := h2.mp (by omega); omega
        · intro q
          rcases Int.lt_or_le (bo s) (pb P - t) with w | w
          · have : bo s = bo r := by omega
            have := H.inj ⟨x, y⟩ r1 this
            omega
          · have := h2.mpr w; omega
      · rw [zprod_s _ c1.1, zprod_s _ a, if_neg h3, c3, ← rc, r2]
/-- how many QUIET there are -/
def zMany (P : zP) (d : Int → Int) : Int := zprod (fun k => pm P / d k) (pb P)
theorem zMany.congr {P : zP} (hb : 0 ≤ pb P) {d d' : Int → Int} (e : ∀ k, 0 ≤ k → k < pb P → d k = d' k) : zMany P d = zMany P d' := zprod_congr (pb P) hb (fun k a b => by rw [e k a b])
section MDLEAST
variable {E : zE} {S : zS} {V : zH} {o : Int} {P : zP} {s : zSig}
theorem s8_quiet (M : zMo S V o P) (R : zRf V o P) {F : Int → Prop} (h : ∀ q, 1 ≤ q → (q ≤ 65536 → q = zMany P (zpd V o)) → (65536 < q → 65536 < zMany P (zpd V o)) → F q) : SpG E 1 zm_X8_quiet [zrv o] S V F := by
  have o2 := M.ok.2.1
  have o4 := M.ok.2.2.2.1
  refine en_X8_quiet (fun X => ?_)
  have fq : ∀ k, 0 ≤ k → k < pb P → 1 ≤ pm P / zpd V o k ∧ pm P / zpd V o k ≤ 12 := fun k a b => by
    have := zdq (show 0 < pm P by omega) (R.1 k a b).1.1 (R.1 k a b).1.2
    omega
  have g1 : ∀ c, 0 ≤ c → c ≤ pb P → 1 ≤ zprod (fun k => pm P / zpd V o k) c := fun c a b => zprod_ge c a (fun j x y => (fq j x (by omega)).1)
  have up : ∀ c, 0 ≤ c → c ≤ pb P → zprod (fun k => pm P / zpd V o k) c ≤ zMany P (zpd V o) := fun c a b => zprod_up a (pb P) b (fun j x y => (fq j x (by omega)).1)
  have key := zdown (Q := fun c => zl_X8_quiet_4 E X F S o (zprod (fun k => pm P / zpd V o k) c) c V) (N := pb P) ?_ (fun c a b ih => ?_) 0 (by omega) (by omega)
  · rw [zprod_0] at key; exact key
  · exact wp_X8_quiet_4 ⟨M.ko, s8_b M ⟨fun _ => h _ (g1 _ o4.1 (Int.le_refl _)) (fun _ => rfl) (fun q => q), fun q => by omega⟩⟩
  · have c1 := g1 c a (by omega)
    have f1 := fq c a b
    rw [zprod_s _ a] at ih
    refine wp_X8_quiet_4 ⟨M.ko, s8_b M ⟨fun q => by omega, fun _ => ⟨fun z => h _ c1 (fun q => by omega) (fun _ => by have := up c a (by omega); omega), fun z => s8_m M (s8_pivot M ⟨a, by omega⟩ ?_)⟩⟩⟩
    have pp := zmul_le (a := zprod (fun k => pm P / zpd V o k) c) (b := pm P / zpd V o c) (A := 65536) (B := 12) ⟨by omega, z⟩ ⟨by omega, f1.2⟩
    have d0 := (R.1 c a b).1.1
    refine ⟨by omega, d0, ⟨?_, ?_⟩, fun x e => ⟨⟨by omega, by omega⟩, ?_⟩⟩
    · show -9223372036854775808 ≤ zprod (fun k => pm P / zpd V o k) c * (pm P / zpd V o c); omega
    · show zprod (fun k => pm P / zpd V o k) c * (pm P / zpd V o c) < 9223372036854775808; omega
    · rw [e]; exact ih
theorem s8_costOf (M : zMo S V o P) {F : Int → Prop} (hx : ∀ k, 0 ≤ k → k < pb P → 0 ≤ V (o + 9) k ∧ V (o + 9) k < pm P) (h : F (zCst P (V (o + 9)))) : SpG E 1 zm_X8_costOf [zrv o] S V F := by
  have o2 := M.ok.2.1
  have o4 := M.ok.2.2.2.1
  refine en_X8_costOf (fun X => ?_)
  have fb : ∀ k, 0 ≤ k → k < pb P → 0 ≤ V (o + 9) k * pco P k ∧ V (o + 9) k * pco P k ≤ 12000 := fun k a b => by
    have := hx k a b
    exact zmul_le (A := 12) (B := 1000) ⟨this.1, by omega⟩ (M.ok.2.2.2.2.2 k a b).2.2.2.2.2.1
  have cb : ∀ c, 0 ≤ c → c ≤ pb P → 0 ≤ zsum (fun k => V (o + 9) k * pco P k) c ∧ zsum (fun k => V (o + 9) k * pco P k) c ≤ c * 12000 := fun c a b => zsum_le a (fun j x y => fb j x (by omega))
  have key := zdown (Q := fun c => zl_X8_costOf_4 E X F S o (zsum (fun k => V (o + 9) k * pco P k) c) c V) (N := pb P) ?_ (fun c a b ih => ?_) 0 (by omega) (by omega)
  · rw [zsum_0] at key; exact key
  · exact wp_X8_costOf_4 ⟨M.ko, s8_b M ⟨fun _ => h, fun q => by omega⟩⟩
  · have c1 := cb c a (by omega)
    have f1 := fb c a b
    rw [zsum_s _ a] at ih
    refine wp_X8_costOf_4 ⟨M.ko, s8_b M ⟨fun q => by omega, fun _ => ?_⟩⟩
    rw [M.f16, M.f0, M.t9, M.t1, (M.bt ⟨a, b⟩).2.2.2.1]
    refine ⟨rfl, ⟨a, by show c < 36; omega⟩, ⟨by omega, by omega⟩, rfl, ⟨by omega, by show 184 + c < 1516; omega⟩, ⟨?_, ?_⟩, ⟨?_, ?_⟩, fun x e => ⟨⟨by omega, by omega⟩, by rw [e]; exact ih⟩⟩
    · show -9223372036854775808 ≤ V (o + 9) c * pco P c; omega
    · show V (o + 9) c * pco P c < 9223372036854775808; omega
    · show -9223372036854775808 ≤ _ + V (o + 9) c * pco P c; omega
    · show _ + V (o + 9) c * pco P c < 9223372036854775808; omega
/-- the row copied to a, one of the rows behind -/
theorem s8_keepsRow (M : zMo S V o P) {a n : Int} {F : zH → Prop} (ha : a = o + 10 ∨ a = o + 11) (hn : 0 ≤ n ∧ n ≤ 36) (h : ∀ g, (∀ j, 0 ≤ j → j < n → g j = V (o + 9) j) → F (zarr V a g)) : SpV E 0 zm_X8_keepsRow [zrv o, zrv a, ziv n] S V F := by
  have sa : S a = (1, 36) := by
    rcases ha with e | e
    · rw [e]; exact M.t10
    · rw [e]; exact M.t11
  refine en_X8_keepsRow (fun _ X => ?_)
  have key := zdown (Q := fun c => ∀ g, (∀ j, 0 ≤ j → j < c → g j = V (o + 9) j) → zl_X8_keepsRow_2 E X F S o a n c (zarr V a g)) (N := n) (fun g hg => ?_) (fun c x y ih g hg => ?_) 0 (by omega) (by omega)
  · have := key (V a) (fun j _ _ => by omega)
    rw [zarr_id] at this; exact this
  · exact wp_X8_keepsRow_2 ⟨fun _ => h g hg, fun q => by omega⟩
  · refine wp_X8_keepsRow_2 ⟨fun q => by omega, fun _ => ?_⟩
    rw [zarr_ne V g (show o ≠ a by omega), M.f16, M.t9, sa, zarr_ne V g (show o + 9 ≠ a by omega)]
    refine ⟨M.ko, rfl, ⟨x, by show c < 36; omega⟩, rfl, ⟨x, by show c < 36; omega⟩, fun V7 e7 => ⟨⟨by omega, by omega⟩, ?_⟩⟩
    rw [e7, zput_zarr V (g := zupd g c (V (o + 9) c)) (fun j => rfl)]
    refine ih _ (fun j p q => ?_)
    by_cases hj : j = c
    · rw [hj, zupd_self]
    · rw [zupd_ne _ _ hj]; exact hg j p (by omega)
theorem md_least (H : zMd S V o s) {F : Int → zH → Prop}
    (h0 : (¬ ∃ z, zSol (gP s) z) → ∀ V', zMd S V' o s → zFro V V' o → F (-1) V')
    (hs : (∃ z, zSol (gP s) z) → ∀ V' d, zDs (pm (gP s)) (pb (gP s)) (zQu (gP s)) d → 65536 < zMany (gP s) d → zMd S V' o s → zFro V V' o → F (-2) V')
    (h1 : ∀ V' d x, zDs (pm (gP s)) (pb (gP s)) (zQu (gP s)) d → zMany (gP s) d ≤ 65536 → zLst (gP s) x → zMd S V' o (zSetT s (1, pb (gP s), 0, x)) → zFro V V' o → F (zCst (gP s) x) V') : SpJ E 6 zm_X8_least [zrv o] S V F := by
  have M := H.mo
  generalize hP : gP s = P at *
  have o1 := M.ok.1
  have o2 := M.ok.2.1
  have o4 := M.ok.2.2.2.1
  have hL := zQu_lat P
  refine en_X8_least (fun X => ⟨M.ko, s8_canBe M (fun V3 l3 r3 e3 => ⟨fun _ => s8_quiet (l3.mo M) r3 (fun q q0 q1 q2 => ⟨fun z => ?_, fun z => hs ⟨_, (r3.2.2.2 e3).1⟩ V3 _ r3.1 (q2 z) (H.lf l3) l3.fro⟩), fun q => absurd q (by decide)⟩) (fun V3 l3 r3 n3 => ⟨fun q => absurd rfl q, fun _ => h0 n3 V3 (H.lf l3) l3.fro⟩)⟩)
  have can := r3.2.2.2 e3
  obtain ⟨yb, yt⟩ := can.row M.ok r3.1
  have mz : zMany P (zpd V3 o) ≤ 65536 := by rw [← q1 z]; exact z
  refine s8_b (l3.mo M) (s8_tells (l3.mo M) (Or.inr rfl) (fun V5 r5 o5 f5 => ?_))
  have f15 := l3.tf.trans f5
  -- the heap: row x, best y
  have eo : ∀ g b, zarr (zarr V5 (o + 9) g) (o + 10) b o = V5 o := fun g b => by rw [zarr_ne _ _ (by omega), zarr_ne _ _ (by omega)]
  have e5 : ∀ g b, zarr (zarr V5 (o + 9) g) (o + 10) b (o + 5) = V3 (o + 5) := fun g b => by rw [zarr_ne _ _ (by omega), zarr_ne _ _ (by omega), r5 _ (by omega)]
  have e9 : ∀ g b, zarr (zarr V5 (o + 9) g) (o + 10) b (o + 9) = g := fun g b => by rw [zarr_ne _ _ (by omega), zarr_self]
  have fgb : ∀ g b, zTf V (zarr (zarr V5 (o + 9) g) (o + 10) b) o := fun g b => (f15.arr g ⟨by omega, by omega⟩).arr b ⟨by omega, by omega⟩
  have Mgb : ∀ g b, zMo S (zarr (zarr V5 (o + 9) g) (o + 10) b) o P := fun g b => (fgb g b).mo M
  have Rgb : ∀ g b, zRf (zarr (zarr V5 (o + 9) g) (o + 10) b) o P := fun g b => by
    unfold zRf zpd
    rw [e5]; exact r3
  have pgb : ∀ g b, zpd (zarr (zarr V5 (o + 9) g) (o + 10) b) o = zpd V3 o := fun g b => by unfold zpd; rw [e5]
  have solb : ∀ y z, zSol P y → zSol P z → zQu P (fun j => y j - z j) := fun y z a b => a.sub b
  -- the end
  have fin : ∀ g b lc, zLst P b → lc = zCst P b → zl_X8_least_120 E X F S o (pb P) lc 0 (zarr (zarr V5 (o + 9) g) (o + 10) b) := by
    intro g b lc hb hlc
    have key := zdown (Q := fun c => ∀ g, (∀ j, 0 ≤ j → j < c → g j = b j) → zl_X8_least_120 E X F S o (pb P) lc c (zarr (zarr V5 (o + 9) g) (o + 10) b)) (N := pb P) (fun g hg => ?_) (fun c x y ih g hg => ?_) 0 (by omega) (by omega)
    · exact key g (fun j _ _ => by omega)
    · refine wp_X8_least_120 ⟨fun _ => ?_, fun q => by omega⟩
      rw [hlc]
      refine h1 _ _ b r3.1 mz hb (H.tf (fgb g b) ⟨by rw [eo, o5]; rfl, by rw [eo, o5]; rfl, by rw [eo, o5]; rfl, fun i p q => by rw [e9]; exact hg i p q, ⟨by show (0 : Int) ≤ 1; omega, by show (1 : Int) ≤ 2; omega⟩, ⟨o4.1, o4.2⟩, Or.inl rfl, fun i p q => ?_⟩ (zTP.of0 rfl)) (fgb g b).fro
      have := hb.2.1.bd i p q
      show 0 ≤ b i ∧ b i ≤ 11
      omega
    · refine wp_X8_least_120 ⟨fun q => by omega, fun _ => ?_⟩
      rw [(Mgb g b).f20, (Mgb g b).f16, M.t10, M.t9, zarr_self]
      refine ⟨M.ko, rfl, ⟨x, by show c < 36; omega⟩, rfl, ⟨x, by show c < 36; omega⟩, fun V7 e7 => ⟨⟨by omega, by omega⟩, ?_⟩⟩
      rw [e7, zarr_comm V5 g b (by omega), zput_zarr (zarr V5 (o + 10) b) (g := zupd g c (b c)) (fun j => rfl), zarr_comm V5 b _ (by omega)]
      refine ih _ (fun j p q => ?_)
      by_cases hj : j = c
      · rw [hj, zupd_self]
      · rw [zupd_ne _ _ hj]; exact hg j p (by omega)
  -- the search: all up to the row x are seen
  have loop : ∀ (t : Nat) g b lc, zpw (pm P) (pb P) - zN (pm P) (pb P) g ≤ t → zSol P g → zPu P g → zSol P b → zPu P b → lc = zCst P b → zN (pm P) (pb P) b ≤ zN (pm P) (pb P) g → (∀ y, zSol P y → zPu P y → zN (pm P) (pb P) y ≤ zN (pm P) (pb P) g → zCst P b < zCst P y ∨ (zCst P b = zCst P y ∧ zN (pm P) (pb P) b ≤ zN (pm P) (pb P) y)) → zl_X8_least_81 E X F S o (pb P) lc (zarr (zarr V5 (o + 9) g) (o + 10) b) := by
    intro t
    induction t with
    | zero =>
      intro g b lc ht sg pg sb pb' hlc hbg hall
      have := zN_le (show 0 < pm P by omega) (pb P) o4.1 pg.bd
      omega
    | succ t ih =>
      intro g b lc ht sg pg sb pb' hlc hbg hall
      refine wp_X8_least_81 ⟨M.ko, s8_follows (Mgb g b) (Rgb g b) (by rw [e9]; exact pg.bd) (fun no => ⟨fun _ => fin g b lc ⟨sb, pb', fun y sy py => ?_⟩ hlc, fun q => absurd rfl q⟩) (fun g' gb' nx => ⟨fun q => absurd q (by decide), fun _ => ?_⟩)⟩
      · rw [pgb, e9] at no
        exact hall y sy py (zNxNo.last (by omega) o4.1 pg.bd py.bd r3.1 no (solb y g sy sg))
      · rw [pgb, e9] at nx
        have nq : zQu P (fun j => g' j - g j) := by
          obtain ⟨k, hk, c0, c3, _⟩ := nx
          exact c3
        have sg' : zSol P g' := (sg.add nq).cg (fun j _ _ => by rw [show g' j - (g j + (g' j - g j)) = 0 by omega]; exact Int.dvd_zero _)
        have pg' : zPu P g' := zPu.of gb' sg'.2
        have lt := zNx.lt (show 0 < pm P by omega) pg.bd gb' r3.1 nx
        have eh : zarr (zarr (zarr V5 (o + 9) g) (o + 10) b) (o + 9) g' = zarr (zarr V5 (o + 9) g') (o + 10) b := by
          rw [zarr_comm _ b g' (by omega), zarr_zarr]
        have old : ∀ y, zSol P y → zPu P y → zN (pm P) (pb P) y ≤ zN (pm P) (pb P) g' → zN (pm P) (pb P) y ≤ zN (pm P) (pb P) g ∨ (zCst P y = zCst P g' ∧ zN (pm P) (pb P) y = zN (pm P) (pb P) g') := fun y sy py hy => by
          rcases Int.lt_or_le (zN (pm P) (pb P) g) (zN (pm P) (pb P) y) with q | q
          · have := zNx.gap hL (by omega) o4.1 pg.bd gb' py.bd r3.1 nx (solb y g sy sg) q
            have e : zN (pm P) (pb P) y = zN (pm P) (pb P) g' := by omega
            exact Or.inr ⟨zCst_congr (zN_inj (by omega) o4.1 py.bd gb' e), e⟩
          · exact Or.inl q
        rw [eh]
        refine s8_costOf (Mgb g' b) (by rw [e9]; exact gb') ?_
        rw [e9]
        refine ⟨fun z => ih g' b lc (by omega) sg' pg' sb pb' hlc (by omega) (fun y sy py hy => ?_), fun z => ?_⟩
        · rcases old y sy py hy with q | q
          · exact hall y sy py q
          · rw [hlc] at z; omega
        · rw [(Mgb g' b).f20]
          refine s8_keepsRow (Mgb g' b) (Or.inl rfl) o4 (fun b' hb' => ?_)
          rw [e9] at hb'
          rw [zarr_zarr]
          have eb : zarr (zarr V5 (o + 9) g') (o + 10) b' = zarr (zarr V5 (o + 9) g') (o + 10) b' := rfl
          have sb' : zSol P b' := sg'.cg (fun j x y => by rw [hb' j x y, Int.sub_self]; exact Int.dvd_zero _)
          have pb'' : zPu P b' := fun k x y => by rw [hb' k x y]; exact pg' k x y
          have cb' : zCst P b' = zCst P g' := zCst_congr hb'
          have nb' : zN (pm P) (pb P) b' = zN (pm P) (pb P) g' := zN_congr hb'
          refine ih g' b' _ (by omega) sg' pg' sb' pb'' cb'.symm (by omega) (fun y sy py hy => ?_)
          rcases old y sy py hy with q | q
          · have := hall y sy py q
            rw [hlc] at z; omega
          · omega
  -- the first row
  have fill := zdown (Q := fun c => ∀ g, (∀ j, 0 ≤ j → j < c → g j = zRw (V3 (o + 5)) (pb P) j) → zl_X8_least_39 E X F S o (pb P) c (zarr V5 (o + 9) g)) (N := pb P) (fun g hg => ?_) (fun c x y ih g hg => ?_) 0 (by omega) (by omega)
  · have := fill (V5 (o + 9)) (fun j _ _ => by omega)
    rw [zarr_id] at this; exact this
  · have Mg := (f15.arr g (a := o + 9) ⟨by omega, by omega⟩).mo M
    have gb : ∀ k, 0 ≤ k → k < pb P → 0 ≤ g k ∧ g k < pm P := fun k a b => by rw [hg k a b]; exact yb k a b
    have sg : zSol P g := can.1.cg (fun j x y => by rw [hg j x y, Int.sub_self]; exact Int.dvd_zero _)
    have pg : zPu P g := zPu.of gb sg.2
    refine wp_X8_least_39 ⟨fun _ => ⟨M.ko, s8_costOf Mg (by rw [zarr_self]; exact gb) ?_⟩, fun q => by omega⟩
    rw [Mg.f20, zarr_self]
    refine s8_keepsRow Mg (Or.inl rfl) o4 (fun b hb => ?_)
    rw [zarr_self] at hb
    have sb : zSol P b := sg.cg (fun j x y => by rw [hb j x y, Int.sub_self]; exact Int.dvd_zero _)
    have pb' : zPu P b := fun k x y => by rw [hb k x y]; exact pg k x y
    have cb : zCst P b = zCst P g := zCst_congr hb
    have nb : zN (pm P) (pb P) b = zN (pm P) (pb P) g := zN_congr hb
    refine loop (zpw (pm P) (pb P) - zN (pm P) (pb P) g).toNat g b _ (by omega) sg pg sb pb' cb.symm (by omega) (fun y sy py hy => ?_)
    have f1 := zfirst (show 0 < pm P by omega) o4.1 r3.1 (fun k a b => by rw [hg k a b]; exact can.2 k a b) py.bd (solb g y sg sy)
    have e : zN (pm P) (pb P) y = zN (pm P) (pb P) g := by omega
    have := zCst_congr (zN_inj (by omega) o4.1 py.bd gb e)
    omega
  · have Mg := (f15.arr g (a := o + 9) ⟨by omega, by omega⟩).mo M
    refine wp_X8_least_39 ⟨fun q => by omega, fun _ => ?_⟩
    rw [Mg.f9, Mg.f16, M.t5, M.t9, zarr_ne V5 g (show o + 5 ≠ o + 9 by omega), r5 _ (by omega)]
    refine ⟨M.ko, ⟨by omega, by omega⟩, ⟨by omega, by omega⟩, rfl, ⟨by omega, by show 37 * pb P + c < 1369; omega⟩, rfl, ⟨x, by show c < 36; omega⟩, fun V15 e15 => ⟨⟨by omega, by omega⟩, ?_⟩⟩
    rw [e15, zput_zarr V5 (g := zupd g c (V3 (o + 5) (37 * pb P + c))) (fun j => rfl)]
    refine ih _ (fun j p q => ?_)
    by_cases hj : j = c
    · rw [hj, zupd_self]; rfl
    · rw [zupd_ne _ _ hj]; exact hg j p (by omega)
end MDLEAST
