/-! THE CLASS: its calls that ask no Solver -/
/-- the reference's cells stay as they are -/
def zFrm (V V' : zH) (x : Int) : Prop := ∀ q, x + 18 ≤ q → q ≤ x + 31 → V' q = V q
theorem zFrm.refl (V : zH) (x : Int) : zFrm V V x := fun _ _ _ => rfl
def zAct (s : zSig) (P' : zP) : zSig := (P', gB s, ((if gn s < 60 then gn s + 1 else 60), zHpush (gP s) (gH s)), gK s, zStop (gT s), (gl s, gL s))
section CLOPS
variable {E : zE} {S : zS} {V : zH} {x w : Int} {s : zSig}
theorem zCl.xa (H : zCl S V x s w) : zXA S V x := H.1
theorem zCl.kx (H : zCl S V x s w) : (S x).1 = 10 := by rw [H.1.1]
theorem zCl.v0 (H : zCl S V x s w) : V x 0 = x + 1 := H.1.2.1
theorem zCl.v1 (H : zCl S V x s w) : V x 1 = x + 9 := H.1.2.2.1
theorem zCl.v2 (H : zCl S V x s w) : V x 2 = x + 11 := H.1.2.2.2.1
theorem zCl.v3 (H : zCl S V x s w) : V x 3 = x + 15 := H.1.2.2.2.2
theorem zCl.v4 (H : zCl S V x s w) : V x 4 = x + 17 := H.2.2.2.2.2.1.1.2
theorem zCl.pl (H : zCl S V x s w) : zPl S V (x + 1) (gP s) := H.2.1
theorem zCl.bd (H : zCl S V x s w) : zBd S V (x + 9) (gB s) := H.2.2.1
theorem zCl.hi (H : zCl S V x s w) : zHi S V (x + 11) (gP s) (gn s) (gH s) := H.2.2.2.1
theorem zCl.to (H : zCl S V x s w) : zTo S V (x + 15) (gT s) := H.2.2.2.2.1
theorem zCl.li (H : zCl S V x s w) : zLi S V x (x + 17) (gl s) (gL s) := H.2.2.2.2.2.1
theorem zCl.tp (H : zCl S V x s w) : zTP (gT s) (gP s) := H.2.2.2.2.2.2.1
theorem zCl.wi (H : zCl S V x s w) : 0 < x ∧ 0 ≤ V (x + 1) 4 ∧ V (x + 1) 4 ≤ w ∧ (0 < V x 6 → 0 ≤ V (V x 6) 4 ∧ V (V x 6) 4 ≤ w) := H.2.2.2.2.2.2.2.1
theorem zCl.ke (H : zCl S V x s w) : zKe S V (x + 32) (V x 6) (gK s) := H.2.2.2.2.2.2.2.2.1
theorem zCl.sv (H : zCl S V x s w) : V x 7 = 0 ∨ zSo S V (x + 1) (x + 32) (V x 7) (V x 6) (gP s) := H.2.2.2.2.2.2.2.2.2
theorem zCl.p (H : zCl S V x s w) : (S (x + 1)).1 = 6 := H.pl.kp
theorem zCl.b (H : zCl S V x s w) : (S (x + 9)).1 = 3 := H.bd.kb
theorem zCl.h (H : zCl S V x s w) : (S (x + 11)).1 = 5 := by rw [H.hi.1.1.1]
theorem zCl.t (H : zCl S V x s w) : (S (x + 15)).1 = 9 := by rw [H.to.1.1]
theorem zKe.congr {V' : zH} {lo kb : Int} {K : Option zP} (H : zKe S V lo kb K) (h : ∀ q, lo ≤ q → V' q = V q) : zKe S V' lo kb K := by
  cases K with
  | none => exact H
  | some Q => exact ⟨H.1, H.2.congr (fun q a b => h q (by have := H.1.2; omega))⟩
theorem zKe.pos {lo kb : Int} {K : Option zP} (H : zKe S V lo kb K) : kb = 0 ∨ (0 < kb ∧ lo ≤ kb) := by
  cases K with
  | none => exact Or.inl H
  | some Q => exact Or.inr H.1
/-- only the class's first eighteen cells have changed: what is left to show -/
theorem zCl.near {V' : zH} {s' : zSig} (H : zCl S V x s w) (hx : ∀ j, j ≠ 5 → V' x j = V x j) (hP : zPl S V' (x + 1) (gP s')) (hB : zBd S V' (x + 9) (gB s')) (hH : zHi S V' (x + 11) (gP s') (gn s') (gH s')) (hT : zTo S V' (x + 15) (gT s')) (hL : zLi S V' x (x + 17) (gl s') (gL s')) (hTP : zTP (gT s') (gP s')) (hK : gK s' = gK s) (hW : zWst V V' (x + 1) (gP s) (gP s')) (hf : ∀ q, x + 18 ≤ q → V' q = V q) : zCl S V' x s' (w + 1) := by
  obtain ⟨q1, q2, q3, q4⟩ := H.wi
  have w1 : V' (x + 1) 4 = V (x + 1) 4 ∨ V' (x + 1) 4 = V (x + 1) 4 + 1 := by rcases hW with ⟨z, -⟩ | z <;> omega
  refine ⟨⟨H.xa.1, by rw [hx 0 (by decide)]; exact H.v0, by rw [hx 1 (by decide)]; exact H.v1, by rw [hx 2 (by decide)]; exact H.v2, by rw [hx 3 (by decide)]; exact H.v3⟩, hP, hB, hH, hT, hL, hTP, ⟨q1, by omega, by omega, fun z => ?_⟩, ?_, ?_⟩
  · rw [hx 6 (by decide)] at z ⊢
    have hk : x + 32 ≤ V x 6 := by rcases H.ke.pos with y | y <;> omega
    rw [hf _ (by omega)]
    have := q4 z; omega
  · rw [hx 6 (by decide), hK]
    exact H.ke.congr (fun q hq => hf q (by omega))
  · rw [hx 6 (by decide), hx 7 (by decide)]
    rcases H.sv with z | z
    · exact Or.inl z
    · exact Or.inr (z.congr (fun q hq _ => hf q (by omega)) hW)
theorem zCl.weak {w' : Int} (H : zCl S V x s w) (h : w ≤ w') : zCl S V x s w' := by
  obtain ⟨h1, h2, h3, h4, h5, h6, h7, ⟨q1, q2, q3, q4⟩, h9⟩ := H
  exact ⟨h1, h2, h3, h4, h5, h6, h7, ⟨q1, q2, by omega, fun z => by have := q4 z; omega⟩, h9⟩
theorem zLi.congr {V' : zH} {ls n : Int} {f : Int → Int} (H : zLi S V x ls n f) (h0 : V' x = V x) (h1 : V' ls = V ls) : zLi S V' x ls n f := by
  unfold zLi at *
  rw [h0, h1]; exact H
theorem sp_begin (H : zCl S V x s w) {a k : Int} {F : zH → Prop} (ha : 0 ≤ a ∧ a ≤ 3) (hk : a = 1 ∨ a = 2 → 0 ≤ k ∧ k < pb (gP s))
    (h : ∀ V', (∀ q, q < x + 11 ∨ x + 15 < q → V' q = V q) → zTo S V' (x + 15) (zStop (gT s)) → (∀ P', zDlN a k (gP s) P' → zHi S V' (x + 11) P' (if gn s < 60 then gn s + 1 else 60) (zHpush (gP s) (gH s))) → F V') : SpV E 2 zm_X7_beginAct [zrv x, ziv a, ziv k] S V F := by
  refine en_X7_beginAct (fun _ _ => ?_)
  simp only [H.kx, H.v0, H.v2, H.h, true_and]
  refine sp_note H.pl H.hi (by omega) ha hk (fun V1 o1 n1 => ?_)
  have e0 : V1 x = V x := o1 x (by omega)
  rw [e0, H.v3]
  refine ⟨H.t, fun V2 e2 => h V2 (fun q hq => ?_) ?_ (fun P' hP' => (n1 P' hP').congr (fun q _ _ => ?_))⟩
  · rw [e2, zput_row _ _ _ (by omega), o1 q (by omega)]
  · rw [e2]
    exact (H.to.congr (fun q _ _ => o1 q (by omega))).stop
  · rw [e2, zput_row _ _ _ (by omega)]
/-- an act is done: V1 behind beginAct, V2 behind the change of the plate -/
theorem zCl.act (H : zCl S V x s w) {V1 V2 : zH} {P' : zP} {a k : Int} (f1 : ∀ q, q < x + 11 ∨ x + 15 < q → V1 q = V q) (hT : zTo S V1 (x + 15) (zStop (gT s))) (hH : ∀ P', zDlN a k (gP s) P' → zHi S V1 (x + 11) P' (if gn s < 60 then gn s + 1 else 60) (zHpush (gP s) (gH s))) (hN : zDlN a k (gP s) P') (hP : zPl S V2 (x + 1) P') (hW : zWst V1 V2 (x + 1) (gP s) P') (o2 : zOff V1 V2 (x + 1) (x + 8)) : zCl S V2 x (zAct s P') (w + 1) := by
  have e0 : V2 x = V x := by rw [o2 x (by omega), f1 x (by omega)]
  refine H.near (s' := zAct s P') (fun j _ => by rw [e0]) hP (H.bd.congr (fun q _ _ => ?_)) ((hH P' hN).congr (fun q _ _ => o2 q (by omega))) (hT.congr (fun q _ _ => o2 q (by omega))) (H.li.congr e0 ?_) (zTP.of0 rfl) rfl ?_ (fun q hq => ?_)
  · rw [o2 q (by omega), f1 q (by omega)]
  · rw [o2 _ (by omega), f1 _ (by omega)]
  · unfold zWst at *
    rw [f1 (x + 1) (by omega)] at hW
    exact hW
  · rw [o2 q (by omega), f1 q (by omega)]
theorem cl_cost (H : zCl S V x s w) {k v : Int} {F : Int → zH → Prop} (h1 : (0 ≤ k ∧ k < pb (gP s)) ∧ (0 ≤ v ∧ v ≤ 1000) → ∀ V', zCl S V' x (zAct s (zPrice (gP s) k v)) (w + 1) → zFrm V V' x → F (pco (gP s) k) V') (h0 : ¬ ((0 ≤ k ∧ k < pb (gP s)) ∧ (0 ≤ v ∧ v ≤ 1000)) → F (-1) V) : SpI E 3 zm_X7_cost [zrv x, ziv k, ziv v] S V F := by
  have o4 := H.pl.ok.2.2.2.1
  refine en_X7_cost (fun _ _ => ?_)
  simp only [H.kx, H.v0, H.p, true_and]
  refine sp_hasButton H.pl ⟨fun z => h0 ?_, fun z => ⟨fun z1 => h0 (by omega), fun z1 => ⟨fun z2 => ?_, fun z2 => h0 (by omega)⟩⟩⟩
  · intro q; rw [if_pos q.1] at z; omega
  · have hk : 0 ≤ k ∧ k < pb (gP s) := Classical.byContradiction fun q => by rw [if_neg q] at z; omega
    refine sp_begin H (by omega) (fun _ => hk) (fun V1 f1 t1 n1 => ?_)
    have P1 : zPl S V1 (x + 1) (gP s) := H.pl.congr (fun q _ _ => f1 q (by omega))
    rw [f1 x (by omega), H.v0, P1.v10, P1.s6]
    refine ⟨H.p, rfl, ⟨hk.1, by show k < 36; omega⟩, fun x13 e13 V2 e2 => ?_⟩
    have ex : x13 = pco (gP s) k := by rw [e13]; exact (P1.bt hk).2.2.2.1
    rw [ex]
    have o2 : zOff V1 V2 (x + 1) (x + 8) := fun q hq => by rw [e2, zput_row _ _ _ (by omega)]
    refine h1 ⟨hk, z1, z2⟩ V2 (H.act f1 t1 n1 (Or.inr (Or.inr (Or.inl ⟨rfl, hk, v, rfl⟩))) ⟨P1.1.off (by rw [e2, zput_row _ _ _ (by omega)]), by rw [e2]; exact P1.2.1.priced, ?_⟩ (Or.inl ⟨by rw [e2, zput_row _ _ _ (by omega)], rfl, rfl, rfl, fun _ _ _ => rfl, fun _ _ _ _ _ _ => rfl⟩) o2) (fun q _ _ => by rw [o2 q (by omega), f1 q (by omega)])
    obtain ⟨k1, k2, k3, k4, k5, k6⟩ := P1.ok
    refine ⟨k1, k2, k3, k4, k5, fun j a b => ?_⟩
    obtain ⟨c1, c2, c3, c4, c5, c6, c7⟩ := k6 j a b
    refine ⟨c1, c2, c3, c4, c5, ?_, c7⟩
    show 0 ≤ zupd (pco (gP s)) k v j ∧ zupd (pco (gP s)) k v j ≤ 1000
    by_cases hj : j = k
    · rw [hj, zupd_self]; omega
    · rw [zupd_ne _ _ hj]; exact c6
theorem zSteq.sh (P : zP) (f : Int → Int) : zSteq P (zSetSh P f) := ⟨rfl, rfl, rfl, fun _ _ _ => rfl, fun _ _ _ _ _ _ => rfl⟩
theorem cl_light (H : zCl S V x s w) {i v : Int} {F : Int → zH → Prop} (h1 : (0 ≤ i ∧ i < pn (gP s)) ∧ (0 ≤ v ∧ v < pm (gP s)) → ∀ V', zCl S V' x (zAct s (zSetSh (gP s) (zupd (psh (gP s)) i v))) (w + 1) → zFrm V V' x → F (psh (gP s) i) V') (h0 : ¬ ((0 ≤ i ∧ i < pn (gP s)) ∧ (0 ≤ v ∧ v < pm (gP s))) → F (-1) V) : SpI E 3 zm_X7_light [zrv x, ziv i, ziv v] S V F := by
  have o1 := H.pl.ok.1
  refine en_X7_light (fun _ _ => ?_)
  simp only [H.kx, H.v0, H.p, H.pl.m, true_and]
  refine sp_hasLamp H.pl ⟨fun z => h0 ?_, fun z => ⟨fun z1 => h0 (by omega), fun z1 => ⟨fun z2 => ?_, fun z2 => h0 (by omega)⟩⟩⟩
  · intro q; rw [if_pos q.1] at z; omega
  · have hi : 0 ≤ i ∧ i < pn (gP s) := Classical.byContradiction fun q => by rw [if_neg q] at z; omega
    refine sp_begin H (by omega) (by omega) (fun V1 f1 t1 n1 => ?_)
    have P1 : zPl S V1 (x + 1) (gP s) := H.pl.congr (fun q _ _ => f1 q (by omega))
    rw [f1 x (by omega), H.v0, P1.v5, P1.s1]
    refine ⟨H.p, rfl, ⟨hi.1, by show i < 36; omega⟩, fun x13 e13 V2 e2 => ?_⟩
    have ex : x13 = psh (gP s) i := by rw [e13]; exact P1.sh hi
    rw [ex]
    rw [zput_arr V1 (g := zupd (V1 (x + 1 + 1)) i v) (fun j => rfl)] at e2
    have o2 : zOff V1 V2 (x + 1) (x + 8) := fun q hq => by rw [e2, zarr_ne _ _ (by omega)]
    refine h1 ⟨hi, z1, z2⟩ V2 (H.act f1 t1 n1 (Or.inl ⟨rfl, _, rfl⟩) ?_ (Or.inl ⟨by rw [e2, zarr_ne _ _ (by omega)], zSteq.sh _ _⟩) o2) (fun q _ _ => by rw [o2 q (by omega), f1 q (by omega)])
    rw [e2]
    refine P1.setSh (fun j a b => ?_) (fun j a b => ?_)
    · by_cases hj : j = i
      · rw [hj, zupd_self, zupd_self]
      · rw [zupd_ne _ _ hj, zupd_ne _ _ hj]; exact P1.sh ⟨a, b⟩
    · by_cases hj : j = i
      · rw [hj, zupd_self]; omega
      · rw [zupd_ne _ _ hj]; exact P1.ok.2.2.2.2.1 j a b
theorem cl_push (H : zCl S V x s w) {k t : Int} {F : Int → zH → Prop} (h1 : (0 ≤ k ∧ k < pb (gP s)) ∧ pkd (gP s) k ≠ 3 ∧ (0 ≤ t ∧ t ≤ 1000000) → ∀ V', zCl S V' x (zAct s (zSetSh (gP s) (zAdd (gP s) (fun i => t % pm (gP s) * zstp (gP s) k i)))) (w + 1) → zFrm V V' x → F (zChg (gP s) (fun i => t % pm (gP s) * zstp (gP s) k i)) V') (h0 : ¬ ((0 ≤ k ∧ k < pb (gP s)) ∧ pkd (gP s) k ≠ 3 ∧ (0 ≤ t ∧ t ≤ 1000000)) → F (-1) V) : SpI E 5 zm_X7_push [zrv x, ziv k, ziv t] S V F := by
  have o4 := H.pl.ok.2.2.2.1
  refine en_X7_push (fun _ _ => ?_)
  simp only [H.kx, H.v0, H.p, H.pl.v6, H.pl.s2, true_and]
  refine sp_hasButton H.pl ⟨fun z => h0 ?_, fun z => ?_⟩
  · intro q; rw [if_pos q.1] at z; omega
  · have hk : 0 ≤ k ∧ k < pb (gP s) := Classical.byContradiction fun q => by rw [if_neg q] at z; omega
    rw [(H.pl.bt hk).1]
    refine ⟨⟨hk.1, by omega⟩, fun z3 => h0 (fun q => q.2.1 z3), fun z3 => ⟨fun z1 => h0 (by omega), fun z1 => ⟨fun z2 => ?_, fun z2 => h0 (by omega)⟩⟩⟩
    refine sp_begin H (by omega) (by omega) (fun V1 f1 t1 n1 => ?_)
    have P1 : zPl S V1 (x + 1) (gP s) := H.pl.congr (fun q _ _ => f1 q (by omega))
    rw [f1 x (by omega), H.v0]
    refine ⟨H.p, sp_push P1 hk z1 (fun g hg => ?_)⟩
    have o2 : zOff V1 (zarr V1 (x + 1 + 1) g) (x + 1) (x + 8) := fun q hq => by rw [zarr_ne _ _ (by omega)]
    exact h1 ⟨hk, z3, z1, z2⟩ _ (H.act f1 t1 n1 (Or.inl ⟨rfl, _, rfl⟩) (P1.setSh hg (fun j a b => zAdd_le P1.ok _ j)) (Or.inl ⟨by rw [zarr_ne _ _ (by omega)], zSteq.sh _ _⟩) o2) (fun q _ _ => by rw [o2 q (by omega), f1 q (by omega)])
theorem cl_chase (H : zCl S V x s w) {F : Int → zH → Prop} (h1 : zChase (gP s) → ∀ V', zCl S V' x (zAct s (zSetSh (gP s) (zch (gP s) (pn (gP s))).2)) (w + 1) → zFrm V V' x → F (zch (gP s) (pn (gP s))).1 V') (h0 : ¬ zChase (gP s) → F (-1) V) : SpI E 6 zm_X7_chase [zrv x] S V F := by
  have o3 := H.pl.ok.2.2.1
  refine en_X7_chase ?_
  simp only [H.kx, H.v0, H.p, true_and]
  refine sp_allCrosses H.pl (fun c => ⟨fun _ => ?_, fun z => absurd z (by decide)⟩) (fun c => ⟨fun z => absurd rfl z, fun _ => h0 c⟩)
  refine sp_begin H (by omega) (by omega) (fun V1 f1 t1 n1 => ?_)
  have P1 : zPl S V1 (x + 1) (gP s) := H.pl.congr (fun q _ _ => f1 q (by omega))
  rw [f1 x (by omega), H.v0]
  refine ⟨H.p, sp_chase P1 c (fun g hg => ?_)⟩
  have o2 : zOff V1 (zarr V1 (x + 1 + 1) g) (x + 1) (x + 8) := fun q hq => by rw [zarr_ne _ _ (by omega)]
  exact h1 c _ (H.act f1 t1 n1 (Or.inl ⟨rfl, _, rfl⟩) (P1.setSh hg (zch_le P1.ok o3.2 (by omega)).2) (Or.inl ⟨by rw [zarr_ne _ _ (by omega)], zSteq.sh _ _⟩) o2) (fun q _ _ => by rw [o2 q (by omega), f1 q (by omega)])
theorem cl_button (H : zCl S V x s w) (hw : w ≤ 90000) {kind a b other : Int} {F : Int → zH → Prop} (h1 : pb (gP s) < 36 ∧ zTakes (gP s) kind a b other → ∀ V', zCl S V' x (zAct s (zAddB (gP s) kind a b other)) (w + 1) → zFrm V V' x → F (pb (gP s)) V') (h0 : ¬ (pb (gP s) < 36 ∧ zTakes (gP s) kind a b other) → F (-1) V) : SpI E 3 zm_X7_button [zrv x, ziv kind, ziv a, ziv b, ziv other] S V F := by
  have hw' := H.wi
  refine en_X7_button (fun _ _ _ _ => ?_)
  simp only [H.kx, H.v0, H.p, H.pl.b, true_and]
  refine ⟨fun z => h0 (fun q => by omega), fun z => sp_takesButton H.pl (fun c => ⟨fun _ => ?_, fun q => absurd q (by decide)⟩) (fun c => ⟨fun q => absurd rfl q, fun _ => h0 (fun q => c q.2)⟩)⟩
  refine sp_begin H (by omega) (by omega) (fun V1 f1 t1 n1 => ?_)
  have P1 : zPl S V1 (x + 1) (gP s) := H.pl.congr (fun q _ _ => f1 q (by omega))
  rw [f1 x (by omega), H.v0]
  refine ⟨H.p, sp_addButton P1 z c ?_ (fun V2 p2 w2 o2 => ?_)⟩
  · rw [f1 (x + 1) (by omega)]; omega
  · rw [show x + 1 + 7 = x + 8 by omega] at o2
    exact h1 ⟨z, c⟩ V2 (H.act f1 t1 n1 (Or.inr (Or.inr (Or.inr ⟨rfl, _, _, _, _, rfl⟩))) p2 (Or.inr w2) o2) (fun q _ _ => by rw [o2 q (by omega), f1 q (by omega)])
/-- the board is gone -/
def zGone : zB := (-1, 0, fun _ => 0)
def zSetB (s : zSig) (B : zB) : zSig := (gP s, B, s.2.2)
theorem zCl.board (H : zCl S V x s w) {V' : zH} {B : zB} (hB : zBd S V' (x + 9) B) (o : zOff V V' (x + 9) (x + 10)) : zCl S V' x (zSetB s B) (w + 1) := by
  have e0 : V' x = V x := o x (by omega)
  exact H.near (s' := zSetB s B) (fun j _ => by rw [e0]) (H.pl.congr (fun q _ _ => o q (by omega))) hB (H.hi.congr (fun q _ _ => o q (by omega))) (H.to.congr (fun q _ _ => o q (by omega))) (H.li.congr e0 (o _ (by omega))) H.tp rfl (Or.inl ⟨by rw [o (x + 1) (by omega)], zSteq.refl _⟩) (fun q hq => o q (by omega))
theorem cl_wire (H : zCl S V x s w) (hw : w ≤ 90000) {k : Int} {F : Int → zH → Prop} (h1 : (0 ≤ k ∧ k < pb (gP s)) ∧ pkd (gP s) k = 0 ∧ bk (gB s) ≠ -1 → ∀ V', zCl S V' x (zSetB (zAct s (zWire (gP s) k (zbst (gB s) (pm (gP s))))) zGone) (w + 2) → zFrm V V' x → F (zsum (fun i => if zbst (gB s) (pm (gP s)) i = 0 then 0 else 1) (pn (gP s))) V') (h0 : ¬ ((0 ≤ k ∧ k < pb (gP s)) ∧ pkd (gP s) k = 0 ∧ bk (gB s) ≠ -1) → F (-1) V) : SpI E 3 zm_X7_wire [zrv x, ziv k] S V F := by
  have o4 := H.pl.ok.2.2.2.1
  have hw' := H.wi
  refine en_X7_wire (fun _ => ?_)
  simp only [H.kx, H.v0, H.v1, H.p, H.b, H.pl.v6, H.pl.s2, H.bd.2.1.1, true_and]
  refine ⟨fun z => h0 (fun q => q.2.2 z), fun z => sp_hasButton H.pl ⟨fun z1 => h0 ?_, fun z1 => ?_⟩⟩
  · intro q; rw [if_pos q.1] at z1; omega
  · have hk : 0 ≤ k ∧ k < pb (gP s) := Classical.byContradiction fun q => by rw [if_neg q] at z1; omega
    rw [(H.pl.bt hk).1]
    refine ⟨⟨hk.1, by omega⟩, fun z3 => ?_, fun z3 => h0 (fun q => z3 q.2.1)⟩
    refine sp_begin H (by omega) (fun _ => hk) (fun V1 f1 t1 n1 => ?_)
    have P1 : zPl S V1 (x + 1) (gP s) := H.pl.congr (fun q _ _ => f1 q (by omega))
    have B1 : zBd S V1 (x + 9) (gB s) := H.bd.congr (fun q _ _ => f1 q (by omega))
    rw [f1 x (by omega), H.v0, H.v1]
    refine ⟨H.p, sp_wireTo P1 B1 (by omega) hk ?_ (fun V2 p2 w2 o2 => ?_)⟩
    · rw [f1 (x + 1) (by omega)]; omega
    · rw [show x + 1 + 7 = x + 8 by omega] at o2
      have C2 := H.act f1 t1 n1 (Or.inr (Or.inl ⟨rfl, hk, _, rfl⟩)) p2 (Or.inr w2) o2
      rw [o2 x (by omega), f1 x (by omega), H.v1]
      refine ⟨H.b, sp_lay C2.bd (by omega) (by omega) (fun _ => rfl) (fun V3 b3 o3 => ?_)⟩
      rw [show x + 9 + 1 = x + 10 by omega] at o3
      have C3 := C2.board b3 o3
      rw [show w + 1 + 1 = w + 2 by omega] at C3
      exact h1 ⟨hk, z3, z⟩ V3 C3 (fun q _ _ => by rw [o3 q (by omega), o2 q (by omega), f1 q (by omega)])
theorem cl_board (H : zCl S V x s w) {k n : Int} {F : Int → zH → Prop} (h1 : ((0 ≤ k ∧ k ≤ 3) ∧ (0 ≤ n ∧ n ≤ 80)) ∨ k = 4 → ∀ V', zCl S V' x (zSetB s (k, (if k = 4 then 0 else n), fun _ => 0)) (w + 1) → zFrm V V' x → F 1 V') (h0 : ¬ (((0 ≤ k ∧ k ≤ 3) ∧ (0 ≤ n ∧ n ≤ 80)) ∨ k = 4) → F 0 V) : SpI E 2 zm_X7_board [zrv x, ziv k, ziv n] S V F := by
  refine en_X7_board (fun _ _ => ?_)
  simp only [H.kx, H.v1, H.b, true_and]
  refine ⟨fun z => ⟨fun c => h0 (by omega), fun c => ⟨fun c2 => h0 (by omega), fun c2 => ⟨fun c3 => h0 (by omega), fun c3 => ⟨fun c4 => ?_, fun c4 => h0 (by omega)⟩⟩⟩⟩, fun z => ?_⟩
  · refine sp_lay H.bd (by omega) ⟨c3, c4⟩ (by omega) (fun V' b o => ?_)
    rw [show x + 9 + 1 = x + 10 by omega] at o
    have C := H.board b o
    have := h1 (Or.inl ⟨⟨c, c2⟩, c3, c4⟩) V'
    rw [if_neg z] at this
    exact this C (fun q _ _ => o q (by omega))
  · refine sp_lay H.bd (by omega) (by omega) (by omega) (fun V' b o => ?_)
    rw [show x + 9 + 1 = x + 10 by omega] at o
    have C := H.board b o
    have := h1 (Or.inr z) V'
    rw [if_pos z] at this
    exact this C (fun q _ _ => o q (by omega))
theorem cl_entry (H : zCl S V x s w) {i v : Int} {F : Int → zH → Prop} (h1 : 0 ≤ i ∧ i < bn (gB s) → ∀ V', zCl S V' x (zSetB s (zWrite (gB s) i v)) (w + 1) → zFrm V V' x → F 1 V') (h0 : ¬ (0 ≤ i ∧ i < bn (gB s)) → F 0 V) : SpI E 1 zm_X7_entry [zrv x, ziv i, zjv v] S V F := by
  refine en_X7_entry (fun _ _ => ?_)
  simp only [H.kx, H.v1, H.b, H.bd.2.1.2.1, true_and]
  refine ⟨fun z => h0 (by omega), fun z => ⟨fun c => sp_write H.bd ⟨z, c⟩ (fun V' b o => ?_), fun c => h0 (by omega)⟩⟩
  rw [show x + 9 + 1 = x + 10 by omega] at o
  exact h1 ⟨z, c⟩ V' (H.board b o) (fun q _ _ => o q (by omega))
end CLOPS
