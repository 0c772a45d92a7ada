/-! THE REFERENCE: a new plate, undo, keep, back, what it tells, apply, lists -/
section MDOPS4
variable {E : zE} {S : zS} {V : zH} {o : Int} {s : zSig}
theorem md_set (hA : zMA S V o) {n m wi : Int} (hn : n ≤ 36) {F : zH → Prop} (h : ∀ V', (∀ q, q ≠ o → q ≠ o + 1 → V' q = V q) → (∀ j, j ≠ 5 → j ≠ 19 → V' o j = V o j) → V' o 5 = 0 → V' o 19 = 0 → (∀ P, zMC V' (o + 1) 0 (zNewP n m wi P)) → F V') : SpV E 0 zm_X8_set [zrv o, ziv n, ziv m, ziv wi] S V F := by
  have ko : (S o).1 = 11 := by rw [hA.1.1]
  have t1 : S (o + 1) = (1, 1516) := hA.1.2.1
  have f0 : V o 0 = o + 1 := hA.2.1
  refine en_X8_set (fun _ _ _ X => ?_)
  have key := zdown (Q := fun i => ∀ g, (∀ j, 0 ≤ j → j < i → g j = 0) → zl_X8_set_3 E X F S o n m wi i (zarr V (o + 1) g)) (N := 1516) (fun g hg => ?_) (fun i a b ih g hg => ?_) 0 (by omega) (by omega)
  · have k := key (V (o + 1)) (fun j _ _ => by omega)
    rw [zarr_id] at k; exact k
  · have e0 : zarr V (o + 1) g o 0 = o + 1 := by rw [zarr_ne _ _ (by omega)]; exact f0
    refine wp_X8_set_3 ⟨fun _ => ?_, fun q => by omega⟩
    rw [e0, t1]
    refine ⟨ko, rfl, ⟨by omega, by show (0 : Int) < 1516; omega⟩, fun V5 e5 => ⟨⟨by omega, by show (1 : Int) < 1516; omega⟩, fun V8 e8 => ⟨⟨by omega, by show (2 : Int) < 1516; omega⟩, fun V11 e11 V13 e13 V15 e15 => ?_⟩⟩⟩
    have r1 : ∀ j, V15 (o + 1) j = if j = 2 then wi else if j = 1 then m else if j = 0 then n else g j := fun j => by
      rw [e15, zput_row _ _ _ (by omega), e13, zput_row _ _ _ (by omega), e11, e8, e5]; simp only [zput, true_and]; rw [zarr_self]
    have ro : ∀ j, V15 o j = if j = 19 then 0 else if j = 5 then 0 else V o j := fun j => by
      rw [e15, e13]; simp only [zput, true_and]
      rw [e11, zput_row _ _ _ (by omega), e8, zput_row _ _ _ (by omega), e5, zput_row _ _ _ (by omega), zarr_ne _ _ (by omega)]
    refine h V15 (fun q q1 q2 => by rw [e15, zput_row _ _ _ q1, e13, zput_row _ _ _ q1, e11, zput_row _ _ _ q2, e8, zput_row _ _ _ q2, e5, zput_row _ _ _ q2, zarr_ne _ _ q2]) (fun j j5 j19 => by rw [ro, if_neg j19, if_neg j5]) (by rw [ro]; rfl) (by rw [ro]; rfl) (fun P => ⟨by rw [r1]; rfl, by rw [r1]; rfl, by rw [r1]; rfl, ?_, fun i a b => ?_, fun k a b => absurd b (by show ¬ k < 0; omega)⟩)
    · rw [r1]; simp (disch := omega) only [if_neg]; rw [hg _ (by omega) (by omega)]; rfl
    · have b' : i < n := b
      rw [r1]; simp (disch := omega) only [if_neg]; rw [hg _ (by omega) (by omega)]; rfl
  · have e0 : zarr V (o + 1) g o 0 = o + 1 := by rw [zarr_ne _ _ (by omega)]; exact f0
    refine wp_X8_set_3 ⟨fun q => by omega, fun _ => ?_⟩
    rw [e0, t1]
    refine ⟨ko, rfl, ⟨a, b⟩, fun V20 e20 => ⟨⟨by omega, by omega⟩, ?_⟩⟩
    rw [e20, zput_zarr V (g := zupd g i 0) (fun j => rfl)]
    refine ih _ (fun j ja jb => ?_)
    by_cases hj : j = i
    · rw [hj, zupd_self]
    · rw [zupd_ne _ _ hj]; exact hg j ja (by omega)
/-- the plate is another, and no act can be undone -/
theorem zMd.fresh (H : zMd S V o s) {V' : zH} {Q : zP} (f : ∀ q, q ≠ o → q ≠ o + 1 → V' q = V q) (g : ∀ j, j ≠ 5 → j ≠ 19 → V' o j = V o j) (h5 : V' o 5 = 0) (h19 : V' o 19 = 0) (C : zMC V' (o + 1) 0 Q) (ok : zPok Q) : zMd S V' o (zFresh s Q) := by
  refine ⟨⟨H.mo.1.frame (fun j hj => g j (by omega) (by omega)), C, ok⟩, H.b.congr (g 6 (by decide) (by decide)) (g 7 (by decide) (by decide)) (f _ (by omega) (by omega)), ⟨h5, ⟨Int.le_refl 0, by show (0 : Int) ≤ 60; omega⟩, by rw [g 4 (by decide) (by decide)]; exact H.h.2.2.1, fun j a b => absurd b (by show ¬ j < 0; omega)⟩, H.k.congr (g 2 (by decide) (by decide)) (f _ (by omega) (by omega)), H.t.stop (g 17 (by decide) (by decide)) (g 18 (by decide) (by decide)) h19 (f _ (by omega) (by omega)), H.l.congr (g 24 (by decide) (by decide)) (f _ (by omega) (by omega)), zTP.of0 rfl⟩
theorem md_plate (H : zMd S V o s) {n m wi : Int} {F : Int → zH → Prop} (h1 : (1 ≤ n ∧ n ≤ 36) ∧ (2 ≤ m ∧ m ≤ 12) ∧ (1 ≤ wi ∧ wi ≤ n) → ∀ V', zMd S V' o (zFresh s (zNewP n m wi (gP s))) → zFro V V' o → F 1 V') (h0 : ¬ ((1 ≤ n ∧ n ≤ 36) ∧ (2 ≤ m ∧ m ≤ 12) ∧ (1 ≤ wi ∧ wi ≤ n)) → F 0 V) : SpI E 1 zm_X8_plate [zrv o, ziv n, ziv m, ziv wi] S V F := by
  refine en_X8_plate (fun _ _ _ => s8_in (fun c1 => ⟨fun q => absurd q (by decide), fun _ => s8_in (fun c2 => ⟨fun q => absurd q (by decide), fun _ => s8_in (fun c3 => ⟨fun _ => ⟨H.mo.ko, md_set H.mo.1 c1.2 (fun V' f g h5 h19 C => h1 ⟨c1, c2, c3⟩ V' (H.fresh f g h5 h19 (C _) (zNewP_ok _ c1 c2 c3)) (fun q hq => f q (by omega) (by omega)))⟩, fun q => absurd q (by decide)⟩) (fun c3 => ⟨fun q => absurd rfl q, fun _ => h0 (fun q => c3 q.2.2)⟩)⟩) (fun c2 => ⟨fun _ => h0 (fun q => c2 q.2.1), fun q => absurd rfl q⟩)⟩) (fun c1 => ⟨fun _ => h0 (fun q => c1 q.1), fun q => absurd rfl q⟩))
theorem md_undo (H : zMd S V o s) {F : Int → zH → Prop} (h1 : 0 < gn s → ∀ V', zMd S V' o (gH s 0, gB s, (gn s - 1, fun j => gH s (j + 1)), gK s, zStop (gT s), (gl s, gL s)) → zFro V V' o → F (gn s - 1) V') (h0 : gn s = 0 → F (-1) V) : SpI E 0 zm_X8_undo [zrv o] S V F := by
  have M := H.mo
  obtain ⟨h5, hn, h4, hj⟩ := H.h
  refine en_X8_undo (fun X => ?_)
  rw [h5]
  refine ⟨M.ko, fun z => ?_, h0⟩
  have key := zdown (Q := fun i => ∀ g, (∀ j, 0 ≤ j → j < i → g j = V (o + 3) (V o 4 * 1516 + j)) → zl_X8_undo_11 E X F S o i (zarr V (o + 1) g)) (N := 1516) (fun g hg => ?_) (fun i a b ih g hg => ?_) 0 (by omega) (by omega)
  · have k := key (V (o + 1)) (fun j _ _ => by omega)
    rw [zarr_id] at k; exact k
  · have eo : zarr V (o + 1) g o = V o := zarr_ne _ _ (by omega)
    refine wp_X8_undo_11 ⟨fun _ => ?_, fun q => by omega⟩
    rw [eo, h5]
    refine ⟨M.ko, ⟨by omega, by omega⟩, ⟨by omega, by omega⟩, by omega, fun V6 e6 => ⟨⟨by omega, by omega⟩, fun V9 e9 V11 e11 => ?_⟩⟩
    have ro : ∀ j, V11 o j = if j = 19 then 0 else if j = 5 then gn s - 1 else if j = 4 then (V o 4 + 60 - 1) % 60 else V o j := fun j => by
      rw [e11, e9, e6]; simp only [zput, true_and]; rw [eo]
    have r : ∀ q, q ≠ o → V11 q = zarr V (o + 1) g q := fun q hq => by rw [e11, zput_row _ _ _ hq, e9, zput_row _ _ _ hq, e6, zput_row _ _ _ hq]
    have r' : ∀ q, q ≠ o → q ≠ o + 1 → V11 q = V q := fun q q1 q2 => by rw [r q q1, zarr_ne _ _ q2]
    obtain ⟨c0, k0⟩ := hj 0 (by omega) (by omega)
    rw [show (V o 4 + 60 - 0) % 60 = V o 4 by omega] at c0
    refine h1 (by omega) V11 ⟨⟨M.1.frame (fun j hj => by rw [ro, if_neg (by omega), if_neg (by omega), if_neg (by omega)]), c0.copy k0 (fun j x y => ?_), k0⟩, H.b.congr (by rw [ro]; rfl) (by rw [ro]; rfl) (r' _ (by omega) (by omega)), ⟨by rw [ro]; rfl, ⟨by show 0 ≤ gn s - 1; omega, by show gn s - 1 ≤ 60; omega⟩, by rw [ro, if_neg (by decide), if_neg (by decide), if_pos rfl]; omega, fun j a b => ?_⟩, H.k.congr (by rw [ro]; rfl) (r' _ (by omega) (by omega)), H.t.stop (by rw [ro]; rfl) (by rw [ro]; rfl) (by rw [ro]; rfl) (r' _ (by omega) (by omega)), H.l.congr (by rw [ro]; rfl) (r' _ (by omega) (by omega)), zTP.of0 rfl⟩ (fun q hq => r' q (by omega) (by omega))
    · rw [r _ (by omega), zarr_self, Int.zero_add]; exact hg j x y
    · have b' : j < gn s - 1 := b
      obtain ⟨q1, q2⟩ := hj (j + 1) (by omega) (by omega)
      rw [ro, if_neg (by decide), if_neg (by decide), if_pos rfl, show ((V o 4 + 60 - 1) % 60 + 60 - j) % 60 = (V o 4 + 60 - (j + 1)) % 60 by omega]
      exact ⟨q1.row (r' _ (by omega) (by omega)), q2⟩
  · have eo : zarr V (o + 1) g o = V o := zarr_ne _ _ (by omega)
    have e3 : zarr V (o + 1) g (o + 3) = V (o + 3) := zarr_ne _ _ (by omega)
    refine wp_X8_undo_11 ⟨fun q => by omega, fun _ => ?_⟩
    rw [eo, M.f0, M.f3, M.t1, M.t3, e3]
    refine ⟨M.ko, ⟨by omega, by omega⟩, ⟨by omega, by omega⟩, rfl, ⟨by omega, by show V o 4 * 1516 + i < 90960; omega⟩, rfl, ⟨a, b⟩, fun V20 e20 => ⟨⟨by omega, by omega⟩, ?_⟩⟩
    rw [e20, zput_zarr V (g := zupd g i (V (o + 3) (V o 4 * 1516 + i))) (fun j => rfl)]
    refine ih _ (fun j ja jb => ?_)
    by_cases hj : j = i
    · rw [hj, zupd_self]
    · rw [zupd_ne _ _ hj]; exact hg j ja (by omega)
theorem md_keep (H : zMd S V o s) {F : Int → zH → Prop} (h : ∀ V', zMd S V' o (zKeep s) → zFro V V' o → F 1 V') : SpI E 0 zm_X8_keep [zrv o] S V F := by
  have M := H.mo
  refine en_X8_keep (fun X => ?_)
  have key := zdown (Q := fun i => ∀ g, (∀ j, 0 ≤ j → j < i → g j = V (o + 1) j) → zl_X8_keep_2 E X F S o i (zarr V (o + 2) g)) (N := 1516) (fun g hg => ?_) (fun i a b ih g hg => ?_) 0 (by omega) (by omega)
  · have k := key (V (o + 2)) (fun j _ _ => by omega)
    rw [zarr_id] at k; exact k
  · have eo : zarr V (o + 2) g o = V o := zarr_ne _ _ (by omega)
    refine wp_X8_keep_2 ⟨fun _ => ⟨M.ko, fun V3 e3 => ?_⟩, fun q => by omega⟩
    have ro : ∀ j, V3 o j = if j = 2 then 1 else V o j := fun j => by rw [e3]; simp only [zput, true_and]; rw [eo]
    have r : ∀ q, q ≠ o → V3 q = zarr V (o + 2) g q := fun q hq => by rw [e3, zput_row _ _ _ hq]
    have r' : ∀ q, q ≠ o → q ≠ o + 2 → V3 q = V q := fun q q1 q2 => by rw [r q q1, zarr_ne _ _ q2]
    refine h V3 ⟨M.frame (fun j hj => by rw [ro, if_neg (by omega)]) (r' _ (by omega) (by omega)), H.b.congr (by rw [ro]; rfl) (by rw [ro]; rfl) (r' _ (by omega) (by omega)), H.h.congr (by rw [ro]; rfl) (by rw [ro]; rfl) (r' _ (by omega) (by omega)), ⟨by rw [ro]; rfl, M.2.1.copy M.ok (fun j x y => ?_), M.ok⟩, H.t.congr (by rw [ro]; rfl) (by rw [ro]; rfl) (by rw [ro]; rfl) (r' _ (by omega) (by omega)), H.l.congr (by rw [ro]; rfl) (r' _ (by omega) (by omega)), H.tp⟩ (fun q hq => r' q (by omega) (by omega))
    rw [r _ (by omega), zarr_self, Int.zero_add]; exact hg j x y
  · have eo : zarr V (o + 2) g o = V o := zarr_ne _ _ (by omega)
    have e1 : zarr V (o + 2) g (o + 1) = V (o + 1) := zarr_ne _ _ (by omega)
    refine wp_X8_keep_2 ⟨fun q => by omega, fun _ => ?_⟩
    rw [eo, M.f0, M.f1, M.t1, M.t2, e1]
    refine ⟨M.ko, rfl, ⟨a, b⟩, rfl, ⟨a, b⟩, fun V20 e20 => ⟨⟨by omega, by omega⟩, ?_⟩⟩
    rw [e20, zput_zarr V (g := zupd g i (V (o + 1) i)) (fun j => rfl)]
    refine ih _ (fun j ja jb => ?_)
    by_cases hj : j = i
    · rw [hj, zupd_self]
    · rw [zupd_ne _ _ hj]; exact hg j ja (by omega)
theorem md_back (H : zMd S V o s) {F : Int → zH → Prop} (h1 : ∀ Q, gK s = some Q → ∀ V', zMd S V' o (zFresh s Q) → zFro V V' o → F 1 V') (h0 : gK s = none → F 0 V) : SpI E 0 zm_X8_back [zrv o] S V F := by
  have M := H.mo
  have hk := H.k
  refine en_X8_back (fun X => ⟨M.ko, fun z => ?_, fun z => ?_⟩)
  · cases hK : gK s with
    | none => rw [hK] at hk; exact absurd hk z
    | some Q =>
      rw [hK] at hk
      obtain ⟨k1, k2, k3⟩ := hk
      have key := zdown (Q := fun i => ∀ g, (∀ j, 0 ≤ j → j < i → g j = V (o + 2) j) → zl_X8_back_11 E X F S o i (zarr V (o + 1) g)) (N := 1516) (fun g hg => ?_) (fun i a b ih g hg => ?_) 0 (by omega) (by omega)
      · have k := key (V (o + 1)) (fun j _ _ => by omega)
        rw [zarr_id] at k; exact k
      · have eo : zarr V (o + 1) g o = V o := zarr_ne _ _ (by omega)
        refine wp_X8_back_11 ⟨fun _ => ⟨M.ko, fun V3 e3 V5 e5 => ?_⟩, fun q => by omega⟩
        have ro : ∀ j, V5 o j = if j = 19 then 0 else if j = 5 then 0 else V o j := fun j => by rw [e5, e3]; simp only [zput, true_and]; rw [eo]
        have r : ∀ q, q ≠ o → V5 q = zarr V (o + 1) g q := fun q hq => by rw [e5, zput_row _ _ _ hq, e3, zput_row _ _ _ hq]
        refine h1 Q hK V5 (H.fresh (fun q q1 q2 => by rw [r q q1, zarr_ne _ _ q2]) (fun j j5 j19 => by rw [ro, if_neg j19, if_neg j5]) (by rw [ro]; rfl) (by rw [ro]; rfl) (k2.copy k3 (fun j x y => ?_)) k3) (fun q hq => by rw [r q (by omega), zarr_ne _ _ (by omega)])
        rw [r _ (by omega), zarr_self, Int.zero_add]; exact hg j x y
      · have eo : zarr V (o + 1) g o = V o := zarr_ne _ _ (by omega)
        have e2 : zarr V (o + 1) g (o + 2) = V (o + 2) := zarr_ne _ _ (by omega)
        refine wp_X8_back_11 ⟨fun q => by omega, fun _ => ?_⟩
        rw [eo, M.f0, M.f1, M.t1, M.t2, e2]
        refine ⟨M.ko, rfl, ⟨a, b⟩, rfl, ⟨a, b⟩, fun V20 e20 => ⟨⟨by omega, by omega⟩, ?_⟩⟩
        rw [e20, zput_zarr V (g := zupd g i (V (o + 2) i)) (fun j => rfl)]
        refine ih _ (fun j ja jb => ?_)
        by_cases hj : j = i
        · rw [hj, zupd_self]
        · rw [zupd_ne _ _ hj]; exact hg j ja (by omega)
  · cases hK : gK s with
    | none => exact h0 hK
    | some Q => rw [hK] at hk; exact absurd hk.1 (by omega)
theorem md_count (H : zMd S V o s) {a : Int} {F : Int → Prop} (h : F (zCount s a)) : SpF E 1 zm_X8_count [zrv o, ziv a] S V F := by
  have M := H.mo
  have o1 := M.ok.1
  have o2 := M.ok.2.1
  unfold zCount at h
  refine en_X8_count (fun _ X => ?_)
  refine zdown (Q := fun i => zl_X8_count_7 E X F S o a (zsum (fun i => if psh (gP s) i = 0 then 0 else 1) i) (zsum (psh (gP s)) i) i V) (N := pn (gP s)) ?_ (fun i ia ib ih => ?_) 0 (by omega) (by omega)
  · refine wp_X8_count_7 ⟨M.ko, s8_n M ⟨fun _ => ⟨fun z => s8_n M ?_, fun z => s8_m M ?_, fun z => s8_w M ?_, fun z => s8_b M ?_, fun z => ?_, fun z => ?_, fun z => ?_, fun z => ⟨fun q => ?_, fun q => ?_⟩, fun z => ?_⟩, fun q => by omega⟩⟩
    · simp (disch := omega) only [if_pos] at h; exact h
    · simp (disch := omega) only [if_neg, if_pos] at h; exact h
    · simp (disch := omega) only [if_neg, if_pos] at h; exact h
    · simp (disch := omega) only [if_neg, if_pos] at h; exact h
    · simp (disch := omega) only [if_neg, if_pos] at h; rw [H.h.1]; exact h
    · simp (disch := omega) only [if_neg, if_pos] at h; exact h
    · simp (disch := omega) only [if_neg, if_pos] at h; exact h
    · have q' := q
      rw [H.b.1] at q'
      simp (disch := omega) only [if_neg, if_pos] at h
      rw [(H.b.2.1 (by omega)).1]; exact h
    · have q' := q
      rw [H.b.1] at q'
      have := H.b.2.2.1
      simp (disch := omega) only [if_neg, if_pos] at h; exact h
    · simp (disch := omega) only [if_neg, if_pos] at h; exact h
  · have b1 := zsum_le (f := fun i => if psh (gP s) i = 0 then 0 else 1) (c := 1) ia (fun j _ _ => by split <;> omega)
    have b2 := zsum_le (f := psh (gP s)) (c := 12) ia (fun j x y => by have := M.ok.2.2.2.2.1 j x (by omega); omega)
    have b3 := M.ok.2.2.2.2.1 i ia ib
    rw [zsum_s _ ia, zsum_s _ ia] at ih
    refine wp_X8_count_7 ⟨M.ko, s8_n M ⟨fun q => by omega, fun _ => ?_⟩⟩
    rw [M.f0, M.t1, M.sh ⟨ia, ib⟩]
    refine ⟨⟨by omega, by omega⟩, rfl, ⟨by omega, by show 4 + i < 1516; omega⟩, fun z => ⟨⟨by omega, by omega⟩, ⟨by omega, by omega⟩, fun x ex => ⟨⟨by omega, by omega⟩, ?_⟩⟩, fun z => ⟨⟨by omega, by omega⟩, ⟨by omega, by omega⟩, fun x ex => ⟨⟨by omega, by omega⟩, ?_⟩⟩⟩
    · rw [ex]; simp only [if_pos z] at ih; exact ih
    · rw [ex]; simp only [if_neg z] at ih; exact ih
theorem md_shown (H : zMd S V o s) {i : Int} {F : Int → Prop} (h : F (if 0 ≤ i ∧ i < pn (gP s) then psh (gP s) i else -1)) : SpF E 1 zm_X8_shown [zrv o, ziv i] S V F := by
  have M := H.mo
  have o1 := M.ok.1
  refine en_X8_shown (fun _ => ⟨M.ko, s8_n M ⟨⟨by omega, by omega⟩, s8_in (fun hi => ⟨fun q => absurd q (by decide), fun _ => ?_⟩) (fun hi => ⟨fun _ => ?_, fun q => absurd rfl q⟩)⟩⟩)
  · rw [M.f0, M.t1, M.sh ⟨hi.1, by omega⟩]
    rw [if_pos (by omega)] at h
    exact ⟨⟨by omega, by omega⟩, rfl, ⟨by omega, by show 4 + i < 1516; omega⟩, h⟩
  · rw [if_neg (by omega)] at h; exact h
theorem md_step (H : zMd S V o s) {k i : Int} {F : Int → Prop} (h : F (if (0 ≤ k ∧ k < pb (gP s)) ∧ (0 ≤ i ∧ i < pn (gP s)) then zstp (gP s) k i else -1)) : SpF E 4 zm_X8_step [zrv o, ziv k, ziv i] S V F := by
  have M := H.mo
  have o1 := M.ok.1
  refine en_X8_step (fun _ _ => ⟨M.ko, s8_isButton M (fun hk => ⟨fun q => absurd q (by decide), fun _ => s8_n M ⟨⟨by omega, by omega⟩, s8_in (fun hi => ⟨fun q => absurd q (by decide), fun _ => ?_⟩) (fun hi => ⟨fun _ => ?_, fun q => absurd rfl q⟩)⟩⟩) (fun hk => ⟨fun _ => ?_, fun q => absurd rfl q⟩)⟩)
  · rw [if_pos (by omega)] at h
    exact s8_steps M hk ⟨hi.1, by omega⟩ h
  · rw [if_neg (by omega)] at h; exact h
  · rw [if_neg (by omega)] at h; exact h
theorem md_row (H : zMd S V o s) {i : Int} {F : Int → Prop} (h : F (if 0 ≤ i ∧ i < tn (gT s) then tr (gT s) i else -1)) : SpF E 1 zm_X8_row [zrv o, ziv i] S V F := by
  have M := H.mo
  obtain ⟨t17, t18, t19, tt, tok⟩ := H.t
  have t9 := tok.2.1
  refine en_X8_row (fun _ => ?_)
  rw [t17, M.f16, M.t9]
  refine ⟨M.ko, ⟨by omega, by omega⟩, s8_in (fun hi => ⟨fun q => absurd q (by decide), fun _ => ⟨rfl, ⟨hi.1, by show i < 36; omega⟩, ?_⟩⟩) (fun hi => ⟨fun _ => ?_, fun q => absurd rfl q⟩)⟩
  · rw [if_pos (by omega)] at h
    rw [tt i hi.1 (by omega)]; exact h
  · rw [if_neg (by omega)] at h; exact h
theorem s8_made {P : zP} (M : zMo S V o P) {i : Int} {F : Int → Prop} (hi : 0 ≤ i ∧ i < pn P) (hb : ∀ k, 0 ≤ k → k < pb P → 0 ≤ V (o + 9) k ∧ V (o + 9) k ≤ 11) (h : F (zsum (fun k => V (o + 9) k * zstp P k i) (pb P) % pm P)) : SpF E 4 zm_X8_made [zrv o, ziv i] S V F := by
  have o2 := M.ok.2.1
  have o4 := M.ok.2.2.2.1
  have sb : ∀ k, 0 ≤ zstp P k i ∧ zstp P k i ≤ 11 := fun k => by have := zstp_le M.ok k i; omega
  refine en_X8_made (fun _ X => ?_)
  refine zdown (Q := fun k => zl_X8_made_4 E X F S o i (zsum (fun k => V (o + 9) k * zstp P k i) k) k V) (N := pb P) ?_ (fun k h0 h1 ih => ?_) 0 (by omega) (by omega)
  · have b := zdot_le (f := fun k => V (o + 9) k) (g := fun k => zstp P k i) o4.1 hb (fun j _ _ => sb j)
    exact wp_X8_made_4 ⟨M.ko, s8_b M ⟨fun _ => s8_m M ⟨b.1, by omega, h⟩, fun c => absurd c (by omega)⟩⟩
  · have b := zdot_le (f := fun k => V (o + 9) k) (g := fun k => zstp P k i) h0 (fun j ja jb => hb j ja (by omega)) (fun j _ _ => sb j)
    have b2 := zmul_le (hb k h0 h1) (sb k)
    rw [zsum_s _ h0] at ih
    refine wp_X8_made_4 ⟨M.ko, s8_b M ⟨fun c => absurd c (by omega), fun _ => ?_⟩⟩
    rw [M.f16, M.t9]
    exact ⟨rfl, ⟨h0, by show k < 36; omega⟩, s8_steps M ⟨h0, h1⟩ hi ⟨⟨by omega, by omega⟩, ⟨by omega, by omega⟩, fun x hx => ⟨⟨by omega, by omega⟩, by rw [hx]; exact ih⟩⟩⟩
theorem md_apply (H : zMd S V o s) {F : Int → zH → Prop} (h1 : zApply s → ∀ V', zMd S V' o (zAct s (zSetSh (gP s) (zAdd (gP s) (zAppl s)))) → zFro V V' o → F (zChg (gP s) (zAppl s)) V') (h0 : ¬ zApply s → F (-1) V) : SpI E 5 zm_X8_apply [zrv o] S V F := by
  have M := H.mo
  obtain ⟨t17, t18, t19, tt, tok⟩ := H.t
  have t9 := tok.2.1
  have o1 := M.ok.1
  have o2 := M.ok.2.1
  have o4 := M.ok.2.2.2.1
  refine en_X8_apply (fun X => ?_)
  have bad : ¬ zApply s → ∀ i, zl_X8_apply_26 E X F S o 0 i V := by
    intro nc i
    exact wp_X8_apply_26 ⟨M.ko, s8_b M ⟨fun _ => ⟨fun q => absurd rfl q, fun _ => h0 nc⟩, fun _ => ⟨fun _ => ⟨fun q => absurd rfl q, fun _ => h0 nc⟩, fun q => absurd rfl q⟩⟩⟩
  rw [t18, t17]
  refine ⟨M.ko, fun z => bad (fun q => ?_) 0, fun z => s8_b M ⟨fun z1 => bad (fun q => z1 q.2.1) 0, fun z1 => ?_⟩⟩
  · rw [if_pos q.1] at z; omega
  have hk1 : tk (gT s) = 1 := Classical.byContradiction fun q => z (if_neg q)
  have run : zApply s → SpV E 0 zm_X8_act [zrv o] S V (fun V7 => zl_X8_apply_94 E X F S o 0 0 V7) := by
    intro hc
    refine md_act H (fun V1 f1 g1 hh h19 => ?_)
    have M1 : zMo S V1 o (gP s) := M.acted f1 g1
    have er : ∀ k, 0 ≤ k → k < pb (gP s) → V1 (o + 9) k = tr (gT s) k := fun k a b => by rw [f1 _ (by omega) (by omega)]; exact tt k a (by omega)
    have Hi : ∀ i, 0 ≤ i → i ≤ pn (gP s) → zMo S (zarr V1 (o + 1) (zRowP (V1 (o + 1)) (gP s) (zAppl s) i)) o (zSetSh (gP s) (zPart (gP s) (zAppl s) i)) := fun i a b => M1.sh' (fun j hj => if_neg (by omega)) (fun j ja jb => by
      unfold zRowP zPart
      by_cases hj : j < i
      · rw [if_pos (by omega), if_pos (by omega), show 4 + j - 4 = j by omega]
      · rw [if_neg (by omega), if_neg (by omega)]; exact M1.sh ⟨ja, jb⟩) (zPart_le M.ok _ _)
    have key := zdown (Q := fun i => zl_X8_apply_94 E X F S o (zsum (fun i => if zAdd (gP s) (zAppl s) i = psh (gP s) i then 0 else 1) i) i (zarr V1 (o + 1) (zRowP (V1 (o + 1)) (gP s) (zAppl s) i))) (N := pn (gP s)) ?_ (fun i h0' h1' ih => ?_) 0 (by omega) (by omega)
    · rw [show zarr V1 (o + 1) (zRowP (V1 (o + 1)) (gP s) (zAppl s) 0) = V1 from (zarr_ext V1 _ (fun j => if_neg (by omega))).trans (zarr_id V1 _)] at key
      exact key
    · have M' := Hi (pn (gP s)) (by omega) (by omega)
      refine wp_X8_apply_94 ⟨M.ko, s8_n M' ⟨fun _ => ?_, fun c => absurd c (by show ¬ pn (gP s) < pn (gP s); omega)⟩⟩
      have M2 : zMo S (zarr V1 (o + 1) (zRowP (V1 (o + 1)) (gP s) (zAppl s) (pn (gP s)))) o (zSetSh (gP s) (zAdd (gP s) (zAppl s))) := M1.sh' (fun j hj => if_neg (by omega)) (fun j ja jb => by
        unfold zRowP
        rw [if_pos (by omega), show 4 + j - 4 = j by omega]) (fun j ja jb => zAdd_le M.ok _ j)
      exact h1 hc _ (H.act f1 g1 hh h19 (fun q hq => zarr_ne _ _ hq) M2.2.1 M2.ok) (fun q hq => by rw [zarr_ne _ _ (by omega), f1 q (by omega) (by omega)])
    · have M' := Hi i h0' (by omega)
      have b := zChg_le (gP s) (zAppl s) h0'
      have b5 := M.ok.2.2.2.2.1 i h0' h1'
      have bu := zmod_le (zsum (fun k => tr (gT s) k * zstp (gP s) k i) (pb (gP s))) (show 0 < pm (gP s) by omega)
      have e4 : zarr V1 (o + 1) (zRowP (V1 (o + 1)) (gP s) (zAppl s) i) (o + 1) (4 + i) = psh (gP s) i := by
        rw [M'.sh ⟨h0', h1'⟩]
        show zPart (gP s) (zAppl s) i i = psh (gP s) i
        unfold zPart; rw [if_neg (by omega)]
      have e9 : zarr V1 (o + 1) (zRowP (V1 (o + 1)) (gP s) (zAppl s) i) (o + 9) = V1 (o + 9) := zarr_ne _ _ (by omega)
      refine wp_X8_apply_94 ⟨M.ko, s8_n M' ⟨fun c => absurd c (by show ¬ pn (gP s) ≤ i; omega), fun _ => ?_⟩⟩
      rw [M'.f0, M'.t1, e4]
      rw [zsum_s _ h0'] at ih
      refine ⟨⟨by omega, by omega⟩, rfl, ⟨by omega, by show 4 + i < 1516; omega⟩, s8_made M' ⟨h0', h1'⟩ (fun k ka kb => ?_) ?_⟩
      · have kb' : k < pb (gP s) := kb
        rw [e9, er k ka kb']; exact tok.2.2.2 k ka (by omega)
      · have em : zsum (fun k => zarr V1 (o + 1) (zRowP (V1 (o + 1)) (gP s) (zAppl s) i) (o + 9) k * zstp (zSetSh (gP s) (zPart (gP s) (zAppl s) i)) k i) (pb (zSetSh (gP s) (zPart (gP s) (zAppl s) i))) % pm (zSetSh (gP s) (zPart (gP s) (zAppl s) i)) = zAppl s i := by
          show _ = zsum (fun k => tr (gT s) k * zstp (gP s) k i) (pb (gP s)) % pm (gP s)
          rw [zsum_congr (f := fun k => zarr V1 (o + 1) (zRowP (V1 (o + 1)) (gP s) (zAppl s) i) (o + 9) k * zstp (zSetSh (gP s) (zPart (gP s) (zAppl s) i)) k i) (g := fun k => tr (gT s) k * zstp (gP s) k i) (fun k ka kb => by rw [e9, er k ka kb]; rfl)]
          rfl
        rw [em]
        have bu' : 0 ≤ zAppl s i ∧ zAppl s i < pm (gP s) := bu
        refine ⟨⟨by omega, by omega⟩, s8_m M' ⟨by omega, by show 0 < pm (gP s); omega, fun x20 e20 => ?_⟩⟩
        have e20' : x20 = zAdd (gP s) (zAppl s) i := e20
        have nx : ∀ V24, V24 = zput (zarr V1 (o + 1) (zRowP (V1 (o + 1)) (gP s) (zAppl s) i)) (o + 1) (4 + i) x20 → V24 = zarr V1 (o + 1) (zRowP (V1 (o + 1)) (gP s) (zAppl s) (i + 1)) := by
          intro V24 e24
          rw [e24, e20']
          refine zput_zarr V1 (fun j => ?_)
          unfold zRowP
          by_cases hj : j = 4 + i
          · rw [if_pos hj, if_pos (by omega), hj, show 4 + i - 4 = i by omega]
          · rw [if_neg hj]
            by_cases hj2 : 4 ≤ j ∧ j < 4 + i
            · rw [if_pos hj2, if_pos (by omega)]
            · rw [if_neg hj2, if_neg (by omega)]
        refine ⟨fun z => ⟨⟨by omega, by omega⟩, fun V24 e24 => ⟨⟨by omega, by omega⟩, ?_⟩⟩, fun z => ⟨⟨by omega, by omega⟩, fun V24 e24 => ⟨⟨by omega, by omega⟩, ?_⟩⟩⟩
        · rw [nx V24 e24]
          rw [e20'] at z
          simp only [if_pos z] at ih; exact ih
        · rw [nx V24 e24]
          rw [e20'] at z
          simp only [if_neg z] at ih; exact ih
  have key := zdown (Q := fun i => (∀ k, 0 ≤ k → k < i → tr (gT s) k < pm (gP s) ∧ (pkd (gP s) k = 3 → tr (gT s) k = 0)) → zl_X8_apply_26 E X F S o 1 i V) (N := pb (gP s)) (fun hj => ?_) (fun i a b ih hj => ?_) 0 (by omega) (by omega)
  · exact key (fun k _ _ => by omega)
  · have hc : zApply s := ⟨hk1, z1, hj⟩
    exact wp_X8_apply_26 ⟨M.ko, s8_b M ⟨fun _ => ⟨fun _ => run hc, fun q => absurd q (by decide)⟩, fun q => by omega⟩⟩
  · refine wp_X8_apply_26 ⟨M.ko, s8_b M ⟨fun q => by omega, fun _ => ⟨fun q => absurd q (by decide), fun _ => ?_⟩⟩⟩
    rw [M.f16, M.t9, tt i a (by omega)]
    have nx : tr (gT s) i < pm (gP s) ∧ (pkd (gP s) i = 3 → tr (gT s) i = 0) → ∀ k, 0 ≤ k → k < i + 1 → tr (gT s) k < pm (gP s) ∧ (pkd (gP s) k = 3 → tr (gT s) k = 0) := by
      intro q k ka kb
      by_cases hk : k = i
      · rw [hk]; exact q
      · exact hj k ka (by omega)
    refine ⟨rfl, ⟨a, by show i < 36; omega⟩, s8_m M ⟨fun c => ⟨⟨by omega, by omega⟩, bad (fun q => by have := (q.2.2 i a b).1; omega) _⟩, fun c => s8_isStuck M ⟨a, b⟩ (fun h3 => ⟨fun q => absurd q (by decide), fun _ => ⟨fun c2 => ⟨⟨by omega, by omega⟩, bad (fun q => c2 ((q.2.2 i a b).2 h3)) _⟩, fun c2 => ⟨⟨by omega, by omega⟩, ih (nx ⟨c, fun _ => c2⟩)⟩⟩⟩) (fun h3 => ⟨fun _ => ⟨⟨by omega, by omega⟩, ih (nx ⟨c, fun q => absurd q h3⟩)⟩, fun q => absurd rfl q⟩)⟩⟩
theorem md_tell (H : zMd S V o s) {v : Int} {F : Int → zH → Prop} (h1 : gl s < 36 ∧ (0 ≤ v ∧ v ≤ 11) → ∀ V', zMd S V' o (zTell s v) → zFro V V' o → F (gl s + 1) V') (h0 : ¬ (gl s < 36 ∧ (0 ≤ v ∧ v ≤ 11)) → F (-1) V) : SpI E 1 zm_X8_tell [zrv o, ziv v] S V F := by
  have M := H.mo
  obtain ⟨l24, ln, ll⟩ := H.l
  refine en_X8_tell (fun _ => ?_)
  rw [l24, M.f23, M.t13]
  refine ⟨M.ko, fun z => h0 (by omega), fun z => s8_in (fun hv => ⟨fun _ => ⟨rfl, ⟨by omega, by show gl s < 36; omega⟩, fun V8 e8 => ⟨⟨by omega, by omega⟩, fun V11 e11 => ?_⟩⟩, fun q => absurd q (by decide)⟩) (fun hv => ⟨fun q => absurd rfl q, fun _ => h0 (by omega)⟩)⟩
  have ro : ∀ j, V11 o j = if j = 24 then gl s + 1 else V o j := fun j => by rw [e11, e8]; simp only [zput, true_and]; rw [if_neg (show ¬ (o = o + 13 ∧ j = gl s) by omega)]
  have r : ∀ q, q ≠ o → q ≠ o + 13 → V11 q = V q := fun q q1 q2 => by rw [e11, zput_row _ _ _ q1, e8, zput_row _ _ _ q2]
  have rl : ∀ j, V11 (o + 13) j = zupd (V (o + 13)) (gl s) v j := fun j => by rw [e11, zput_row _ _ _ (by omega), e8]; simp only [zput, zupd, true_and]
  refine h1 (by omega) V11 ⟨M.frame (fun j hj => by rw [ro, if_neg (by omega)]) (r _ (by omega) (by omega)), H.b.congr (by rw [ro]; rfl) (by rw [ro]; rfl) (r _ (by omega) (by omega)), H.h.congr (by rw [ro]; rfl) (by rw [ro]; rfl) (r _ (by omega) (by omega)), H.k.congr (by rw [ro]; rfl) (r _ (by omega) (by omega)), H.t.congr (by rw [ro]; rfl) (by rw [ro]; rfl) (by rw [ro]; rfl) (r _ (by omega) (by omega)), ⟨by rw [ro]; rfl, ⟨by show 0 ≤ gl s + 1; omega, by show gl s + 1 ≤ 36; omega⟩, fun i a b => ?_⟩, H.tp⟩ (fun q hq => r q (by omega) (by omega))
  have b' : i < gl s + 1 := b
  rw [rl]
  show zupd (V (o + 13)) (gl s) v i = zupd (gL s) (gl s) v i ∧ 0 ≤ zupd (gL s) (gl s) v i ∧ zupd (gL s) (gl s) v i ≤ 11
  by_cases hi : i = gl s
  · rw [hi, zupd_self, zupd_self]; omega
  · rw [zupd_ne _ _ hi, zupd_ne _ _ hi]; exact ll i a (by omega)
theorem s8_pushingWrong {P : zP} (M : zMo S V o P) {f : Int → Int} (hf : ∀ i, 0 ≤ i → i < pb P → V (o + 13) i = f i ∧ 0 ≤ f i ∧ f i ≤ 11) {F : Int → Prop} (h : ∀ a, zCkP P f a → F a) : SpF E 4 zm_X8_pushingWrong [zrv o] S V F := by
  have o1 := M.ok.1
  have o2 := M.ok.2.1
  have o4 := M.ok.2.2.2.1
  refine en_X8_pushingWrong (fun X => ?_)
  have second : (∀ k, 0 ≤ k → k < pb P → pkd P k = 3 → f k = 0) → zl_X8_pushingWrong_41 E X F S o 0 V := by
    intro c'
    have key := zdown (Q := fun i => (∀ j, 0 ≤ j → j < i → zsum (fun k => f k * zstp P k j) (pb P) % pm P = psh P j) → zl_X8_pushingWrong_41 E X F S o i V) (N := pn P) (fun hj => ?_) (fun i a b ih hj => ?_) 0 (by omega) (by omega)
    · exact key (fun j _ _ => by omega)
    · exact wp_X8_pushingWrong_41 ⟨M.ko, s8_n M ⟨fun _ => h _ (Or.inr ⟨c', Or.inr ⟨hj, rfl⟩⟩), fun q => by omega⟩⟩
    · refine wp_X8_pushingWrong_41 ⟨M.ko, s8_n M ⟨fun q => by omega, fun _ => ?_⟩⟩
      have sb : ∀ k, 0 ≤ zstp P k i ∧ zstp P k i ≤ 11 := fun k => by have := zstp_le M.ok k i; omega
      refine zdown (Q := fun k => zl_X8_pushingWrong_53 E X F S o i (zsum (fun k => f k * zstp P k i) k) k V) (N := pb P) ?_ (fun k k0 k1 ik => ?_) 0 (by omega) (by omega)
      · have bb := zdot_le (f := f) (g := fun k => zstp P k i) o4.1 (fun j x y => (hf j x y).2) (fun j _ _ => sb j)
        refine wp_X8_pushingWrong_53 ⟨M.ko, s8_b M ⟨fun _ => s8_m M ?_, fun q => by omega⟩⟩
        rw [M.f0, M.t1, M.sh ⟨a, b⟩]
        refine ⟨bb.1, by omega, ⟨by omega, by omega⟩, rfl, ⟨by omega, by show 4 + i < 1516; omega⟩, fun z => ⟨⟨by omega, by omega⟩, ih (fun j ja jb => ?_)⟩, fun z => ⟨⟨by omega, by omega⟩, h _ (Or.inr ⟨c', Or.inl ⟨i, ⟨⟨a, b⟩, z, fun j ja jb q => q (hj j ja jb)⟩, rfl⟩⟩)⟩⟩
        by_cases hji : j = i
        · rw [hji]; exact z
        · exact hj j ja (by omega)
      · have bb := zdot_le (f := f) (g := fun k => zstp P k i) k0 (fun j x y => (hf j x (by omega)).2) (fun j _ _ => sb j)
        have b2 := zmul_le (hf k k0 k1).2 (sb k)
        rw [zsum_s _ k0] at ik
        refine wp_X8_pushingWrong_53 ⟨M.ko, s8_b M ⟨fun q => by omega, fun _ => ?_⟩⟩
        rw [M.f23, M.t13, (hf k k0 k1).1]
        exact ⟨rfl, ⟨k0, by show k < 36; omega⟩, s8_steps M ⟨k0, k1⟩ ⟨a, b⟩ ⟨⟨by omega, by omega⟩, ⟨by omega, by omega⟩, fun x hx => ⟨⟨by omega, by omega⟩, by rw [hx]; exact ik⟩⟩⟩
  have key := zdown (Q := fun i => (∀ j, 0 ≤ j → j < i → pkd P j = 3 → f j = 0) → zl_X8_pushingWrong_2 E X F S o i V) (N := pb P) (fun hj => ?_) (fun i a b ih hj => ?_) 0 (by omega) (by omega)
  · exact key (fun j _ _ => by omega)
  · exact wp_X8_pushingWrong_2 ⟨M.ko, s8_b M ⟨fun _ => second hj, fun q => by omega⟩⟩
  · have nx : (pkd P i = 3 → f i = 0) → ∀ j, 0 ≤ j → j < i + 1 → pkd P j = 3 → f j = 0 := by
      intro q j ja jb
      by_cases hji : j = i
      · rw [hji]; exact q
      · exact hj j ja (by omega)
    refine wp_X8_pushingWrong_2 ⟨M.ko, s8_b M ⟨fun q => by omega, fun _ => s8_isStuck M ⟨a, b⟩ (fun h3 => ⟨fun q => absurd q (by decide), fun _ => ?_⟩) (fun h3 => ⟨fun _ => ⟨⟨by omega, by omega⟩, ih (nx (fun q => absurd q h3))⟩, fun q => absurd rfl q⟩)⟩⟩
    rw [M.f23, M.t13, (hf i a b).1]
    exact ⟨rfl, ⟨a, by show i < 36; omega⟩, fun z => ⟨⟨by omega, by omega⟩, ih (nx (fun _ => z))⟩, fun z => ⟨⟨by omega, by omega⟩, h _ (Or.inl ⟨i, ⟨⟨a, b⟩, ⟨h3, z⟩, fun j ja jb q => q.2 (hj j ja jb q.1)⟩, rfl⟩)⟩⟩
theorem s8_weightsWrong {P : zP} (M : zMo S V o P) {f : Int → Int} (hf : ∀ i, 0 ≤ i → i < pn P → V (o + 13) i = f i ∧ 0 ≤ f i ∧ f i ≤ 11) {F : Int → Prop} (h : ∀ a, zCkW P f a → F a) : SpF E 4 zm_X8_weightsWrong [zrv o] S V F := by
  have o1 := M.ok.1
  have o2 := M.ok.2.1
  have o4 := M.ok.2.2.2.1
  refine en_X8_weightsWrong (fun X => ?_)
  have key := zdown (Q := fun i => (∀ k, 0 ≤ k → k < i → pkd P k ≠ 3 → zsum (fun i => f i * zstp P k i) (pn P) % pm P = 0) → zl_X8_weightsWrong_2 E X F S o i V) (N := pb P) (fun hj => ?_) (fun k a b ih hj => ?_) 0 (by omega) (by omega)
  · exact key (fun j _ _ => by omega)
  · refine wp_X8_weightsWrong_2 ⟨M.ko, s8_b M ⟨fun _ => ?_, fun q => by omega⟩⟩
    have sh : ∀ i, 0 ≤ i → i < pn P → 0 ≤ psh P i ∧ psh P i ≤ 11 := fun i x y => by have := M.ok.2.2.2.2.1 i x y; omega
    refine zdown (Q := fun i => zl_X8_weightsWrong_77 E X F S o (zsum (fun i => f i * psh P i) i) i V) (N := pn P) ?_ (fun i i0 i1 ii => ?_) 0 (by omega) (by omega)
    · have bb := zdot_le (f := f) (g := psh P) (show 0 ≤ pn P by omega) (fun j x y => (hf j x y).2) sh
      exact wp_X8_weightsWrong_77 ⟨M.ko, s8_n M ⟨fun _ => s8_m M ⟨bb.1, by omega, fun z => h _ (Or.inr ⟨hj, by rw [if_pos z]⟩), fun z => h _ (Or.inr ⟨hj, by rw [if_neg z]⟩)⟩, fun q => by omega⟩⟩
    · have bb := zdot_le (f := f) (g := psh P) i0 (fun j x y => (hf j x (by omega)).2) (fun j x y => sh j x (by omega))
      have b2 := zmul_le (hf i i0 i1).2 (sh i i0 i1)
      rw [zsum_s _ i0] at ii
      refine wp_X8_weightsWrong_77 ⟨M.ko, s8_n M ⟨fun q => by omega, fun _ => ?_⟩⟩
      rw [M.f23, M.t13, M.f0, M.t1, M.sh ⟨i0, i1⟩, (hf i i0 i1).1]
      exact ⟨rfl, ⟨i0, by show i < 36; omega⟩, ⟨by omega, by omega⟩, rfl, ⟨by omega, by show 4 + i < 1516; omega⟩, ⟨by omega, by omega⟩, ⟨by omega, by omega⟩, fun x hx => ⟨⟨by omega, by omega⟩, by rw [hx]; exact ii⟩⟩
  · have nx : (pkd P k ≠ 3 → zsum (fun j => f j * zstp P k j) (pn P) % pm P = 0) → ∀ j, 0 ≤ j → j < k + 1 → pkd P j ≠ 3 → zsum (fun i => f i * zstp P j i) (pn P) % pm P = 0 := by
      intro q j ja jb
      by_cases hji : j = k
      · rw [hji]; exact q
      · exact hj j ja (by omega)
    refine wp_X8_weightsWrong_2 ⟨M.ko, s8_b M ⟨fun q => by omega, fun _ => ?_⟩⟩
    by_cases h3 : pkd P k = 3
    · refine wp_X8_weightsWrong_14 ⟨M.ko, s8_n M ⟨fun q => by omega, fun _ => s8_isStuck M ⟨a, b⟩ (fun _ => ⟨fun _ => s8_m M ⟨by omega, by omega, fun _ => ⟨⟨by omega, by omega⟩, ih (nx (fun q => absurd h3 q))⟩, fun q => absurd (Int.zero_emod _) q⟩, fun q => absurd q (by decide)⟩) (fun q => absurd h3 q)⟩⟩
    · have sb : ∀ i, 0 ≤ zstp P k i ∧ zstp P k i ≤ 11 := fun i => by have := zstp_le M.ok k i; omega
      refine zdown (Q := fun i => zl_X8_weightsWrong_14 E X F S o k (zsum (fun i => f i * zstp P k i) i) i V) (N := pn P) ?_ (fun i i0 i1 ii => ?_) 0 (by omega) (by omega)
      · have bb := zdot_le (f := f) (g := fun i => zstp P k i) (show 0 ≤ pn P by omega) (fun j x y => (hf j x y).2) (fun j _ _ => sb j)
        exact wp_X8_weightsWrong_14 ⟨M.ko, s8_n M ⟨fun _ => s8_m M ⟨bb.1, by omega, fun z => ⟨⟨by omega, by omega⟩, ih (nx (fun _ => z))⟩, fun z => ⟨⟨by omega, by omega⟩, h _ (Or.inl ⟨k, ⟨⟨a, b⟩, ⟨h3, z⟩, fun j ja jb q => q.2 (hj j ja jb q.1)⟩, rfl⟩)⟩⟩, fun q => by omega⟩⟩
      · have bb := zdot_le (f := f) (g := fun i => zstp P k i) i0 (fun j x y => (hf j x (by omega)).2) (fun j _ _ => sb j)
        have b2 := zmul_le (hf i i0 i1).2 (sb i)
        rw [zsum_s _ i0] at ii
        refine wp_X8_weightsWrong_14 ⟨M.ko, s8_n M ⟨fun q => by omega, fun _ => s8_isStuck M ⟨a, b⟩ (fun q => absurd q h3) (fun _ => ⟨fun q => absurd rfl q, fun _ => ?_⟩)⟩⟩
        rw [M.f23, M.t13, (hf i i0 i1).1]
        exact ⟨rfl, ⟨i0, by show i < 36; omega⟩, s8_steps M ⟨a, b⟩ ⟨i0, i1⟩ ⟨⟨by omega, by omega⟩, ⟨by omega, by omega⟩, fun x hx => ⟨⟨by omega, by omega⟩, by rw [hx]; exact ii⟩⟩⟩
theorem md_check (H : zMd S V o s) {what : Int} {F : Int → zH → Prop} (h1 : what = 0 ∨ what = 1 → ∀ V' a, zCk s what a → zMd S V' o (zList0 s) → zFro V V' o → F a V') (h0 : ¬ (what = 0 ∨ what = 1) → F (-2) V) : SpI E 5 zm_X8_check [zrv o, ziv what] S V F := by
  have M := H.mo
  obtain ⟨l24, ln, ll⟩ := H.l
  have o1 := M.ok.1
  have o4 := M.ok.2.2.2.1
  refine en_X8_check (fun _ X => s8_in (fun hw => ⟨fun _ => ?_, fun q => absurd q (by decide)⟩) (fun hw => ⟨fun q => absurd rfl q, fun _ => h0 (by omega)⟩))
  have hw' : what = 0 ∨ what = 1 := by omega
  have done : ∀ V3, V3 = zput V o 24 0 → zMd S V3 o (zList0 s) ∧ zFro V V3 o ∧ zMo S V3 o (gP s) ∧ V3 (o + 13) = V (o + 13) := by
    intro V3 e3
    have ro : ∀ j, V3 o j = if j = 24 then 0 else V o j := fun j => by rw [e3]; simp only [zput, true_and]
    have r : ∀ q, q ≠ o → V3 q = V q := fun q q1 => by rw [e3, zput_row _ _ _ q1]
    have M3 : zMo S V3 o (gP s) := M.frame (fun j hj => by rw [ro, if_neg (by omega)]) (r _ (by omega))
    exact ⟨⟨M3, H.b.congr (by rw [ro]; rfl) (by rw [ro]; rfl) (r _ (by omega)), H.h.congr (by rw [ro]; rfl) (by rw [ro]; rfl) (r _ (by omega)), H.k.congr (by rw [ro]; rfl) (r _ (by omega)), H.t.congr (by rw [ro]; rfl) (by rw [ro]; rfl) (by rw [ro]; rfl) (r _ (by omega)), ⟨by rw [ro]; rfl, ⟨Int.le_refl 0, by show (0 : Int) ≤ 36; omega⟩, fun i a b => absurd b (by show ¬ i < 0; omega)⟩, H.tp⟩, fun q hq => r q (by omega), M3, r _ (by omega)⟩
  have bad : (gl s ≠ (if what = 0 then pb (gP s) else pn (gP s)) ∨ ∃ i, 0 ≤ i ∧ i < gl s ∧ pm (gP s) ≤ gL s i) → ∀ i, 0 ≤ i → i ≤ gl s → zl_X8_check_43 E X F S o what 0 i V := by
    intro hb
    refine zdown (N := gl s) ?_ (fun i a b ih => ?_)
    · refine wp_X8_check_43 ?_
      rw [l24]
      refine ⟨M.ko, fun _ V3 e3 => ⟨fun q => absurd rfl q, fun _ => ?_⟩, fun q => by omega⟩
      obtain ⟨d1, d2, -⟩ := done V3 e3
      exact h1 hw' V3 100 (Or.inl ⟨hb, rfl⟩) d1 d2
    · refine wp_X8_check_43 ?_
      rw [l24]
      exact ⟨M.ko, fun q => by omega, fun _ => ⟨fun _ => ⟨⟨by omega, by omega⟩, ih⟩, fun q => absurd rfl q⟩⟩
  have good : gl s = (if what = 0 then pb (gP s) else pn (gP s)) → zl_X8_check_43 E X F S o what 1 0 V := by
    intro hg
    have key := zdown (Q := fun i => (∀ j, 0 ≤ j → j < i → gL s j < pm (gP s)) → zl_X8_check_43 E X F S o what 1 i V) (N := gl s) (fun hj => ?_) (fun i a b ih hj => ?_) 0 (by omega) (by omega)
    · exact key (fun j _ _ => by omega)
    · refine wp_X8_check_43 ?_
      rw [l24]
      refine ⟨M.ko, fun _ V3 e3 => ⟨fun _ => ?_, fun q => absurd q (by decide)⟩, fun q => by omega⟩
      obtain ⟨d1, d2, M3, d4⟩ := done V3 e3
      refine ⟨fun z => s8_weightsWrong (f := gL s) M3 (fun i a b => ?_) (fun a ha => h1 hw' V3 a (Or.inr ⟨⟨hg, hj⟩, by rw [if_neg z]; exact ha⟩) d1 d2), fun z => s8_pushingWrong (f := gL s) M3 (fun i a b => ?_) (fun a ha => h1 hw' V3 a (Or.inr ⟨⟨hg, hj⟩, by rw [if_pos z]; exact ha⟩) d1 d2)⟩
      · rw [if_neg z] at hg
        rw [d4]; exact ll i a (by omega)
      · rw [if_pos z] at hg
        rw [d4]; exact ll i a (by omega)
    · refine wp_X8_check_43 ?_
      rw [l24, M.f23, M.t13, (ll i a b).1]
      refine ⟨M.ko, fun q => by omega, fun _ => ⟨fun q => absurd q (by decide), fun _ => ⟨rfl, ⟨a, by show i < 36; omega⟩, s8_m M ⟨fun c => ⟨⟨by omega, by omega⟩, bad (Or.inr ⟨i, a, b, c⟩) _ (by omega) (by omega)⟩, fun c => ⟨⟨by omega, by omega⟩, ih (fun j ja jb => ?_)⟩⟩⟩⟩⟩
      by_cases hji : j = i
      · rw [hji]; exact c
      · exact hj j ja (by omega)
  rw [l24]
  refine ⟨M.ko, fun z => s8_n M ⟨fun c => bad (Or.inl (by rw [if_neg z]; exact c)) 0 (by omega) (by omega), fun c => good (by rw [if_neg z]; exact c)⟩, fun z => s8_b M ⟨fun c => bad (Or.inl (by rw [if_pos z]; exact c)) 0 (by omega) (by omega), fun c => good (by rw [if_pos z]; exact c)⟩⟩
end MDOPS4
