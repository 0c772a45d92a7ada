/-! THE LAW: both sides call by call -/
section GLUE
variable {S S' : zS} {V V' : zH} {o x w : Int} {s : zSig}
theorem zMd.frm (H : zMd S V o s) (h : ∀ q, o ≤ q → q ≤ o + 13 → V' q = V q) : zMd S V' o s := by
  have eo : V' o = V o := h o (by omega) (by omega)
  exact ⟨H.mo.frame (fun j _ => by rw [eo]) (h _ (by omega) (by omega)), H.b.congr (by rw [eo]) (by rw [eo]) (h _ (by omega) (by omega)), H.h.congr (by rw [eo]) (by rw [eo]) (h _ (by omega) (by omega)), H.k.congr (by rw [eo]) (h _ (by omega) (by omega)), H.t.congr (by rw [eo]) (by rw [eo]) (by rw [eo]) (h _ (by omega) (by omega)), H.l.congr (by rw [eo]) (h _ (by omega) (by omega)), H.tp⟩
theorem zMd.ext (H : zMd S V o s) (e : zExt S S') : zMd S' V o s := by
  obtain ⟨⟨⟨⟨a0, a1, a2, a3, a4, a5, a6, a7, a8, a9, a10, a11, a12, a13⟩, f⟩, c, ok⟩, r⟩ := H
  exact ⟨⟨⟨⟨e.s a0 (by decide), e.s a1 (by decide), e.s a2 (by decide), e.s a3 (by decide), e.s a4 (by decide), e.s a5 (by decide), e.s a6 (by decide), e.s a7 (by decide), e.s a8 (by decide), e.s a9 (by decide), e.s a10 (by decide), e.s a11 (by decide), e.s a12 (by decide), e.s a13 (by decide)⟩, f⟩, c, ok⟩, r⟩
theorem zMd.reT {T T' : zT} (H : zMd S V o (zSetT s T')) (e1 : tk T = tk T') (e2 : tn T = tn T') (e3 : tg T = tg T') (e : ∀ i, 0 ≤ i → i < tn T' → tr T i = tr T' i) : zMd S V o (zSetT s T) := by
  obtain ⟨t17, t18, t19, t9, k1, k2, k3, k4⟩ : zMT V o T' := H.t
  have tp : zTP T' (gP s) := H.tp
  refine ⟨H.mo, H.b, H.h, H.k, ⟨by rw [t17]; exact e2.symm, by rw [t18]; show _ = (if tk T = 1 then 1 else 0); rw [e1], by rw [t19]; exact e3.symm, fun i a b => ?_, ?_, ?_, ?_, fun i a b => ?_⟩, H.l, fun q => ?_⟩
  · have b' : i < tn T' := by rw [← e2]; exact b
    rw [t9 i a b']; exact (e i a b').symm
  · show 0 ≤ tk T ∧ tk T ≤ 2
    rw [e1]; exact k1
  · show 0 ≤ tn T ∧ tn T ≤ 36
    rw [e2]; exact k2
  · show tg T = 0 ∨ tg T = 1
    rw [e3]; exact k3
  · have b' : i < tn T' := by rw [← e2]; exact b
    show 0 ≤ tr T i ∧ tr T i ≤ 11
    rw [e i a b']; exact k4 i a b'
  · have q' : tg T' = 1 := by rw [← e3]; exact q
    obtain ⟨p1, p2, p3⟩ := tp q'
    refine ⟨e1.trans p1, e2.trans p2, fun k a b => ?_⟩
    show tr T k < pm (gP s) ∧ (pkd (gP s) k = 3 → tr T k = 0)
    rw [e k a (by rw [p2]; exact b)]
    exact p3 k a b
theorem zCl.off (H : zCl S V x s w) (o : ∀ q, (q < x + 18 ∨ x + 31 < q) → V' q = V q) : zCl S V' x s w := by
  obtain ⟨q1, q2, q3, q4⟩ := H.wi
  have ex : V' x = V x := o x (by omega)
  refine ⟨⟨H.xa.1, by rw [ex]; exact H.v0, by rw [ex]; exact H.v1, by rw [ex]; exact H.v2, by rw [ex]; exact H.v3⟩, H.pl.congr (fun q _ _ => o q (by omega)), H.bd.congr (fun q _ _ => o q (by omega)), H.hi.congr (fun q _ _ => o q (by omega)), H.to.congr (fun q _ _ => o q (by omega)), H.li.congr ex (o _ (by omega)), H.tp, ⟨q1, by rw [o (x + 1) (by omega)]; exact q2, by rw [o (x + 1) (by omega)]; exact q3, fun z => ?_⟩, by rw [ex]; exact H.ke.congr (fun q hq => o q (by omega)), ?_⟩
  · rw [ex] at z ⊢
    rcases H.ke.pos with y | y
    · omega
    · rw [o _ (by omega)]; exact q4 z
  · rw [ex]
    rcases H.sv with y | y
    · exact Or.inl y
    · exact Or.inr (y.congr (fun q hq _ => o q (by omega)) (Or.inl ⟨by rw [o (x + 1) (by omega)], zSteq.refl _⟩))
theorem zMd.aft (H : zMd S V (x + 18) s) (e : zExt S S') (f : zFrm V V' x) : zMd S' V' (x + 18) s := (H.ext e).frm (fun q a b => f q (by omega) (by omega))
theorem zMd.aft0 (H : zMd S V (x + 18) s) (f : zFrm V V' x) : zMd S V' (x + 18) s := H.frm (fun q a b => f q (by omega) (by omega))
theorem zCl.aft (H : zCl S V x s w) (f : zFro V V' (x + 18)) : zCl S V' x s w := H.off (fun q hq => f q (by omega))
end GLUE
section LAW
variable {E : zE} {X : zX} {Q : State → Prop} {b Ln : Nat} {xs : Nat → Int32} {x : Int}
theorem law_run (hLw : zLw E X Q b Ln xs) (hLn : Ln ≤ 2560) : ∀ (t : Nat) (i : Int) (S : zS) (V : zH) (s : zSig) (w : Int) (k n : Nat), (Ln : Int) - i ≤ t → (0 ≤ i ∧ i ≤ (Ln : Int)) → 5 * (k : Int) ≤ 200 + 16 * i → 5 * (n : Int) ≤ 850000 + 14558 * i → 5 * w ≤ 2 * i + 5 → zCl S V x s w → zMd S V (x + 18) s → zl_L_law_18 E X Q k n S b x (x + 18) i V := by
  intro t
  induction t with
  | zero =>
    intro i S V s w k n ht hi hk hn hw C M
    exact wp_L_law_18 hLw hLn ⟨⟨by omega, by omega⟩, fun _ => ⟨by omega, by omega⟩, fun q => by omega⟩
  | succ t ih =>
    intro i S V s w k n ht hi hk hn hw C M
    have ko : (S (x + 18)).1 = 11 := M.mo.ko
    have ok := C.pl.ok
    have o1 := ok.1
    have o2 := ok.2.1
    have o4 := ok.2.2.2.1
    have w9 : w ≤ 90000 := by omega
    have hS : (S (x + 31)).1 ≠ 0 := by
      have := M.mo.t13
      rw [show x + 18 + 13 = x + 31 by omega] at this
      rw [this]; decide
    refine wp_L_law_18 hLw hLn ⟨⟨by omega, by omega⟩, fun _ => ⟨by omega, by omega⟩, fun la => ⟨⟨by omega, by omega⟩, fun x4 _ => ?_⟩⟩
    have next : ∀ (S' : zS) (V' : zH) (s' : zSig) (w' : Int) (k' n' : Nat), k' ≤ k + 16 → n' ≤ n + 14558 → w' ≤ w + 2 → zCl S' V' x s' w' → zMd S' V' (x + 18) s' → (z32 (i + 5)) ∧ zl_L_law_18 E X Q k' n' S' b x (x + 18) (i + 5) V' := fun S' V' s' w' k' n' a1 a2 a3 C' M' => ⟨⟨by omega, by omega⟩, ih (i + 5) S' V' s' w' k' n' (by omega) ⟨by omega, by omega⟩ (by omega) (by omega) (by omega) C' M'⟩
    have z1 : z32 (i + 1) := ⟨by omega, by omega⟩
    have z2 : z32 (i + 2) := ⟨by omega, by omega⟩
    have z3 : z32 (i + 3) := ⟨by omega, by omega⟩
    have z4 : z32 (i + 4) := ⟨by omega, by omega⟩
    have r1 : (0 : Int) ≤ i + 1 ∧ i + 1 < (Ln : Int) := ⟨by omega, by omega⟩
    have r2 : (0 : Int) ≤ i + 2 ∧ i + 2 < (Ln : Int) := ⟨by omega, by omega⟩
    have r3 : (0 : Int) ≤ i + 3 ∧ i + 3 < (Ln : Int) := ⟨by omega, by omega⟩
    have r4 : (0 : Int) ≤ i + 4 ∧ i + 4 < (Ln : Int) := ⟨by omega, by omega⟩
    have kn : k ≤ 174162 ∧ n ≤ 8579764 := ⟨by omega, by omega⟩
    have kn' : k + 16 ≤ 174162 ∧ n + 14558 ≤ 8579764 := ⟨by omega, by omega⟩
    have same : (z32 (i + 5)) ∧ zl_L_law_18 E X Q k n S b x (x + 18) (i + 5) V := next S V s w k n (by omega) (by omega) (by omega) C M
    refine ⟨fun _ => wp_L_law_152 hLw hLn ⟨z1, r1, z2, r2, z3, r3, C.kx, kn, ?_⟩, fun _ => wp_L_law_195 hLw hLn ⟨z1, r1, z2, r2, z3, r3, z4, r4, C.kx, kn, ?_⟩, fun _ => wp_L_law_248 hLw hLn ⟨z1, r1, z2, r2, C.kx, kn, ?_⟩, fun _ => wp_L_law_281 hLw hLn ⟨z1, r1, z2, r2, z3, r3, C.kx, kn, ?_⟩, fun _ => wp_L_law_344 hLw hLn ⟨z1, r1, C.kx, kn, ?_⟩, fun _ => wp_L_law_367 hLw hLn ⟨z1, r1, z2, r2, C.kx, kn, ?_⟩, fun _ => wp_L_law_400 hLw hLn ⟨z1, r1, z2, r2, C.kx, kn, ?_⟩, fun _ => wp_L_law_433 hLw hLn ⟨z1, r1, z2, r2, C.kx, kn, ?_⟩, fun _ => wp_L_law_466 hLw hLn ⟨C.kx, kn, ?_⟩, fun _ => wp_L_law_479 hLw hLn ⟨C.kx, kn, ?_⟩, fun _ => wp_L_law_492 hLw hLn ⟨C.kx, 16, 14558, kn', ?_⟩, fun _ => wp_L_law_505 hLw hLn ⟨C.kx, kn, ?_⟩, fun _ => wp_L_law_518 hLw hLn ⟨z1, r1, C.kx, kn, ?_⟩, fun _ => wp_L_law_541 hLw hLn ⟨z1, r1, C.kx, kn, ?_⟩, fun _ => wp_L_law_564 hLw hLn ⟨z1, r1, z2, r2, C.kx, kn, ?_⟩, fun _ => wp_L_law_597 hLw hLn ⟨C.kx, 16, 14558, kn', ?_⟩, fun _ => wp_L_law_610 hLw hLn ⟨C.kx, 16, 14558, kn', ?_⟩, fun _ => wp_L_law_623 hLw hLn ⟨z1, r1, C.kx, kn, ?_⟩, fun _ => wp_L_law_646 hLw hLn ⟨z1, r1, z2, r2, C.kx, 16, 14558, kn', ?_⟩, fun _ => wp_L_law_679 hLw hLn ⟨z1, r1, C.kx, 16, 14558, kn', ?_⟩, fun _ => wp_L_law_702 hLw hLn ⟨z1, r1, z2, r2, C.kx, 16, 14558, kn', ?_⟩, fun _ => wp_L_law_735 hLw hLn ⟨C.kx, 16, 14558, kn', ?_⟩, fun _ => wp_L_law_749 hLw hLn ⟨C.kx, 16, 14558, kn', ?_⟩, fun _ => wp_L_law_763 hLw hLn ⟨C.kx, kn, ?_⟩, fun _ => wp_L_law_776 hLw hLn ⟨z1, r1, C.kx, kn, ?_⟩, fun _ => wp_L_law_799 hLw hLn ⟨z1, r1, C.kx, kn, ?_⟩, fun _ => same⟩
    · -- plate
      exact cl_plate C w9 (fun c V1 C1 f1 => ⟨ko, md_plate (M.aft0 f1) (fun _ V2 M2 f2 => ⟨fun _ => next S V2 _ _ k n (by omega) (by omega) (by omega) (C1.aft f2) M2, fun q => absurd rfl q⟩) (fun q => absurd c q)⟩) (fun c => ⟨ko, md_plate M (fun q => absurd q c) (fun _ => ⟨fun _ => same, fun q => absurd rfl q⟩)⟩)
    · -- button
      exact cl_button C w9 (fun c V1 C1 f1 => ⟨ko, md_button (M.aft0 f1) (fun _ V2 M2 f2 => ⟨fun _ => next S V2 _ _ k n (by omega) (by omega) (by omega) (C1.aft f2) M2, fun q => absurd rfl q⟩) (fun q => absurd c q)⟩) (fun c => ⟨ko, md_button M (fun q => absurd q c) (fun _ => ⟨fun _ => same, fun q => absurd rfl q⟩)⟩)
    · -- board
      exact cl_board C (fun c V1 C1 f1 => ⟨ko, md_board (M.aft0 f1) (fun _ V2 M2 f2 => ⟨fun _ => next S V2 _ _ k n (by omega) (by omega) (by omega) (C1.aft f2) M2, fun q => absurd rfl q⟩) (fun q => absurd c q)⟩) (fun c => ⟨ko, md_board M (fun q => absurd q c) (fun _ => ⟨fun _ => same, fun q => absurd rfl q⟩)⟩)
    · -- entry
      exact cl_entry C (fun c V1 C1 f1 => ⟨ko, md_entry (M.aft0 f1) (fun _ V2 M2 f2 => ⟨fun _ => next S V2 _ _ k n (by omega) (by omega) (by omega) (C1.aft f2) M2, fun q => absurd rfl q⟩) (fun q => absurd c q)⟩) (fun c => ⟨ko, md_entry M (fun q => absurd q c) (fun _ => ⟨fun _ => same, fun q => absurd rfl q⟩)⟩)
    · -- wire
      exact cl_wire C w9 (fun c V1 C1 f1 => ⟨ko, md_wire (M.aft0 f1) (fun _ V2 M2 f2 => ⟨fun _ => next S V2 _ _ k n (by omega) (by omega) (by omega) (C1.aft f2) M2, fun q => absurd rfl q⟩) (fun q => absurd c q)⟩) (fun c => ⟨ko, md_wire M (fun q => absurd q c) (fun _ => ⟨fun _ => same, fun q => absurd rfl q⟩)⟩)
    · -- cost
      exact cl_cost C (fun c V1 C1 f1 => ⟨ko, md_cost (M.aft0 f1) (fun _ V2 M2 f2 => ⟨fun _ => next S V2 _ _ k n (by omega) (by omega) (by omega) (C1.aft f2) M2, fun q => absurd rfl q⟩) (fun q => absurd c q)⟩) (fun c => ⟨ko, md_cost M (fun q => absurd q c) (fun _ => ⟨fun _ => same, fun q => absurd rfl q⟩)⟩)
    · -- light
      exact cl_light C (fun c V1 C1 f1 => ⟨ko, md_light (M.aft0 f1) (fun _ V2 M2 f2 => ⟨fun _ => next S V2 _ _ k n (by omega) (by omega) (by omega) (C1.aft f2) M2, fun q => absurd rfl q⟩) (fun q => absurd c q)⟩) (fun c => ⟨ko, md_light M (fun q => absurd q c) (fun _ => ⟨fun _ => same, fun q => absurd rfl q⟩)⟩)
    · -- push
      exact cl_push C (fun c V1 C1 f1 => ⟨ko, md_push (M.aft0 f1) (fun _ V2 M2 f2 => ⟨fun _ => next S V2 _ _ k n (by omega) (by omega) (by omega) (C1.aft f2) M2, fun q => absurd rfl q⟩) (fun q => absurd c q)⟩) (fun c => ⟨ko, md_push M (fun q => absurd q c) (fun _ => ⟨fun _ => same, fun q => absurd rfl q⟩)⟩)
    · -- chase
      exact cl_chase C (fun c V1 C1 f1 => ⟨ko, md_chase (M.aft0 f1) (fun _ V2 M2 f2 => ⟨fun _ => next S V2 _ _ k n (by omega) (by omega) (by omega) (C1.aft f2) M2, fun q => absurd rfl q⟩) (fun q => absurd c q)⟩) (fun c => ⟨ko, md_chase M (fun q => absurd q c) (fun _ => ⟨fun _ => same, fun q => absurd rfl q⟩)⟩)
    · -- undo
      exact cl_undo C w9 (fun c V1 C1 f1 => ⟨ko, md_undo (M.aft0 f1) (fun _ V2 M2 f2 => ⟨fun _ => next S V2 _ _ k n (by omega) (by omega) (by omega) (C1.aft f2) M2, fun q => absurd rfl q⟩) (fun q => by omega)⟩) (fun c => ⟨ko, md_undo M (fun q => by omega) (fun _ => ⟨fun _ => same, fun q => absurd rfl q⟩)⟩)
    · -- keep
      exact cl_keep C w9 hS ⟨by omega, by omega⟩ (fun S1 V1 ex C1 f1 => ⟨(M.ext ex).mo.ko, kn', md_keep (M.aft ex f1) (fun V2 M2 f2 => ⟨fun _ => next S1 V2 _ _ _ _ (by omega) (by omega) (by omega) (C1.aft f2) M2, fun q => absurd rfl q⟩)⟩)
    · -- back
      refine cl_back C w9 (fun K1 c V1 C1 f1 => ⟨ko, md_back (M.aft0 f1) (fun K2 c2 V2 M2 f2 => ⟨fun _ => ?_, fun q => absurd rfl q⟩) (fun q => by rw [c] at q; cases q)⟩) (fun c => ⟨ko, md_back M (fun K2 q => by rw [c] at q; cases q) (fun _ => ⟨fun _ => same, fun q => absurd rfl q⟩)⟩)
      have e : K1 = K2 := Option.some.inj (c.symm.trans c2)
      rw [← e] at M2
      exact next S V2 _ _ k n (by omega) (by omega) (by omega) (C1.aft f2) M2
    · exact cl_count C ⟨ko, md_count M ⟨fun _ => same, fun q => absurd rfl q⟩⟩
    · exact cl_shown C ⟨ko, md_shown M ⟨fun _ => same, fun q => absurd rfl q⟩⟩
    · exact cl_step C ⟨ko, md_step M ⟨fun _ => same, fun q => absurd rfl q⟩⟩
    · -- can
      exact cl_can C hS ⟨fun _ => ⟨by omega, by omega⟩, by omega, by omega⟩ (fun S1 V1 d y ex hd hc C1 f1 => ⟨(M.ext ex).mo.ko, kn', md_can (M.aft ex f1) (fun V2 d2 y2 hd2 hc2 M2 f2 => ⟨fun _ => next S1 V2 _ _ _ _ (by omega) (by omega) (by omega) (C1.aft f2) (M2.reT rfl rfl rfl (zCan.uniq hd hd2 hc hc2)), fun q => absurd rfl q⟩) (fun V2 d2 y2 no _ _ _ _ => absurd ⟨_, hc.1⟩ no)⟩) (fun S1 V1 d y no ex hd hy C1 f1 => ⟨(M.ext ex).mo.ko, kn', md_can (M.aft ex f1) (fun V2 d2 y2 _ hc2 _ _ => absurd ⟨_, hc2.1⟩ no) (fun V2 d2 y2 _ hd2 hy2 M2 f2 => ⟨fun _ => next S1 V2 _ _ _ _ (by omega) (by omega) (by omega) (C1.aft f2) (M2.reT rfl rfl rfl (zWhy.uniq hd hd2 hy hy2)), fun q => absurd rfl q⟩)⟩)
    · -- next
      exact cl_next C hS (fun _ => ⟨by omega, by omega⟩) (fun c => ⟨ko, kn', md_next M (fun _ => ⟨fun _ => next S V _ _ _ _ (by omega) (by omega) (by omega) C M, fun q => absurd rfl q⟩) (fun q => by omega) (fun q => by omega)⟩) (fun c S1 V1 d ex hd hn C1 f1 => ⟨(M.ext ex).mo.ko, kn', md_next (M.aft ex f1) (fun q => by omega) (fun _ V2 d2 hd2 hn2 M2 f2 => ⟨fun _ => next S1 V2 _ _ _ _ (by omega) (by omega) (by omega) (C1.aft f2) M2, fun q => absurd rfl q⟩) (fun _ V2 d2 y2 hd2 nx _ _ => (zNx.no hd2 hd (fun _ _ _ => rfl) nx hn).elim)⟩) (fun c S1 V1 d y ex hd nx C1 f1 => ⟨(M.ext ex).mo.ko, kn', md_next (M.aft ex f1) (fun q => by omega) (fun _ V2 d2 hd2 hn _ _ => (zNx.no hd hd2 (fun _ _ _ => rfl) nx hn).elim) (fun _ V2 d2 y2 hd2 nx2 M2 f2 => ⟨fun _ => next S1 V2 _ _ _ _ (by omega) (by omega) (by omega) (C1.aft f2) (M2.reT rfl rfl rfl (zNx.uniq (zQu_lat _) hd hd2 (fun _ _ _ => rfl) nx nx2)), fun q => absurd rfl q⟩)⟩)
    · exact cl_row C ⟨ko, md_row M ⟨fun _ => same, fun q => absurd rfl q⟩⟩
    · -- primes
      exact cl_primes C hS (fun _ => ⟨by omega, by omega⟩) (fun hp hw S1 V1 d ex hd C1 f1 => ⟨z1, r1, z2, r2, (M.ext ex).mo.ko, kn', md_primes (M.aft ex f1) (fun _ _ V2 y hy M2 f2 => ⟨fun _ => next S1 V2 _ _ _ _ (by omega) (by omega) (by omega) (C1.aft f2) M2, fun q => q (hy d hd).symm⟩) (fun q => absurd ⟨hp, hw⟩ q)⟩) (fun c => ⟨z1, r1, z2, r2, ko, kn', md_primes M (fun hp hw => absurd ⟨hp, hw⟩ c) (fun _ => ⟨fun _ => next S V _ _ _ _ (by omega) (by omega) (by omega) C M, fun q => absurd rfl q⟩)⟩)
    · -- base
      exact cl_base C hS ⟨fun _ => ⟨by omega, by omega⟩, by omega, by omega⟩ (fun c S1 V1 d ex hd C1 f1 => ⟨z1, r1, (M.ext ex).mo.ko, kn', md_base (M.aft ex f1) (fun _ V2 d2 hd2 M2 f2 => ⟨fun _ => next S1 V2 _ _ _ _ (by omega) (by omega) (by omega) (C1.aft f2) M2, fun q => absurd (zBase.congr (hd.uniq hd2)) q⟩) (fun q => by omega) (fun q => absurd (Or.inl c) q)⟩) (fun c S1 V1 d ex hd C1 f1 => ⟨z1, r1, (M.ext ex).mo.ko, kn', md_base (M.aft ex f1) (fun q => by omega) (fun _ V2 d2 hd2 M2 f2 => ⟨fun _ => next S1 V2 _ _ _ _ (by omega) (by omega) (by omega) (C1.aft f2) M2, fun q => absurd (zBase.congr (hd.uniq hd2)) q⟩) (fun q => absurd (Or.inr c) q)⟩) (fun c => ⟨z1, r1, ko, kn', md_base M (fun q => absurd (Or.inl q) c) (fun q => absurd (Or.inr q) c) (fun _ => ⟨fun _ => next S V _ _ _ _ (by omega) (by omega) (by omega) C M, fun q => absurd rfl q⟩)⟩)
    · -- element
      refine cl_element C hS ⟨fun _ => ⟨by omega, by omega⟩, by omega, by omega⟩ (fun c c0 S1 V1 d j R ex hd hj hR C1 f1 => ⟨z1, r1, z2, r2, (M.ext ex).mo.ko, kn', md_element (M.aft ex f1) (fun _ _ V2 d2 j2 R2 hd2 hj2 hR2 M2 f2 => ⟨fun _ => ?_, fun q => absurd rfl q⟩) (fun _ _ V2 d2 hd2 hb _ _ => ?_) (fun q => by omega) (fun q => by omega) (fun q => absurd ⟨c0, Or.inl c⟩ q)⟩) (fun c c0 S1 V1 d ex hd hb C1 f1 => ⟨z1, r1, z2, r2, (M.ext ex).mo.ko, kn', md_element (M.aft ex f1) (fun _ _ V2 d2 j2 R2 hd2 hj2 _ _ _ => ?_) (fun _ _ V2 d2 hd2 hb2 M2 f2 => ⟨fun _ => next S1 V2 _ _ _ _ (by omega) (by omega) (by omega) (C1.aft f2) M2, fun q => absurd rfl q⟩) (fun q => by omega) (fun q => by omega) (fun q => absurd ⟨c0, Or.inl c⟩ q)⟩) (fun c c0 S1 V1 d j R ex hd hj hR C1 f1 => ⟨z1, r1, z2, r2, (M.ext ex).mo.ko, kn', md_element (M.aft ex f1) (fun q => by omega) (fun q => by omega) (fun _ _ V2 d2 j2 R2 hd2 hj2 hR2 M2 f2 => ⟨fun _ => ?_, fun q => absurd rfl q⟩) (fun _ _ V2 d2 hd2 hb _ _ => ?_) (fun q => absurd ⟨c0, Or.inr c⟩ q)⟩) (fun c c0 S1 V1 d ex hd hb C1 f1 => ⟨z1, r1, z2, r2, (M.ext ex).mo.ko, kn', md_element (M.aft ex f1) (fun q => by omega) (fun q => by omega) (fun _ _ V2 d2 j2 R2 hd2 hj2 _ _ _ => ?_) (fun _ _ V2 d2 hd2 hb2 M2 f2 => ⟨fun _ => next S1 V2 _ _ _ _ (by omega) (by omega) (by omega) (C1.aft f2) M2, fun q => absurd rfl q⟩) (fun q => absurd ⟨c0, Or.inr c⟩ q)⟩) (fun c => ⟨z1, r1, z2, r2, ko, kn', md_element M (fun q q0 => absurd ⟨q0, Or.inl q⟩ c) (fun q q0 => absurd ⟨q0, Or.inl q⟩ c) (fun q q0 => absurd ⟨q0, Or.inr q⟩ c) (fun q q0 => absurd ⟨q0, Or.inr q⟩ c) (fun _ V2 M2 f2 => ⟨fun _ => next S V2 _ _ _ _ (by omega) (by omega) (by omega) (C.aft f2) M2, fun q => absurd rfl q⟩)⟩)
      · have e := zAt.uniq (hd.uniq hd2) hj hj2
        subst e
        exact next S1 V2 _ _ _ _ (by omega) (by omega) (by omega) (C1.aft f2) (M2.reT rfl rfl rfl (zElm.uniq (zQu_lat _) hd hd2 hj.1 hR hR2))
      · exfalso
        have := hj.base
        rw [zBase.congr (hd.uniq hd2)] at this
        omega
      · exfalso
        have := hj2.base
        rw [← zBase.congr (hd.uniq hd2)] at this
        omega
      · have e := zAt.uniq (hd.uniq hd2) hj hj2
        subst e
        have eR := zElm.uniq (zWt_lat _) hd hd2 hj.1 hR hR2
        refine next S1 V2 _ _ _ _ (by omega) (by omega) (by omega) (C1.aft f2) (M2.reT rfl rfl rfl (fun l p q => ?_))
        have q' : l < pn (gP s) := q
        exact eR (pn (gP s) - 1 - l) (by omega) (by omega)
      · exfalso
        have := hj.base
        rw [zBase.congr (hd.uniq hd2)] at this
        omega
      · exfalso
        have := hj2.base
        rw [← zBase.congr (hd.uniq hd2)] at this
        omega
    · -- least
      refine cl_least C hS ⟨fun _ => ⟨by omega, by omega⟩, by omega, by omega⟩ (fun no S1 V1 ex C1 f1 => ⟨(M.ext ex).mo.ko, kn', md_least (M.aft ex f1) (fun _ V2 M2 f2 => ⟨fun _ => next S1 V2 _ _ _ _ (by omega) (by omega) (by omega) (C1.aft f2) M2, fun q => absurd rfl q⟩) (fun q => absurd q no) (fun V2 d2 y2 _ _ hy2 _ _ => absurd ⟨_, hy2.1⟩ no)⟩) (fun yes S1 V1 d ex hd hm C1 f1 => ⟨(M.ext ex).mo.ko, kn', md_least (M.aft ex f1) (fun q => absurd yes q) (fun _ V2 d2 hd2 hm2 M2 f2 => ⟨fun _ => next S1 V2 _ _ _ _ (by omega) (by omega) (by omega) (C1.aft f2) M2, fun q => absurd rfl q⟩) (fun V2 d2 y2 hd2 hm2 _ _ _ => ?_)⟩) (fun S1 V1 d y ex hd hm hy C1 f1 => ⟨(M.ext ex).mo.ko, kn', md_least (M.aft ex f1) (fun q => absurd ⟨_, hy.1⟩ q) (fun _ V2 d2 hd2 hm2 _ _ => ?_) (fun V2 d2 y2 hd2 hm2 hy2 M2 f2 => ⟨fun _ => next S1 V2 _ _ _ _ (by omega) (by omega) (by omega) (C1.aft f2) (M2.reT rfl rfl rfl (hy.uniq ok hy2).2), fun q => absurd (hy.uniq ok hy2).1 q⟩)⟩)
      · exfalso
        rw [zMany.congr o4.1 (hd.uniq hd2)] at hm
        omega
      · exfalso
        rw [zMany.congr o4.1 (hd.uniq hd2)] at hm
        omega
    · -- worst
      exact cl_worst C hS ⟨fun _ => ⟨by omega, by omega⟩, by omega, by omega⟩ (fun c S1 V1 ex C1 f1 => ⟨(M.ext ex).mo.ko, kn', md_worst (M.aft ex f1) (fun _ V2 M2 f2 => ⟨fun _ => next S1 V2 _ _ _ _ (by omega) (by omega) (by omega) (C1.aft f2) M2, fun q => absurd rfl q⟩) (fun q => by omega)⟩) (fun c S1 V1 g p ex hp C1 f1 => ⟨(M.ext ex).mo.ko, kn', md_worst (M.aft ex f1) (fun q => by omega) (fun _ V2 g2 p2 hp2 M2 f2 => ⟨fun _ => next S1 V2 _ _ _ _ (by omega) (by omega) (by omega) (C1.aft f2) (M2.reT rfl rfl rfl (hp.uniq ok hp2).2), fun q => absurd (hp.uniq ok hp2).1 q⟩)⟩)
    · -- apply
      exact cl_apply C (fun c V1 C1 f1 => ⟨ko, md_apply (M.aft0 f1) (fun _ V2 M2 f2 => ⟨fun _ => next S V2 _ _ k n (by omega) (by omega) (by omega) (C1.aft f2) M2, fun q => absurd rfl q⟩) (fun q => absurd c q)⟩) (fun c => ⟨ko, md_apply M (fun q => absurd q c) (fun _ => ⟨fun _ => same, fun q => absurd rfl q⟩)⟩)
    · -- tell
      exact cl_tell C (fun c V1 C1 f1 => ⟨ko, md_tell (M.aft0 f1) (fun _ V2 M2 f2 => ⟨fun _ => next S V2 _ _ k n (by omega) (by omega) (by omega) (C1.aft f2) M2, fun q => absurd rfl q⟩) (fun q => absurd c q)⟩) (fun c => ⟨ko, md_tell M (fun q => absurd q c) (fun _ => ⟨fun _ => same, fun q => absurd rfl q⟩)⟩)
    · -- check
      exact cl_check C (fun c V1 a1 hc1 C1 f1 => ⟨ko, md_check (M.aft0 f1) (fun _ V2 a2 hc2 M2 f2 => ⟨fun _ => next S V2 _ _ k n (by omega) (by omega) (by omega) (C1.aft f2) M2, fun q => absurd (hc1.uniq hc2) q⟩) (fun q => absurd c q)⟩) (fun c => ⟨ko, md_check M (fun q => absurd q c) (fun _ => ⟨fun _ => same, fun q => absurd rfl q⟩)⟩)
end LAW
