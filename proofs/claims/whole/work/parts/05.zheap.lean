/-! THE Z KIT, part 4: the heap -/
section ZHEAP
variable {E : zE} {X : zX} {R : Room} {M : zM} {Q : State → Prop} {k n pc : Nat} {L : List (Nat × zV)} {st : List zV} {S : zS} {V : zH}
theorem zclamp {j : Int} (h : z32 j) : (Int32.ofInt j).toNatClampNeg = j.toNat := by
  show (Int32.ofInt j).toInt.toNat = _
  rw [z32_toInt h]
theorem zneg {j : Int} (hj : z32 j) (h : 0 ≤ j) : ¬ Int32.ofInt j < 0 := by
  rw [Int32.lt_iff_toInt_lt, z32_toInt hj]
  simpa using h
theorem zKI (C : zC E X M) : ArrOfT (zXs X) (zEI E) .int := (C.2.2.2.2.2.2.2.1.2 0 _ rfl).1
theorem zKJ (C : zC E X M) : ArrOfT (zXs X) (zEJ E) .long := (C.2.2.2.2.2.2.2.1.2 1 _ rfl).1
theorem zR.int {H : Heap} (hR : zR E S V H) {r N : Int} (hk : S r = (1, N)) : 0 < r ∧ zEb E ≤ (r - 1).toNat ∧ 0 ≤ N ∧ N < 2147483648 ∧ H[(r - 1).toNat]? = some (arrV (zEI E) N.toNat (fun j => .int (Int32.ofInt (V r j)))) ∧ ∀ j : Int, 0 ≤ j → j < N → z32 (V r j) := by
  obtain ⟨h1, h2, h3⟩ := hR.1 r (by rw [hk]; show ¬ (1 : Int) = 0; decide)
  rw [hk] at h3
  rcases h3 with ⟨c1, c2, c3, c4, c5⟩ | ⟨c1, -⟩ | ⟨ci, q, c1, -⟩
  · exact ⟨h1, h2, c2, c3, c4, c5⟩
  · exact absurd c1 (by show ¬ (1 : Int) = 2; decide)
  · exact absurd c1 (by show ¬ (1 : Int) = 3 + (ci : Int); omega)
theorem zR.long {H : Heap} (hR : zR E S V H) {r N : Int} (hk : S r = (2, N)) : 0 < r ∧ zEb E ≤ (r - 1).toNat ∧ 0 ≤ N ∧ N < 2147483648 ∧ H[(r - 1).toNat]? = some (arrV (zEJ E) N.toNat (fun j => .long (Int64.ofInt (V r j)))) ∧ ∀ j : Int, 0 ≤ j → j < N → z64 (V r j) := by
  obtain ⟨h1, h2, h3⟩ := hR.1 r (by rw [hk]; show ¬ (2 : Int) = 0; decide)
  rw [hk] at h3
  rcases h3 with ⟨c1, -⟩ | ⟨c1, c2, c3, c4, c5⟩ | ⟨ci, q, c1, -⟩
  · exact absurd c1 (by show ¬ (2 : Int) = 1; decide)
  · exact ⟨h1, h2, c2, c3, c4, c5⟩
  · exact absurd c1 (by show ¬ (2 : Int) = 3 + (ci : Int); omega)
theorem zR.obj {H : Heap} (hR : zR E S V H) {r N : Int} {ci : Nat} {q : vw_C} (hk : S r = (3 + (ci : Int), N)) (hq : vwCl[ci]? = some q) : 0 < r ∧ zEb E ≤ (r - 1).toNat ∧ t_OB (r - 1).toNat ((zED E).1 ci) q.2.2 ((zED E).2 ci) H (fun j => zfv (zty ci j) (V r j)) ∧ ∀ j : Nat, j < q.2.2 → zfok (zty ci j) (V r j) := by
  obtain ⟨h1, h2, h3⟩ := hR.1 r (by rw [hk]; show ¬ (3 + (ci : Int)) = 0; omega)
  rw [hk] at h3
  rcases h3 with ⟨c1, -⟩ | ⟨c1, -⟩ | ⟨ci', q', c1, c2, c3, c4⟩
  · exact absurd c1 (by show ¬ (3 + (ci : Int)) = 1; omega)
  · exact absurd c1 (by show ¬ (3 + (ci : Int)) = 2; omega)
  · have e : ci' = ci := by have : (3 + (ci : Int)) = 3 + (ci' : Int) := c1; omega
    subst e
    rw [hq] at c2
    cases c2
    exact ⟨h1, h2, c3, c4⟩
theorem z_iaload {r N j : Int} (hd : decode (zMb M) pc = .ok (.iaload, 1)) (hk : S r = (1, N)) (h0 : 0 ≤ j) (h1 : j < N) (h : Zr E X R M Q k n (pc + 1) L (ziv (V r j) :: st) S V) : Zr E X R M Q k n pc L (ziv j :: zrv r :: st) S V := by
  intro C H locs ls hR hS hl hL hst
  obtain ⟨g1, g2, g3, g4, g5, g6⟩ := hR.int hk
  have hj : z32 j := zhead hst
  have e : zcv (zrv r) = .ref (r - 1).toNat := zref_pos g1
  rw [List.map_cons, List.map_cons, e]
  have hlt : j.toNat < N.toNat := by omega
  refine W.iald (v := .int (Int32.ofInt (V r j))) C.1 C.2.1 g5 (zKI C _ _) (fun q => by cases q) (by rw [arrV_size, zclamp hj]; exact fun a => a.elim (zneg hj h0) (fun a => by omega)) (by rw [zclamp hj, arrV_read _ _ hlt]; congr 4; omega) rfl rfl hd ?_
  exact h C H locs ls hR hS hl hL (zall (g6 j h0 h1) (ztl2 hst))
theorem z_laload {r N j : Int} (hd : decode (zMb M) pc = .ok (.laload, 1)) (hk : S r = (2, N)) (h0 : 0 ≤ j) (h1 : j < N) (h : Zr E X R M Q k n (pc + 1) L (zjv (V r j) :: st) S V) : Zr E X R M Q k n pc L (ziv j :: zrv r :: st) S V := by
  intro C H locs ls hR hS hl hL hst
  obtain ⟨g1, g2, g3, g4, g5, g6⟩ := hR.long hk
  have hj : z32 j := zhead hst
  have e : zcv (zrv r) = .ref (r - 1).toNat := zref_pos g1
  rw [List.map_cons, List.map_cons, e]
  have hlt : j.toNat < N.toNat := by omega
  refine W.lald (v := .long (Int64.ofInt (V r j))) C.1 C.2.1 g5 (zKJ C _ _) (fun q => by cases q) (by rw [arrV_size, zclamp hj]; exact fun a => a.elim (zneg hj h0) (fun a => by omega)) (by rw [zclamp hj, arrV_read _ _ hlt]; congr 4; omega) rfl rfl hd ?_
  exact h C H locs ls hR hS hl hL (zall (g6 j h0 h1) (ztl2 hst))
theorem zS_put {A : Nat → Prop} {H0 H H1 : Heap} {locs : List Loc} (hS : va_S A H0 H locs) {a i : Nat} (hz : H1.size = H.size) (ho : ∀ q, q ≠ a → H1[q]? = H[q]?) (ha : A a) : va_S A H0 H1 (locs ++ [⟨a, i⟩]) := hS.put hz ho ha
theorem z_iastore {r N j x : Int} (hd : decode (zMb M) pc = .ok (.iastore, 1)) (hk : S r = (1, N)) (h0 : 0 ≤ j) (h1 : j < N) (h : Zr E X R M Q k n (pc + 1) L st S (zput V r j x)) : Zr E X R M Q k n pc L (ziv x :: ziv j :: zrv r :: st) S V := by
  intro C H locs ls hR hS hl hL hst
  obtain ⟨g1, g2, g3, g4, g5, g6⟩ := hR.int hk
  have hx : z32 x := zhead hst
  have hj : z32 j := zsnd hst
  have e : zcv (zrv r) = .ref (r - 1).toNat := zref_pos g1
  rw [List.map_cons, List.map_cons, List.map_cons, e]
  refine W.iast C.1 C.2.1 g5 (zKI C _ _) (fun q => by cases q) (by rw [arrV_size, zclamp hj]; exact fun a => a.elim (zneg hj h0) (fun a => by omega)) rfl rfl hd fun H1 e1 z1 o1 => ?_
  rw [zclamp hj, arrV_store] at e1
  refine h C H1 _ ls (hR.put g1 ?_ (fun q hq => zput_row V j x hq) o1 z1) (hS.put z1 o1 g2) hl hL (ztail (ztl2 hst))
  rw [hk]
  refine Or.inl ⟨rfl, g3, g4, ?_, fun i i0 i1 => ?_⟩
  · rw [e1]
    congr 2
    funext q
    by_cases hq : q = j.toNat
    · subst hq
      have : ((j.toNat : Nat) : Int) = j := by omega
      simp [updV, zput, this]
    · have : ¬ (q : Int) = j := by omega
      simp [updV, zput, hq, this]
  · by_cases hi : i = j
    · subst hi
      rw [zput_self]; exact hx
    · rw [zput_nk V r x r hi]; exact g6 i i0 i1
theorem z_lastore {r N j x : Int} (hd : decode (zMb M) pc = .ok (.lastore, 1)) (hk : S r = (2, N)) (h0 : 0 ≤ j) (h1 : j < N) (h : Zr E X R M Q k n (pc + 1) L st S (zput V r j x)) : Zr E X R M Q k n pc L (zjv x :: ziv j :: zrv r :: st) S V := by
  intro C H locs ls hR hS hl hL hst
  obtain ⟨g1, g2, g3, g4, g5, g6⟩ := hR.long hk
  have hx : z64 x := zhead hst
  have hj : z32 j := zsnd hst
  have e : zcv (zrv r) = .ref (r - 1).toNat := zref_pos g1
  rw [List.map_cons, List.map_cons, List.map_cons, e]
  refine W.last C.1 C.2.1 g5 (zKJ C _ _) (fun q => by cases q) (by rw [arrV_size, zclamp hj]; exact fun a => a.elim (zneg hj h0) (fun a => by omega)) rfl rfl hd fun H1 e1 z1 o1 => ?_
  rw [zclamp hj, arrV_store] at e1
  refine h C H1 _ ls (hR.put g1 ?_ (fun q hq => zput_row V j x hq) o1 z1) (hS.put z1 o1 g2) hl hL (ztail (ztl2 hst))
  rw [hk]
  refine Or.inr (Or.inl ⟨rfl, g3, g4, ?_, fun i i0 i1 => ?_⟩)
  · rw [e1]
    congr 2
    funext q
    by_cases hq : q = j.toNat
    · subst hq
      have : ((j.toNat : Nat) : Int) = j := by omega
      simp [updV, zput, this]
    · have : ¬ (q : Int) = j := by omega
      simp [updV, zput, hq, this]
  · by_cases hi : i = j
    · subst hi
      rw [zput_self]; exact hx
    · rw [zput_nk V r x r hi]; exact g6 i i0 i1
theorem z_alen1 {r N : Int} (hd : decode (zMb M) pc = .ok (.arraylength, 1)) (hk : S r = (1, N)) (h : Zr E X R M Q k n (pc + 1) L (ziv N :: st) S V) : Zr E X R M Q k n pc L (zrv r :: st) S V := by
  intro C H locs ls hR hS hl hL hst
  obtain ⟨g1, g2, g3, g4, g5, g6⟩ := hR.int hk
  have e : zcv (zrv r) = .ref (r - 1).toNat := zref_pos g1
  rw [List.map_cons, e]
  have hN : z32 N := by unfold z32; omega
  refine W.alen (n := Int32.ofInt N) C.1 C.2.1 g5 (zKI C _ _) ?_ rfl rfl hd (h C H locs ls hR hS hl hL (zall hN (ztail hst)))
  rw [arrV_size]
  have e2 : (N.toNat : Int) = N := by omega
  show Int32.ofNat N.toNat = _
  rw [← Int32.ofInt_eq_ofNat, e2]
theorem z_alen2 {r N : Int} (hd : decode (zMb M) pc = .ok (.arraylength, 1)) (hk : S r = (2, N)) (h : Zr E X R M Q k n (pc + 1) L (ziv N :: st) S V) : Zr E X R M Q k n pc L (zrv r :: st) S V := by
  intro C H locs ls hR hS hl hL hst
  obtain ⟨g1, g2, g3, g4, g5, g6⟩ := hR.long hk
  have e : zcv (zrv r) = .ref (r - 1).toNat := zref_pos g1
  rw [List.map_cons, e]
  have hN : z32 N := by unfold z32; omega
  refine W.alen (n := Int32.ofInt N) C.1 C.2.1 g5 (zKJ C _ _) ?_ rfl rfl hd (h C H locs ls hR hS hl hL (zall hN (ztail hst)))
  rw [arrV_size]
  have e2 : (N.toNat : Int) = N := by omega
  show Int32.ofNat N.toNat = _
  rw [← Int32.ofInt_eq_ofNat, e2]
end ZHEAP
