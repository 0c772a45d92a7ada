/-! THE Z KIT, part 5: fields, new cells, copies -/
section ZOBJ
variable {E : zE} {X : zX} {R : Room} {M : zM} {Q : State → Prop} {k n pc : Nat} {L : List (Nat × zV)} {st : List zV} {S : zS} {V : zH}
/-- a field's value as it stands on the stack: by its type -/
def zfs (ty : FieldType) (x : Int) : zV := match ty with
  | .object _ => zrv x
  | .array _ => zrv x
  | .long => zjv x
  | _ => ziv x
theorem zfs_cv (ty : FieldType) (x : Int) : zcv (zfs ty x) = zfv ty x := by cases ty <;> rfl
theorem zfs_ok {ty : FieldType} {x : Int} (h : zfok ty x) : zok (zfs ty x) := by
  cases ty <;> first | exact h | skip
  rcases h with rfl | rfl <;> (show z32 _; unfold z32; omega)
theorem z_get {r N : Int} {ci index : Nat} {q : vw_C} (j : Nat) {v : zV} (hd : decode (zMb M) pc = .ok (.getfield index, 3)) (hk : S r = (3 + (ci : Int), N)) (hq : vwCl[ci]? = some q) (hj : j < q.2.2) (hin : ∀ w ∈ u_ws q.1 q.2.1 q.2.2, w ∈ ztbl)
    (hlink : Cond.fieldLink (zMy M).cls index (q.2.1 j).1 (q.2.1 j).2.1 (q.2.1 j).2.2.1 ∈ ztbl) (hv : zfs (zty ci j) (V r j) = v) (h : Zr E X R M Q k n (pc + 3) L (v :: st) S V) : Zr E X R M Q k n pc L (zrv r :: st) S V := by
  intro C H locs ls hR hS hl hL hst
  obtain ⟨g1, g2, ⟨cell, c1, c2, c3, c4⟩, g4⟩ := hR.obj hk hq
  have e : zcv (zrv r) = .ref (r - 1).toNat := zref_pos g1
  rw [List.map_cons, e]
  obtain ⟨hKS, hfc, kC, hkC, hkind⟩ := C.2.2.2.2.2.2.2.1.1 ci _ hq
  obtain ⟨cf, kf, fi, f, hi, hsl⟩ := hKS j hj
  have hts := C.2.2.2.2.2.2.1
  refine W.getf C.1 C.2.1 C.2.2.2.2.1 (hts _ hlink) hi (u_facts hfc hkC (u_lays hts hin hj) hi).1 c1 (by rw [c3]; exact fun h => by cases h) (v := zcv v) ?_ rfl rfl hd ?_
  · rw [hsl, c4 j hj, ← hv, zfs_cv]
  · exact h C H locs ls hR hS hl hL (zall (by rw [← hv]; exact zfs_ok (g4 j hj)) (ztail hst))
theorem zfok_fits {ty : FieldType} {x : Int} (hty : ty = .int ∨ ty = .boolean ∨ (∃ s, ty = .object s) ∨ ∃ s, ty = .array s) (h : zfok ty x) : narrow ty (zfv ty x) = zfv ty x ∧ fits ty (zfv ty x) = true := by
  rcases hty with rfl | rfl | ⟨s, rfl⟩ | ⟨s, rfl⟩
  · exact ⟨rfl, rfl⟩
  · rcases h with rfl | rfl <;> exact ⟨by decide, by decide⟩
  · show narrow _ (zref x) = zref x ∧ fits _ (zref x) = true
    unfold zref
    split <;> exact ⟨rfl, rfl⟩
  · show narrow _ (zref x) = zref x ∧ fits _ (zref x) = true
    unfold zref
    split <;> exact ⟨rfl, rfl⟩
theorem z_apart (C : zC E X M) {ci : Nat} {q : vw_C} (hq : vwCl[ci]? = some q) (hin : ∀ w ∈ u_ws q.1 q.2.1 q.2.2, w ∈ ztbl) (hty : ∀ k, k < q.2.2 → parseFieldDescriptor (q.2.1 k).2.2.1 = some (zty ci k)) (hnm : ∀ a, a < q.2.2 → ∀ b, b < q.2.2 → a ≠ b → (q.2.1 a).2.1 ≠ (q.2.1 b).2.1) :
    ∀ x y, x < q.2.2 → y < q.2.2 → x ≠ y → ((zED E).2 ci) x ≠ ((zED E).2 ci) y :=
  va_apart (own := "") C.2.2.2.2.2.2.1 hin (zty ci) hty hnm C.2.2.2.2.2.2.2.1 hq
theorem zcell_put {r N : Int} {ci : Nat} {q : vw_C} {H1 : Heap} {cell : Cell} (j : Nat) {x : Int} (hk : S r = (3 + (ci : Int), N)) (hq : vwCl[ci]? = some q) (hj : j < q.2.2) (hap : ∀ x y, x < q.2.2 → y < q.2.2 → x ≠ y → ((zED E).2 ci) x ≠ ((zED E).2 ci) y)
    (c2 : cell.cls = (zED E).1 ci) (c3 : cell.vm = .none) (c4 : ∀ k, k < q.2.2 → cell.slots[(zED E).2 ci k]? = some (zfv (zty ci k) (V r k))) (g4 : ∀ j : Nat, j < q.2.2 → zfok (zty ci j) (V r j)) (hx : zfok (zty ci j) x) (e1 : H1[(r - 1).toNat]? = some (cell.setSlot ((zED E).2 ci j) (zfv (zty ci j) x))) :
    zcell E (S r) (zput V r j x r) (r - 1).toNat H1 := by
  rw [hk]
  refine Or.inr (Or.inr ⟨ci, q, rfl, hq, ⟨_, e1, c2, c3, fun i hi => ?_⟩, fun i hi => ?_⟩)
  · rw [t_set c4 hap hj (zfv (zty ci j) x) i hi]
    by_cases hij : i = j
    · subst hij
      simp [updV, zput]
    · have : ¬ (i : Int) = (j : Int) := by omega
      simp [updV, zput, hij, this]
  · by_cases hij : i = j
    · subst hij
      rw [zput_self]; exact hx
    · rw [zput_nk V r x r (by omega)]; exact g4 i hi
theorem z_put {r N x : Int} {ci index : Nat} {q : vw_C} (j : Nat) {v : zV} (hd : decode (zMb M) pc = .ok (.putfield index, 3)) (hk : S r = (3 + (ci : Int), N)) (hq : vwCl[ci]? = some q) (hj : j < q.2.2) (hin : ∀ w ∈ u_ws q.1 q.2.1 q.2.2, w ∈ ztbl)
    (hty : ∀ k, k < q.2.2 → parseFieldDescriptor (q.2.1 k).2.2.1 = some (zty ci k)) (hnm : ∀ a, a < q.2.2 → ∀ b, b < q.2.2 → a ≠ b → (q.2.1 a).2.1 ≠ (q.2.1 b).2.1)
    (hlink : Cond.fieldLink (zMy M).cls index (q.2.1 j).1 (q.2.1 j).2.1 (q.2.1 j).2.2.1 ∈ ztbl) (hfin : (q.2.1 j).2.2.2 = false) (hsh : zty ci j = .int ∨ zty ci j = .boolean ∨ (∃ s, zty ci j = .object s) ∨ ∃ s, zty ci j = .array s) (hv : zfs (zty ci j) x = v) (hx : zok v → zfok (zty ci j) x) (h : Zr E X R M Q k n (pc + 3) L st S (zput V r j x)) : Zr E X R M Q k n pc L (v :: zrv r :: st) S V := by
  intro C H locs ls hR hS hl hL hst
  obtain ⟨g1, g2, ⟨cell, c1, c2, c3, c4⟩, g4⟩ := hR.obj hk hq
  have e : zcv (zrv r) = .ref (r - 1).toNat := zref_pos g1
  have ev : zcv v = zfv (zty ci j) x := by rw [← hv, zfs_cv]
  rw [List.map_cons, List.map_cons, e, ev]
  obtain ⟨hKS, hfc, kC, hkC, hkind⟩ := C.2.2.2.2.2.2.2.1.1 ci _ hq
  obtain ⟨cf, kf, fi, f, hi, hsl⟩ := hKS j hj
  have hts := C.2.2.2.2.2.2.1
  have hap := z_apart C hq hin hty hnm
  have hlay := hts _ (hin _ (u_in_lay hj))
  unfold u_lay at hlay
  rw [if_neg (by rw [hfin]; decide)] at hlay
  have hst' := (u_facts hfc hkC (u_lays hts hin hj) hi).1
  have hx' := hx (zhead hst)
  have hf := zfok_fits hsh hx'
  have h6 := u_store hfc hkC hkind hlay hi (hty j hj) hf.1 hf.2
  refine W.putK C.1 C.2.1 (f := f) ⟨C.2.2.2.2.1, hts _ hlink, ⟨_, _, _, hi⟩, hst'⟩ (by rw [c2]; exact h6) c1 c3 (by rw [hsl]; exact k2_hasslot (c4 j hj)) rfl rfl hd fun H' e1 e2 e3 => ?_
  rw [hsl] at e1 ⊢
  exact h C H' _ ls (hR.put g1 (zcell_put j hk hq hj hap c2 c3 c4 g4 hx' e1) (fun q hq => zput_row V j x hq) e3 e2) (hS.put e2 e3 g2) hl hL (ztl2 hst)
theorem z_putF {r N x : Int} {ci index : Nat} {q : vw_C} (j : Nat) {v : zV} (hd : decode (zMb M) pc = .ok (.putfield index, 3)) (hk : S r = (3 + (ci : Int), N)) (hq : vwCl[ci]? = some q) (hj : j < q.2.2) (hin : ∀ w ∈ u_ws q.1 q.2.1 q.2.2, w ∈ ztbl)
    (hty : ∀ k, k < q.2.2 → parseFieldDescriptor (q.2.1 k).2.2.1 = some (zty ci k)) (hnm : ∀ a, a < q.2.2 → ∀ b, b < q.2.2 → a ≠ b → (q.2.1 a).2.1 ≠ (q.2.1 b).2.1)
    (hlink : Cond.fieldLink (zMy M).cls index (q.2.1 j).1 (q.2.1 j).2.1 (q.2.1 j).2.2.1 ∈ ztbl) (hfin : (q.2.1 j).2.2.2 = true) (hin2 : (zMy M).name = "<init>") (hdecl : (q.2.1 j).1 = (zMy M).cls) (hsh : zty ci j = .int ∨ zty ci j = .boolean ∨ (∃ s, zty ci j = .object s) ∨ ∃ s, zty ci j = .array s) (hv : zfs (zty ci j) x = v) (hx : zok v → zfok (zty ci j) x) (h : Zr E X R M Q k n (pc + 3) L st S (zput V r j x)) : Zr E X R M Q k n pc L (v :: zrv r :: st) S V := by
  intro C H locs ls hR hS hl hL hst
  obtain ⟨g1, g2, ⟨cell, c1, c2, c3, c4⟩, g4⟩ := hR.obj hk hq
  have e : zcv (zrv r) = .ref (r - 1).toNat := zref_pos g1
  have ev : zcv v = zfv (zty ci j) x := by rw [← hv, zfs_cv]
  rw [List.map_cons, List.map_cons, e, ev]
  obtain ⟨hKS, hfc, kC, hkC, hkind⟩ := C.2.2.2.2.2.2.2.1.1 ci _ hq
  obtain ⟨cf, kf, fi, f, hi, hsl⟩ := hKS j hj
  have hts := C.2.2.2.2.2.2.1
  have hown := C.2.2.2.2.1
  have hap := z_apart C hq hin hty hnm
  have hlay := hts _ (hin _ (u_in_lay hj))
  unfold u_lay at hlay
  rw [if_pos hfin] at hlay
  have hst' := (u_facts hfc hkC (u_lays hts hin hj) hi).1
  have hcf : (zXm X).cls = cf := by
    obtain ⟨_, _, c', _, _, _, -, -, hf', -, -, -, hown2, -⟩ := Cond.laysFinal_spec hlay
    have e1 : c' = cf := by have := hi.symm.trans hf'; simp at this; exact this.1.symm
    rw [hdecl] at hown2
    rw [← e1]; exact Option.some.inj (hown.symm.trans hown2)
  have hx' := hx (zhead hst)
  have hf := zfok_fits hsh hx'
  have h6 := u_fits hfc hkC hkind (Or.inr hlay) hi (hty j hj) hf.1 hf.2
  refine W.putFinK C.1 C.2.1 hown (hts _ hlink) hi hst' hcf (C.2.2.2.2.2.2.2.2.1.trans hin2) (by rw [c2]; exact h6) c1 c3 (by rw [hsl]; exact k2_hasslot (c4 j hj)) rfl rfl hd fun H' e1 e2 e3 => ?_
  rw [hsl] at e1 ⊢
  exact h C H' _ ls (hR.put g1 (zcell_put j hk hq hj hap c2 c3 c4 g4 hx' e1) (fun q hq => zput_row V j x hq) e3 e2) (hS.put e2 e3 g2) hl hL (ztl2 hst)
theorem zdefault {ty : FieldType} (h : ty = .int ∨ ty = .boolean ∨ (∃ s, ty = .object s) ∨ ∃ s, ty = .array s) : defaultValue ty = zfv ty 0 ∧ zfok ty 0 := by
  rcases h with rfl | rfl | ⟨s, rfl⟩ | ⟨s, rfl⟩
  · exact ⟨rfl, z32_0⟩
  · exact ⟨rfl, Or.inl rfl⟩
  · exact ⟨rfl, Int.le_refl 0⟩
  · exact ⟨rfl, Int.le_refl 0⟩
theorem zS_push {A : Nat → Prop} {H0 H H1 : Heap} {locs : List Loc} (hS : va_S A H0 H locs) (hz : H1.size = H.size + 1) (ho : ∀ q, q < H.size → H1[q]? = H[q]?) : va_S A H0 H1 locs :=
  ⟨Nat.le_trans hS.1 (by omega), fun q h1 h2 => (ho q (Nat.lt_of_lt_of_le h1 hS.1)).trans (hS.2.1 q h1 h2), hS.2.2⟩
theorem zref_new (a : Nat) : zcv (zrv ((a : Int) + 1)) = .ref a := by
  show zref ((a : Int) + 1) = .ref a
  rw [zref_pos (by omega), show ((a : Int) + 1 - 1).toNat = a by omega]
theorem z_new {ci index : Nat} {q : vw_C} {N : Int} (hd : decode (zMb M) pc = .ok (.new index, 3)) (hq : vwCl[ci]? = some q) (hN : (q.2.2 : Int) = N) (hin : ∀ w ∈ u_ws q.1 q.2.1 q.2.2, w ∈ ztbl)
    (hty : ∀ k, k < q.2.2 → parseFieldDescriptor (q.2.1 k).2.2.1 = some (zty ci k)) (hsh : ∀ j, j < q.2.2 → (zty ci j = .int ∨ zty ci j = .boolean ∨ (∃ s, zty ci j = .object s) ∨ ∃ s, zty ci j = .array s))
    (hlink : Cond.classLink (zMy M).cls index q.1 ∈ ztbl) (hins : Cond.instantiable q.1 q.2.2 ∈ ztbl) (hini : Cond.initialized q.1 ∈ ztbl) (hcells : k + 1 ≤ R.cells) (hslots : n + q.2.2 ≤ R.slots)
    (h : ∀ r : Int, 0 < r → ((S r).1 = 0 ∧ ∀ q : Int, (S q).1 ≠ 0 → q < r ∧ (S (r - 1)).1 ≠ 0) → Zr E X R M Q (k + 1) (n + q.2.2) (pc + 3) L (zrv r :: st) (zSn S r (3 + (ci : Int), N)) (zVn V r)) : Zr E X R M Q k n pc L st S V := by
  intro C H locs ls hR hS hl hL hst
  have hts := C.2.2.2.2.2.2.1
  have hKn := C.2.2.2.2.2.2.2.1.1 ci _ hq
  have hb : zEb E ≤ H.size := Nat.le_trans C.2.2.2.2.2.2.2.2.2 hS.1
  refine W.newcK C.1 C.2.1 C.2.2.2.2.1 (hts _ hlink) (hts _ hins) (hts _ hini) rfl hd hcells hslots hKn.2.1 rfl fun H1 kC hkC e1 z1 o1 => ?_
  have h2 := h ((H.size : Int) + 1) (by omega) hR.fresh C H1 locs ls (hR.push hb (k := (3 + (ci : Int), N)) (Or.inr (Or.inr ⟨ci, q, rfl, hq, (u_born (zty ci) hts hin hKn hkC e1 hty).to (fun j hj => (zdefault (hsh j hj)).1), fun j hj => (zdefault (hsh j hj)).2⟩)) (by show ¬ (3 + (ci : Int)) = 0; omega) o1 z1) (zS_push hS z1 o1) hl hL (zall (by show (0 : Int) ≤ _; omega) hst)
  have e := zref_new H.size
  rw [List.map_cons, e] at h2
  exact h2
theorem zKIc (C : zC E X M) : (zXs X).vm.findClass ("[" ++ FieldType.int.toString) = some (zEI E) := (C.2.2.2.2.2.2.2.1.2 0 _ rfl).2
theorem zKJc (C : zC E X M) : (zXs X).vm.findClass ("[" ++ FieldType.long.toString) = some (zEJ E) := (C.2.2.2.2.2.2.2.1.2 1 _ rfl).2
theorem z_newi {N : Int} (hd : decode (zMb M) pc = .ok (.newarray .int, 2)) (harr : Cond.arrayClass .int ∈ ztbl) (h0 : 0 ≤ N) (h1 : N < 100000000) (hcells : k + 1 ≤ R.cells) (hslots : n + N.toNat ≤ R.slots)
    (h : ∀ r : Int, 0 < r → ((S r).1 = 0 ∧ ∀ q : Int, (S q).1 ≠ 0 → q < r ∧ (S (r - 1)).1 ≠ 0) → Zr E X R M Q (k + 1) (n + N.toNat) (pc + 2) L (zrv r :: st) (zSn S r (1, N)) (zVn V r)) : Zr E X R M Q k n pc L (ziv N :: st) S V := by
  intro C H locs ls hR hS hl hL hst
  have hN : z32 N := zhead hst
  have hb : zEb E ≤ H.size := Nat.le_trans C.2.2.2.2.2.2.2.2.2 hS.1
  refine va_newaK C.1 C.2.1 (atype := .int) (C.2.2.2.2.2.2.1 _ harr) (n := Int32.ofInt N) (N := N.toNat) rfl hd rfl (zneg hN h0) (zclamp hN) (by show N.toNat * 4 ≤ _; omega) hcells hslots rfl fun H1 cA e1 z1 o1 hAr hNm => ?_
  have ec : cA = zEI E := Option.some.inj (hNm.symm.trans (zKIc C))
  subst ec
  have h2 := h ((H.size : Int) + 1) (by omega) hR.fresh C H1 locs ls (hR.push hb (k := (1, N)) (Or.inl ⟨rfl, h0, by show N < _; omega, e1, fun _ _ _ => z32_0⟩) (by show ¬ (1 : Int) = 0; decide) o1 z1) (zS_push hS z1 o1) hl hL (zall (by show (0 : Int) ≤ _; omega) (ztail hst))
  have e := zref_new H.size
  rw [List.map_cons, e] at h2
  exact h2
theorem z_newl {N : Int} (hd : decode (zMb M) pc = .ok (.newarray .long, 2)) (harr : Cond.arrayClass .long ∈ ztbl) (h0 : 0 ≤ N) (h1 : N < 60000000) (hcells : k + 1 ≤ R.cells) (hslots : n + N.toNat ≤ R.slots)
    (h : ∀ r : Int, 0 < r → ((S r).1 = 0 ∧ ∀ q : Int, (S q).1 ≠ 0 → q < r ∧ (S (r - 1)).1 ≠ 0) → Zr E X R M Q (k + 1) (n + N.toNat) (pc + 2) L (zrv r :: st) (zSn S r (2, N)) (zVn V r)) : Zr E X R M Q k n pc L (ziv N :: st) S V := by
  intro C H locs ls hR hS hl hL hst
  have hN : z32 N := zhead hst
  have hb : zEb E ≤ H.size := Nat.le_trans C.2.2.2.2.2.2.2.2.2 hS.1
  refine va_newaK C.1 C.2.1 (atype := .long) (C.2.2.2.2.2.2.1 _ harr) (n := Int32.ofInt N) (N := N.toNat) rfl hd rfl (zneg hN h0) (zclamp hN) (by show N.toNat * 8 ≤ _; omega) hcells hslots rfl fun H1 cA e1 z1 o1 hAr hNm => ?_
  have ec : cA = zEJ E := Option.some.inj (hNm.symm.trans (zKJc C))
  subst ec
  have h2 := h ((H.size : Int) + 1) (by omega) hR.fresh C H1 locs ls (hR.push hb (k := (2, N)) (Or.inr (Or.inl ⟨rfl, h0, by show N < _; omega, e1, fun _ _ _ => (by unfold z64; omega : z64 0)⟩)) (by show ¬ (2 : Int) = 0; decide) o1 z1) (zS_push hS z1 o1) hl hL (zall (by show (0 : Int) ≤ _; omega) (ztail hst))
  have e := zref_new H.size
  rw [List.map_cons, e] at h2
  exact h2
end ZOBJ
