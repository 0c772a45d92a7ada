/-! THE Z KIT, part 2: a row an instruction, those that leave the heap alone -/
section ZROWS
variable {E : zE} {X : zX} {R : Room} {M : zM} {Q : State → Prop} {k n pc : Nat} {L : List (Nat × zV)} {st : List zV} {S : zS} {V : zH}
theorem Zr.eq {pc' : Nat} {L' : List (Nat × zV)} {st' : List zV} {V' : zH} (h : Zr E X R M Q k n pc' L' st' S V') (e1 : pc = pc') (e2 : L = L') (e3 : st = st') (e4 : V = V') : Zr E X R M Q k n pc L st S V := by
  subst e1; subst e2; subst e3; subst e4; exact h
theorem zlhas {ls : Array Slot} {N : Nat} {L : List (Nat × zV)} (hl : lv_has ls N (zL L)) {q i : Nat} {v : zV} (h : L[q]? = some (i, v)) : ls[i]? = some (.val (zcv v)) :=
  lv_at hl q (by simp [zL, h])
/-- fewer locals, in any order, by their places -/
theorem z_loc {L' : List (Nat × zV)} (ks : List Nat) (hs : ks.filterMap (fun i => L[i]?) = L') (h : Zr E X R M Q k n pc L' st S V) : Zr E X R M Q k n pc L st S V := by
  intro C H locs ls hR hS hl hL hst
  have hm : ∀ q ∈ L', q ∈ L := by
    intro q hq
    rw [← hs] at hq
    obtain ⟨i, -, hi⟩ := List.mem_filterMap.mp hq
    exact List.mem_of_getElem? hi
  refine h C H locs ls hR hS ⟨hl.1, hl.2.1, fun q hq => ?_⟩ (fun q hq => hL q (hm q hq)) hst
  obtain ⟨q', h1, rfl⟩ := List.mem_map.mp hq
  exact hl.2.2 _ (List.mem_map.mpr ⟨q', hm q' h1, rfl⟩)
/-- what holds of the values at hand -/
theorem z_okL {q i : Nat} {v : zV} (hq : L[q]? = some (i, v)) (h : zok v → Zr E X R M Q k n pc L st S V) : Zr E X R M Q k n pc L st S V :=
  fun C H locs ls hR hS hl hL hst => h (hL _ (List.mem_of_getElem? hq)) C H locs ls hR hS hl hL hst
theorem z_okS {v : zV} (h : zok v → Zr E X R M Q k n pc L (v :: st) S V) : Zr E X R M Q k n pc L (v :: st) S V :=
  fun C H locs ls hR hS hl hL hst => h (hst _ List.mem_cons_self) C H locs ls hR hS hl hL hst
theorem z_okA {r j : Int} (h1 : (S r).1 = 1) (h2 : 0 ≤ j) (h3 : j < (S r).2) (h : z32 (V r j) → Zr E X R M Q k n pc L st S V) : Zr E X R M Q k n pc L st S V := by
  intro C H locs ls hR hS hl hL hst
  obtain ⟨-, -, hc⟩ := hR.1 r (by rw [h1]; decide)
  rcases hc with ⟨c1, c2, c3, c4, c5⟩ | ⟨c1, -⟩ | ⟨ci, q, c1, -⟩
  · exact h (c5 j h2 h3) C H locs ls hR hS hl hL hst
  · omega
  · omega
theorem z_iload_n {j : Fin 4} {x : Int} (q : Nat) (hd : decode (zMb M) pc = .ok (.iload_n j, 1)) (hq : L[q]? = some ((j : Nat), ziv x)) (h : Zr E X R M Q k n (pc + 1) L (ziv x :: st) S V) : Zr E X R M Q k n pc L st S V := by
  intro C H locs ls hR hS hl hL hst
  exact lv_iload_n C.1 C.2.1 hd rfl (zlhas hl hq) (h C H locs ls hR hS hl hL (zall (hL _ (List.mem_of_getElem? hq)) hst))
theorem z_iload {i : Nat} {x : Int} (q : Nat) (hd : decode (zMb M) pc = .ok (.iload i, 2)) (hq : L[q]? = some (i, ziv x)) (h : Zr E X R M Q k n (pc + 2) L (ziv x :: st) S V) : Zr E X R M Q k n pc L st S V := by
  intro C H locs ls hR hS hl hL hst
  exact lv_iload C.1 C.2.1 hd (zlhas hl hq) (h C H locs ls hR hS hl hL (zall (hL _ (List.mem_of_getElem? hq)) hst))
theorem z_lload_n {j : Fin 4} {x : Int} (q : Nat) (hd : decode (zMb M) pc = .ok (.lload_n j, 1)) (hq : L[q]? = some ((j : Nat), zjv x)) (h : Zr E X R M Q k n (pc + 1) L (zjv x :: st) S V) : Zr E X R M Q k n pc L st S V := by
  intro C H locs ls hR hS hl hL hst
  exact lv_lload_n C.1 C.2.1 hd rfl (zlhas hl hq) (h C H locs ls hR hS hl hL (zall (hL _ (List.mem_of_getElem? hq)) hst))
theorem z_lload {i : Nat} {x : Int} (q : Nat) (hd : decode (zMb M) pc = .ok (.lload i, 2)) (hq : L[q]? = some (i, zjv x)) (h : Zr E X R M Q k n (pc + 2) L (zjv x :: st) S V) : Zr E X R M Q k n pc L st S V := by
  intro C H locs ls hR hS hl hL hst
  exact lv_lload C.1 C.2.1 hd (zlhas hl hq) (h C H locs ls hR hS hl hL (zall (hL _ (List.mem_of_getElem? hq)) hst))
theorem z_aload_n {j : Fin 4} {x : Int} (q : Nat) (hd : decode (zMb M) pc = .ok (.aload_n j, 1)) (hq : L[q]? = some ((j : Nat), zrv x)) (h : Zr E X R M Q k n (pc + 1) L (zrv x :: st) S V) : Zr E X R M Q k n pc L st S V := by
  intro C H locs ls hR hS hl hL hst
  have h1 := zlhas hl hq
  have h2 := h C H locs ls hR hS hl hL (zall (hL _ (List.mem_of_getElem? hq)) hst)
  by_cases hx : x ≤ 0
  · have e : zcv (zrv x) = .null := by simp [zcv, zref, hx]
    rw [e] at h1
    rw [List.map_cons, e] at h2
    exact lv_aload_nN C.1 C.2.1 hd rfl h1 h2
  · have e : zcv (zrv x) = .ref (x - 1).toNat := by simp [zcv, zref, hx]
    rw [e] at h1
    rw [List.map_cons, e] at h2
    exact lv_aload_n C.1 C.2.1 hd rfl h1 h2
theorem z_aload {i : Nat} {x : Int} (q : Nat) (hd : decode (zMb M) pc = .ok (.aload i, 2)) (hq : L[q]? = some (i, zrv x)) (h : Zr E X R M Q k n (pc + 2) L (zrv x :: st) S V) : Zr E X R M Q k n pc L st S V := by
  intro C H locs ls hR hS hl hL hst
  have h1 := zlhas hl hq
  have h2 := h C H locs ls hR hS hl hL (zall (hL _ (List.mem_of_getElem? hq)) hst)
  by_cases hx : x ≤ 0
  · have e : zcv (zrv x) = .null := by simp [zcv, zref, hx]
    rw [e] at h1
    rw [List.map_cons, e] at h2
    exact lv_aloadN C.1 C.2.1 hd h1 h2
  · have e : zcv (zrv x) = .ref (x - 1).toNat := by simp [zcv, zref, hx]
    rw [e] at h1
    rw [List.map_cons, e] at h2
    exact lv_aload C.1 C.2.1 hd h1 h2
def zcat2 (v : zV) : Bool := match v with
  | .inr (.inl _) => true
  | _ => false
theorem zcat2_eq (v : zV) : ((zcv v).category == 2) = zcat2 v := by
  rcases v with x | x | x
  · rfl
  · rfl
  · show ((zref x).category == 2) = false
    rw [zref_cat]; rfl
/-- the locals behind a store of one slot -/
def zst1 (L : List (Nat × zV)) (i : Nat) (v : zV) : List (Nat × zV) := (i, v) :: L.filter (fun q => !(q.1 == i) && !(q.1 + 1 == i && zcat2 q.2))
def zst2 (L : List (Nat × zV)) (i : Nat) (v : zV) : List (Nat × zV) := (i, v) :: L.filter (fun q => !(q.1 == i) && (!(q.1 == i + 1) && !(q.1 + 1 == i && zcat2 q.2)))
theorem zst1_eq (L : List (Nat × zV)) (i : Nat) (v : zV) : (i, zcv v) :: (zL L).filter (fun q => !(q.1 == i) && !(q.1 + 1 == i && q.2.category == 2)) = zL (zst1 L i v) := by
  simp only [zL, zst1, List.map_cons, List.filter_map]
  congr 2
  apply List.filter_congr
  intro q _
  simp only [Function.comp, zcat2_eq]
theorem zst2_eq (L : List (Nat × zV)) (i : Nat) (v : zV) : (i, zcv v) :: (zL L).filter (fun q => !(q.1 == i) && (!(q.1 == i + 1) && !(q.1 + 1 == i && q.2.category == 2))) = zL (zst2 L i v) := by
  simp only [zL, zst2, List.map_cons, List.filter_map]
  congr 2
  apply List.filter_congr
  intro q _
  simp only [Function.comp, zcat2_eq]
theorem zst1_ok {L : List (Nat × zV)} {i : Nat} {v : zV} (hL : ∀ q ∈ L, zok q.2) (hv : zok v) : ∀ q ∈ zst1 L i v, zok q.2 := by
  intro q hq
  rcases List.mem_cons.mp hq with rfl | hq
  · exact hv
  · exact hL q (List.mem_filter.mp hq).1
theorem zst2_ok {L : List (Nat × zV)} {i : Nat} {v : zV} (hL : ∀ q ∈ L, zok q.2) (hv : zok v) : ∀ q ∈ zst2 L i v, zok q.2 := by
  intro q hq
  rcases List.mem_cons.mp hq with rfl | hq
  · exact hv
  · exact hL q (List.mem_filter.mp hq).1
theorem ztail {v : zV} {st : List zV} (h : ∀ w ∈ v :: st, zok w) : ∀ w ∈ st, zok w := fun w hw => h w (List.mem_cons_of_mem _ hw)
theorem zhead {v : zV} {st : List zV} (h : ∀ w ∈ v :: st, zok w) : zok v := h v List.mem_cons_self
theorem zsnd {u v : zV} {st : List zV} (h : ∀ w ∈ u :: v :: st, zok w) : zok v := h v (List.mem_cons_of_mem _ List.mem_cons_self)
theorem ztl2 {u v : zV} {st : List zV} (h : ∀ w ∈ u :: v :: st, zok w) : ∀ w ∈ st, zok w := fun w hw => h w (List.mem_cons_of_mem _ (List.mem_cons_of_mem _ hw))
theorem z_istore_n {j : Fin 4} {x : Int} (hd : decode (zMb M) pc = .ok (.istore_n j, 1)) (hn : (j : Nat) < zMl M) {L' : List (Nat × zV)} (ks : List Nat) (hs : ks.filterMap (fun i => (zst1 L j (ziv x))[i]?) = L') (h : Zr E X R M Q k n (pc + 1) L' st S V) : Zr E X R M Q k n pc L (ziv x :: st) S V := by
  intro C H locs ls hR hS hl hL hst
  refine lv_istore_n C.1 C.2.1 hd rfl hl hn (zst1_eq L j (ziv x)) fun ls' hl' => ?_
  exact z_loc (L := zst1 L j (ziv x)) ks hs h C H locs ls' hR hS hl' (zst1_ok hL (zhead hst)) (ztail hst)
theorem z_istore {i : Nat} {x : Int} (hd : decode (zMb M) pc = .ok (.istore i, 2)) (hn : i < zMl M) {L' : List (Nat × zV)} (ks : List Nat) (hs : ks.filterMap (fun q => (zst1 L i (ziv x))[q]?) = L') (h : Zr E X R M Q k n (pc + 2) L' st S V) : Zr E X R M Q k n pc L (ziv x :: st) S V := by
  intro C H locs ls hR hS hl hL hst
  refine lv_istore C.1 C.2.1 hd hl hn (zst1_eq L i (ziv x)) fun ls' hl' => ?_
  exact z_loc (L := zst1 L i (ziv x)) ks hs h C H locs ls' hR hS hl' (zst1_ok hL (zhead hst)) (ztail hst)
theorem z_lstore_n {j : Fin 4} {x : Int} (hd : decode (zMb M) pc = .ok (.lstore_n j, 1)) (hn : (j : Nat) + 1 < zMl M) {L' : List (Nat × zV)} (ks : List Nat) (hs : ks.filterMap (fun i => (zst2 L j (zjv x))[i]?) = L') (h : Zr E X R M Q k n (pc + 1) L' st S V) : Zr E X R M Q k n pc L (zjv x :: st) S V := by
  intro C H locs ls hR hS hl hL hst
  refine lv_lstore_n C.1 C.2.1 hd rfl hl hn (zst2_eq L j (zjv x)) fun ls' hl' => ?_
  exact z_loc (L := zst2 L j (zjv x)) ks hs h C H locs ls' hR hS hl' (zst2_ok hL (zhead hst)) (ztail hst)
theorem z_lstore {i : Nat} {x : Int} (hd : decode (zMb M) pc = .ok (.lstore i, 2)) (hn : i + 1 < zMl M) {L' : List (Nat × zV)} (ks : List Nat) (hs : ks.filterMap (fun q => (zst2 L i (zjv x))[q]?) = L') (h : Zr E X R M Q k n (pc + 2) L' st S V) : Zr E X R M Q k n pc L (zjv x :: st) S V := by
  intro C H locs ls hR hS hl hL hst
  refine lv_lstore C.1 C.2.1 hd hl hn (zst2_eq L i (zjv x)) fun ls' hl' => ?_
  exact z_loc (L := zst2 L i (zjv x)) ks hs h C H locs ls' hR hS hl' (zst2_ok hL (zhead hst)) (ztail hst)
theorem z_astore_n {j : Fin 4} {x : Int} (hd : decode (zMb M) pc = .ok (.astore_n j, 1)) (hn : (j : Nat) < zMl M) {L' : List (Nat × zV)} (ks : List Nat) (hs : ks.filterMap (fun i => (zst1 L j (zrv x))[i]?) = L') (h : Zr E X R M Q k n (pc + 1) L' st S V) : Zr E X R M Q k n pc L (zrv x :: st) S V := by
  intro C H locs ls hR hS hl hL hst
  have e0 := zst1_eq L j (zrv x)
  by_cases hx : x ≤ 0
  · have e : zcv (zrv x) = .null := by simp [zcv, zref, hx]
    rw [List.map_cons, e]
    rw [e] at e0
    refine lv_astore_nN C.1 C.2.1 hd rfl hl hn e0 fun ls' hl' => ?_
    exact z_loc (L := zst1 L j (zrv x)) ks hs h C H locs ls' hR hS hl' (zst1_ok hL (zhead hst)) (ztail hst)
  · have e : zcv (zrv x) = .ref (x - 1).toNat := by simp [zcv, zref, hx]
    rw [List.map_cons, e]
    rw [e] at e0
    refine lv_astore_n C.1 C.2.1 hd rfl hl hn e0 fun ls' hl' => ?_
    exact z_loc (L := zst1 L j (zrv x)) ks hs h C H locs ls' hR hS hl' (zst1_ok hL (zhead hst)) (ztail hst)
theorem z_iinc {i : Nat} {c x : Int} (q : Nat) (hd : decode (zMb M) pc = .ok (.iinc i c, 3)) (hq : L[q]? = some (i, ziv x)) (hn : i < zMl M) (ho : z32 (x + c)) {L' : List (Nat × zV)} (ks : List Nat) (hs : ks.filterMap (fun q => (zst1 L i (ziv (x + c)))[q]?) = L') (h : Zr E X R M Q k n (pc + 3) L' st S V) : Zr E X R M Q k n pc L st S V := by
  intro C H locs ls hR hS hl hL hst
  have hq' : (zL L)[q]? = some (i, .int (Int32.ofInt x)) := by simp [zL, hq, zcv]
  refine lv_iinc C.1 C.2.1 hd hl hq' (v := Int32.ofInt (x + c)) (by rw [Int32.ofInt_add]) hn (zst1_eq L i (ziv (x + c))) fun ls' hl' => ?_
  exact z_loc (L := zst1 L i (ziv (x + c))) ks hs h C H locs ls' hR hS hl' (zst1_ok hL ho) hst
theorem z_iconst {c : Int} (hd : decode (zMb M) pc = .ok (.iconst c, 1)) (hc : z32 c) (h : Zr E X R M Q k n (pc + 1) L (ziv c :: st) S V) : Zr E X R M Q k n pc L st S V :=
  fun C H locs ls hR hS hl hL hst => lv_iconst C.1 C.2.1 hd rfl (h C H locs ls hR hS hl hL (zall hc hst))
theorem z_bipush {c : Int} (hd : decode (zMb M) pc = .ok (.bipush c, 2)) (hc : z32 c) (he : (Int8.ofInt c).toInt32 = Int32.ofInt c) (h : Zr E X R M Q k n (pc + 2) L (ziv c :: st) S V) : Zr E X R M Q k n pc L st S V :=
  fun C H locs ls hR hS hl hL hst => lv_bipush C.1 C.2.1 hd he (h C H locs ls hR hS hl hL (zall hc hst))
theorem z_sipush {c : Int} (hd : decode (zMb M) pc = .ok (.sipush c, 3)) (hc : z32 c) (he : (Int16.ofInt c).toInt32 = Int32.ofInt c) (h : Zr E X R M Q k n (pc + 3) L (ziv c :: st) S V) : Zr E X R M Q k n pc L st S V :=
  fun C H locs ls hR hS hl hL hst => lv_sipush C.1 C.2.1 hd he (h C H locs ls hR hS hl hL (zall hc hst))
theorem z_lconst {c : Fin 2} {v : Int} (hd : decode (zMb M) pc = .ok (.lconst c, 1)) (hv : Int64.ofNat (c : Nat) = Int64.ofInt v) (hc : z64 v) (h : Zr E X R M Q k n (pc + 1) L (zjv v :: st) S V) : Zr E X R M Q k n pc L st S V :=
  fun C H locs ls hR hS hl hL hst => lv_lconst C.1 C.2.1 hd hv (h C H locs ls hR hS hl hL (zall hc hst))
theorem z_ldc {index : Nat} {v : Int32} {c : Int} (hw : Cond.constant (zMy M).cls index v ∈ ztbl) (hv : v = Int32.ofInt c) (hc : z32 c) (hd : decode (zMb M) pc = .ok (.ldc index, 2)) (h : Zr E X R M Q k n (pc + 2) L (ziv c :: st) S V) : Zr E X R M Q k n pc L st S V := by
  intro C H locs ls hR hS hl hL hst
  subst hv
  exact lv_ldc C.1 C.2.1 C.2.2.2.2.1 (C.2.2.2.2.2.2.1 _ hw) hd (h C H locs ls hR hS hl hL (zall hc hst))
theorem z_ldc2 {index : Nat} {v : Int64} {c : Int} (hw : Cond.constantLong (zMy M).cls index v ∈ ztbl) (hv : v = Int64.ofInt c) (hc : z64 c) (hd : decode (zMb M) pc = .ok (.ldc2_w index, 3)) (h : Zr E X R M Q k n (pc + 3) L (zjv c :: st) S V) : Zr E X R M Q k n pc L st S V := by
  intro C H locs ls hR hS hl hL hst
  subst hv
  exact lv_ldc2 C.1 C.2.1 C.2.2.2.2.1 (C.2.2.2.2.2.2.1 _ hw) hd (h C H locs ls hR hS hl hL (zall hc hst))
theorem z_iadd {x y : Int} (hd : decode (zMb M) pc = .ok (.iadd, 1)) (ho : z32 (x + y)) (h : Zr E X R M Q k n (pc + 1) L (ziv (x + y) :: st) S V) : Zr E X R M Q k n pc L (ziv y :: ziv x :: st) S V := by
  intro C H locs ls hR hS hl hL hst
  refine lv_iadd C.1 C.2.1 hd ?_
  rw [← Int32.ofInt_add]
  exact h C H locs ls hR hS hl hL (zall ho (ztl2 hst))
theorem z_isub {x y : Int} (hd : decode (zMb M) pc = .ok (.isub, 1)) (ho : z32 (x - y)) (h : Zr E X R M Q k n (pc + 1) L (ziv (x - y) :: st) S V) : Zr E X R M Q k n pc L (ziv y :: ziv x :: st) S V := by
  intro C H locs ls hR hS hl hL hst
  refine lv_isub C.1 C.2.1 hd ?_
  rw [← Int32.ofInt_sub]
  exact h C H locs ls hR hS hl hL (zall ho (ztl2 hst))
theorem z_imul {x y : Int} (hd : decode (zMb M) pc = .ok (.imul, 1)) (ho : z32 (x * y)) (h : Zr E X R M Q k n (pc + 1) L (ziv (x * y) :: st) S V) : Zr E X R M Q k n pc L (ziv y :: ziv x :: st) S V := by
  intro C H locs ls hR hS hl hL hst
  refine lv_imul C.1 C.2.1 hd ?_
  rw [← Int32.ofInt_mul]
  exact h C H locs ls hR hS hl hL (zall ho (ztl2 hst))
theorem z_ineg {x : Int} (hd : decode (zMb M) pc = .ok (.ineg, 1)) (ho : z32 (-x)) (h : Zr E X R M Q k n (pc + 1) L (ziv (-x) :: st) S V) : Zr E X R M Q k n pc L (ziv x :: st) S V := by
  intro C H locs ls hR hS hl hL hst
  refine lv_ineg C.1 C.2.1 hd ?_
  have h2 := h C H locs ls hR hS hl hL (zall ho (ztail hst))
  have e : (0 : Int32) - Int32.ofInt x = Int32.ofInt (-x) := by rw [Int32.ofInt_neg]; simp
  first
    | (rw [e]; exact h2)
    | (rw [← Int32.ofInt_neg]; exact h2)
theorem z32_ne0 {y : Int} (hy : z32 y) (h : y ≠ 0) : ¬ Int32.ofInt y = 0 := by
  intro e
  have e2 := congrArg Int32.toInt e
  rw [z32_toInt hy] at e2
  exact h (by simpa using e2)
theorem z64_ne0 {y : Int} (hy : z64 y) (h : y ≠ 0) : ¬ Int64.ofInt y = 0 := by
  intro e
  have e2 := congrArg Int64.toInt e
  rw [z64_toInt hy] at e2
  exact h (by simpa using e2)
theorem ztdiv_le {x y : Int} (hy : 0 < y) : -(x.natAbs : Int) ≤ x.tdiv y ∧ x.tdiv y ≤ x.natAbs := by
  have h := Int.natAbs_tdiv x y
  have h2 : (x.tdiv y).natAbs ≤ x.natAbs := by
    rw [h]
    exact Nat.div_le_self _ _
  omega
theorem z32_div {x y : Int} (hx : z32 x) (hy : z32 y) (h : 0 < y) : Int32.ofInt x / Int32.ofInt y = Int32.ofInt (x.tdiv y) := by
  apply Int32.toInt_inj.mp
  have hne : Int32.ofInt y ≠ -1 := by
    intro e
    have e2 := congrArg Int32.toInt e
    rw [z32_toInt hy] at e2
    have : (-1 : Int32).toInt = -1 := by decide
    omega
  rw [Int32.toInt_div_of_ne_right _ _ hne, z32_toInt hx, z32_toInt hy, z32_toInt]
  have := ztdiv_le (x := x) h
  have h3 := Int.natAbs_tdiv x y
  unfold z32 at hx ⊢
  have h4 : 0 ≤ x → 0 ≤ x.tdiv y := fun h0 => Int.tdiv_nonneg h0 (by omega)
  have h5 : x < 0 → x.tdiv y ≤ 0 := fun h0 => by
    have e := Int.neg_tdiv (-x) y
    rw [Int.neg_neg] at e
    have := Int.tdiv_nonneg (a := -x) (b := y) (by omega) (by omega)
    omega
  clear h3
  omega
theorem z64_div {x y : Int} (hx : z64 x) (hy : z64 y) (h : 0 < y) : Int64.ofInt x / Int64.ofInt y = Int64.ofInt (x.tdiv y) := by
  apply Int64.toInt_inj.mp
  have hne : Int64.ofInt y ≠ -1 := by
    intro e
    have e2 := congrArg Int64.toInt e
    rw [z64_toInt hy] at e2
    have : (-1 : Int64).toInt = -1 := by decide
    omega
  rw [Int64.toInt_div_of_ne_right _ _ hne, z64_toInt hx, z64_toInt hy, z64_toInt]
  have := ztdiv_le (x := x) h
  unfold z64 at hx ⊢
  have h4 : 0 ≤ x → 0 ≤ x.tdiv y := fun h0 => Int.tdiv_nonneg h0 (by omega)
  have h5 : x < 0 → x.tdiv y ≤ 0 := fun h0 => by
    have e := Int.neg_tdiv (-x) y
    rw [Int.neg_neg] at e
    have := Int.tdiv_nonneg (a := -x) (b := y) (by omega) (by omega)
    omega
  omega
/-- a division of what is not below 0 by what is above 0 -/
theorem z_idiv {x y : Int} (hd : decode (zMb M) pc = .ok (.idiv, 1)) (h0 : 0 ≤ x) (h1 : 0 < y) (h : Zr E X R M Q k n (pc + 1) L (ziv (x / y) :: st) S V) : Zr E X R M Q k n pc L (ziv y :: ziv x :: st) S V := by
  intro C H locs ls hR hS hl hL hst
  have hy : z32 y := zhead hst
  have hx : z32 x := zsnd hst
  refine lv_idiv C.1 C.2.1 hd (z32_ne0 hy (by omega)) ?_
  rw [z32_div hx hy h1, Int.tdiv_eq_ediv_of_nonneg h0]
  refine h C H locs ls hR hS hl hL (zall ?_ (ztl2 hst))
  have a1 : 0 ≤ x / y := Int.ediv_nonneg h0 (by omega)
  have a2 : x / y ≤ x := Int.ediv_le_self y h0
  unfold zok z32 at *
  dsimp only at *
  omega
theorem z32_rem {x y : Int} (hx : z32 x) (hy : z32 y) (h : 0 < y) : Int32.ofInt x - Int32.ofInt x / Int32.ofInt y * Int32.ofInt y = Int32.ofInt (x.tmod y) := by
  rw [z32_div hx hy h, ← Int32.ofInt_mul, ← Int32.ofInt_sub, Int.tmod_def, Int.mul_comm]
theorem z64_rem {x y : Int} (hx : z64 x) (hy : z64 y) (h : 0 < y) : Int64.ofInt x - Int64.ofInt x / Int64.ofInt y * Int64.ofInt y = Int64.ofInt (x.tmod y) := by
  rw [z64_div hx hy h, ← Int64.ofInt_mul, ← Int64.ofInt_sub, Int.tmod_def, Int.mul_comm]
theorem ztmod_lt {x y : Int} (h : 0 < y) : -y < x.tmod y ∧ x.tmod y < y := ⟨Int.lt_tmod_of_pos x h, Int.tmod_lt_of_pos x h⟩
theorem z_irem {x y : Int} (hd : decode (zMb M) pc = .ok (.irem, 1)) (h0 : 0 ≤ x) (h1 : 0 < y) (h : Zr E X R M Q k n (pc + 1) L (ziv (x % y) :: st) S V) : Zr E X R M Q k n pc L (ziv y :: ziv x :: st) S V := by
  intro C H locs ls hR hS hl hL hst
  have hy : z32 y := zhead hst
  have hx : z32 x := zsnd hst
  refine lv_irem C.1 C.2.1 hd (z32_ne0 hy (by omega)) ?_
  rw [z32_rem hx hy h1, Int.tmod_eq_emod_of_nonneg h0]
  refine h C H locs ls hR hS hl hL (zall ?_ (ztl2 hst))
  have a1 := Int.emod_nonneg x (b := y) (by omega)
  have a2 := Int.emod_lt_of_pos x h1
  unfold zok z32 at *
  dsimp only at *
  omega
theorem z_iremT {x y : Int} (hd : decode (zMb M) pc = .ok (.irem, 1)) (h1 : 0 < y) (h : Zr E X R M Q k n (pc + 1) L (ziv (x.tmod y) :: st) S V) : Zr E X R M Q k n pc L (ziv y :: ziv x :: st) S V := by
  intro C H locs ls hR hS hl hL hst
  have hy : z32 y := zhead hst
  have hx : z32 x := zsnd hst
  refine lv_irem C.1 C.2.1 hd (z32_ne0 hy (by omega)) ?_
  rw [z32_rem hx hy h1]
  refine h C H locs ls hR hS hl hL (zall ?_ (ztl2 hst))
  have a1 := ztmod_lt (x := x) h1
  unfold zok z32 at *
  dsimp only at *
  omega
theorem z_lremT {x y : Int} (hd : decode (zMb M) pc = .ok (.lrem, 1)) (h1 : 0 < y) (h : Zr E X R M Q k n (pc + 1) L (zjv (x.tmod y) :: st) S V) : Zr E X R M Q k n pc L (zjv y :: zjv x :: st) S V := by
  intro C H locs ls hR hS hl hL hst
  have hy : z64 y := zhead hst
  have hx : z64 x := zsnd hst
  refine lv_lrem C.1 C.2.1 hd (z64_ne0 hy (by omega)) ?_
  rw [z64_rem hx hy h1]
  refine h C H locs ls hR hS hl hL (zall ?_ (ztl2 hst))
  have a1 := ztmod_lt (x := x) h1
  unfold zok z64 at *
  dsimp only at *
  omega
theorem z_ldiv {x y : Int} (hd : decode (zMb M) pc = .ok (.ldiv, 1)) (h0 : 0 ≤ x) (h1 : 0 < y) (h : Zr E X R M Q k n (pc + 1) L (zjv (x / y) :: st) S V) : Zr E X R M Q k n pc L (zjv y :: zjv x :: st) S V := by
  intro C H locs ls hR hS hl hL hst
  have hy : z64 y := zhead hst
  have hx : z64 x := zsnd hst
  refine lv_ldiv C.1 C.2.1 hd (z64_ne0 hy (by omega)) ?_
  rw [z64_div hx hy h1, Int.tdiv_eq_ediv_of_nonneg h0]
  refine h C H locs ls hR hS hl hL (zall ?_ (ztl2 hst))
  have a1 : 0 ≤ x / y := Int.ediv_nonneg h0 (by omega)
  have a2 : x / y ≤ x := Int.ediv_le_self y h0
  unfold zok z64 at *
  dsimp only at *
  omega
theorem z_ladd {x y : Int} (hd : decode (zMb M) pc = .ok (.ladd, 1)) (ho : z64 (x + y)) (h : Zr E X R M Q k n (pc + 1) L (zjv (x + y) :: st) S V) : Zr E X R M Q k n pc L (zjv y :: zjv x :: st) S V := by
  intro C H locs ls hR hS hl hL hst
  refine lv_ladd C.1 C.2.1 hd ?_
  rw [← Int64.ofInt_add]
  exact h C H locs ls hR hS hl hL (zall ho (ztl2 hst))
theorem z_lmul {x y : Int} (hd : decode (zMb M) pc = .ok (.lmul, 1)) (ho : z64 (x * y)) (h : Zr E X R M Q k n (pc + 1) L (zjv (x * y) :: st) S V) : Zr E X R M Q k n pc L (zjv y :: zjv x :: st) S V := by
  intro C H locs ls hR hS hl hL hst
  refine lv_lmul C.1 C.2.1 hd ?_
  rw [← Int64.ofInt_mul]
  exact h C H locs ls hR hS hl hL (zall ho (ztl2 hst))
/-! bits: by the machine's own words -/
def zand (x y : Int) : Int := (Int32.ofInt x &&& Int32.ofInt y).toInt
def zxor (x y : Int) : Int := (Int32.ofInt x ^^^ Int32.ofInt y).toInt
def zlandl (x y : Int) : Int := (Int64.ofInt x &&& Int64.ofInt y).toInt
def zlorl (x y : Int) : Int := (Int64.ofInt x ||| Int64.ofInt y).toInt
def zlxor (x y : Int) : Int := (Int64.ofInt x ^^^ Int64.ofInt y).toInt
def zlshl (x y : Int) : Int := (Int64.ofInt x <<< ((Int32.ofInt y).toInt64 &&& 63)).toInt
def zlshr (x y : Int) : Int := (Int64.ofInt x >>> ((Int32.ofInt y).toInt64 &&& 63)).toInt
def zlushr (x y : Int) : Int := (((Int64.ofInt x).toUInt64 >>> ((Int32.ofInt y).toInt64.toUInt64 &&& Int64.toUInt64 63)).toInt64).toInt
def zl2i (x : Int) : Int := (Int32.ofInt x).toInt
def zi2b (x : Int) : Int := ((Int32.ofInt x).toInt8.toInt32).toInt
def zi2s (x : Int) : Int := ((Int32.ofInt x).toInt16.toInt32).toInt
theorem z_iand {x y : Int} (hd : decode (zMb M) pc = .ok (.iand, 1)) (h : Zr E X R M Q k n (pc + 1) L (ziv (zand x y) :: st) S V) : Zr E X R M Q k n pc L (ziv y :: ziv x :: st) S V := by
  intro C H locs ls hR hS hl hL hst
  refine lv_iand C.1 C.2.1 hd ?_
  have h2 := h C H locs ls hR hS hl hL (zall (z32_of _) (ztl2 hst))
  simpa [zcv, zand] using h2
theorem z_ixor {x y : Int} (hd : decode (zMb M) pc = .ok (.ixor, 1)) (h : Zr E X R M Q k n (pc + 1) L (ziv (zxor x y) :: st) S V) : Zr E X R M Q k n pc L (ziv y :: ziv x :: st) S V := by
  intro C H locs ls hR hS hl hL hst
  refine lv_ixor C.1 C.2.1 hd ?_
  have h2 := h C H locs ls hR hS hl hL (zall (z32_of _) (ztl2 hst))
  simpa [zcv, zxor] using h2
theorem z_land {x y : Int} (hd : decode (zMb M) pc = .ok (.land, 1)) (h : Zr E X R M Q k n (pc + 1) L (zjv (zlandl x y) :: st) S V) : Zr E X R M Q k n pc L (zjv y :: zjv x :: st) S V := by
  intro C H locs ls hR hS hl hL hst
  refine lv_land C.1 C.2.1 hd ?_
  have h2 := h C H locs ls hR hS hl hL (zall (z64_of _) (ztl2 hst))
  simpa [zcv, zlandl] using h2
theorem z_lor {x y : Int} (hd : decode (zMb M) pc = .ok (.lor, 1)) (h : Zr E X R M Q k n (pc + 1) L (zjv (zlorl x y) :: st) S V) : Zr E X R M Q k n pc L (zjv y :: zjv x :: st) S V := by
  intro C H locs ls hR hS hl hL hst
  refine lv_lor C.1 C.2.1 hd ?_
  have h2 := h C H locs ls hR hS hl hL (zall (z64_of _) (ztl2 hst))
  simpa [zcv, zlorl] using h2
theorem z_lxor {x y : Int} (hd : decode (zMb M) pc = .ok (.lxor, 1)) (h : Zr E X R M Q k n (pc + 1) L (zjv (zlxor x y) :: st) S V) : Zr E X R M Q k n pc L (zjv y :: zjv x :: st) S V := by
  intro C H locs ls hR hS hl hL hst
  refine lv_lxor C.1 C.2.1 hd ?_
  have h2 := h C H locs ls hR hS hl hL (zall (z64_of _) (ztl2 hst))
  simpa [zcv, zlxor] using h2
theorem z_lshl {x y : Int} (hd : decode (zMb M) pc = .ok (.lshl, 1)) (h : Zr E X R M Q k n (pc + 1) L (zjv (zlshl x y) :: st) S V) : Zr E X R M Q k n pc L (ziv y :: zjv x :: st) S V := by
  intro C H locs ls hR hS hl hL hst
  refine lv_lshl C.1 C.2.1 hd (v := Int64.ofInt (zlshl x y)) (by simp [zlshl]) ?_
  exact h C H locs ls hR hS hl hL (zall (z64_of _) (ztl2 hst))
theorem z_lshr {x y : Int} (hd : decode (zMb M) pc = .ok (.lshr, 1)) (h : Zr E X R M Q k n (pc + 1) L (zjv (zlshr x y) :: st) S V) : Zr E X R M Q k n pc L (ziv y :: zjv x :: st) S V := by
  intro C H locs ls hR hS hl hL hst
  refine lv_lshr C.1 C.2.1 hd (v := Int64.ofInt (zlshr x y)) (by simp [zlshr]) ?_
  exact h C H locs ls hR hS hl hL (zall (z64_of _) (ztl2 hst))
theorem z_lushr {x y : Int} (hd : decode (zMb M) pc = .ok (.lushr, 1)) (h : Zr E X R M Q k n (pc + 1) L (zjv (zlushr x y) :: st) S V) : Zr E X R M Q k n pc L (ziv y :: zjv x :: st) S V := by
  intro C H locs ls hR hS hl hL hst
  refine lv_lushr C.1 C.2.1 hd (v := Int64.ofInt (zlushr x y)) (by simp [zlushr]) ?_
  exact h C H locs ls hR hS hl hL (zall (z64_of _) (ztl2 hst))
theorem z_i2l {x : Int} (hd : decode (zMb M) pc = .ok (.i2l, 1)) (h : Zr E X R M Q k n (pc + 1) L (zjv x :: st) S V) : Zr E X R M Q k n pc L (ziv x :: st) S V := by
  intro C H locs ls hR hS hl hL hst
  have hx : z32 x := zhead hst
  refine lv_i2l C.1 C.2.1 hd (v := Int64.ofInt x) ?_ (h C H locs ls hR hS hl hL (zall (z32_z64 hx) (ztail hst)))
  apply Int64.toInt_inj.mp
  rw [Int32.toInt_toInt64, z32_toInt hx, z64_toInt (z32_z64 hx)]
theorem z_l2i {x : Int} (hd : decode (zMb M) pc = .ok (.l2i, 1)) (h : Zr E X R M Q k n (pc + 1) L (ziv (zl2i x) :: st) S V) : Zr E X R M Q k n pc L (zjv x :: st) S V := by
  intro C H locs ls hR hS hl hL hst
  refine lv_l2i C.1 C.2.1 hd (v := Int32.ofInt (zl2i x)) (by rw [Int64.toInt32_ofInt]; unfold zl2i; rw [Int32.ofInt_toInt]) (h C H locs ls hR hS hl hL (zall (z32_of _) (ztail hst)))
theorem z_i2b {x : Int} (hd : decode (zMb M) pc = .ok (.i2b, 1)) (h : Zr E X R M Q k n (pc + 1) L (ziv (zi2b x) :: st) S V) : Zr E X R M Q k n pc L (ziv x :: st) S V := by
  intro C H locs ls hR hS hl hL hst
  refine lv_i2b C.1 C.2.1 hd (v := Int32.ofInt (zi2b x)) (by unfold zi2b; rw [Int32.ofInt_toInt]) (h C H locs ls hR hS hl hL (zall (z32_of _) (ztail hst)))
theorem z_i2s {x : Int} (hd : decode (zMb M) pc = .ok (.i2s, 1)) (h : Zr E X R M Q k n (pc + 1) L (ziv (zi2s x) :: st) S V) : Zr E X R M Q k n pc L (ziv x :: st) S V := by
  intro C H locs ls hR hS hl hL hst
  refine lv_i2s C.1 C.2.1 hd (v := Int32.ofInt (zi2s x)) (by unfold zi2s; rw [Int32.ofInt_toInt]) (h C H locs ls hR hS hl hL (zall (z32_of _) (ztail hst)))
theorem zl2i_id {x : Int} (h : z32 x) : zl2i x = x := z32_toInt h
theorem z_dup {v : zV} (hc : (zcv v).category = 1) (hd : decode (zMb M) pc = .ok (.dup, 1)) (h : Zr E X R M Q k n (pc + 1) L (v :: v :: st) S V) : Zr E X R M Q k n pc L (v :: st) S V :=
  fun C H locs ls hR hS hl hL hst => lv_dup C.1 C.2.1 hd hc (h C H locs ls hR hS hl hL (zall (zhead hst) hst))
theorem z_pop {v : zV} (hc : (zcv v).category = 1) (hd : decode (zMb M) pc = .ok (.pop, 1)) (h : Zr E X R M Q k n (pc + 1) L st S V) : Zr E X R M Q k n pc L (v :: st) S V :=
  fun C H locs ls hR hS hl hL hst => lv_pop C.1 C.2.1 hd hc (h C H locs ls hR hS hl hL (ztail hst))
theorem z_dup2 {u v : zV} (hu : (zcv u).category = 1) (hv : (zcv v).category = 1) (hd : decode (zMb M) pc = .ok (.dup2, 1)) (h : Zr E X R M Q k n (pc + 1) L (u :: v :: u :: v :: st) S V) : Zr E X R M Q k n pc L (u :: v :: st) S V :=
  fun C H locs ls hR hS hl hL hst => lv_dup2_11 C.1 C.2.1 hd hu hv (h C H locs ls hR hS hl hL (zall (zhead hst) (zall (zsnd hst) hst)))
theorem z_goto {off : Int} {tgt : Nat} (hd : decode (zMb M) pc = .ok (.goto off, 3)) (ht : (pc : Int) + off = (tgt : Int)) (h : Zr E X R M Q k n tgt L st S V) : Zr E X R M Q k n pc L st S V :=
  fun C H locs ls hR hS hl hL hst => lv_goto C.1 C.2.1 hd ht (h C H locs ls hR hS hl hL hst)
end ZROWS
