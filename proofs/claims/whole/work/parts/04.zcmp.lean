/-! THE Z KIT, part 3: compares, branches, switches -/
section ZCMP
variable {E : zE} {X : zX} {R : Room} {M : zM} {Q : State → Prop} {k n pc : Nat} {L : List (Nat × zV)} {st : List zV} {S : zS} {V : zH}
theorem z32_le {x y : Int} (hx : z32 x) (hy : z32 y) : Int32.ofInt x ≤ Int32.ofInt y ↔ x ≤ y := by rw [Int32.le_iff_toInt_le, z32_toInt hx, z32_toInt hy]
theorem z32_lt {x y : Int} (hx : z32 x) (hy : z32 y) : Int32.ofInt x < Int32.ofInt y ↔ x < y := by rw [Int32.lt_iff_toInt_lt, z32_toInt hx, z32_toInt hy]
theorem z32_eq {x y : Int} (hx : z32 x) (hy : z32 y) : Int32.ofInt x = Int32.ofInt y ↔ x = y := by rw [← Int32.toInt_inj, z32_toInt hx, z32_toInt hy]
theorem z64_lt {x y : Int} (hx : z64 x) (hy : z64 y) : Int64.ofInt x < Int64.ofInt y ↔ x < y := by rw [Int64.lt_iff_toInt_lt, z64_toInt hx, z64_toInt hy]
theorem z64_eq {x y : Int} (hx : z64 x) (hy : z64 y) : Int64.ofInt x = Int64.ofInt y ↔ x = y := by rw [← Int64.toInt_inj, z64_toInt hx, z64_toInt hy]
theorem z32_0 : z32 0 := by unfold z32; omega
theorem z32_o0 : Int32.ofInt 0 = 0 := rfl
theorem z_icmp_eq {x y : Int} {off : Int} {tgt : Nat} (hd : decode (zMb M) pc = .ok (.if_icmp .eq off, 3)) (ht : (pc : Int) + off = (tgt : Int)) (h1 : x = y → Zr E X R M Q k n tgt L st S V) (h2 : x ≠ y → Zr E X R M Q k n (pc + 3) L st S V) : Zr E X R M Q k n pc L (ziv y :: ziv x :: st) S V := by
  intro C H locs ls hR hS hl hL hst
  have hy : z32 y := zhead hst
  have hx : z32 x := zsnd hst
  have hi := z32_eq hx hy
  refine lv_icmp_eq C.1 C.2.1 hd ht (fun q => h1 (hi.mp q) C H locs ls hR hS hl hL (ztl2 hst)) (fun q => h2 ?_ C H locs ls hR hS hl hL (ztl2 hst))
  exact fun z => q (hi.mpr z)
theorem z_if_eq {x : Int} {off : Int} {tgt : Nat} (hd : decode (zMb M) pc = .ok (.ifCond .eq off, 3)) (ht : (pc : Int) + off = (tgt : Int)) (h1 : x = 0 → Zr E X R M Q k n tgt L st S V) (h2 : x ≠ 0 → Zr E X R M Q k n (pc + 3) L st S V) : Zr E X R M Q k n pc L (ziv x :: st) S V := by
  intro C H locs ls hR hS hl hL hst
  have hx : z32 x := zhead hst
  have hy := z32_0
  have hi := z32_eq hx hy
  rw [z32_o0] at hi
  refine lv_if_eq C.1 C.2.1 hd ht (fun q => h1 (hi.mp q) C H locs ls hR hS hl hL (ztail hst)) (fun q => h2 ?_ C H locs ls hR hS hl hL (ztail hst))
  exact fun z => q (hi.mpr z)
theorem z_icmp_ne {x y : Int} {off : Int} {tgt : Nat} (hd : decode (zMb M) pc = .ok (.if_icmp .ne off, 3)) (ht : (pc : Int) + off = (tgt : Int)) (h1 : x ≠ y → Zr E X R M Q k n tgt L st S V) (h2 : x = y → Zr E X R M Q k n (pc + 3) L st S V) : Zr E X R M Q k n pc L (ziv y :: ziv x :: st) S V := by
  intro C H locs ls hR hS hl hL hst
  have hy : z32 y := zhead hst
  have hx : z32 x := zsnd hst
  have hi := (not_congr (z32_eq hx hy))
  refine lv_icmp_ne C.1 C.2.1 hd ht (fun q => h1 (hi.mp q) C H locs ls hR hS hl hL (ztl2 hst)) (fun q => h2 ?_ C H locs ls hR hS hl hL (ztl2 hst))
  exact (z32_eq hx hy).mp q
theorem z_if_ne {x : Int} {off : Int} {tgt : Nat} (hd : decode (zMb M) pc = .ok (.ifCond .ne off, 3)) (ht : (pc : Int) + off = (tgt : Int)) (h1 : x ≠ 0 → Zr E X R M Q k n tgt L st S V) (h2 : x = 0 → Zr E X R M Q k n (pc + 3) L st S V) : Zr E X R M Q k n pc L (ziv x :: st) S V := by
  intro C H locs ls hR hS hl hL hst
  have hx : z32 x := zhead hst
  have hy := z32_0
  have hi := (not_congr (z32_eq hx hy))
  rw [z32_o0] at hi
  refine lv_if_ne C.1 C.2.1 hd ht (fun q => h1 (hi.mp q) C H locs ls hR hS hl hL (ztail hst)) (fun q => h2 ?_ C H locs ls hR hS hl hL (ztail hst))
  exact (z32_eq hx hy).mp q
theorem z_icmp_lt {x y : Int} {off : Int} {tgt : Nat} (hd : decode (zMb M) pc = .ok (.if_icmp .lt off, 3)) (ht : (pc : Int) + off = (tgt : Int)) (h1 : x < y → Zr E X R M Q k n tgt L st S V) (h2 : y ≤ x → Zr E X R M Q k n (pc + 3) L st S V) : Zr E X R M Q k n pc L (ziv y :: ziv x :: st) S V := by
  intro C H locs ls hR hS hl hL hst
  have hy : z32 y := zhead hst
  have hx : z32 x := zsnd hst
  have hi := z32_lt hx hy
  refine lv_icmp_lt C.1 C.2.1 hd ht (fun q => h1 (hi.mp q) C H locs ls hR hS hl hL (ztl2 hst)) (fun q => h2 ?_ C H locs ls hR hS hl hL (ztl2 hst))
  exact Int.not_lt.mp (fun z => q (hi.mpr z))
theorem z_if_lt {x : Int} {off : Int} {tgt : Nat} (hd : decode (zMb M) pc = .ok (.ifCond .lt off, 3)) (ht : (pc : Int) + off = (tgt : Int)) (h1 : x < 0 → Zr E X R M Q k n tgt L st S V) (h2 : 0 ≤ x → Zr E X R M Q k n (pc + 3) L st S V) : Zr E X R M Q k n pc L (ziv x :: st) S V := by
  intro C H locs ls hR hS hl hL hst
  have hx : z32 x := zhead hst
  have hy := z32_0
  have hi := z32_lt hx hy
  rw [z32_o0] at hi
  refine lv_if_lt C.1 C.2.1 hd ht (fun q => h1 (hi.mp q) C H locs ls hR hS hl hL (ztail hst)) (fun q => h2 ?_ C H locs ls hR hS hl hL (ztail hst))
  exact Int.not_lt.mp (fun z => q (hi.mpr z))
theorem z_icmp_ge {x y : Int} {off : Int} {tgt : Nat} (hd : decode (zMb M) pc = .ok (.if_icmp .ge off, 3)) (ht : (pc : Int) + off = (tgt : Int)) (h1 : y ≤ x → Zr E X R M Q k n tgt L st S V) (h2 : x < y → Zr E X R M Q k n (pc + 3) L st S V) : Zr E X R M Q k n pc L (ziv y :: ziv x :: st) S V := by
  intro C H locs ls hR hS hl hL hst
  have hy : z32 y := zhead hst
  have hx : z32 x := zsnd hst
  have hi := z32_le hy hx
  refine lv_icmp_ge C.1 C.2.1 hd ht (fun q => h1 (hi.mp q) C H locs ls hR hS hl hL (ztl2 hst)) (fun q => h2 ?_ C H locs ls hR hS hl hL (ztl2 hst))
  exact Int.not_le.mp (fun z => q (hi.mpr z))
theorem z_if_ge {x : Int} {off : Int} {tgt : Nat} (hd : decode (zMb M) pc = .ok (.ifCond .ge off, 3)) (ht : (pc : Int) + off = (tgt : Int)) (h1 : 0 ≤ x → Zr E X R M Q k n tgt L st S V) (h2 : x < 0 → Zr E X R M Q k n (pc + 3) L st S V) : Zr E X R M Q k n pc L (ziv x :: st) S V := by
  intro C H locs ls hR hS hl hL hst
  have hx : z32 x := zhead hst
  have hy := z32_0
  have hi := z32_le hy hx
  rw [z32_o0] at hi
  refine lv_if_ge C.1 C.2.1 hd ht (fun q => h1 (hi.mp q) C H locs ls hR hS hl hL (ztail hst)) (fun q => h2 ?_ C H locs ls hR hS hl hL (ztail hst))
  exact Int.not_le.mp (fun z => q (hi.mpr z))
theorem z_icmp_gt {x y : Int} {off : Int} {tgt : Nat} (hd : decode (zMb M) pc = .ok (.if_icmp .gt off, 3)) (ht : (pc : Int) + off = (tgt : Int)) (h1 : y < x → Zr E X R M Q k n tgt L st S V) (h2 : x ≤ y → Zr E X R M Q k n (pc + 3) L st S V) : Zr E X R M Q k n pc L (ziv y :: ziv x :: st) S V := by
  intro C H locs ls hR hS hl hL hst
  have hy : z32 y := zhead hst
  have hx : z32 x := zsnd hst
  have hi := z32_lt hy hx
  refine lv_icmp_gt C.1 C.2.1 hd ht (fun q => h1 (hi.mp q) C H locs ls hR hS hl hL (ztl2 hst)) (fun q => h2 ?_ C H locs ls hR hS hl hL (ztl2 hst))
  exact Int.not_lt.mp (fun z => q (hi.mpr z))
theorem z_if_gt {x : Int} {off : Int} {tgt : Nat} (hd : decode (zMb M) pc = .ok (.ifCond .gt off, 3)) (ht : (pc : Int) + off = (tgt : Int)) (h1 : 0 < x → Zr E X R M Q k n tgt L st S V) (h2 : x ≤ 0 → Zr E X R M Q k n (pc + 3) L st S V) : Zr E X R M Q k n pc L (ziv x :: st) S V := by
  intro C H locs ls hR hS hl hL hst
  have hx : z32 x := zhead hst
  have hy := z32_0
  have hi := z32_lt hy hx
  rw [z32_o0] at hi
  refine lv_if_gt C.1 C.2.1 hd ht (fun q => h1 (hi.mp q) C H locs ls hR hS hl hL (ztail hst)) (fun q => h2 ?_ C H locs ls hR hS hl hL (ztail hst))
  exact Int.not_lt.mp (fun z => q (hi.mpr z))
theorem z_icmp_le {x y : Int} {off : Int} {tgt : Nat} (hd : decode (zMb M) pc = .ok (.if_icmp .le off, 3)) (ht : (pc : Int) + off = (tgt : Int)) (h1 : x ≤ y → Zr E X R M Q k n tgt L st S V) (h2 : y < x → Zr E X R M Q k n (pc + 3) L st S V) : Zr E X R M Q k n pc L (ziv y :: ziv x :: st) S V := by
  intro C H locs ls hR hS hl hL hst
  have hy : z32 y := zhead hst
  have hx : z32 x := zsnd hst
  have hi := z32_le hx hy
  refine lv_icmp_le C.1 C.2.1 hd ht (fun q => h1 (hi.mp q) C H locs ls hR hS hl hL (ztl2 hst)) (fun q => h2 ?_ C H locs ls hR hS hl hL (ztl2 hst))
  exact Int.not_le.mp (fun z => q (hi.mpr z))
theorem z_if_le {x : Int} {off : Int} {tgt : Nat} (hd : decode (zMb M) pc = .ok (.ifCond .le off, 3)) (ht : (pc : Int) + off = (tgt : Int)) (h1 : x ≤ 0 → Zr E X R M Q k n tgt L st S V) (h2 : 0 < x → Zr E X R M Q k n (pc + 3) L st S V) : Zr E X R M Q k n pc L (ziv x :: st) S V := by
  intro C H locs ls hR hS hl hL hst
  have hx : z32 x := zhead hst
  have hy := z32_0
  have hi := z32_le hx hy
  rw [z32_o0] at hi
  refine lv_if_le C.1 C.2.1 hd ht (fun q => h1 (hi.mp q) C H locs ls hR hS hl hL (ztail hst)) (fun q => h2 ?_ C H locs ls hR hS hl hL (ztail hst))
  exact Int.not_le.mp (fun z => q (hi.mpr z))
theorem zlcmp {x y : Int} (hx : z64 x) (hy : z64 y) : lg_cmp (Int64.ofInt x) (Int64.ofInt y) = Int32.ofInt (if y < x then 1 else if x = y then 0 else -1) := by
  unfold lg_cmp
  by_cases h1 : y < x
  · have := (z64_lt hy hx).mpr h1
    simp [h1, this]
  · have n1 : ¬ Int64.ofInt y < Int64.ofInt x := fun q => h1 ((z64_lt hy hx).mp q)
    by_cases h2 : x = y
    · subst h2
      simp
    · have n2 : ¬ Int64.ofInt x = Int64.ofInt y := fun q => h2 ((z64_eq hx hy).mp q)
      simp [h1, n1, h2, n2]
theorem z_lcmp {x y : Int} (hd : decode (zMb M) pc = .ok (.lcmp, 1)) (h : Zr E X R M Q k n (pc + 1) L (ziv (if y < x then 1 else if x = y then 0 else -1) :: st) S V) : Zr E X R M Q k n pc L (zjv y :: zjv x :: st) S V := by
  intro C H locs ls hR hS hl hL hst
  have hy : z64 y := zhead hst
  have hx : z64 x := zsnd hst
  refine W.lcmp C.1 C.2.1 hd ?_
  rw [zlcmp hx hy]
  refine h C H locs ls hR hS hl hL (zall ?_ (ztl2 hst))
  show z32 _
  unfold z32
  split
  · omega
  · split <;> omega
theorem z_lif_eq {x y : Int} {off : Int} {tgt : Nat} (hd0 : decode (zMb M) pc = .ok (.lcmp, 1)) (hd : decode (zMb M) (pc + 1) = .ok (.ifCond .eq off, 3)) (ht : ((pc + 1 : Nat) : Int) + off = (tgt : Int)) (h1 : x = y → Zr E X R M Q k n tgt L st S V) (h2 : x ≠ y → Zr E X R M Q k n (pc + 4) L st S V) : Zr E X R M Q k n pc L (zjv y :: zjv x :: st) S V := by
  refine z_lcmp hd0 (z_if_eq hd ht (fun q => h1 ?_) (fun q => h2 ?_))
  · revert q
    split
    · omega
    · split <;> omega
  · revert q
    split
    · omega
    · split <;> omega
theorem z_lif_ne {x y : Int} {off : Int} {tgt : Nat} (hd0 : decode (zMb M) pc = .ok (.lcmp, 1)) (hd : decode (zMb M) (pc + 1) = .ok (.ifCond .ne off, 3)) (ht : ((pc + 1 : Nat) : Int) + off = (tgt : Int)) (h1 : x ≠ y → Zr E X R M Q k n tgt L st S V) (h2 : x = y → Zr E X R M Q k n (pc + 4) L st S V) : Zr E X R M Q k n pc L (zjv y :: zjv x :: st) S V := by
  refine z_lcmp hd0 (z_if_ne hd ht (fun q => h1 ?_) (fun q => h2 ?_))
  · revert q
    split
    · omega
    · split <;> omega
  · revert q
    split
    · omega
    · split <;> omega
theorem z_lif_lt {x y : Int} {off : Int} {tgt : Nat} (hd0 : decode (zMb M) pc = .ok (.lcmp, 1)) (hd : decode (zMb M) (pc + 1) = .ok (.ifCond .lt off, 3)) (ht : ((pc + 1 : Nat) : Int) + off = (tgt : Int)) (h1 : x < y → Zr E X R M Q k n tgt L st S V) (h2 : y ≤ x → Zr E X R M Q k n (pc + 4) L st S V) : Zr E X R M Q k n pc L (zjv y :: zjv x :: st) S V := by
  refine z_lcmp hd0 (z_if_lt hd ht (fun q => h1 ?_) (fun q => h2 ?_))
  · revert q
    split
    · omega
    · split <;> omega
  · revert q
    split
    · omega
    · split <;> omega
theorem z_lif_ge {x y : Int} {off : Int} {tgt : Nat} (hd0 : decode (zMb M) pc = .ok (.lcmp, 1)) (hd : decode (zMb M) (pc + 1) = .ok (.ifCond .ge off, 3)) (ht : ((pc + 1 : Nat) : Int) + off = (tgt : Int)) (h1 : y ≤ x → Zr E X R M Q k n tgt L st S V) (h2 : x < y → Zr E X R M Q k n (pc + 4) L st S V) : Zr E X R M Q k n pc L (zjv y :: zjv x :: st) S V := by
  refine z_lcmp hd0 (z_if_ge hd ht (fun q => h1 ?_) (fun q => h2 ?_))
  · revert q
    split
    · omega
    · split <;> omega
  · revert q
    split
    · omega
    · split <;> omega
theorem z_lif_gt {x y : Int} {off : Int} {tgt : Nat} (hd0 : decode (zMb M) pc = .ok (.lcmp, 1)) (hd : decode (zMb M) (pc + 1) = .ok (.ifCond .gt off, 3)) (ht : ((pc + 1 : Nat) : Int) + off = (tgt : Int)) (h1 : y < x → Zr E X R M Q k n tgt L st S V) (h2 : x ≤ y → Zr E X R M Q k n (pc + 4) L st S V) : Zr E X R M Q k n pc L (zjv y :: zjv x :: st) S V := by
  refine z_lcmp hd0 (z_if_gt hd ht (fun q => h1 ?_) (fun q => h2 ?_))
  · revert q
    split
    · omega
    · split <;> omega
  · revert q
    split
    · omega
    · split <;> omega
theorem z_lif_le {x y : Int} {off : Int} {tgt : Nat} (hd0 : decode (zMb M) pc = .ok (.lcmp, 1)) (hd : decode (zMb M) (pc + 1) = .ok (.ifCond .le off, 3)) (ht : ((pc + 1 : Nat) : Int) + off = (tgt : Int)) (h1 : x ≤ y → Zr E X R M Q k n tgt L st S V) (h2 : y < x → Zr E X R M Q k n (pc + 4) L st S V) : Zr E X R M Q k n pc L (zjv y :: zjv x :: st) S V := by
  refine z_lcmp hd0 (z_if_le hd ht (fun q => h1 ?_) (fun q => h2 ?_))
  · revert q
    split
    · omega
    · split <;> omega
  · revert q
    split
    · omega
    · split <;> omega
theorem z_ifnonnull {x : Int} {off : Int} {tgt : Nat} (hd : decode (zMb M) pc = .ok (.ifnonnull off, 3)) (ht : (pc : Int) + off = (tgt : Int)) (h1 : 0 < x → Zr E X R M Q k n tgt L st S V) (h2 : x = 0 → Zr E X R M Q k n (pc + 3) L st S V) : Zr E X R M Q k n pc L (zrv x :: st) S V := by
  intro C H locs ls hR hS hl hL hst
  have hx : 0 ≤ x := zhead hst
  by_cases h0 : x = 0
  · have e : zcv (zrv x) = .null := by subst h0; rfl
    rw [List.map_cons, e]
    exact lv_ifnonnullN C.1 C.2.1 hd (h2 h0 C H locs ls hR hS hl hL (ztail hst))
  · have e : zcv (zrv x) = .ref (x - 1).toNat := zref_pos (by omega)
    rw [List.map_cons, e]
    exact lv_ifnonnull C.1 C.2.1 hd ht (h1 (by omega) C H locs ls hR hS hl hL (ztail hst))
theorem z_tableOut {dflt lo hi : Int} {offs : Array Int} {len : Nat} {x : Int} {tgt : Nat} (hd : decode (zMb M) pc = .ok (.tableswitch dflt lo hi offs, len)) (h : x < lo ∨ hi < x) (ht : (pc : Int) + dflt = (tgt : Int)) (h1 : Zr E X R M Q k n tgt L st S V) : Zr E X R M Q k n pc L (ziv x :: st) S V := by
  intro C H locs ls hR hS hl hL hst
  have hx : z32 x := zhead hst
  exact lv_tableOut C.1 C.2.1 hd (by rw [z32_toInt hx]; exact h) ht (h1 C H locs ls hR hS hl hL (ztail hst))
theorem z_tableIn {dflt lo hi : Int} {offs : Array Int} {len : Nat} {x : Int} {off : Int} {tgt : Nat} (hd : decode (zMb M) pc = .ok (.tableswitch dflt lo hi offs, len)) (hx0 : lo ≤ x ∧ x ≤ hi) (ho : offs[(x - lo).toNat]? = some off) (ht : (pc : Int) + off = (tgt : Int)) (h1 : Zr E X R M Q k n tgt L st S V) : Zr E X R M Q k n pc L (ziv x :: st) S V := by
  intro C H locs ls hR hS hl hL hst
  have hx : z32 x := zhead hst
  exact lv_tableIn C.1 C.2.1 hd (by rw [z32_toInt hx]; omega) (by rw [z32_toInt hx]; omega) (by rw [z32_toInt hx]; exact ho) ht (h1 C H locs ls hR hS hl hL (ztail hst))
theorem z_lookup {dflt : Int} {ps : Array (Int × Int)} {len : Nat} {x : Int} {off : Int} {tgt : Nat} (hd : decode (zMb M) pc = .ok (.lookupswitch dflt ps, len)) (hp : (ps.toList.zip (ps.toList.drop 1)).all (fun (a, next) => a.1 < next.1) = true) (ho : Op.lookupswitch.offset ps.toList dflt x = off) (ht : (pc : Int) + off = (tgt : Int)) (h1 : Zr E X R M Q k n tgt L st S V) : Zr E X R M Q k n pc L (ziv x :: st) S V := by
  intro C H locs ls hR hS hl hL hst
  have hx : z32 x := zhead hst
  exact lv_lookup C.1 C.2.1 hd hp (by rw [z32_toInt hx]; exact ho) ht (h1 C H locs ls hR hS hl hL (ztail hst))
end ZCMP
