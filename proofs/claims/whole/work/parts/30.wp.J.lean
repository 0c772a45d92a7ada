set_option maxRecDepth 100000 in
set_option maxHeartbeats 4000000 in
theorem en_J9_floorMod_7cf53 {E : zE} {F : Int → Prop} {S : zS} {a0 a1 : Int} {V : zH}
    (h : z32 a0 → z32 a1 → ((0 : Int) < a1) ∧ ∀ x2 : Int, x2 = a0.tmod a1 → ((0 ≤ zxor a0 a1) → (F x2)) ∧ ((zxor a0 a1 < 0) → (((x2 = 0) → (F x2)) ∧ ((x2 ≠ 0) → ((z32 (x2 + a1)) ∧ F (x2 + a1)))))) :
    SpF E 0 zm_J9_floorMod_7cf53 [ziv a0, ziv a1] S V F := by
  refine Sp.of (by decide +kernel) (Nat.le_of_ble_eq_true rfl) (fun hok X => ?_)
  have h := h (hok _ (List.mem_cons_self)) (hok _ (List.mem_cons_of_mem _ (List.mem_cons_self)))
  show Zr E X (zRoom 0 0 0) zm_J9_floorMod_7cf53 (zQm E X (zpF S V F) 0 0) 0 0 0 [(0, ziv a0), (1, ziv a1)] [] S V
  refine z_iload_n 0 dJ9_floorMod_7cf53_0 rfl ?_
  refine z_iload_n 1 dJ9_floorMod_7cf53_1 rfl ?_
  obtain ⟨o1, h⟩ := h
  refine z_iremT dJ9_floorMod_7cf53_2 o1 ?_
  refine z_nameI (fun x2 e3 => ?_)
  have h := h x2 e3
  refine z_istore_n dJ9_floorMod_7cf53_3 (by decide) (L' := [(0, ziv a0), (1, ziv a1), (2, ziv x2)]) [1, 2, 0] rfl ?_
  refine z_iload_n 0 dJ9_floorMod_7cf53_4 rfl ?_
  refine z_iload_n 1 dJ9_floorMod_7cf53_5 rfl ?_
  refine z_ixor dJ9_floorMod_7cf53_6 ?_
  refine z_if_ge dJ9_floorMod_7cf53_7 (tgt := 18) (by decide) (fun c4 => ?_) (fun c4 => ?_)
  · have h := h.1 c4
    refine z_iload_n 2 dJ9_floorMod_7cf53_18 rfl ?_
    exact z_retFI dJ9_floorMod_7cf53_19 rfl h
  · have h := h.2 c4
    refine z_iload_n 2 dJ9_floorMod_7cf53_10 rfl ?_
    refine z_if_eq dJ9_floorMod_7cf53_11 (tgt := 18) (by decide) (fun c5 => ?_) (fun c5 => ?_)
    · have h := h.1 c5
      refine z_iload_n 2 dJ9_floorMod_7cf53_18 rfl ?_
      exact z_retFI dJ9_floorMod_7cf53_19 rfl h
    · have h := h.2 c5
      refine z_iload_n 2 dJ9_floorMod_7cf53_14 rfl ?_
      refine z_iload_n 1 dJ9_floorMod_7cf53_15 rfl ?_
      obtain ⟨o6, h⟩ := h
      refine z_iadd dJ9_floorMod_7cf53_16 o6 ?_
      exact z_retFI dJ9_floorMod_7cf53_17 rfl h
set_option maxRecDepth 100000 in
set_option maxHeartbeats 4000000 in
theorem en_J9_floorMod_f86c9 {E : zE} {F : Int → Prop} {S : zS} {a0 a2 : Int} {V : zH}
    (h : z64 a0 → z64 a2 → ((0 : Int) < a2) ∧ ∀ x2 : Int, x2 = a0.tmod a2 → ((0 ≤ zlxor a0 a2) → (F x2)) ∧ ((zlxor a0 a2 < 0) → (((x2 = 0) → (F x2)) ∧ ((x2 ≠ 0) → ((z64 (x2 + a2)) ∧ F (x2 + a2)))))) :
    SpG E 0 zm_J9_floorMod_f86c9 [zjv a0, zjv a2] S V F := by
  refine Sp.of (by decide +kernel) (Nat.le_of_ble_eq_true rfl) (fun hok X => ?_)
  have h := h (hok _ (List.mem_cons_self)) (hok _ (List.mem_cons_of_mem _ (List.mem_cons_self)))
  show Zr E X (zRoom 0 0 0) zm_J9_floorMod_f86c9 (zQm E X (zpG S V F) 0 0) 0 0 0 [(0, zjv a0), (2, zjv a2)] [] S V
  refine z_lload_n 0 dJ9_floorMod_f86c9_0 rfl ?_
  refine z_lload_n 1 dJ9_floorMod_f86c9_1 rfl ?_
  obtain ⟨o1, h⟩ := h
  refine z_lremT dJ9_floorMod_f86c9_2 o1 ?_
  refine z_nameJ (fun x2 e3 => ?_)
  have h := h x2 e3
  refine z_lstore dJ9_floorMod_f86c9_3 (by decide) (L' := [(0, zjv a0), (2, zjv a2), (4, zjv x2)]) [1, 2, 0] rfl ?_
  refine z_lload_n 0 dJ9_floorMod_f86c9_5 rfl ?_
  refine z_lload_n 1 dJ9_floorMod_f86c9_6 rfl ?_
  refine z_lxor dJ9_floorMod_f86c9_7 ?_
  refine z_lconst (v := 0) dJ9_floorMod_f86c9_8 (by decide) ⟨by decide, by decide⟩ ?_
  refine z_lif_ge dJ9_floorMod_f86c9_9 dJ9_floorMod_f86c9_10 (tgt := 25) (by decide) (fun c4 => ?_) (fun c4 => ?_)
  · have h := h.1 c4
    refine z_lload 2 dJ9_floorMod_f86c9_25 rfl ?_
    exact z_retFJ dJ9_floorMod_f86c9_27 rfl h
  · have h := h.2 c4
    refine z_lload 2 dJ9_floorMod_f86c9_13 rfl ?_
    refine z_lconst (v := 0) dJ9_floorMod_f86c9_15 (by decide) ⟨by decide, by decide⟩ ?_
    refine z_lif_eq dJ9_floorMod_f86c9_16 dJ9_floorMod_f86c9_17 (tgt := 25) (by decide) (fun c5 => ?_) (fun c5 => ?_)
    · have h := h.1 c5
      refine z_lload 2 dJ9_floorMod_f86c9_25 rfl ?_
      exact z_retFJ dJ9_floorMod_f86c9_27 rfl h
    · have h := h.2 c5
      refine z_lload 2 dJ9_floorMod_f86c9_20 rfl ?_
      refine z_lload_n 1 dJ9_floorMod_f86c9_22 rfl ?_
      obtain ⟨o6, h⟩ := h
      refine z_ladd dJ9_floorMod_f86c9_23 o6 ?_
      exact z_retFJ dJ9_floorMod_f86c9_24 rfl h
set_option maxRecDepth 100000 in
set_option maxHeartbeats 4000000 in
theorem en_J9_abs_0f7a4 {E : zE} {F : Int → Prop} {S : zS} {a0 : Int} {V : zH}
    (h : z32 a0 → ((0 ≤ a0) → (F a0)) ∧ ((a0 < 0) → ((z32 (-a0)) ∧ F (-a0)))) :
    SpF E 0 zm_J9_abs_0f7a4 [ziv a0] S V F := by
  refine Sp.of (by decide +kernel) (Nat.le_of_ble_eq_true rfl) (fun hok X => ?_)
  have h := h (hok _ (List.mem_cons_self))
  show Zr E X (zRoom 0 0 0) zm_J9_abs_0f7a4 (zQm E X (zpF S V F) 0 0) 0 0 0 [(0, ziv a0)] [] S V
  refine z_iload_n 0 dJ9_abs_0f7a4_0 rfl ?_
  refine z_if_ge dJ9_abs_0f7a4_1 (tgt := 9) (by decide) (fun c1 => ?_) (fun c1 => ?_)
  · have h := h.1 c1
    refine z_iload_n 0 dJ9_abs_0f7a4_9 rfl ?_
    exact z_retFI dJ9_abs_0f7a4_10 rfl h
  · have h := h.2 c1
    refine z_iload_n 0 dJ9_abs_0f7a4_4 rfl ?_
    obtain ⟨o2, h⟩ := h
    refine z_ineg dJ9_abs_0f7a4_5 o2 ?_
    refine z_goto (tgt := 10) dJ9_abs_0f7a4_6 (by decide) ?_
    exact z_retFI dJ9_abs_0f7a4_10 rfl h
set_option maxRecDepth 100000 in
set_option maxHeartbeats 4000000 in
theorem en_J9_max_7cf53 {E : zE} {F : Int → Prop} {S : zS} {a0 a1 : Int} {V : zH}
    (h : z32 a0 → z32 a1 → ((a0 < a1) → (F a1)) ∧ ((a1 ≤ a0) → (F a0))) :
    SpF E 0 zm_J9_max_7cf53 [ziv a0, ziv a1] S V F := by
  refine Sp.of (by decide +kernel) (Nat.le_of_ble_eq_true rfl) (fun hok X => ?_)
  have h := h (hok _ (List.mem_cons_self)) (hok _ (List.mem_cons_of_mem _ (List.mem_cons_self)))
  show Zr E X (zRoom 0 0 0) zm_J9_max_7cf53 (zQm E X (zpF S V F) 0 0) 0 0 0 [(0, ziv a0), (1, ziv a1)] [] S V
  refine z_iload_n 0 dJ9_max_7cf53_0 rfl ?_
  refine z_iload_n 1 dJ9_max_7cf53_1 rfl ?_
  refine z_icmp_lt dJ9_max_7cf53_2 (tgt := 9) (by decide) (fun c1 => ?_) (fun c1 => ?_)
  · have h := h.1 c1
    refine z_iload_n 1 dJ9_max_7cf53_9 rfl ?_
    exact z_retFI dJ9_max_7cf53_10 rfl h
  · have h := h.2 c1
    refine z_iload_n 0 dJ9_max_7cf53_5 rfl ?_
    refine z_goto (tgt := 10) dJ9_max_7cf53_6 (by decide) ?_
    exact z_retFI dJ9_max_7cf53_10 rfl h
set_option maxRecDepth 100000 in
set_option maxHeartbeats 4000000 in
theorem en_J9_min_7cf53 {E : zE} {F : Int → Prop} {S : zS} {a0 a1 : Int} {V : zH}
    (h : z32 a0 → z32 a1 → ((a1 < a0) → (F a1)) ∧ ((a0 ≤ a1) → (F a0))) :
    SpF E 0 zm_J9_min_7cf53 [ziv a0, ziv a1] S V F := by
  refine Sp.of (by decide +kernel) (Nat.le_of_ble_eq_true rfl) (fun hok X => ?_)
  have h := h (hok _ (List.mem_cons_self)) (hok _ (List.mem_cons_of_mem _ (List.mem_cons_self)))
  show Zr E X (zRoom 0 0 0) zm_J9_min_7cf53 (zQm E X (zpF S V F) 0 0) 0 0 0 [(0, ziv a0), (1, ziv a1)] [] S V
  refine z_iload_n 0 dJ9_min_7cf53_0 rfl ?_
  refine z_iload_n 1 dJ9_min_7cf53_1 rfl ?_
  refine z_icmp_gt dJ9_min_7cf53_2 (tgt := 9) (by decide) (fun c1 => ?_) (fun c1 => ?_)
  · have h := h.1 c1
    refine z_iload_n 1 dJ9_min_7cf53_9 rfl ?_
    exact z_retFI dJ9_min_7cf53_10 rfl h
  · have h := h.2 c1
    refine z_iload_n 0 dJ9_min_7cf53_5 rfl ?_
    refine z_goto (tgt := 10) dJ9_min_7cf53_6 (by decide) ?_
    exact z_retFI dJ9_min_7cf53_10 rfl h
set_option maxRecDepth 100000 in
set_option maxHeartbeats 4000000 in
theorem en_J9_min_f86c9 {E : zE} {F : Int → Prop} {S : zS} {a0 a2 : Int} {V : zH}
    (h : z64 a0 → z64 a2 → ((a2 < a0) → (F a2)) ∧ ((a0 ≤ a2) → (F a0))) :
    SpG E 0 zm_J9_min_f86c9 [zjv a0, zjv a2] S V F := by
  refine Sp.of (by decide +kernel) (Nat.le_of_ble_eq_true rfl) (fun hok X => ?_)
  have h := h (hok _ (List.mem_cons_self)) (hok _ (List.mem_cons_of_mem _ (List.mem_cons_self)))
  show Zr E X (zRoom 0 0 0) zm_J9_min_f86c9 (zQm E X (zpG S V F) 0 0) 0 0 0 [(0, zjv a0), (2, zjv a2)] [] S V
  refine z_lload_n 0 dJ9_min_f86c9_0 rfl ?_
  refine z_lload_n 1 dJ9_min_f86c9_1 rfl ?_
  refine z_lif_gt dJ9_min_f86c9_2 dJ9_min_f86c9_3 (tgt := 10) (by decide) (fun c1 => ?_) (fun c1 => ?_)
  · have h := h.1 c1
    refine z_lload_n 1 dJ9_min_f86c9_10 rfl ?_
    exact z_retFJ dJ9_min_f86c9_11 rfl h
  · have h := h.2 c1
    refine z_lload_n 0 dJ9_min_f86c9_6 rfl ?_
    refine z_goto (tgt := 11) dJ9_min_f86c9_7 (by decide) ?_
    exact z_retFJ dJ9_min_f86c9_11 rfl h
def zl_J7_fill_d0a16_6 (E : zE) (X : zX) (F : zH → Prop) (S : zS) (a0 a1 a3 a4 : Int) (V : zH) : Prop := Zr E X (zRoom 0 0 0) zm_J7_fill_d0a16 (zQm E X (zpV S F) 0 0) 0 0 6 [(0, zrv a0), (1, zjv a1), (3, ziv a3), (4, ziv a4)] [] S V
set_option maxRecDepth 100000 in
set_option maxHeartbeats 4000000 in
theorem wp_J7_fill_d0a16_6 {E : zE} {X : zX} {F : zH → Prop} {S : zS} {a0 a1 a3 a4 : Int} {V : zH}
    (h : ((a4 ≤ a3) → (F V)) ∧ ((a3 < a4) → (((S a0).1 = 2) ∧ ((0 : Int) ≤ a3 ∧ a3 < (S a0).2) ∧ ∀ V4 : zH, V4 = zput V a0 a3 a1 → (z32 (a3 + 1)) ∧ zl_J7_fill_d0a16_6 E X F S a0 a1 (a3 + 1) a4 V4))) :
    zl_J7_fill_d0a16_6 E X F S a0 a1 a3 a4 V := by
  unfold zl_J7_fill_d0a16_6
  refine z_iload_n 2 dJ7_fill_d0a16_6 rfl ?_
  refine z_iload 3 dJ7_fill_d0a16_7 rfl ?_
  refine z_icmp_ge dJ7_fill_d0a16_9 (tgt := 22) (by decide) (fun c1 => ?_) (fun c1 => ?_)
  · have h := h.1 c1
    exact z_retV dJ7_fill_d0a16_22 rfl h
  · have h := h.2 c1
    refine z_aload_n 0 dJ7_fill_d0a16_12 rfl ?_
    refine z_iload_n 2 dJ7_fill_d0a16_13 rfl ?_
    refine z_lload_n 1 dJ7_fill_d0a16_14 rfl ?_
    obtain ⟨o2, h⟩ := h
    obtain ⟨o3, h⟩ := h
    refine z_last dJ7_fill_d0a16_15 o2 o3 ?_
    refine z_nameV (fun V4 e5 => ?_)
    have h := h V4 e5
    obtain ⟨o6, h⟩ := h
    refine z_iinc 2 dJ7_fill_d0a16_16 rfl (by decide) o6 (L' := [(0, zrv a0), (1, zjv a1), (3, ziv (a3 + 1)), (4, ziv a4)]) [1, 2, 0, 3] rfl ?_
    refine z_goto (tgt := 6) dJ7_fill_d0a16_19 (by decide) ?_
    exact h
set_option maxRecDepth 100000 in
set_option maxHeartbeats 4000000 in
theorem en_J7_fill_d0a16 {E : zE} {F : zH → Prop} {S : zS} {a0 a1 : Int} {V : zH}
    (h : z64 a1 → ∀ X : zX, ((S a0).1 = 2) ∧ ∀ x2 : Int, x2 = (S a0).2 → zl_J7_fill_d0a16_6 E X F S a0 a1 0 x2 V) :
    SpV E 0 zm_J7_fill_d0a16 [zrv a0, zjv a1] S V F := by
  refine Sp.of (plainFor_of_name (by decide +kernel)) (Nat.le_of_ble_eq_true rfl) (fun hok X => ?_)
  have h := h (hok _ (List.mem_cons_of_mem _ (List.mem_cons_self))) X
  show Zr E X (zRoom 0 0 0) zm_J7_fill_d0a16 (zQm E X (zpV S F) 0 0) 0 0 0 [(0, zrv a0), (1, zjv a1)] [] S V
  refine z_iconst dJ7_fill_d0a16_0 ⟨by decide, by decide⟩ ?_
  refine z_istore_n dJ7_fill_d0a16_1 (by decide) (L' := [(0, zrv a0), (1, zjv a1), (3, ziv 0)]) [1, 2, 0] rfl ?_
  refine z_aload_n 0 dJ7_fill_d0a16_2 rfl ?_
  obtain ⟨o1, h⟩ := h
  refine z_len2 dJ7_fill_d0a16_3 o1 ?_
  refine z_nameI (fun x2 e3 => ?_)
  have h := h x2 e3
  refine z_istore dJ7_fill_d0a16_4 (by decide) (L' := [(0, zrv a0), (1, zjv a1), (3, ziv 0), (4, ziv x2)]) [1, 2, 3, 0] rfl ?_
  exact h
def zl_J7_fill_53178_5 (E : zE) (X : zX) (F : zH → Prop) (S : zS) (a0 a1 a2 a3 : Int) (V : zH) : Prop := Zr E X (zRoom 0 0 0) zm_J7_fill_53178 (zQm E X (zpV S F) 0 0) 0 0 5 [(0, zrv a0), (1, ziv a1), (2, ziv a2), (3, ziv a3)] [] S V
set_option maxRecDepth 100000 in
set_option maxHeartbeats 4000000 in
theorem wp_J7_fill_53178_5 {E : zE} {X : zX} {F : zH → Prop} {S : zS} {a0 a1 a2 a3 : Int} {V : zH}
    (h : ((a3 ≤ a2) → (F V)) ∧ ((a2 < a3) → (((S a0).1 = 1) ∧ ((0 : Int) ≤ a2 ∧ a2 < (S a0).2) ∧ ∀ V4 : zH, V4 = zput V a0 a2 a1 → (z32 (a2 + 1)) ∧ zl_J7_fill_53178_5 E X F S a0 a1 (a2 + 1) a3 V4))) :
    zl_J7_fill_53178_5 E X F S a0 a1 a2 a3 V := by
  unfold zl_J7_fill_53178_5
  refine z_iload_n 2 dJ7_fill_53178_5 rfl ?_
  refine z_iload_n 3 dJ7_fill_53178_6 rfl ?_
  refine z_icmp_ge dJ7_fill_53178_7 (tgt := 20) (by decide) (fun c1 => ?_) (fun c1 => ?_)
  · have h := h.1 c1
    exact z_retV dJ7_fill_53178_20 rfl h
  · have h := h.2 c1
    refine z_aload_n 0 dJ7_fill_53178_10 rfl ?_
    refine z_iload_n 2 dJ7_fill_53178_11 rfl ?_
    refine z_iload_n 1 dJ7_fill_53178_12 rfl ?_
    obtain ⟨o2, h⟩ := h
    obtain ⟨o3, h⟩ := h
    refine z_iast dJ7_fill_53178_13 o2 o3 ?_
    refine z_nameV (fun V4 e5 => ?_)
    have h := h V4 e5
    obtain ⟨o6, h⟩ := h
    refine z_iinc 2 dJ7_fill_53178_14 rfl (by decide) o6 (L' := [(0, zrv a0), (1, ziv a1), (2, ziv (a2 + 1)), (3, ziv a3)]) [1, 2, 0, 3] rfl ?_
    refine z_goto (tgt := 5) dJ7_fill_53178_17 (by decide) ?_
    exact h
set_option maxRecDepth 100000 in
set_option maxHeartbeats 4000000 in
theorem en_J7_fill_53178 {E : zE} {F : zH → Prop} {S : zS} {a0 a1 : Int} {V : zH}
    (h : z32 a1 → ∀ X : zX, ((S a0).1 = 1) ∧ ∀ x2 : Int, x2 = (S a0).2 → zl_J7_fill_53178_5 E X F S a0 a1 0 x2 V) :
    SpV E 0 zm_J7_fill_53178 [zrv a0, ziv a1] S V F := by
  refine Sp.of (plainFor_of_name (by decide +kernel)) (Nat.le_of_ble_eq_true rfl) (fun hok X => ?_)
  have h := h (hok _ (List.mem_cons_of_mem _ (List.mem_cons_self))) X
  show Zr E X (zRoom 0 0 0) zm_J7_fill_53178 (zQm E X (zpV S F) 0 0) 0 0 0 [(0, zrv a0), (1, ziv a1)] [] S V
  refine z_iconst dJ7_fill_53178_0 ⟨by decide, by decide⟩ ?_
  refine z_istore_n dJ7_fill_53178_1 (by decide) (L' := [(0, zrv a0), (1, ziv a1), (2, ziv 0)]) [1, 2, 0] rfl ?_
  refine z_aload_n 0 dJ7_fill_53178_2 rfl ?_
  obtain ⟨o1, h⟩ := h
  refine z_len1 dJ7_fill_53178_3 o1 ?_
  refine z_nameI (fun x2 e3 => ?_)
  have h := h x2 e3
  refine z_istore_n dJ7_fill_53178_4 (by decide) (L' := [(0, zrv a0), (1, ziv a1), (2, ziv 0), (3, ziv x2)]) [1, 2, 3, 0] rfl ?_
  exact h
