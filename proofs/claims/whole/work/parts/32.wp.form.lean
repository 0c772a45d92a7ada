set_option maxRecDepth 100000 in
set_option maxHeartbeats 4000000 in
theorem en_X1_init {E : zE} {F : zS → zH → Prop} {mc ms : Nat} {S : zS} {a0 a1 : Int} {V : zH}
    (h : ((S a0).1 = 4) ∧ (0 < a0) ∧ ∀ V3 : zH, V3 = zput V a0 0 2 → (0 + 1 ≤ mc ∧ 0 + 72 ≤ ms) ∧ ∀ r6 : Int, 0 < r6 → ((S r6).1 = 0 ∧ ∀ q : Int, (S q).1 ≠ 0 → q < r6 ∧ (S (r6 - 1)).1 ≠ 0) → ∀ (S9 : zS) (V10 : zH), S9 = zSn S r6 (1, 72) → V10 = zVn V3 r6 → ∀ V15 : zH, V15 = zput V10 a0 4 r6 → (0 + 1 + 1 ≤ mc ∧ 0 + 72 + 5184 ≤ ms) ∧ ∀ r18 : Int, 0 < r18 → ((S9 r18).1 = 0 ∧ ∀ q : Int, (S9 q).1 ≠ 0 → q < r18 ∧ (S9 (r18 - 1)).1 ≠ 0) → ∀ (S21 : zS) (V22 : zH), S21 = zSn S9 r18 (1, 5184) → V22 = zVn V15 r18 → ∀ V28 : zH, V28 = zput V22 a0 5 r18 → (0 + 1 + 1 + 1 ≤ mc ∧ 0 + 72 + 5184 + 12 ≤ ms) ∧ ∀ r31 : Int, 0 < r31 → ((S21 r31).1 = 0 ∧ ∀ q : Int, (S21 q).1 ≠ 0 → q < r31 ∧ (S21 (r31 - 1)).1 ≠ 0) → ∀ (S34 : zS) (V35 : zH), S34 = zSn S21 r31 (1, 12) → V35 = zVn V28 r31 → ∀ V42 : zH, V42 = zput V35 a0 7 r31 → ∀ V44 : zH, V44 = zput V42 a0 6 a1 → (0 + 1 + 1 + 1 ≤ mc ∧ 0 + 72 + 5184 + 12 ≤ ms) ∧ F S34 V44) :
    SaV E 1 mc ms zm_X1_init [zrv a0, zrv a1] S V F := by
  refine Sp.of (plainFor_of_name (by decide +kernel)) (Nat.le_of_ble_eq_true rfl) (fun hok X => ?_)
  have h := h
  show Zr E X (zRoom 1 mc ms) zm_X1_init (zQm E X (zaV F) mc ms) 0 0 0 [(0, zrv a0), (1, zrv a1)] [] S V
  refine z_aload_n 0 dX1_init_0 rfl ?_
  obtain ⟨o1, h⟩ := h
  obtain ⟨o2, h⟩ := h
  refine z_objInit dX1_init_1 (zk_RX1_3 _ rfl) zw_oi1 zw_oi2 o2 (Nat.le_of_ble_eq_true rfl) (Nat.le_of_ble_eq_true rfl) (Nat.le_of_ble_eq_true rfl) ?_
  refine z_aload_n 0 dX1_init_4 rfl ?_
  refine z_iconst dX1_init_5 ⟨by decide, by decide⟩ ?_
  refine zpf_1_0 dX1_init_6 (zf_RX1_9 _ rfl) o1 ?_
  refine z_nameV (fun V3 e4 => ?_)
  have h := h V3 e4
  refine z_aload_n 0 dX1_init_9 rfl ?_
  refine z_bipush dX1_init_10 ⟨by decide, by decide⟩ (by decide) ?_
  obtain ⟨o5, h⟩ := h
  refine z_newi dX1_init_12 zw_arri (by decide) (by decide) o5.1 o5.2 (fun r6 q7 f8 => ?_)
  refine z_nameS (fun S9 V10 e11 e12 => ?_)
  have h := h r6 q7 f8 S9 V10 e11 e12
  have o13 : (S9 a0).1 = 4 := zSn_k e11 o1 f8.1 (by decide)
  have o14 : (S9 r6).1 = 1 := zSn_r e11
  refine zpf_1_4 rfl rfl dX1_init_14 (zf_RX1_15 _ rfl) o13 ?_
  refine z_nameV (fun V15 e16 => ?_)
  have h := h V15 e16
  refine z_aload_n 0 dX1_init_17 rfl ?_
  refine z_sipush dX1_init_18 ⟨by decide, by decide⟩ (by decide) ?_
  obtain ⟨o17, h⟩ := h
  refine z_newi dX1_init_21 zw_arri (by decide) (by decide) o17.1 o17.2 (fun r18 q19 f20 => ?_)
  refine z_nameS (fun S21 V22 e23 e24 => ?_)
  have h := h r18 q19 f20 S21 V22 e23 e24
  have o25 : (S21 a0).1 = 4 := zSn_k e23 o13 f20.1 (by decide)
  have o26 : (S21 r6).1 = 1 := zSn_k e23 o14 f20.1 (by decide)
  have o27 : (S21 r18).1 = 1 := zSn_r e23
  refine zpf_1_5 rfl rfl dX1_init_23 (zf_RX1_19 _ rfl) o25 ?_
  refine z_nameV (fun V28 e29 => ?_)
  have h := h V28 e29
  refine z_aload_n 0 dX1_init_26 rfl ?_
  refine z_bipush dX1_init_27 ⟨by decide, by decide⟩ (by decide) ?_
  obtain ⟨o30, h⟩ := h
  refine z_newi dX1_init_29 zw_arri (by decide) (by decide) o30.1 o30.2 (fun r31 q32 f33 => ?_)
  refine z_nameS (fun S34 V35 e36 e37 => ?_)
  have h := h r31 q32 f33 S34 V35 e36 e37
  have o38 : (S34 a0).1 = 4 := zSn_k e36 o25 f33.1 (by decide)
  have o39 : (S34 r6).1 = 1 := zSn_k e36 o26 f33.1 (by decide)
  have o40 : (S34 r18).1 = 1 := zSn_k e36 o27 f33.1 (by decide)
  have o41 : (S34 r31).1 = 1 := zSn_r e36
  refine zpf_1_7 rfl rfl dX1_init_31 (zf_RX1_22 _ rfl) o38 ?_
  refine z_nameV (fun V42 e43 => ?_)
  have h := h V42 e43
  refine z_aload_n 0 dX1_init_34 rfl ?_
  refine z_aload_n 1 dX1_init_35 rfl ?_
  refine zpf_1_6 rfl rfl dX1_init_36 (zf_RX1_25 _ rfl) o38 ?_
  refine z_nameV (fun V44 e45 => ?_)
  have h := h V44 e45
  obtain ⟨o46, h⟩ := h
  exact z_retaV dX1_init_39 rfl o46.1 o46.2 h
def zl_X1_begin_33 (E : zE) (X : zX) (F : zH → Prop) (S : zS) (a0 a3 a4 : Int) (V : zH) : Prop := Zr E X (zRoom 2 0 0) zm_X1_begin (zQm E X (zpV S F) 0 0) 0 0 33 [(0, zrv a0), (3, ziv a3), (4, ziv a4)] [] S V
def zl_X1_begin_67 (E : zE) (X : zX) (F : zH → Prop) (S : zS) (a0 a4 : Int) (V : zH) : Prop := Zr E X (zRoom 2 0 0) zm_X1_begin (zQm E X (zpV S F) 0 0) 0 0 67 [(0, zrv a0), (4, ziv a4)] [] S V
set_option maxRecDepth 100000 in
set_option maxHeartbeats 4000000 in
theorem wp_X1_begin_33 {E : zE} {X : zX} {F : zH → Prop} {S : zS} {a0 a3 a4 : Int} {V : zH}
    (h : ((a3 ≤ a4) → (zl_X1_begin_67 E X F S a0 1 V)) ∧ ((a4 < a3) → (((S a0).1 = 4) ∧ (z32 (a4 * 72)) ∧ (z32 ((a4 * 72) + (V a0 1))) ∧ (z32 (((a4 * 72) + (V a0 1)) + a4)) ∧ ((S (V a0 6)).1 = 1) ∧ ((0 : Int) ≤ ((a4 * 72) + (V a0 1)) + a4 ∧ ((a4 * 72) + (V a0 1)) + a4 < (S (V a0 6)).2) ∧ ∀ V8 : zH, V8 = zput V (V a0 6) (((a4 * 72) + (V a0 1)) + a4) 1 → (z32 (a4 + 1)) ∧ zl_X1_begin_33 E X F S a0 a3 (a4 + 1) V8))) :
    zl_X1_begin_33 E X F S a0 a3 a4 V := by
  unfold zl_X1_begin_33
  refine z_iload 2 dX1_begin_33 rfl ?_
  refine z_iload_n 1 dX1_begin_35 rfl ?_
  refine z_icmp_ge dX1_begin_36 (tgt := 64) (by decide) (fun c1 => ?_) (fun c1 => ?_)
  · have h := h.1 c1
    refine z_iconst dX1_begin_64 ⟨by decide, by decide⟩ ?_
    refine z_istore dX1_begin_65 (by decide) (L' := [(0, zrv a0), (3, ziv a3), (4, ziv 1)]) [1, 2, 0] rfl ?_
    refine z_loc (L' := [(0, zrv a0), (4, ziv 1)]) [0, 2] rfl ?_
    exact h
  · have h := h.2 c1
    refine z_aload_n 0 dX1_begin_39 rfl ?_
    obtain ⟨o2, h⟩ := h
    refine zgf_1_6 dX1_begin_40 (zf_RX1_25 _ rfl) o2 ?_
    refine z_iload 2 dX1_begin_43 rfl ?_
    refine z_bipush dX1_begin_45 ⟨by decide, by decide⟩ (by decide) ?_
    obtain ⟨o3, h⟩ := h
    refine z_imul dX1_begin_47 o3 ?_
    refine z_aload_n 0 dX1_begin_48 rfl ?_
    refine zgf_1_1 dX1_begin_49 (zf_RX1_28 _ rfl) o2 ?_
    obtain ⟨o4, h⟩ := h
    refine z_iadd dX1_begin_52 o4 ?_
    refine z_iload 2 dX1_begin_53 rfl ?_
    obtain ⟨o5, h⟩ := h
    refine z_iadd dX1_begin_55 o5 ?_
    refine z_iconst dX1_begin_56 ⟨by decide, by decide⟩ ?_
    obtain ⟨o6, h⟩ := h
    obtain ⟨o7, h⟩ := h
    refine z_iast dX1_begin_57 o6 o7 ?_
    refine z_nameV (fun V8 e9 => ?_)
    have h := h V8 e9
    obtain ⟨o10, h⟩ := h
    refine z_iinc 2 dX1_begin_58 rfl (by decide) o10 (L' := [(0, zrv a0), (3, ziv a3), (4, ziv (a4 + 1))]) [1, 2, 0] rfl ?_
    refine z_goto (tgt := 33) dX1_begin_61 (by decide) ?_
    exact h
set_option maxRecDepth 100000 in
set_option maxHeartbeats 4000000 in
theorem wp_X1_begin_67 {E : zE} {X : zX} {F : zH → Prop} {S : zS} {a0 a4 : Int} {V : zH}
    (h : ((S a0).1 = 4) ∧ ((V a0 0 ≤ a4) → (F V)) ∧ ((a4 < V a0 0) → (SpF E 1 zm_X1_unitFor [ziv a4, ziv (V a0 0)] S V (fun x3 => ((S (V a0 7)).1 = 1) ∧ ((0 : Int) ≤ a4 ∧ a4 < (S (V a0 7)).2) ∧ ∀ V7 : zH, V7 = zput V (V a0 7) a4 x3 → (z32 (a4 + 1)) ∧ zl_X1_begin_67 E X F S a0 (a4 + 1) V7)))) :
    zl_X1_begin_67 E X F S a0 a4 V := by
  unfold zl_X1_begin_67
  refine z_iload 1 dX1_begin_67 rfl ?_
  refine z_aload_n 0 dX1_begin_69 rfl ?_
  obtain ⟨o1, h⟩ := h
  refine zgf_1_0 dX1_begin_70 (zf_RX1_9 _ rfl) o1 ?_
  refine z_icmp_ge dX1_begin_73 (tgt := 98) (by decide) (fun c2 => ?_) (fun c2 => ?_)
  · have h := h.1 c2
    exact z_retV dX1_begin_98 rfl h
  · have h := h.2 c2
    refine z_aload_n 0 dX1_begin_76 rfl ?_
    refine zgf_1_7 dX1_begin_77 (zf_RX1_22 _ rfl) o1 ?_
    refine z_iload 1 dX1_begin_80 rfl ?_
    refine z_iload 1 dX1_begin_82 rfl ?_
    refine z_aload_n 0 dX1_begin_84 rfl ?_
    refine zgf_1_0 dX1_begin_85 (zf_RX1_9 _ rfl) o1 ?_
    refine z_cSF [ziv a4, ziv (V a0 0)] (zk_RX1_43 _ rfl) dX1_begin_88 rfl rfl (Nat.le_of_ble_eq_true rfl) (Nat.le_of_ble_eq_true rfl) (Nat.le_of_ble_eq_true rfl) (Nat.le_of_ble_eq_true rfl) (Nat.le_of_ble_eq_true rfl) h (fun x3 h => ?_)
    obtain ⟨o5, h⟩ := h
    obtain ⟨o6, h⟩ := h
    refine z_iast dX1_begin_91 o5 o6 ?_
    refine z_nameV (fun V7 e8 => ?_)
    have h := h V7 e8
    obtain ⟨o9, h⟩ := h
    refine z_iinc 1 dX1_begin_92 rfl (by decide) o9 (L' := [(0, zrv a0), (4, ziv (a4 + 1))]) [1, 0] rfl ?_
    refine z_goto (tgt := 67) dX1_begin_95 (by decide) ?_
    exact h
set_option maxRecDepth 100000 in
set_option maxHeartbeats 4000000 in
theorem en_X1_begin {E : zE} {F : zH → Prop} {S : zS} {a0 a1 a2 a3 : Int} {V : zH}
    (h : z32 a1 → z32 a2 → z32 a3 → ∀ X : zX, ((S a0).1 = 4) ∧ ∀ V2 : zH, V2 = zput V a0 0 a1 → ∀ V4 : zH, V4 = zput V2 a0 1 a2 → (z32 (a2 + a3)) ∧ ∀ V7 : zH, V7 = zput V4 a0 2 (a2 + a3) → ∀ V9 : zH, V9 = zput V7 a0 3 a3 → SpV E 0 zm_J7_fill_53178 [zrv (V a0 6), ziv 0] S V9 (fun V12 => zl_X1_begin_33 E X F S a0 a3 0 V12)) :
    SpV E 2 zm_X1_begin [zrv a0, ziv a1, ziv a2, ziv a3] S V F := by
  refine Sp.of (plainFor_of_name (by decide +kernel)) (Nat.le_of_ble_eq_true rfl) (fun hok X => ?_)
  have h := h (hok _ (List.mem_cons_of_mem _ (List.mem_cons_self))) (hok _ (List.mem_cons_of_mem _ (List.mem_cons_of_mem _ (List.mem_cons_self)))) (hok _ (List.mem_cons_of_mem _ (List.mem_cons_of_mem _ (List.mem_cons_of_mem _ (List.mem_cons_self))))) X
  show Zr E X (zRoom 2 0 0) zm_X1_begin (zQm E X (zpV S F) 0 0) 0 0 0 [(0, zrv a0), (1, ziv a1), (2, ziv a2), (3, ziv a3)] [] S V
  refine z_aload_n 0 dX1_begin_0 rfl ?_
  refine z_iload_n 1 dX1_begin_1 rfl ?_
  obtain ⟨o1, h⟩ := h
  refine zpf_1_0 dX1_begin_2 (zf_RX1_9 _ rfl) o1 ?_
  refine z_nameV (fun V2 e3 => ?_)
  have h := h V2 e3
  refine z_aload_n 0 dX1_begin_5 rfl ?_
  refine z_iload_n 2 dX1_begin_6 rfl ?_
  refine zpf_1_1 dX1_begin_7 (zf_RX1_28 _ rfl) o1 ?_
  refine z_nameV (fun V4 e5 => ?_)
  have h := h V4 e5
  refine z_aload_n 0 dX1_begin_10 rfl ?_
  refine z_iload_n 2 dX1_begin_11 rfl ?_
  refine z_iload_n 3 dX1_begin_12 rfl ?_
  obtain ⟨o6, h⟩ := h
  refine z_iadd dX1_begin_13 o6 ?_
  refine zpf_1_2 dX1_begin_14 (zf_RX1_31 _ rfl) o1 ?_
  refine z_nameV (fun V7 e8 => ?_)
  have h := h V7 e8
  refine z_aload_n 0 dX1_begin_17 rfl ?_
  refine z_iload_n 3 dX1_begin_18 rfl ?_
  refine zpf_1_3 dX1_begin_19 (zf_RX1_34 _ rfl) o1 ?_
  refine z_nameV (fun V9 e10 => ?_)
  have h := h V9 e10
  refine z_aload_n 0 dX1_begin_22 rfl ?_
  refine zgf_1_6 dX1_begin_23 (zf_RX1_25 _ rfl) o1 ?_
  refine z_topR ((((zfr_j e10 (by decide)).trans (zfr_j e8 (by decide))).trans (zfr_j e5 (by decide))).trans (zfr_j e3 (by decide))) ?_
  refine z_iconst dX1_begin_26 ⟨by decide, by decide⟩ ?_
  refine z_cSV [zrv (V a0 6), ziv 0] (zk_RX1_37 _ rfl) dX1_begin_27 rfl rfl (Nat.le_of_ble_eq_true rfl) (Nat.le_of_ble_eq_true rfl) (Nat.le_of_ble_eq_true rfl) (Nat.le_of_ble_eq_true rfl) (Nat.le_of_ble_eq_true rfl) h (fun V12 h => ?_)
  refine z_iconst dX1_begin_30 ⟨by decide, by decide⟩ ?_
  refine z_istore dX1_begin_31 (by decide) (L' := [(0, zrv a0), (1, ziv a1), (2, ziv a2), (3, ziv a3), (4, ziv 0)]) [1, 2, 3, 4, 0] rfl ?_
  refine z_loc (L' := [(0, zrv a0), (3, ziv a3), (4, ziv 0)]) [0, 3, 4] rfl ?_
  exact h
def zl_X1_unitFor_8 (E : zE) (X : zX) (F : Int → Prop) (S : zS) (a0 a1 a2 a3 : Int) (V : zH) : Prop := Zr E X (zRoom 1 0 0) zm_X1_unitFor (zQm E X (zpF S V F) 0 0) 0 0 8 [(0, ziv a0), (1, ziv a1), (2, ziv a2), (3, ziv a3)] [] S V
set_option maxRecDepth 100000 in
set_option maxHeartbeats 4000000 in
theorem wp_X1_unitFor_8 {E : zE} {X : zX} {F : Int → Prop} {S : zS} {a0 a1 a2 a3 : Int} {V : zH}
    (h : ((a1 ≤ a3) → (F 1)) ∧ ((a3 < a1) → ((z32 (a3 * a0)) ∧ ((0 : Int) ≤ a3 * a0) ∧ ((0 : Int) < a1) ∧ (((a3 * a0) % a1 ≠ a2) → ((z32 (a3 + 1)) ∧ zl_X1_unitFor_8 E X F S a0 a1 a2 (a3 + 1) V)) ∧ (((a3 * a0) % a1 = a2) → (SpF E 0 zm_X1_gcd [ziv a3, ziv a1] S V (fun x7 => ((x7 ≠ 1) → ((z32 (a3 + 1)) ∧ zl_X1_unitFor_8 E X F S a0 a1 a2 (a3 + 1) V)) ∧ ((x7 = 1) → (F a3)))))))) :
    zl_X1_unitFor_8 E X F S a0 a1 a2 a3 V := by
  unfold zl_X1_unitFor_8
  refine z_iload_n 3 dX1_unitFor_8 rfl ?_
  refine z_iload_n 1 dX1_unitFor_9 rfl ?_
  refine z_icmp_ge dX1_unitFor_10 (tgt := 39) (by decide) (fun c1 => ?_) (fun c1 => ?_)
  · have h := h.1 c1
    refine z_iconst dX1_unitFor_39 ⟨by decide, by decide⟩ ?_
    exact z_retFI dX1_unitFor_40 rfl h
  · have h := h.2 c1
    refine z_iload_n 3 dX1_unitFor_13 rfl ?_
    refine z_iload_n 0 dX1_unitFor_14 rfl ?_
    obtain ⟨o2, h⟩ := h
    refine z_imul dX1_unitFor_15 o2 ?_
    refine z_iload_n 1 dX1_unitFor_16 rfl ?_
    obtain ⟨o3, h⟩ := h
    obtain ⟨o4, h⟩ := h
    refine z_irem dX1_unitFor_17 o3 o4 ?_
    refine z_iload_n 2 dX1_unitFor_18 rfl ?_
    refine z_icmp_ne dX1_unitFor_19 (tgt := 33) (by decide) (fun c5 => ?_) (fun c5 => ?_)
    · have h := h.1 c5
      obtain ⟨o6, h⟩ := h
      refine z_iinc 3 dX1_unitFor_33 rfl (by decide) o6 (L' := [(0, ziv a0), (1, ziv a1), (2, ziv a2), (3, ziv (a3 + 1))]) [1, 2, 3, 0] rfl ?_
      refine z_goto (tgt := 8) dX1_unitFor_36 (by decide) ?_
      exact h
    · have h := h.2 c5
      refine z_iload_n 3 dX1_unitFor_22 rfl ?_
      refine z_iload_n 1 dX1_unitFor_23 rfl ?_
      refine z_cSF [ziv a3, ziv a1] (zk_RX1_47 _ rfl) dX1_unitFor_24 rfl rfl (Nat.le_of_ble_eq_true rfl) (Nat.le_of_ble_eq_true rfl) (Nat.le_of_ble_eq_true rfl) (Nat.le_of_ble_eq_true rfl) (Nat.le_of_ble_eq_true rfl) h (fun x7 h => ?_)
      refine z_iconst dX1_unitFor_27 ⟨by decide, by decide⟩ ?_
      refine z_icmp_ne dX1_unitFor_28 (tgt := 33) (by decide) (fun c9 => ?_) (fun c9 => ?_)
      · have h := h.1 c9
        obtain ⟨o10, h⟩ := h
        refine z_iinc 3 dX1_unitFor_33 rfl (by decide) o10 (L' := [(0, ziv a0), (1, ziv a1), (2, ziv a2), (3, ziv (a3 + 1))]) [1, 2, 3, 0] rfl ?_
        refine z_goto (tgt := 8) dX1_unitFor_36 (by decide) ?_
        exact h
      · have h := h.2 c9
        refine z_iload_n 3 dX1_unitFor_31 rfl ?_
        exact z_retFI dX1_unitFor_32 rfl h
set_option maxRecDepth 100000 in
set_option maxHeartbeats 4000000 in
theorem en_X1_unitFor {E : zE} {F : Int → Prop} {S : zS} {a0 a1 : Int} {V : zH}
    (h : z32 a0 → z32 a1 → ∀ X : zX, SpF E 0 zm_X1_gcd [ziv a0, ziv a1] S V (fun x1 => zl_X1_unitFor_8 E X F S a0 a1 x1 1 V)) :
    SpF E 1 zm_X1_unitFor [ziv a0, ziv a1] S V F := by
  refine Sp.of (plainFor_of_name (by decide +kernel)) (Nat.le_of_ble_eq_true rfl) (fun hok X => ?_)
  have h := h (hok _ (List.mem_cons_self)) (hok _ (List.mem_cons_of_mem _ (List.mem_cons_self))) X
  show Zr E X (zRoom 1 0 0) zm_X1_unitFor (zQm E X (zpF S V F) 0 0) 0 0 0 [(0, ziv a0), (1, ziv a1)] [] S V
  refine z_iload_n 0 dX1_unitFor_0 rfl ?_
  refine z_iload_n 1 dX1_unitFor_1 rfl ?_
  refine z_cSF [ziv a0, ziv a1] (zk_RX1_47 _ rfl) dX1_unitFor_2 rfl rfl (Nat.le_of_ble_eq_true rfl) (Nat.le_of_ble_eq_true rfl) (Nat.le_of_ble_eq_true rfl) (Nat.le_of_ble_eq_true rfl) (Nat.le_of_ble_eq_true rfl) h (fun x1 h => ?_)
  refine z_istore_n dX1_unitFor_5 (by decide) (L' := [(0, ziv a0), (1, ziv a1), (2, ziv x1)]) [1, 2, 0] rfl ?_
  refine z_iconst dX1_unitFor_6 ⟨by decide, by decide⟩ ?_
  refine z_istore_n dX1_unitFor_7 (by decide) (L' := [(0, ziv a0), (1, ziv a1), (2, ziv x1), (3, ziv 1)]) [1, 2, 3, 0] rfl ?_
  exact h
def zl_X1_gcd_2 (E : zE) (X : zX) (F : Int → Prop) (S : zS) (a0 a1 a2 : Int) (V : zH) : Prop := Zr E X (zRoom 0 0 0) zm_X1_gcd (zQm E X (zpF S V F) 0 0) 0 0 2 [(0, ziv a0), (1, ziv a1), (2, ziv a2)] [] S V
set_option maxRecDepth 100000 in
set_option maxHeartbeats 4000000 in
theorem wp_X1_gcd_2 {E : zE} {X : zX} {F : Int → Prop} {S : zS} {a0 a1 a2 : Int} {V : zH}
    (h : ((a2 ≤ 1) → (F 1)) ∧ ((1 < a2) → (((0 : Int) ≤ a0) ∧ ((0 : Int) < a2) ∧ ((a0 % a2 ≠ 0) → ((z32 (a2 + (-1))) ∧ zl_X1_gcd_2 E X F S a0 a1 (a2 + (-1)) V)) ∧ ((a0 % a2 = 0) → (((0 : Int) ≤ a1) ∧ ((a1 % a2 ≠ 0) → ((z32 (a2 + (-1))) ∧ zl_X1_gcd_2 E X F S a0 a1 (a2 + (-1)) V)) ∧ ((a1 % a2 = 0) → (F a2))))))) :
    zl_X1_gcd_2 E X F S a0 a1 a2 V := by
  unfold zl_X1_gcd_2
  refine z_iload_n 2 dX1_gcd_2 rfl ?_
  refine z_iconst dX1_gcd_3 ⟨by decide, by decide⟩ ?_
  refine z_icmp_le dX1_gcd_4 (tgt := 27) (by decide) (fun c1 => ?_) (fun c1 => ?_)
  · have h := h.1 c1
    refine z_iconst dX1_gcd_27 ⟨by decide, by decide⟩ ?_
    exact z_retFI dX1_gcd_28 rfl h
  · have h := h.2 c1
    refine z_iload_n 0 dX1_gcd_7 rfl ?_
    refine z_iload_n 2 dX1_gcd_8 rfl ?_
    obtain ⟨o2, h⟩ := h
    obtain ⟨o3, h⟩ := h
    refine z_irem dX1_gcd_9 o2 o3 ?_
    refine z_if_ne dX1_gcd_10 (tgt := 21) (by decide) (fun c4 => ?_) (fun c4 => ?_)
    · have h := h.1 c4
      obtain ⟨o5, h⟩ := h
      refine z_iinc 2 dX1_gcd_21 rfl (by decide) o5 (L' := [(0, ziv a0), (1, ziv a1), (2, ziv (a2 + (-1)))]) [1, 2, 0] rfl ?_
      refine z_goto (tgt := 2) dX1_gcd_24 (by decide) ?_
      exact h
    · have h := h.2 c4
      refine z_iload_n 1 dX1_gcd_13 rfl ?_
      refine z_iload_n 2 dX1_gcd_14 rfl ?_
      obtain ⟨o6, h⟩ := h
      refine z_irem dX1_gcd_15 o6 o3 ?_
      refine z_if_ne dX1_gcd_16 (tgt := 21) (by decide) (fun c7 => ?_) (fun c7 => ?_)
      · have h := h.1 c7
        obtain ⟨o8, h⟩ := h
        refine z_iinc 2 dX1_gcd_21 rfl (by decide) o8 (L' := [(0, ziv a0), (1, ziv a1), (2, ziv (a2 + (-1)))]) [1, 2, 0] rfl ?_
        refine z_goto (tgt := 2) dX1_gcd_24 (by decide) ?_
        exact h
      · have h := h.2 c7
        refine z_iload_n 2 dX1_gcd_19 rfl ?_
        exact z_retFI dX1_gcd_20 rfl h
set_option maxRecDepth 100000 in
set_option maxHeartbeats 4000000 in
theorem en_X1_gcd {E : zE} {F : Int → Prop} {S : zS} {a0 a1 : Int} {V : zH}
    (h : z32 a0 → z32 a1 → ∀ X : zX, zl_X1_gcd_2 E X F S a0 a1 a0 V) :
    SpF E 0 zm_X1_gcd [ziv a0, ziv a1] S V F := by
  refine Sp.of (plainFor_of_name (by decide +kernel)) (Nat.le_of_ble_eq_true rfl) (fun hok X => ?_)
  have h := h (hok _ (List.mem_cons_self)) (hok _ (List.mem_cons_of_mem _ (List.mem_cons_self))) X
  show Zr E X (zRoom 0 0 0) zm_X1_gcd (zQm E X (zpF S V F) 0 0) 0 0 0 [(0, ziv a0), (1, ziv a1)] [] S V
  refine z_iload_n 0 dX1_gcd_0 rfl ?_
  refine z_istore_n dX1_gcd_1 (by decide) (L' := [(0, ziv a0), (1, ziv a1), (2, ziv a0)]) [1, 2, 0] rfl ?_
  exact h
set_option maxRecDepth 100000 in
set_option maxHeartbeats 4000000 in
theorem en_X1_putHead {E : zE} {F : zH → Prop} {S : zS} {a0 a1 a2 a3 : Int} {V : zH}
    (h : z32 a1 → z32 a2 → z32 a3 → ((S a0).1 = 4) ∧ (z32 (a1 * 72)) ∧ (z32 ((a1 * 72) + a2)) ∧ ((S (V a0 6)).1 = 1) ∧ ((0 : Int) ≤ (a1 * 72) + a2 ∧ (a1 * 72) + a2 < (S (V a0 6)).2) ∧ ∀ V6 : zH, V6 = zput V (V a0 6) ((a1 * 72) + a2) a3 → F V6) :
    SpV E 0 zm_X1_putHead [zrv a0, ziv a1, ziv a2, ziv a3] S V F := by
  refine Sp.of (plainFor_of_name (by decide +kernel)) (Nat.le_of_ble_eq_true rfl) (fun hok X => ?_)
  have h := h (hok _ (List.mem_cons_of_mem _ (List.mem_cons_self))) (hok _ (List.mem_cons_of_mem _ (List.mem_cons_of_mem _ (List.mem_cons_self)))) (hok _ (List.mem_cons_of_mem _ (List.mem_cons_of_mem _ (List.mem_cons_of_mem _ (List.mem_cons_self)))))
  show Zr E X (zRoom 0 0 0) zm_X1_putHead (zQm E X (zpV S F) 0 0) 0 0 0 [(0, zrv a0), (1, ziv a1), (2, ziv a2), (3, ziv a3)] [] S V
  refine z_aload_n 0 dX1_putHead_0 rfl ?_
  obtain ⟨o1, h⟩ := h
  refine zgf_1_6 dX1_putHead_1 (zf_RX1_25 _ rfl) o1 ?_
  refine z_iload_n 1 dX1_putHead_4 rfl ?_
  refine z_bipush dX1_putHead_5 ⟨by decide, by decide⟩ (by decide) ?_
  obtain ⟨o2, h⟩ := h
  refine z_imul dX1_putHead_7 o2 ?_
  refine z_iload_n 2 dX1_putHead_8 rfl ?_
  obtain ⟨o3, h⟩ := h
  refine z_iadd dX1_putHead_9 o3 ?_
  refine z_iload_n 3 dX1_putHead_10 rfl ?_
  obtain ⟨o4, h⟩ := h
  obtain ⟨o5, h⟩ := h
  refine z_iast dX1_putHead_11 o4 o5 ?_
  refine z_nameV (fun V6 e7 => ?_)
  have h := h V6 e7
  exact z_retV dX1_putHead_12 rfl h
def zl_X1_build_2 (E : zE) (X : zX) (F : zH → Prop) (S : zS) (a0 a1 : Int) (V : zH) : Prop := Zr E X (zRoom 3 0 0) zm_X1_build (zQm E X (zpV S F) 0 0) 0 0 2 [(0, zrv a0), (1, ziv a1)] [] S V
def zl_X1_build_44 (E : zE) (X : zX) (F : zH → Prop) (S : zS) (a0 a1 : Int) (V : zH) : Prop := Zr E X (zRoom 3 0 0) zm_X1_build (zQm E X (zpV S F) 0 0) 0 0 44 [(0, zrv a0), (1, ziv a1)] [] S V
set_option maxRecDepth 100000 in
set_option maxHeartbeats 4000000 in
theorem wp_X1_build_2 {E : zE} {X : zX} {F : zH → Prop} {S : zS} {a0 a1 : Int} {V : zH}
    (h : ((S a0).1 = 4) ∧ ((V a0 2 ≤ a1) → (∀ x3 : Int, x3 = V a0 1 → zl_X1_build_44 E X F S a0 x3 V)) ∧ ((a1 < V a0 2) → (SpI E 2 zm_X1_clearColumn [zrv a0, ziv a1] S V (fun x5 V6 => ((S (V6 a0 4)).1 = 1) ∧ ((0 : Int) ≤ a1 ∧ a1 < (S (V6 a0 4)).2) ∧ ∀ V9 : zH, V9 = zput V6 (V6 a0 4) a1 0 → ((x5 < 0) → ((z32 (a1 + 1)) ∧ zl_X1_build_2 E X F S a0 (a1 + 1) V9)) ∧ ((0 ≤ x5) → (SpV E 1 zm_X1_settle [zrv a0, ziv x5, ziv a1] S V9 (fun V14 => (z32 (a1 + 1)) ∧ zl_X1_build_2 E X F S a0 (a1 + 1) V14))))))) :
    zl_X1_build_2 E X F S a0 a1 V := by
  unfold zl_X1_build_2
  refine z_iload_n 1 dX1_build_2 rfl ?_
  refine z_aload_n 0 dX1_build_3 rfl ?_
  obtain ⟨o1, h⟩ := h
  refine zgf_1_2 dX1_build_4 (zf_RX1_31 _ rfl) o1 ?_
  refine z_icmp_ge dX1_build_7 (tgt := 39) (by decide) (fun c2 => ?_) (fun c2 => ?_)
  · have h := h.1 c2
    refine z_aload_n 0 dX1_build_39 rfl ?_
    refine zgf_1_1 dX1_build_40 (zf_RX1_28 _ rfl) o1 ?_
    refine z_nameI (fun x3 e4 => ?_)
    have h := h x3 e4
    refine z_istore_n dX1_build_43 (by decide) (L' := [(0, zrv a0), (1, ziv x3)]) [1, 0] rfl ?_
    exact h
  · have h := h.2 c2
    refine z_aload_n 0 dX1_build_10 rfl ?_
    refine z_iload_n 1 dX1_build_11 rfl ?_
    refine z_cVI [ziv a1] (zk_RX1_50 _ rfl) dX1_build_12 o1 (by decide) rfl rfl (Nat.le_of_ble_eq_true rfl) (Nat.le_of_ble_eq_true rfl) (Nat.le_of_ble_eq_true rfl) (Nat.le_of_ble_eq_true rfl) (Nat.le_of_ble_eq_true rfl) h (fun x5 V6 h => ?_)
    refine z_istore_n dX1_build_15 (by decide) (L' := [(0, zrv a0), (1, ziv a1), (2, ziv x5)]) [1, 2, 0] rfl ?_
    refine z_aload_n 0 dX1_build_16 rfl ?_
    refine zgf_1_4 dX1_build_17 (zf_RX1_15 _ rfl) o1 ?_
    refine z_iload_n 1 dX1_build_20 rfl ?_
    refine z_iconst dX1_build_21 ⟨by decide, by decide⟩ ?_
    obtain ⟨o7, h⟩ := h
    obtain ⟨o8, h⟩ := h
    refine z_iast dX1_build_22 o7 o8 ?_
    refine z_nameV (fun V9 e10 => ?_)
    have h := h V9 e10
    refine z_iload_n 2 dX1_build_23 rfl ?_
    refine z_if_lt dX1_build_24 (tgt := 33) (by decide) (fun c11 => ?_) (fun c11 => ?_)
    · have h := h.1 c11
      obtain ⟨o12, h⟩ := h
      refine z_iinc 1 dX1_build_33 rfl (by decide) o12 (L' := [(0, zrv a0), (1, ziv (a1 + 1)), (2, ziv x5)]) [1, 0, 2] rfl ?_
      refine z_goto (tgt := 2) dX1_build_36 (by decide) ?_
      refine z_loc (L' := [(0, zrv a0), (1, ziv (a1 + 1))]) [0, 1] rfl ?_
      exact h
    · have h := h.2 c11
      refine z_aload_n 0 dX1_build_27 rfl ?_
      refine z_iload_n 2 dX1_build_28 rfl ?_
      refine z_iload_n 1 dX1_build_29 rfl ?_
      refine z_cVV [ziv x5, ziv a1] (zk_RX1_54 _ rfl) dX1_build_30 o1 (by decide) rfl rfl (Nat.le_of_ble_eq_true rfl) (Nat.le_of_ble_eq_true rfl) (Nat.le_of_ble_eq_true rfl) (Nat.le_of_ble_eq_true rfl) (Nat.le_of_ble_eq_true rfl) h (fun V14 h => ?_)
      obtain ⟨o15, h⟩ := h
      refine z_iinc 1 dX1_build_33 rfl (by decide) o15 (L' := [(0, zrv a0), (1, ziv (a1 + 1)), (2, ziv x5)]) [1, 0, 2] rfl ?_
      refine z_goto (tgt := 2) dX1_build_36 (by decide) ?_
      refine z_loc (L' := [(0, zrv a0), (1, ziv (a1 + 1))]) [0, 1] rfl ?_
      exact h
set_option maxRecDepth 100000 in
set_option maxHeartbeats 4000000 in
theorem wp_X1_build_44 {E : zE} {X : zX} {F : zH → Prop} {S : zS} {a0 a1 : Int} {V : zH}
    (h : ((S a0).1 = 4) ∧ ((V a0 2 ≤ a1) → (F V)) ∧ ((a1 < V a0 2) → (((S (V a0 4)).1 = 1) ∧ ((0 : Int) ≤ a1 ∧ a1 < (S (V a0 4)).2) ∧ ((V (V a0 4) a1 = 0) → ((z32 (a1 + 1)) ∧ zl_X1_build_44 E X F S a0 (a1 + 1) V)) ∧ ((V (V a0 4) a1 ≠ 0) → ((z32 (a1 * 72)) ∧ (z32 (a1 + 1)) ∧ SpV E 1 zm_X1_reduce [zrv a0, zrv (V a0 5), ziv (a1 * 72), ziv (a1 + 1), ziv (V a0 2)] S V (fun V10 => zl_X1_build_44 E X F S a0 (a1 + 1) V10)))))) :
    zl_X1_build_44 E X F S a0 a1 V := by
  unfold zl_X1_build_44
  refine z_iload_n 1 dX1_build_44 rfl ?_
  refine z_aload_n 0 dX1_build_45 rfl ?_
  obtain ⟨o1, h⟩ := h
  refine zgf_1_2 dX1_build_46 (zf_RX1_31 _ rfl) o1 ?_
  refine z_icmp_ge dX1_build_49 (tgt := 86) (by decide) (fun c2 => ?_) (fun c2 => ?_)
  · have h := h.1 c2
    exact z_retV dX1_build_86 rfl h
  · have h := h.2 c2
    refine z_aload_n 0 dX1_build_52 rfl ?_
    refine zgf_1_4 dX1_build_53 (zf_RX1_15 _ rfl) o1 ?_
    refine z_iload_n 1 dX1_build_56 rfl ?_
    obtain ⟨o3, h⟩ := h
    obtain ⟨o4, h⟩ := h
    refine z_iald dX1_build_57 o3 o4 ?_
    refine z_if_eq dX1_build_58 (tgt := 80) (by decide) (fun c5 => ?_) (fun c5 => ?_)
    · have h := h.1 c5
      obtain ⟨o6, h⟩ := h
      refine z_iinc 1 dX1_build_80 rfl (by decide) o6 (L' := [(0, zrv a0), (1, ziv (a1 + 1))]) [1, 0] rfl ?_
      refine z_goto (tgt := 44) dX1_build_83 (by decide) ?_
      exact h
    · have h := h.2 c5
      refine z_aload_n 0 dX1_build_61 rfl ?_
      refine z_aload_n 0 dX1_build_62 rfl ?_
      refine zgf_1_5 dX1_build_63 (zf_RX1_19 _ rfl) o1 ?_
      refine z_iload_n 1 dX1_build_66 rfl ?_
      refine z_bipush dX1_build_67 ⟨by decide, by decide⟩ (by decide) ?_
      obtain ⟨o7, h⟩ := h
      refine z_imul dX1_build_69 o7 ?_
      refine z_iload_n 1 dX1_build_70 rfl ?_
      refine z_iconst dX1_build_71 ⟨by decide, by decide⟩ ?_
      obtain ⟨o8, h⟩ := h
      refine z_iadd dX1_build_72 o8 ?_
      refine z_aload_n 0 dX1_build_73 rfl ?_
      refine zgf_1_2 dX1_build_74 (zf_RX1_31 _ rfl) o1 ?_
      refine z_cVV [zrv (V a0 5), ziv (a1 * 72), ziv (a1 + 1), ziv (V a0 2)] (zk_RX1_58 _ rfl) dX1_build_77 o1 (by decide) rfl rfl (Nat.le_of_ble_eq_true rfl) (Nat.le_of_ble_eq_true rfl) (Nat.le_of_ble_eq_true rfl) (Nat.le_of_ble_eq_true rfl) (Nat.le_of_ble_eq_true rfl) h (fun V10 h => ?_)
      refine z_iinc 1 dX1_build_80 rfl (by decide) o8 (L' := [(0, zrv a0), (1, ziv (a1 + 1))]) [1, 0] rfl ?_
      refine z_goto (tgt := 44) dX1_build_83 (by decide) ?_
      exact h
set_option maxRecDepth 100000 in
set_option maxHeartbeats 4000000 in
theorem en_X1_build {E : zE} {F : zH → Prop} {S : zS} {a0 : Int} {V : zH}
    (h : ∀ X : zX, zl_X1_build_2 E X F S a0 0 V) :
    SpV E 3 zm_X1_build [zrv a0] S V F := by
  refine Sp.of (plainFor_of_name (by decide +kernel)) (Nat.le_of_ble_eq_true rfl) (fun hok X => ?_)
  have h := h X
  show Zr E X (zRoom 3 0 0) zm_X1_build (zQm E X (zpV S F) 0 0) 0 0 0 [(0, zrv a0)] [] S V
  refine z_iconst dX1_build_0 ⟨by decide, by decide⟩ ?_
  refine z_istore_n dX1_build_1 (by decide) (L' := [(0, zrv a0), (1, ziv 0)]) [1, 0] rfl ?_
  exact h
def zl_X1_clearColumn_4 (E : zE) (X : zX) (F : Int → zH → Prop) (S : zS) (a0 a1 a2 a3 : Int) (V : zH) : Prop := Zr E X (zRoom 2 0 0) zm_X1_clearColumn (zQm E X (zpI S F) 0 0) 0 0 4 [(0, zrv a0), (1, ziv a1), (2, ziv a2), (3, ziv a3)] [] S V
set_option maxRecDepth 100000 in
set_option maxHeartbeats 4000000 in
theorem wp_X1_clearColumn_4 {E : zE} {X : zX} {F : Int → zH → Prop} {S : zS} {a0 a1 a2 a3 : Int} {V : zH}
    (h : ((S a0).1 = 4) ∧ ((V a0 3 ≤ a3) → (F a2 V)) ∧ ((a3 < V a0 3) → ((z32 (a3 * 72)) ∧ (z32 ((a3 * 72) + a1)) ∧ ((S (V a0 6)).1 = 1) ∧ ((0 : Int) ≤ (a3 * 72) + a1 ∧ (a3 * 72) + a1 < (S (V a0 6)).2) ∧ ((V (V a0 6) ((a3 * 72) + a1) ≠ 0) → (((0 ≤ a2) → (SpI E 1 zm_X1_clearOne [zrv a0, ziv a2, ziv a3, ziv a1] S V (fun x9 V10 => (z32 (a3 + 1)) ∧ zl_X1_clearColumn_4 E X F S a0 a1 x9 (a3 + 1) V10))) ∧ ((a2 < 0) → (((S (V a0 7)).1 = 1) ∧ ((0 : Int) ≤ V (V a0 6) ((a3 * 72) + a1) ∧ V (V a0 6) ((a3 * 72) + a1) < (S (V a0 7)).2) ∧ SpI E 0 zm_X1_multiply [zrv a0, ziv a3, ziv a1, ziv (V (V a0 7) (V (V a0 6) ((a3 * 72) + a1)))] S V (fun x14 V15 => (z32 (a3 + 1)) ∧ zl_X1_clearColumn_4 E X F S a0 a1 a3 (a3 + 1) V15))))) ∧ ((V (V a0 6) ((a3 * 72) + a1) = 0) → ((z32 (a3 + 1)) ∧ zl_X1_clearColumn_4 E X F S a0 a1 a2 (a3 + 1) V))))) :
    zl_X1_clearColumn_4 E X F S a0 a1 a2 a3 V := by
  unfold zl_X1_clearColumn_4
  refine z_iload_n 3 dX1_clearColumn_4 rfl ?_
  refine z_aload_n 0 dX1_clearColumn_5 rfl ?_
  obtain ⟨o1, h⟩ := h
  refine zgf_1_3 dX1_clearColumn_6 (zf_RX1_34 _ rfl) o1 ?_
  refine z_icmp_ge dX1_clearColumn_9 (tgt := 75) (by decide) (fun c2 => ?_) (fun c2 => ?_)
  · have h := h.1 c2
    refine z_iload_n 2 dX1_clearColumn_75 rfl ?_
    exact z_retI dX1_clearColumn_76 rfl h
  · have h := h.2 c2
    refine z_aload_n 0 dX1_clearColumn_12 rfl ?_
    refine zgf_1_6 dX1_clearColumn_13 (zf_RX1_25 _ rfl) o1 ?_
    refine z_iload_n 3 dX1_clearColumn_16 rfl ?_
    refine z_bipush dX1_clearColumn_17 ⟨by decide, by decide⟩ (by decide) ?_
    obtain ⟨o3, h⟩ := h
    refine z_imul dX1_clearColumn_19 o3 ?_
    refine z_iload_n 1 dX1_clearColumn_20 rfl ?_
    obtain ⟨o4, h⟩ := h
    refine z_iadd dX1_clearColumn_21 o4 ?_
    obtain ⟨o5, h⟩ := h
    obtain ⟨o6, h⟩ := h
    refine z_iald dX1_clearColumn_22 o5 o6 ?_
    refine z_if_ne dX1_clearColumn_23 (tgt := 29) (by decide) (fun c7 => ?_) (fun c7 => ?_)
    · have h := h.1 c7
      refine z_iload_n 2 dX1_clearColumn_29 rfl ?_
      refine z_if_ge dX1_clearColumn_30 (tgt := 61) (by decide) (fun c8 => ?_) (fun c8 => ?_)
      · have h := h.1 c8
        refine z_aload_n 0 dX1_clearColumn_61 rfl ?_
        refine z_iload_n 2 dX1_clearColumn_62 rfl ?_
        refine z_iload_n 3 dX1_clearColumn_63 rfl ?_
        refine z_iload_n 1 dX1_clearColumn_64 rfl ?_
        refine z_cVI [ziv a2, ziv a3, ziv a1] (zk_RX1_66 _ rfl) dX1_clearColumn_65 o1 (by decide) rfl rfl (Nat.le_of_ble_eq_true rfl) (Nat.le_of_ble_eq_true rfl) (Nat.le_of_ble_eq_true rfl) (Nat.le_of_ble_eq_true rfl) (Nat.le_of_ble_eq_true rfl) h (fun x9 V10 h => ?_)
        refine z_istore_n dX1_clearColumn_68 (by decide) (L' := [(0, zrv a0), (1, ziv a1), (2, ziv x9), (3, ziv a3)]) [1, 2, 0, 3] rfl ?_
        obtain ⟨o11, h⟩ := h
        refine z_iinc 3 dX1_clearColumn_69 rfl (by decide) o11 (L' := [(0, zrv a0), (1, ziv a1), (2, ziv x9), (3, ziv (a3 + 1))]) [1, 2, 3, 0] rfl ?_
        refine z_goto (tgt := 4) dX1_clearColumn_72 (by decide) ?_
        exact h
      · have h := h.2 c8
        refine z_iload_n 3 dX1_clearColumn_33 rfl ?_
        refine z_istore_n dX1_clearColumn_34 (by decide) (L' := [(0, zrv a0), (1, ziv a1), (2, ziv a3), (3, ziv a3)]) [1, 2, 0, 3] rfl ?_
        refine z_aload_n 0 dX1_clearColumn_35 rfl ?_
        refine z_iload_n 3 dX1_clearColumn_36 rfl ?_
        refine z_iload_n 1 dX1_clearColumn_37 rfl ?_
        refine z_aload_n 0 dX1_clearColumn_38 rfl ?_
        refine zgf_1_7 dX1_clearColumn_39 (zf_RX1_22 _ rfl) o1 ?_
        refine z_aload_n 0 dX1_clearColumn_42 rfl ?_
        refine zgf_1_6 dX1_clearColumn_43 (zf_RX1_25 _ rfl) o1 ?_
        refine z_iload_n 3 dX1_clearColumn_46 rfl ?_
        refine z_bipush dX1_clearColumn_47 ⟨by decide, by decide⟩ (by decide) ?_
        refine z_imul dX1_clearColumn_49 o3 ?_
        refine z_iload_n 1 dX1_clearColumn_50 rfl ?_
        refine z_iadd dX1_clearColumn_51 o4 ?_
        refine z_iald dX1_clearColumn_52 o5 o6 ?_
        obtain ⟨o12, h⟩ := h
        obtain ⟨o13, h⟩ := h
        refine z_iald dX1_clearColumn_53 o12 o13 ?_
        refine z_cVI [ziv a3, ziv a1, ziv (V (V a0 7) (V (V a0 6) ((a3 * 72) + a1)))] (zk_RX1_62 _ rfl) dX1_clearColumn_54 o1 (by decide) rfl rfl (Nat.le_of_ble_eq_true rfl) (Nat.le_of_ble_eq_true rfl) (Nat.le_of_ble_eq_true rfl) (Nat.le_of_ble_eq_true rfl) (Nat.le_of_ble_eq_true rfl) h (fun x14 V15 h => ?_)
        refine z_pop rfl dX1_clearColumn_57 ?_
        refine z_goto (tgt := 69) dX1_clearColumn_58 (by decide) ?_
        obtain ⟨o16, h⟩ := h
        refine z_iinc 3 dX1_clearColumn_69 rfl (by decide) o16 (L' := [(0, zrv a0), (1, ziv a1), (2, ziv a3), (3, ziv (a3 + 1))]) [1, 2, 3, 0] rfl ?_
        refine z_goto (tgt := 4) dX1_clearColumn_72 (by decide) ?_
        exact h
    · have h := h.2 c7
      refine z_goto (tgt := 69) dX1_clearColumn_26 (by decide) ?_
      obtain ⟨o17, h⟩ := h
      refine z_iinc 3 dX1_clearColumn_69 rfl (by decide) o17 (L' := [(0, zrv a0), (1, ziv a1), (2, ziv a2), (3, ziv (a3 + 1))]) [1, 2, 3, 0] rfl ?_
      refine z_goto (tgt := 4) dX1_clearColumn_72 (by decide) ?_
      exact h
set_option maxRecDepth 100000 in
set_option maxHeartbeats 4000000 in
theorem en_X1_clearColumn {E : zE} {F : Int → zH → Prop} {S : zS} {a0 a1 : Int} {V : zH}
    (h : z32 a1 → ∀ X : zX, zl_X1_clearColumn_4 E X F S a0 a1 (-1) 0 V) :
    SpI E 2 zm_X1_clearColumn [zrv a0, ziv a1] S V F := by
  refine Sp.of (plainFor_of_name (by decide +kernel)) (Nat.le_of_ble_eq_true rfl) (fun hok X => ?_)
  have h := h (hok _ (List.mem_cons_of_mem _ (List.mem_cons_self))) X
  show Zr E X (zRoom 2 0 0) zm_X1_clearColumn (zQm E X (zpI S F) 0 0) 0 0 0 [(0, zrv a0), (1, ziv a1)] [] S V
  refine z_iconst dX1_clearColumn_0 ⟨by decide, by decide⟩ ?_
  refine z_istore_n dX1_clearColumn_1 (by decide) (L' := [(0, zrv a0), (1, ziv a1), (2, ziv (-1))]) [1, 2, 0] rfl ?_
  refine z_iconst dX1_clearColumn_2 ⟨by decide, by decide⟩ ?_
  refine z_istore_n dX1_clearColumn_3 (by decide) (L' := [(0, zrv a0), (1, ziv a1), (2, ziv (-1)), (3, ziv 0)]) [1, 2, 3, 0] rfl ?_
  exact h
def zl_X1_clearOne_9 (E : zE) (X : zX) (F : Int → zH → Prop) (S : zS) (a0 a3 a4 a5 a6 : Int) (V : zH) : Prop := Zr E X (zRoom 1 0 0) zm_X1_clearOne (zQm E X (zpI S F) 0 0) 0 0 9 [(0, zrv a0), (3, ziv a3), (4, ziv a4), (5, ziv a5), (6, ziv a6)] [] S V
def zl_X1_clearOne_101 (E : zE) (X : zX) (F : Int → zH → Prop) (S : zS) (a0 a3 a4 a5 a6 : Int) (V : zH) : Prop := Zr E X (zRoom 1 0 0) zm_X1_clearOne (zQm E X (zpI S F) 0 0) 0 0 101 [(0, zrv a0), (3, ziv a3), (4, ziv a4), (5, ziv a5), (6, ziv a6)] [] S V
set_option maxRecDepth 100000 in
set_option maxHeartbeats 4000000 in
theorem wp_X1_clearOne_9 {E : zE} {X : zX} {F : Int → zH → Prop} {S : zS} {a0 a3 a4 a5 a6 : Int} {V : zH}
    (h : ((12 ≤ a6) → (F a4 V)) ∧ ((a6 < 12) → (((S a0).1 = 4) ∧ (z32 (a5 * 72)) ∧ (z32 ((a5 * 72) + a3)) ∧ ((S (V a0 6)).1 = 1) ∧ ((0 : Int) ≤ (a5 * 72) + a3 ∧ (a5 * 72) + a3 < (S (V a0 6)).2) ∧ ((V (V a0 6) ((a5 * 72) + a3) = 0) → (F a4 V)) ∧ ((V (V a0 6) ((a5 * 72) + a3) ≠ 0) → ((z32 (a4 * 72)) ∧ (z32 ((a4 * 72) + a3)) ∧ ((0 : Int) ≤ (a4 * 72) + a3 ∧ (a4 * 72) + a3 < (S (V a0 6)).2) ∧ SpF E 0 zm_J9_max_7cf53 [ziv 1, ziv (V (V a0 6) ((a4 * 72) + a3))] S V (fun x11 => ((0 : Int) ≤ V (V a0 6) ((a5 * 72) + a3)) ∧ ((0 : Int) < x11) ∧ ∀ x15 : Int, x15 = (V (V a0 6) ((a5 * 72) + a3)) / x11 → ((x15 = 0) → (zl_X1_clearOne_101 E X F S a0 a3 a4 a5 a6 V)) ∧ ((x15 ≠ 0) → ((z32 ((V a0 0) - x15)) ∧ SpV E 0 zm_X1_addTimes [zrv a0, zrv (V a0 6), ziv (a5 * 72), zrv (V a0 6), ziv (a4 * 72), ziv a3, ziv ((V a0 0) - x15)] S V (fun V20 => zl_X1_clearOne_101 E X F S a0 a3 a4 a5 a6 V20))))))))) :
    zl_X1_clearOne_9 E X F S a0 a3 a4 a5 a6 V := by
  unfold zl_X1_clearOne_9
  refine z_iload 4 dX1_clearOne_9 rfl ?_
  refine z_bipush dX1_clearOne_11 ⟨by decide, by decide⟩ (by decide) ?_
  refine z_icmp_ge dX1_clearOne_13 (tgt := 134) (by decide) (fun c1 => ?_) (fun c1 => ?_)
  · have h := h.1 c1
    refine z_iload 2 dX1_clearOne_134 rfl ?_
    exact z_retI dX1_clearOne_136 rfl h
  · have h := h.2 c1
    refine z_aload_n 0 dX1_clearOne_16 rfl ?_
    obtain ⟨o2, h⟩ := h
    refine zgf_1_6 dX1_clearOne_17 (zf_RX1_25 _ rfl) o2 ?_
    refine z_iload 3 dX1_clearOne_20 rfl ?_
    refine z_bipush dX1_clearOne_22 ⟨by decide, by decide⟩ (by decide) ?_
    obtain ⟨o3, h⟩ := h
    refine z_imul dX1_clearOne_24 o3 ?_
    refine z_iload_n 1 dX1_clearOne_25 rfl ?_
    obtain ⟨o4, h⟩ := h
    refine z_iadd dX1_clearOne_26 o4 ?_
    obtain ⟨o5, h⟩ := h
    obtain ⟨o6, h⟩ := h
    refine z_iald dX1_clearOne_27 o5 o6 ?_
    refine z_if_eq dX1_clearOne_28 (tgt := 134) (by decide) (fun c7 => ?_) (fun c7 => ?_)
    · have h := h.1 c7
      refine z_iload 2 dX1_clearOne_134 rfl ?_
      exact z_retI dX1_clearOne_136 rfl h
    · have h := h.2 c7
      refine z_iconst dX1_clearOne_31 ⟨by decide, by decide⟩ ?_
      refine z_aload_n 0 dX1_clearOne_32 rfl ?_
      refine zgf_1_6 dX1_clearOne_33 (zf_RX1_25 _ rfl) o2 ?_
      refine z_iload 2 dX1_clearOne_36 rfl ?_
      refine z_bipush dX1_clearOne_38 ⟨by decide, by decide⟩ (by decide) ?_
      obtain ⟨o8, h⟩ := h
      refine z_imul dX1_clearOne_40 o8 ?_
      refine z_iload_n 1 dX1_clearOne_41 rfl ?_
      obtain ⟨o9, h⟩ := h
      refine z_iadd dX1_clearOne_42 o9 ?_
      obtain ⟨o10, h⟩ := h
      refine z_iald dX1_clearOne_43 o5 o10 ?_
      refine z_cSF [ziv 1, ziv (V (V a0 6) ((a4 * 72) + a3))] (zk_RX1_70 _ rfl) dX1_clearOne_44 rfl rfl (Nat.le_of_ble_eq_true rfl) (Nat.le_of_ble_eq_true rfl) (Nat.le_of_ble_eq_true rfl) (Nat.le_of_ble_eq_true rfl) (Nat.le_of_ble_eq_true rfl) h (fun x11 h => ?_)
      refine z_istore dX1_clearOne_47 (by decide) (L' := [(0, zrv a0), (3, ziv a3), (4, ziv a4), (5, ziv a5), (6, ziv a6), (7, ziv x11)]) [1, 2, 3, 4, 5, 0] rfl ?_
      refine z_aload_n 0 dX1_clearOne_49 rfl ?_
      refine zgf_1_6 dX1_clearOne_50 (zf_RX1_25 _ rfl) o2 ?_
      refine z_iload 3 dX1_clearOne_53 rfl ?_
      refine z_bipush dX1_clearOne_55 ⟨by decide, by decide⟩ (by decide) ?_
      refine z_imul dX1_clearOne_57 o3 ?_
      refine z_iload_n 1 dX1_clearOne_58 rfl ?_
      refine z_iadd dX1_clearOne_59 o4 ?_
      refine z_iald dX1_clearOne_60 o5 o6 ?_
      refine z_iload 5 dX1_clearOne_61 rfl ?_
      obtain ⟨o13, h⟩ := h
      obtain ⟨o14, h⟩ := h
      refine z_idiv dX1_clearOne_63 o13 o14 ?_
      refine z_nameI (fun x15 e16 => ?_)
      have h := h x15 e16
      refine z_istore dX1_clearOne_64 (by decide) (L' := [(0, zrv a0), (3, ziv a3), (4, ziv a4), (5, ziv a5), (6, ziv a6), (7, ziv x11), (8, ziv x15)]) [1, 2, 3, 4, 5, 6, 0] rfl ?_
      refine z_iload 6 dX1_clearOne_66 rfl ?_
      refine z_if_eq dX1_clearOne_68 (tgt := 101) (by decide) (fun c17 => ?_) (fun c17 => ?_)
      · have h := h.1 c17
        refine z_loc (L' := [(0, zrv a0), (3, ziv a3), (4, ziv a4), (5, ziv a5), (6, ziv a6)]) [0, 1, 2, 3, 4] rfl ?_
        exact h
      · have h := h.2 c17
        refine z_aload_n 0 dX1_clearOne_71 rfl ?_
        refine z_aload_n 0 dX1_clearOne_72 rfl ?_
        refine zgf_1_6 dX1_clearOne_73 (zf_RX1_25 _ rfl) o2 ?_
        refine z_iload 3 dX1_clearOne_76 rfl ?_
        refine z_bipush dX1_clearOne_78 ⟨by decide, by decide⟩ (by decide) ?_
        refine z_imul dX1_clearOne_80 o3 ?_
        refine z_aload_n 0 dX1_clearOne_81 rfl ?_
        refine zgf_1_6 dX1_clearOne_82 (zf_RX1_25 _ rfl) o2 ?_
        refine z_iload 2 dX1_clearOne_85 rfl ?_
        refine z_bipush dX1_clearOne_87 ⟨by decide, by decide⟩ (by decide) ?_
        refine z_imul dX1_clearOne_89 o8 ?_
        refine z_iload_n 1 dX1_clearOne_90 rfl ?_
        refine z_aload_n 0 dX1_clearOne_91 rfl ?_
        refine zgf_1_0 dX1_clearOne_92 (zf_RX1_9 _ rfl) o2 ?_
        refine z_iload 6 dX1_clearOne_95 rfl ?_
        obtain ⟨o18, h⟩ := h
        refine z_isub dX1_clearOne_97 o18 ?_
        refine z_cVV [zrv (V a0 6), ziv (a5 * 72), zrv (V a0 6), ziv (a4 * 72), ziv a3, ziv ((V a0 0) - x15)] (zk_RX1_75 _ rfl) dX1_clearOne_98 o2 (by decide) rfl rfl (Nat.le_of_ble_eq_true rfl) (Nat.le_of_ble_eq_true rfl) (Nat.le_of_ble_eq_true rfl) (Nat.le_of_ble_eq_true rfl) (Nat.le_of_ble_eq_true rfl) h (fun V20 h => ?_)
        refine z_loc (L' := [(0, zrv a0), (3, ziv a3), (4, ziv a4), (5, ziv a5), (6, ziv a6)]) [0, 1, 2, 3, 4] rfl ?_
        exact h
set_option maxRecDepth 100000 in
set_option maxHeartbeats 4000000 in
theorem wp_X1_clearOne_101 {E : zE} {X : zX} {F : Int → zH → Prop} {S : zS} {a0 a3 a4 a5 a6 : Int} {V : zH}
    (h : ((S a0).1 = 4) ∧ (z32 (a5 * 72)) ∧ (z32 ((a5 * 72) + a3)) ∧ ((S (V a0 6)).1 = 1) ∧ ((0 : Int) ≤ (a5 * 72) + a3 ∧ (a5 * 72) + a3 < (S (V a0 6)).2) ∧ ((V (V a0 6) ((a5 * 72) + a3) = 0) → ((z32 (a6 + 1)) ∧ zl_X1_clearOne_9 E X F S a0 a3 a4 a5 (a6 + 1) V)) ∧ ((V (V a0 6) ((a5 * 72) + a3) ≠ 0) → ((z32 (a6 + 1)) ∧ zl_X1_clearOne_9 E X F S a0 a3 a5 a4 (a6 + 1) V))) :
    zl_X1_clearOne_101 E X F S a0 a3 a4 a5 a6 V := by
  unfold zl_X1_clearOne_101
  refine z_aload_n 0 dX1_clearOne_101 rfl ?_
  obtain ⟨o1, h⟩ := h
  refine zgf_1_6 dX1_clearOne_102 (zf_RX1_25 _ rfl) o1 ?_
  refine z_iload 3 dX1_clearOne_105 rfl ?_
  refine z_bipush dX1_clearOne_107 ⟨by decide, by decide⟩ (by decide) ?_
  obtain ⟨o2, h⟩ := h
  refine z_imul dX1_clearOne_109 o2 ?_
  refine z_iload_n 1 dX1_clearOne_110 rfl ?_
  obtain ⟨o3, h⟩ := h
  refine z_iadd dX1_clearOne_111 o3 ?_
  obtain ⟨o4, h⟩ := h
  obtain ⟨o5, h⟩ := h
  refine z_iald dX1_clearOne_112 o4 o5 ?_
  refine z_if_eq dX1_clearOne_113 (tgt := 128) (by decide) (fun c6 => ?_) (fun c6 => ?_)
  · have h := h.1 c6
    obtain ⟨o7, h⟩ := h
    refine z_iinc 4 dX1_clearOne_128 rfl (by decide) o7 (L' := [(0, zrv a0), (3, ziv a3), (4, ziv a4), (5, ziv a5), (6, ziv (a6 + 1))]) [1, 2, 3, 4, 0] rfl ?_
    refine z_goto (tgt := 9) dX1_clearOne_131 (by decide) ?_
    exact h
  · have h := h.2 c6
    refine z_iload 2 dX1_clearOne_116 rfl ?_
    refine z_istore dX1_clearOne_118 (by decide) (L' := [(0, zrv a0), (3, ziv a3), (4, ziv a4), (5, ziv a5), (6, ziv a6), (9, ziv a4)]) [1, 2, 3, 4, 5, 0] rfl ?_
    refine z_iload 3 dX1_clearOne_120 rfl ?_
    refine z_istore dX1_clearOne_122 (by decide) (L' := [(0, zrv a0), (3, ziv a3), (4, ziv a5), (5, ziv a5), (6, ziv a6), (9, ziv a4)]) [1, 2, 0, 3, 4, 5] rfl ?_
    refine z_iload 5 dX1_clearOne_124 rfl ?_
    refine z_istore dX1_clearOne_126 (by decide) (L' := [(0, zrv a0), (3, ziv a3), (4, ziv a5), (5, ziv a4), (6, ziv a6), (9, ziv a4)]) [1, 2, 3, 0, 4, 5] rfl ?_
    obtain ⟨o8, h⟩ := h
    refine z_iinc 4 dX1_clearOne_128 rfl (by decide) o8 (L' := [(0, zrv a0), (3, ziv a3), (4, ziv a5), (5, ziv a4), (6, ziv (a6 + 1)), (9, ziv a4)]) [1, 2, 3, 4, 0, 5] rfl ?_
    refine z_goto (tgt := 9) dX1_clearOne_131 (by decide) ?_
    refine z_loc (L' := [(0, zrv a0), (3, ziv a3), (4, ziv a5), (5, ziv a4), (6, ziv (a6 + 1))]) [0, 1, 2, 3, 4] rfl ?_
    exact h
set_option maxRecDepth 100000 in
set_option maxHeartbeats 4000000 in
theorem en_X1_clearOne {E : zE} {F : Int → zH → Prop} {S : zS} {a0 a1 a2 a3 : Int} {V : zH}
    (h : z32 a1 → z32 a2 → z32 a3 → ∀ X : zX, zl_X1_clearOne_9 E X F S a0 a3 a1 a2 0 V) :
    SpI E 1 zm_X1_clearOne [zrv a0, ziv a1, ziv a2, ziv a3] S V F := by
  refine Sp.of (plainFor_of_name (by decide +kernel)) (Nat.le_of_ble_eq_true rfl) (fun hok X => ?_)
  have h := h (hok _ (List.mem_cons_of_mem _ (List.mem_cons_self))) (hok _ (List.mem_cons_of_mem _ (List.mem_cons_of_mem _ (List.mem_cons_self)))) (hok _ (List.mem_cons_of_mem _ (List.mem_cons_of_mem _ (List.mem_cons_of_mem _ (List.mem_cons_self))))) X
  show Zr E X (zRoom 1 0 0) zm_X1_clearOne (zQm E X (zpI S F) 0 0) 0 0 0 [(0, zrv a0), (1, ziv a1), (2, ziv a2), (3, ziv a3)] [] S V
  refine z_iload_n 1 dX1_clearOne_0 rfl ?_
  refine z_istore dX1_clearOne_1 (by decide) (L' := [(0, zrv a0), (1, ziv a1), (2, ziv a2), (3, ziv a3), (4, ziv a1)]) [1, 2, 3, 4, 0] rfl ?_
  refine z_iload_n 2 dX1_clearOne_3 rfl ?_
  refine z_istore dX1_clearOne_4 (by decide) (L' := [(0, zrv a0), (1, ziv a1), (2, ziv a2), (3, ziv a3), (4, ziv a1), (5, ziv a2)]) [1, 2, 3, 4, 5, 0] rfl ?_
  refine z_iconst dX1_clearOne_6 ⟨by decide, by decide⟩ ?_
  refine z_istore dX1_clearOne_7 (by decide) (L' := [(0, zrv a0), (1, ziv a1), (2, ziv a2), (3, ziv a3), (4, ziv a1), (5, ziv a2), (6, ziv 0)]) [1, 2, 3, 4, 5, 6, 0] rfl ?_
  refine z_loc (L' := [(0, zrv a0), (3, ziv a3), (4, ziv a1), (5, ziv a2), (6, ziv 0)]) [0, 3, 4, 5, 6] rfl ?_
  exact h
def zl_X1_multiply_11 (E : zE) (X : zX) (F : Int → zH → Prop) (S : zS) (a0 a1 a3 a4 a5 : Int) (V : zH) : Prop := Zr E X (zRoom 0 0 0) zm_X1_multiply (zQm E X (zpI S F) 0 0) 0 0 11 [(0, zrv a0), (1, ziv a1), (3, ziv a3), (4, ziv a4), (5, ziv a5)] [] S V
set_option maxRecDepth 100000 in
set_option maxHeartbeats 4000000 in
theorem wp_X1_multiply_11 {E : zE} {X : zX} {F : Int → zH → Prop} {S : zS} {a0 a1 a3 a4 a5 : Int} {V : zH}
    (h : (z32 (a1 * 72)) ∧ ((S a0).1 = 4) ∧ (z32 ((a1 * 72) + (V a0 2))) ∧ (((a1 * 72) + (V a0 2) ≤ a5) → ((a4 = 0 ∨ a4 = 1) ∧ F a4 V)) ∧ ((a5 < (a1 * 72) + (V a0 2)) → (((S (V a0 6)).1 = 1) ∧ ((0 : Int) ≤ a5 ∧ a5 < (S (V a0 6)).2) ∧ (z32 ((V (V a0 6) a5) * a3)) ∧ ((0 : Int) ≤ (V (V a0 6) a5) * a3) ∧ ((0 : Int) < V a0 0) ∧ ∀ V11 : zH, V11 = zput V (V a0 6) a5 (((V (V a0 6) a5) * a3) % (V a0 0)) → ((a4 = 0) → ((z32 (a5 + 1)) ∧ zl_X1_multiply_11 E X F S a0 a1 a3 0 (a5 + 1) V11)) ∧ ((a4 ≠ 0) → (((((V (V a0 6) a5) * a3) % (V a0 0) ≠ 0) → ((z32 (a5 + 1)) ∧ zl_X1_multiply_11 E X F S a0 a1 a3 0 (a5 + 1) V11)) ∧ ((((V (V a0 6) a5) * a3) % (V a0 0) = 0) → ((z32 (a5 + 1)) ∧ zl_X1_multiply_11 E X F S a0 a1 a3 1 (a5 + 1) V11))))))) :
    zl_X1_multiply_11 E X F S a0 a1 a3 a4 a5 V := by
  unfold zl_X1_multiply_11
  refine z_iload 4 dX1_multiply_11 rfl ?_
  refine z_iload_n 1 dX1_multiply_13 rfl ?_
  refine z_bipush dX1_multiply_14 ⟨by decide, by decide⟩ (by decide) ?_
  obtain ⟨o1, h⟩ := h
  refine z_imul dX1_multiply_16 o1 ?_
  refine z_aload_n 0 dX1_multiply_17 rfl ?_
  obtain ⟨o2, h⟩ := h
  refine zgf_1_2 dX1_multiply_18 (zf_RX1_31 _ rfl) o2 ?_
  obtain ⟨o3, h⟩ := h
  refine z_iadd dX1_multiply_21 o3 ?_
  refine z_icmp_ge dX1_multiply_22 (tgt := 74) (by decide) (fun c4 => ?_) (fun c4 => ?_)
  · have h := h.1 c4
    refine z_iload 3 dX1_multiply_74 rfl ?_
    obtain ⟨o5, h⟩ := h
    exact z_retZ dX1_multiply_76 rfl o5 h
  · have h := h.2 c4
    refine z_aload_n 0 dX1_multiply_25 rfl ?_
    refine zgf_1_6 dX1_multiply_26 (zf_RX1_25 _ rfl) o2 ?_
    refine z_iload 4 dX1_multiply_29 rfl ?_
    refine z_aload_n 0 dX1_multiply_31 rfl ?_
    refine zgf_1_6 dX1_multiply_32 (zf_RX1_25 _ rfl) o2 ?_
    refine z_iload 4 dX1_multiply_35 rfl ?_
    obtain ⟨o6, h⟩ := h
    obtain ⟨o7, h⟩ := h
    refine z_iald dX1_multiply_37 o6 o7 ?_
    refine z_iload_n 2 dX1_multiply_38 rfl ?_
    obtain ⟨o8, h⟩ := h
    refine z_imul dX1_multiply_39 o8 ?_
    refine z_aload_n 0 dX1_multiply_40 rfl ?_
    refine zgf_1_0 dX1_multiply_41 (zf_RX1_9 _ rfl) o2 ?_
    obtain ⟨o9, h⟩ := h
    obtain ⟨o10, h⟩ := h
    refine z_irem dX1_multiply_44 o9 o10 ?_
    refine z_iast dX1_multiply_45 o6 o7 ?_
    refine z_nameV (fun V11 e12 => ?_)
    have h := h V11 e12
    refine z_iload 3 dX1_multiply_46 rfl ?_
    refine z_if_eq dX1_multiply_48 (tgt := 65) (by decide) (fun c13 => ?_) (fun c13 => ?_)
    · have h := h.1 c13
      refine z_iconst dX1_multiply_65 ⟨by decide, by decide⟩ ?_
      refine z_istore dX1_multiply_66 (by decide) (L' := [(0, zrv a0), (1, ziv a1), (3, ziv a3), (4, ziv 0), (5, ziv a5)]) [1, 2, 3, 0, 4] rfl ?_
      obtain ⟨o14, h⟩ := h
      refine z_iinc 4 dX1_multiply_68 rfl (by decide) o14 (L' := [(0, zrv a0), (1, ziv a1), (3, ziv a3), (4, ziv 0), (5, ziv (a5 + 1))]) [1, 2, 3, 4, 0] rfl ?_
      refine z_goto (tgt := 11) dX1_multiply_71 (by decide) ?_
      exact h
    · have h := h.2 c13
      refine z_aload_n 0 dX1_multiply_51 rfl ?_
      refine zgf_1_6 dX1_multiply_52 (zf_RX1_25 _ rfl) o2 ?_
      refine z_topR (zfr_k e12 o6 o2 (by decide)) ?_
      refine z_iload 4 dX1_multiply_55 rfl ?_
      refine z_iald dX1_multiply_57 o6 o7 ?_
      refine z_topI (zfr_s e12) ?_
      refine z_if_ne dX1_multiply_58 (tgt := 65) (by decide) (fun c15 => ?_) (fun c15 => ?_)
      · have h := h.1 c15
        refine z_iconst dX1_multiply_65 ⟨by decide, by decide⟩ ?_
        refine z_istore dX1_multiply_66 (by decide) (L' := [(0, zrv a0), (1, ziv a1), (3, ziv a3), (4, ziv 0), (5, ziv a5)]) [1, 2, 3, 0, 4] rfl ?_
        obtain ⟨o16, h⟩ := h
        refine z_iinc 4 dX1_multiply_68 rfl (by decide) o16 (L' := [(0, zrv a0), (1, ziv a1), (3, ziv a3), (4, ziv 0), (5, ziv (a5 + 1))]) [1, 2, 3, 4, 0] rfl ?_
        refine z_goto (tgt := 11) dX1_multiply_71 (by decide) ?_
        exact h
      · have h := h.2 c15
        refine z_iconst dX1_multiply_61 ⟨by decide, by decide⟩ ?_
        refine z_goto (tgt := 66) dX1_multiply_62 (by decide) ?_
        refine z_istore dX1_multiply_66 (by decide) (L' := [(0, zrv a0), (1, ziv a1), (3, ziv a3), (4, ziv 1), (5, ziv a5)]) [1, 2, 3, 0, 4] rfl ?_
        obtain ⟨o17, h⟩ := h
        refine z_iinc 4 dX1_multiply_68 rfl (by decide) o17 (L' := [(0, zrv a0), (1, ziv a1), (3, ziv a3), (4, ziv 1), (5, ziv (a5 + 1))]) [1, 2, 3, 4, 0] rfl ?_
        refine z_goto (tgt := 11) dX1_multiply_71 (by decide) ?_
        exact h
set_option maxRecDepth 100000 in
set_option maxHeartbeats 4000000 in
theorem en_X1_multiply {E : zE} {F : Int → zH → Prop} {S : zS} {a0 a1 a2 a3 : Int} {V : zH}
    (h : z32 a1 → z32 a2 → z32 a3 → ∀ X : zX, (z32 (a1 * 72)) ∧ (z32 ((a1 * 72) + a2)) ∧ ∀ x3 : Int, x3 = (a1 * 72) + a2 → zl_X1_multiply_11 E X F S a0 a1 a3 1 x3 V) :
    SpI E 0 zm_X1_multiply [zrv a0, ziv a1, ziv a2, ziv a3] S V F := by
  refine Sp.of (plainFor_of_name (by decide +kernel)) (Nat.le_of_ble_eq_true rfl) (fun hok X => ?_)
  have h := h (hok _ (List.mem_cons_of_mem _ (List.mem_cons_self))) (hok _ (List.mem_cons_of_mem _ (List.mem_cons_of_mem _ (List.mem_cons_self)))) (hok _ (List.mem_cons_of_mem _ (List.mem_cons_of_mem _ (List.mem_cons_of_mem _ (List.mem_cons_self))))) X
  show Zr E X (zRoom 0 0 0) zm_X1_multiply (zQm E X (zpI S F) 0 0) 0 0 0 [(0, zrv a0), (1, ziv a1), (2, ziv a2), (3, ziv a3)] [] S V
  refine z_iconst dX1_multiply_0 ⟨by decide, by decide⟩ ?_
  refine z_istore dX1_multiply_1 (by decide) (L' := [(0, zrv a0), (1, ziv a1), (2, ziv a2), (3, ziv a3), (4, ziv 1)]) [1, 2, 3, 4, 0] rfl ?_
  refine z_iload_n 1 dX1_multiply_3 rfl ?_
  refine z_bipush dX1_multiply_4 ⟨by decide, by decide⟩ (by decide) ?_
  obtain ⟨o1, h⟩ := h
  refine z_imul dX1_multiply_6 o1 ?_
  refine z_iload_n 2 dX1_multiply_7 rfl ?_
  obtain ⟨o2, h⟩ := h
  refine z_iadd dX1_multiply_8 o2 ?_
  refine z_nameI (fun x3 e4 => ?_)
  have h := h x3 e4
  refine z_istore dX1_multiply_9 (by decide) (L' := [(0, zrv a0), (1, ziv a1), (2, ziv a2), (3, ziv a3), (4, ziv 1), (5, ziv x3)]) [1, 2, 3, 4, 5, 0] rfl ?_
  refine z_loc (L' := [(0, zrv a0), (1, ziv a1), (3, ziv a3), (4, ziv 1), (5, ziv x3)]) [0, 1, 3, 4, 5] rfl ?_
  exact h
def zl_X1_settle_80 (E : zE) (X : zX) (F : zH → Prop) (S : zS) (a0 a1 : Int) (V : zH) : Prop := Zr E X (zRoom 1 0 0) zm_X1_settle (zQm E X (zpV S F) 0 0) 0 0 80 [(0, zrv a0), (1, ziv a1)] [] S V
set_option maxRecDepth 100000 in
set_option maxHeartbeats 4000000 in
theorem wp_X1_settle_80 {E : zE} {X : zX} {F : zH → Prop} {S : zS} {a0 a1 : Int} {V : zH}
    (h : ((S a0).1 = 4) ∧ (z32 ((V a0 3) - 1)) ∧ ∀ V3 : zH, V3 = zput V a0 3 ((V a0 3) - 1) → ((a1 = (V a0 3) - 1) → (F V3)) ∧ ((a1 ≠ (V a0 3) - 1) → ((z32 (((V a0 3) - 1) * 72)) ∧ (z32 (a1 * 72)) ∧ ((S (V a0 6)).1 = 1) ∧ ((0 : Int) ≤ ((V a0 3) - 1) * 72 ∧ (0 : Int) ≤ a1 * 72 ∧ (0 : Int) ≤ V a0 2 ∧ (((V a0 3) - 1) * 72) + (V a0 2) ≤ (S (V a0 6)).2 ∧ (a1 * 72) + (V a0 2) ≤ (S (V a0 6)).2) ∧ ∀ V10 : zH, V10 = zcpy V3 (V a0 6) (((V a0 3) - 1) * 72) (V a0 6) (a1 * 72) (V a0 2) → F V10))) :
    zl_X1_settle_80 E X F S a0 a1 V := by
  unfold zl_X1_settle_80
  refine z_aload_n 0 dX1_settle_80 rfl ?_
  refine z_dup (zref_cat _) dX1_settle_81 ?_
  obtain ⟨o1, h⟩ := h
  refine zgf_1_3 dX1_settle_82 (zf_RX1_34 _ rfl) o1 ?_
  refine z_iconst dX1_settle_85 ⟨by decide, by decide⟩ ?_
  obtain ⟨o2, h⟩ := h
  refine z_isub dX1_settle_86 o2 ?_
  refine zpf_1_3 dX1_settle_87 (zf_RX1_34 _ rfl) o1 ?_
  refine z_nameV (fun V3 e4 => ?_)
  have h := h V3 e4
  refine z_iload_n 1 dX1_settle_90 rfl ?_
  refine z_aload_n 0 dX1_settle_91 rfl ?_
  refine zgf_1_3 dX1_settle_92 (zf_RX1_34 _ rfl) o1 ?_
  refine z_topI (zfr_s e4) ?_
  refine z_icmp_eq dX1_settle_95 (tgt := 124) (by decide) (fun c5 => ?_) (fun c5 => ?_)
  · have h := h.1 c5
    exact z_retV dX1_settle_124 rfl h
  · have h := h.2 c5
    refine z_aload_n 0 dX1_settle_98 rfl ?_
    refine zgf_1_6 dX1_settle_99 (zf_RX1_25 _ rfl) o1 ?_
    refine z_topR (zfr_j e4 (by decide)) ?_
    refine z_aload_n 0 dX1_settle_102 rfl ?_
    refine zgf_1_3 dX1_settle_103 (zf_RX1_34 _ rfl) o1 ?_
    refine z_topI (zfr_s e4) ?_
    refine z_bipush dX1_settle_106 ⟨by decide, by decide⟩ (by decide) ?_
    obtain ⟨o6, h⟩ := h
    refine z_imul dX1_settle_108 o6 ?_
    refine z_aload_n 0 dX1_settle_109 rfl ?_
    refine zgf_1_6 dX1_settle_110 (zf_RX1_25 _ rfl) o1 ?_
    refine z_topR (zfr_j e4 (by decide)) ?_
    refine z_iload_n 1 dX1_settle_113 rfl ?_
    refine z_bipush dX1_settle_114 ⟨by decide, by decide⟩ (by decide) ?_
    obtain ⟨o7, h⟩ := h
    refine z_imul dX1_settle_116 o7 ?_
    refine z_aload_n 0 dX1_settle_117 rfl ?_
    refine zgf_1_2 dX1_settle_118 (zf_RX1_31 _ rfl) o1 ?_
    refine z_topI (zfr_j e4 (by decide)) ?_
    obtain ⟨o8, h⟩ := h
    obtain ⟨o9, h⟩ := h
    refine z_copy dX1_settle_121 (zk_RX1_79 _ rfl) zw_copy o8 o8 o9 (Nat.le_of_ble_eq_true rfl) (Nat.le_of_ble_eq_true rfl) (Nat.le_of_ble_eq_true rfl) ?_
    refine z_nameV (fun V10 e11 => ?_)
    have h := h V10 e11
    exact z_retV dX1_settle_124 rfl h
set_option maxRecDepth 100000 in
set_option maxHeartbeats 4000000 in
theorem en_X1_settle {E : zE} {F : zH → Prop} {S : zS} {a0 a1 a2 : Int} {V : zH}
    (h : z32 a1 → z32 a2 → ∀ X : zX, ((S a0).1 = 4) ∧ (z32 (a1 * 72)) ∧ (z32 ((a1 * 72) + a2)) ∧ (z32 (a2 * 72)) ∧ (z32 ((a2 * 72) + a2)) ∧ (z32 ((V a0 2) - a2)) ∧ ((S (V a0 6)).1 = 1) ∧ ((S (V a0 5)).1 = 1) ∧ ((0 : Int) ≤ (a1 * 72) + a2 ∧ (0 : Int) ≤ (a2 * 72) + a2 ∧ (0 : Int) ≤ (V a0 2) - a2 ∧ ((a1 * 72) + a2) + ((V a0 2) - a2) ≤ (S (V a0 6)).2 ∧ ((a2 * 72) + a2) + ((V a0 2) - a2) ≤ (S (V a0 5)).2) ∧ ∀ V10 : zH, V10 = zcpy V (V a0 6) ((a1 * 72) + a2) (V a0 5) ((a2 * 72) + a2) ((V a0 2) - a2) → ((0 : Int) ≤ (a1 * 72) + a2 ∧ (a1 * 72) + a2 < (S (V a0 6)).2) ∧ ((S (V a0 4)).1 = 1) ∧ ((0 : Int) ≤ a2 ∧ a2 < (S (V a0 4)).2) ∧ ∀ V15 : zH, V15 = zput V10 (V a0 4) a2 (V10 (V a0 6) ((a1 * 72) + a2)) → SpF E 0 zm_J9_max_7cf53 [ziv 1, ziv (V10 (V a0 6) ((a1 * 72) + a2))] S V15 (fun x17 => ((0 : Int) ≤ V a0 0) ∧ ((0 : Int) < x17) ∧ ∀ x21 : Int, x21 = (V a0 0) / x17 → ((x21 = V a0 0) → (zl_X1_settle_80 E X F S a0 a1 V15)) ∧ ((x21 ≠ V a0 0) → (SpI E 0 zm_X1_multiply [zrv a0, ziv a1, ziv a2, ziv x21] S V15 (fun x24 V25 => ((x24 = 0) → (F V25)) ∧ ((x24 ≠ 0) → (zl_X1_settle_80 E X F S a0 a1 V25))))))) :
    SpV E 1 zm_X1_settle [zrv a0, ziv a1, ziv a2] S V F := by
  refine Sp.of (plainFor_of_name (by decide +kernel)) (Nat.le_of_ble_eq_true rfl) (fun hok X => ?_)
  have h := h (hok _ (List.mem_cons_of_mem _ (List.mem_cons_self))) (hok _ (List.mem_cons_of_mem _ (List.mem_cons_of_mem _ (List.mem_cons_self)))) X
  show Zr E X (zRoom 1 0 0) zm_X1_settle (zQm E X (zpV S F) 0 0) 0 0 0 [(0, zrv a0), (1, ziv a1), (2, ziv a2)] [] S V
  refine z_aload_n 0 dX1_settle_0 rfl ?_
  obtain ⟨o1, h⟩ := h
  refine zgf_1_6 dX1_settle_1 (zf_RX1_25 _ rfl) o1 ?_
  refine z_iload_n 1 dX1_settle_4 rfl ?_
  refine z_bipush dX1_settle_5 ⟨by decide, by decide⟩ (by decide) ?_
  obtain ⟨o2, h⟩ := h
  refine z_imul dX1_settle_7 o2 ?_
  refine z_iload_n 2 dX1_settle_8 rfl ?_
  obtain ⟨o3, h⟩ := h
  refine z_iadd dX1_settle_9 o3 ?_
  refine z_aload_n 0 dX1_settle_10 rfl ?_
  refine zgf_1_5 dX1_settle_11 (zf_RX1_19 _ rfl) o1 ?_
  refine z_iload_n 2 dX1_settle_14 rfl ?_
  refine z_bipush dX1_settle_15 ⟨by decide, by decide⟩ (by decide) ?_
  obtain ⟨o4, h⟩ := h
  refine z_imul dX1_settle_17 o4 ?_
  refine z_iload_n 2 dX1_settle_18 rfl ?_
  obtain ⟨o5, h⟩ := h
  refine z_iadd dX1_settle_19 o5 ?_
  refine z_aload_n 0 dX1_settle_20 rfl ?_
  refine zgf_1_2 dX1_settle_21 (zf_RX1_31 _ rfl) o1 ?_
  refine z_iload_n 2 dX1_settle_24 rfl ?_
  obtain ⟨o6, h⟩ := h
  refine z_isub dX1_settle_25 o6 ?_
  obtain ⟨o7, h⟩ := h
  obtain ⟨o8, h⟩ := h
  obtain ⟨o9, h⟩ := h
  refine z_copy dX1_settle_26 (zk_RX1_79 _ rfl) zw_copy o7 o8 o9 (Nat.le_of_ble_eq_true rfl) (Nat.le_of_ble_eq_true rfl) (Nat.le_of_ble_eq_true rfl) ?_
  refine z_nameV (fun V10 e11 => ?_)
  have h := h V10 e11
  refine z_aload_n 0 dX1_settle_29 rfl ?_
  refine zgf_1_4 dX1_settle_30 (zf_RX1_15 _ rfl) o1 ?_
  refine z_topR (zfr_c e11 o8 o1 (by decide)) ?_
  refine z_iload_n 2 dX1_settle_33 rfl ?_
  refine z_aload_n 0 dX1_settle_34 rfl ?_
  refine zgf_1_6 dX1_settle_35 (zf_RX1_25 _ rfl) o1 ?_
  refine z_topR (zfr_c e11 o8 o1 (by decide)) ?_
  refine z_iload_n 1 dX1_settle_38 rfl ?_
  refine z_bipush dX1_settle_39 ⟨by decide, by decide⟩ (by decide) ?_
  refine z_imul dX1_settle_41 o2 ?_
  refine z_iload_n 2 dX1_settle_42 rfl ?_
  refine z_iadd dX1_settle_43 o3 ?_
  obtain ⟨o12, h⟩ := h
  refine z_iald dX1_settle_44 o7 o12 ?_
  obtain ⟨o13, h⟩ := h
  obtain ⟨o14, h⟩ := h
  refine z_iast dX1_settle_45 o13 o14 ?_
  refine z_nameV (fun V15 e16 => ?_)
  have h := h V15 e16
  refine z_aload_n 0 dX1_settle_46 rfl ?_
  refine zgf_1_0 dX1_settle_47 (zf_RX1_9 _ rfl) o1 ?_
  refine z_topI ((zfr_k e16 o13 o1 (by decide)).trans (zfr_c e11 o8 o1 (by decide))) ?_
  refine z_iconst dX1_settle_50 ⟨by decide, by decide⟩ ?_
  refine z_aload_n 0 dX1_settle_51 rfl ?_
  refine zgf_1_4 dX1_settle_52 (zf_RX1_15 _ rfl) o1 ?_
  refine z_topR ((zfr_k e16 o13 o1 (by decide)).trans (zfr_c e11 o8 o1 (by decide))) ?_
  refine z_iload_n 2 dX1_settle_55 rfl ?_
  refine z_iald dX1_settle_56 o13 o14 ?_
  refine z_topI (zfr_s e16) ?_
  refine z_cSF [ziv 1, ziv (V10 (V a0 6) ((a1 * 72) + a2))] (zk_RX1_70 _ rfl) dX1_settle_57 rfl rfl (Nat.le_of_ble_eq_true rfl) (Nat.le_of_ble_eq_true rfl) (Nat.le_of_ble_eq_true rfl) (Nat.le_of_ble_eq_true rfl) (Nat.le_of_ble_eq_true rfl) h (fun x17 h => ?_)
  obtain ⟨o19, h⟩ := h
  obtain ⟨o20, h⟩ := h
  refine z_idiv dX1_settle_60 o19 o20 ?_
  refine z_nameI (fun x21 e22 => ?_)
  have h := h x21 e22
  refine z_istore_n dX1_settle_61 (by decide) (L' := [(0, zrv a0), (1, ziv a1), (2, ziv a2), (3, ziv x21)]) [1, 2, 3, 0] rfl ?_
  refine z_iload_n 3 dX1_settle_62 rfl ?_
  refine z_aload_n 0 dX1_settle_63 rfl ?_
  refine zgf_1_0 dX1_settle_64 (zf_RX1_9 _ rfl) o1 ?_
  refine z_topI ((zfr_k e16 o13 o1 (by decide)).trans (zfr_c e11 o8 o1 (by decide))) ?_
  refine z_icmp_eq dX1_settle_67 (tgt := 80) (by decide) (fun c23 => ?_) (fun c23 => ?_)
  · have h := h.1 c23
    refine z_loc (L' := [(0, zrv a0), (1, ziv a1)]) [0, 1] rfl ?_
    exact h
  · have h := h.2 c23
    refine z_aload_n 0 dX1_settle_70 rfl ?_
    refine z_iload_n 1 dX1_settle_71 rfl ?_
    refine z_iload_n 2 dX1_settle_72 rfl ?_
    refine z_iload_n 3 dX1_settle_73 rfl ?_
    refine z_cVI [ziv a1, ziv a2, ziv x21] (zk_RX1_62 _ rfl) dX1_settle_74 o1 (by decide) rfl rfl (Nat.le_of_ble_eq_true rfl) (Nat.le_of_ble_eq_true rfl) (Nat.le_of_ble_eq_true rfl) (Nat.le_of_ble_eq_true rfl) (Nat.le_of_ble_eq_true rfl) h (fun x24 V25 h => ?_)
    refine z_if_eq dX1_settle_77 (tgt := 124) (by decide) (fun c26 => ?_) (fun c26 => ?_)
    · have h := h.1 c26
      exact z_retV dX1_settle_124 rfl h
    · have h := h.2 c26
      refine z_loc (L' := [(0, zrv a0), (1, ziv a1)]) [0, 1] rfl ?_
      exact h
def zl_X1_addTimes_4 (E : zE) (X : zX) (F : zH → Prop) (S : zS) (a0 a1 a2 a3 a4 a6 a7 : Int) (V : zH) : Prop := Zr E X (zRoom 0 0 0) zm_X1_addTimes (zQm E X (zpV S F) 0 0) 0 0 4 [(0, zrv a0), (1, zrv a1), (2, ziv a2), (3, zrv a3), (4, ziv a4), (6, ziv a6), (7, ziv a7)] [] S V
set_option maxRecDepth 100000 in
set_option maxHeartbeats 4000000 in
theorem wp_X1_addTimes_4 {E : zE} {X : zX} {F : zH → Prop} {S : zS} {a0 a1 a2 a3 a4 a6 a7 : Int} {V : zH}
    (h : ((S a0).1 = 4) ∧ ((V a0 2 ≤ a7) → (F V)) ∧ ((a7 < V a0 2) → ((z32 (a4 + a7)) ∧ ((S a3).1 = 1) ∧ ((0 : Int) ≤ a4 + a7 ∧ a4 + a7 < (S a3).2) ∧ ∀ x6 : Int, x6 = V a3 (a4 + a7) → ((x6 = 0) → ((z32 (a7 + 1)) ∧ zl_X1_addTimes_4 E X F S a0 a1 a2 a3 a4 a6 (a7 + 1) V)) ∧ ((x6 ≠ 0) → ((z32 (a2 + a7)) ∧ ((S a1).1 = 1) ∧ ((0 : Int) ≤ a2 + a7 ∧ a2 + a7 < (S a1).2) ∧ (z32 (a6 * x6)) ∧ (z32 ((V a1 (a2 + a7)) + (a6 * x6))) ∧ ((0 : Int) ≤ (V a1 (a2 + a7)) + (a6 * x6)) ∧ ((0 : Int) < V a0 0) ∧ ∀ V17 : zH, V17 = zput V a1 (a2 + a7) (((V a1 (a2 + a7)) + (a6 * x6)) % (V a0 0)) → (z32 (a7 + 1)) ∧ zl_X1_addTimes_4 E X F S a0 a1 a2 a3 a4 a6 (a7 + 1) V17))))) :
    zl_X1_addTimes_4 E X F S a0 a1 a2 a3 a4 a6 a7 V := by
  unfold zl_X1_addTimes_4
  refine z_iload 6 dX1_addTimes_4 rfl ?_
  refine z_aload_n 0 dX1_addTimes_6 rfl ?_
  obtain ⟨o1, h⟩ := h
  refine zgf_1_2 dX1_addTimes_7 (zf_RX1_31 _ rfl) o1 ?_
  refine z_icmp_ge dX1_addTimes_10 (tgt := 56) (by decide) (fun c2 => ?_) (fun c2 => ?_)
  · have h := h.1 c2
    exact z_retV dX1_addTimes_56 rfl h
  · have h := h.2 c2
    refine z_aload_n 3 dX1_addTimes_13 rfl ?_
    refine z_iload 4 dX1_addTimes_14 rfl ?_
    refine z_iload 6 dX1_addTimes_16 rfl ?_
    obtain ⟨o3, h⟩ := h
    refine z_iadd dX1_addTimes_18 o3 ?_
    obtain ⟨o4, h⟩ := h
    obtain ⟨o5, h⟩ := h
    refine z_iald dX1_addTimes_19 o4 o5 ?_
    refine z_nameI (fun x6 e7 => ?_)
    have h := h x6 e7
    refine z_istore dX1_addTimes_20 (by decide) (L' := [(0, zrv a0), (1, zrv a1), (2, ziv a2), (3, zrv a3), (4, ziv a4), (6, ziv a6), (7, ziv a7), (8, ziv x6)]) [1, 2, 3, 4, 5, 6, 7, 0] rfl ?_
    refine z_iload 7 dX1_addTimes_22 rfl ?_
    refine z_if_eq dX1_addTimes_24 (tgt := 50) (by decide) (fun c8 => ?_) (fun c8 => ?_)
    · have h := h.1 c8
      obtain ⟨o9, h⟩ := h
      refine z_iinc 6 dX1_addTimes_50 rfl (by decide) o9 (L' := [(0, zrv a0), (1, zrv a1), (2, ziv a2), (3, zrv a3), (4, ziv a4), (6, ziv a6), (7, ziv (a7 + 1)), (8, ziv x6)]) [1, 2, 3, 4, 5, 6, 0, 7] rfl ?_
      refine z_goto (tgt := 4) dX1_addTimes_53 (by decide) ?_
      refine z_loc (L' := [(0, zrv a0), (1, zrv a1), (2, ziv a2), (3, zrv a3), (4, ziv a4), (6, ziv a6), (7, ziv (a7 + 1))]) [0, 1, 2, 3, 4, 5, 6] rfl ?_
      exact h
    · have h := h.2 c8
      refine z_aload_n 1 dX1_addTimes_27 rfl ?_
      refine z_iload_n 2 dX1_addTimes_28 rfl ?_
      refine z_iload 6 dX1_addTimes_29 rfl ?_
      obtain ⟨o10, h⟩ := h
      refine z_iadd dX1_addTimes_31 o10 ?_
      refine z_aload_n 1 dX1_addTimes_32 rfl ?_
      refine z_iload_n 2 dX1_addTimes_33 rfl ?_
      refine z_iload 6 dX1_addTimes_34 rfl ?_
      refine z_iadd dX1_addTimes_36 o10 ?_
      obtain ⟨o11, h⟩ := h
      obtain ⟨o12, h⟩ := h
      refine z_iald dX1_addTimes_37 o11 o12 ?_
      refine z_iload 5 dX1_addTimes_38 rfl ?_
      refine z_iload 7 dX1_addTimes_40 rfl ?_
      obtain ⟨o13, h⟩ := h
      refine z_imul dX1_addTimes_42 o13 ?_
      obtain ⟨o14, h⟩ := h
      refine z_iadd dX1_addTimes_43 o14 ?_
      refine z_aload_n 0 dX1_addTimes_44 rfl ?_
      refine zgf_1_0 dX1_addTimes_45 (zf_RX1_9 _ rfl) o1 ?_
      obtain ⟨o15, h⟩ := h
      obtain ⟨o16, h⟩ := h
      refine z_irem dX1_addTimes_48 o15 o16 ?_
      refine z_iast dX1_addTimes_49 o11 o12 ?_
      refine z_nameV (fun V17 e18 => ?_)
      have h := h V17 e18
      obtain ⟨o19, h⟩ := h
      refine z_iinc 6 dX1_addTimes_50 rfl (by decide) o19 (L' := [(0, zrv a0), (1, zrv a1), (2, ziv a2), (3, zrv a3), (4, ziv a4), (6, ziv a6), (7, ziv (a7 + 1)), (8, ziv x6)]) [1, 2, 3, 4, 5, 6, 0, 7] rfl ?_
      refine z_goto (tgt := 4) dX1_addTimes_53 (by decide) ?_
      refine z_loc (L' := [(0, zrv a0), (1, zrv a1), (2, ziv a2), (3, zrv a3), (4, ziv a4), (6, ziv a6), (7, ziv (a7 + 1))]) [0, 1, 2, 3, 4, 5, 6] rfl ?_
      exact h
set_option maxRecDepth 100000 in
set_option maxHeartbeats 4000000 in
theorem en_X1_addTimes {E : zE} {F : zH → Prop} {S : zS} {a0 a1 a2 a3 a4 a5 a6 : Int} {V : zH}
    (h : z32 a2 → z32 a4 → z32 a5 → z32 a6 → ∀ X : zX, zl_X1_addTimes_4 E X F S a0 a1 a2 a3 a4 a6 a5 V) :
    SpV E 0 zm_X1_addTimes [zrv a0, zrv a1, ziv a2, zrv a3, ziv a4, ziv a5, ziv a6] S V F := by
  refine Sp.of (plainFor_of_name (by decide +kernel)) (Nat.le_of_ble_eq_true rfl) (fun hok X => ?_)
  have h := h (hok _ (List.mem_cons_of_mem _ (List.mem_cons_of_mem _ (List.mem_cons_self)))) (hok _ (List.mem_cons_of_mem _ (List.mem_cons_of_mem _ (List.mem_cons_of_mem _ (List.mem_cons_of_mem _ (List.mem_cons_self)))))) (hok _ (List.mem_cons_of_mem _ (List.mem_cons_of_mem _ (List.mem_cons_of_mem _ (List.mem_cons_of_mem _ (List.mem_cons_of_mem _ (List.mem_cons_self))))))) (hok _ (List.mem_cons_of_mem _ (List.mem_cons_of_mem _ (List.mem_cons_of_mem _ (List.mem_cons_of_mem _ (List.mem_cons_of_mem _ (List.mem_cons_of_mem _ (List.mem_cons_self)))))))) X
  show Zr E X (zRoom 0 0 0) zm_X1_addTimes (zQm E X (zpV S F) 0 0) 0 0 0 [(0, zrv a0), (1, zrv a1), (2, ziv a2), (3, zrv a3), (4, ziv a4), (5, ziv a5), (6, ziv a6)] [] S V
  refine z_iload 5 dX1_addTimes_0 rfl ?_
  refine z_istore dX1_addTimes_2 (by decide) (L' := [(0, zrv a0), (1, zrv a1), (2, ziv a2), (3, zrv a3), (4, ziv a4), (5, ziv a5), (6, ziv a6), (7, ziv a5)]) [1, 2, 3, 4, 5, 6, 7, 0] rfl ?_
  refine z_loc (L' := [(0, zrv a0), (1, zrv a1), (2, ziv a2), (3, zrv a3), (4, ziv a4), (6, ziv a6), (7, ziv a5)]) [0, 1, 2, 3, 4, 6, 7] rfl ?_
  exact h
def zl_X1_reduce_3 (E : zE) (X : zX) (F : zH → Prop) (S : zS) (a0 a1 a2 a4 a5 : Int) (V : zH) : Prop := Zr E X (zRoom 1 0 0) zm_X1_reduce (zQm E X (zpV S F) 0 0) 0 0 3 [(0, zrv a0), (1, zrv a1), (2, ziv a2), (4, ziv a4), (5, ziv a5)] [] S V
set_option maxRecDepth 100000 in
set_option maxHeartbeats 4000000 in
theorem wp_X1_reduce_3 {E : zE} {X : zX} {F : zH → Prop} {S : zS} {a0 a1 a2 a4 a5 : Int} {V : zH}
    (h : ((a4 ≤ a5) → (F V)) ∧ ((a5 < a4) → (((S a0).1 = 4) ∧ ((S (V a0 4)).1 = 1) ∧ ((0 : Int) ≤ a5 ∧ a5 < (S (V a0 4)).2) ∧ ∀ x5 : Int, x5 = V (V a0 4) a5 → ((x5 = 0) → ((z32 (a5 + 1)) ∧ zl_X1_reduce_3 E X F S a0 a1 a2 a4 (a5 + 1) V)) ∧ ((x5 ≠ 0) → ((z32 (a2 + a5)) ∧ ((S a1).1 = 1) ∧ ((0 : Int) ≤ a2 + a5 ∧ a2 + a5 < (S a1).2) ∧ ((V a1 (a2 + a5) < x5) → ((z32 (a5 + 1)) ∧ zl_X1_reduce_3 E X F S a0 a1 a2 a4 (a5 + 1) V)) ∧ ((x5 ≤ V a1 (a2 + a5)) → (((0 : Int) ≤ V a1 (a2 + a5)) ∧ ((0 : Int) < x5) ∧ ∀ x16 : Int, x16 = (V a1 (a2 + a5)) / x5 → (z32 (a5 * 72)) ∧ (z32 ((V a0 0) - x16)) ∧ SpV E 0 zm_X1_addTimes [zrv a0, zrv a1, ziv a2, zrv (V a0 5), ziv (a5 * 72), ziv a5, ziv ((V a0 0) - x16)] S V (fun V21 => (z32 (a5 + 1)) ∧ zl_X1_reduce_3 E X F S a0 a1 a2 a4 (a5 + 1) V21)))))))) :
    zl_X1_reduce_3 E X F S a0 a1 a2 a4 a5 V := by
  unfold zl_X1_reduce_3
  refine z_iload 4 dX1_reduce_3 rfl ?_
  refine z_iload 3 dX1_reduce_5 rfl ?_
  refine z_icmp_ge dX1_reduce_7 (tgt := 76) (by decide) (fun c1 => ?_) (fun c1 => ?_)
  · have h := h.1 c1
    exact z_retV dX1_reduce_76 rfl h
  · have h := h.2 c1
    refine z_aload_n 0 dX1_reduce_10 rfl ?_
    obtain ⟨o2, h⟩ := h
    refine zgf_1_4 dX1_reduce_11 (zf_RX1_15 _ rfl) o2 ?_
    refine z_iload 4 dX1_reduce_14 rfl ?_
    obtain ⟨o3, h⟩ := h
    obtain ⟨o4, h⟩ := h
    refine z_iald dX1_reduce_16 o3 o4 ?_
    refine z_nameI (fun x5 e6 => ?_)
    have h := h x5 e6
    refine z_istore dX1_reduce_17 (by decide) (L' := [(0, zrv a0), (1, zrv a1), (2, ziv a2), (4, ziv a4), (5, ziv a5), (6, ziv x5)]) [1, 2, 3, 4, 5, 0] rfl ?_
    refine z_iload 5 dX1_reduce_19 rfl ?_
    refine z_if_eq dX1_reduce_21 (tgt := 70) (by decide) (fun c7 => ?_) (fun c7 => ?_)
    · have h := h.1 c7
      obtain ⟨o8, h⟩ := h
      refine z_iinc 4 dX1_reduce_70 rfl (by decide) o8 (L' := [(0, zrv a0), (1, zrv a1), (2, ziv a2), (4, ziv a4), (5, ziv (a5 + 1)), (6, ziv x5)]) [1, 2, 3, 4, 0, 5] rfl ?_
      refine z_goto (tgt := 3) dX1_reduce_73 (by decide) ?_
      refine z_loc (L' := [(0, zrv a0), (1, zrv a1), (2, ziv a2), (4, ziv a4), (5, ziv (a5 + 1))]) [0, 1, 2, 3, 4] rfl ?_
      exact h
    · have h := h.2 c7
      refine z_aload_n 1 dX1_reduce_24 rfl ?_
      refine z_iload_n 2 dX1_reduce_25 rfl ?_
      refine z_iload 4 dX1_reduce_26 rfl ?_
      obtain ⟨o9, h⟩ := h
      refine z_iadd dX1_reduce_28 o9 ?_
      obtain ⟨o10, h⟩ := h
      obtain ⟨o11, h⟩ := h
      refine z_iald dX1_reduce_29 o10 o11 ?_
      refine z_iload 5 dX1_reduce_30 rfl ?_
      refine z_icmp_lt dX1_reduce_32 (tgt := 70) (by decide) (fun c12 => ?_) (fun c12 => ?_)
      · have h := h.1 c12
        obtain ⟨o13, h⟩ := h
        refine z_iinc 4 dX1_reduce_70 rfl (by decide) o13 (L' := [(0, zrv a0), (1, zrv a1), (2, ziv a2), (4, ziv a4), (5, ziv (a5 + 1)), (6, ziv x5)]) [1, 2, 3, 4, 0, 5] rfl ?_
        refine z_goto (tgt := 3) dX1_reduce_73 (by decide) ?_
        refine z_loc (L' := [(0, zrv a0), (1, zrv a1), (2, ziv a2), (4, ziv a4), (5, ziv (a5 + 1))]) [0, 1, 2, 3, 4] rfl ?_
        exact h
      · have h := h.2 c12
        refine z_aload_n 1 dX1_reduce_35 rfl ?_
        refine z_iload_n 2 dX1_reduce_36 rfl ?_
        refine z_iload 4 dX1_reduce_37 rfl ?_
        refine z_iadd dX1_reduce_39 o9 ?_
        refine z_iald dX1_reduce_40 o10 o11 ?_
        refine z_iload 5 dX1_reduce_41 rfl ?_
        obtain ⟨o14, h⟩ := h
        obtain ⟨o15, h⟩ := h
        refine z_idiv dX1_reduce_43 o14 o15 ?_
        refine z_nameI (fun x16 e17 => ?_)
        have h := h x16 e17
        refine z_istore dX1_reduce_44 (by decide) (L' := [(0, zrv a0), (1, zrv a1), (2, ziv a2), (4, ziv a4), (5, ziv a5), (6, ziv x5), (7, ziv x16)]) [1, 2, 3, 4, 5, 6, 0] rfl ?_
        refine z_aload_n 0 dX1_reduce_46 rfl ?_
        refine z_aload_n 1 dX1_reduce_47 rfl ?_
        refine z_iload_n 2 dX1_reduce_48 rfl ?_
        refine z_aload_n 0 dX1_reduce_49 rfl ?_
        refine zgf_1_5 dX1_reduce_50 (zf_RX1_19 _ rfl) o2 ?_
        refine z_iload 4 dX1_reduce_53 rfl ?_
        refine z_bipush dX1_reduce_55 ⟨by decide, by decide⟩ (by decide) ?_
        obtain ⟨o18, h⟩ := h
        refine z_imul dX1_reduce_57 o18 ?_
        refine z_iload 4 dX1_reduce_58 rfl ?_
        refine z_aload_n 0 dX1_reduce_60 rfl ?_
        refine zgf_1_0 dX1_reduce_61 (zf_RX1_9 _ rfl) o2 ?_
        refine z_iload 6 dX1_reduce_64 rfl ?_
        obtain ⟨o19, h⟩ := h
        refine z_isub dX1_reduce_66 o19 ?_
        refine z_cVV [zrv a1, ziv a2, zrv (V a0 5), ziv (a5 * 72), ziv a5, ziv ((V a0 0) - x16)] (zk_RX1_75 _ rfl) dX1_reduce_67 o2 (by decide) rfl rfl (Nat.le_of_ble_eq_true rfl) (Nat.le_of_ble_eq_true rfl) (Nat.le_of_ble_eq_true rfl) (Nat.le_of_ble_eq_true rfl) (Nat.le_of_ble_eq_true rfl) h (fun V21 h => ?_)
        obtain ⟨o22, h⟩ := h
        refine z_iinc 4 dX1_reduce_70 rfl (by decide) o22 (L' := [(0, zrv a0), (1, zrv a1), (2, ziv a2), (4, ziv a4), (5, ziv (a5 + 1)), (6, ziv x5), (7, ziv x16)]) [1, 2, 3, 4, 0, 5, 6] rfl ?_
        refine z_goto (tgt := 3) dX1_reduce_73 (by decide) ?_
        refine z_loc (L' := [(0, zrv a0), (1, zrv a1), (2, ziv a2), (4, ziv a4), (5, ziv (a5 + 1))]) [0, 1, 2, 3, 4] rfl ?_
        exact h
set_option maxRecDepth 100000 in
set_option maxHeartbeats 4000000 in
theorem en_X1_reduce {E : zE} {F : zH → Prop} {S : zS} {a0 a1 a2 a3 a4 : Int} {V : zH}
    (h : z32 a2 → z32 a3 → z32 a4 → ∀ X : zX, zl_X1_reduce_3 E X F S a0 a1 a2 a4 a3 V) :
    SpV E 1 zm_X1_reduce [zrv a0, zrv a1, ziv a2, ziv a3, ziv a4] S V F := by
  refine Sp.of (plainFor_of_name (by decide +kernel)) (Nat.le_of_ble_eq_true rfl) (fun hok X => ?_)
  have h := h (hok _ (List.mem_cons_of_mem _ (List.mem_cons_of_mem _ (List.mem_cons_self)))) (hok _ (List.mem_cons_of_mem _ (List.mem_cons_of_mem _ (List.mem_cons_of_mem _ (List.mem_cons_self))))) (hok _ (List.mem_cons_of_mem _ (List.mem_cons_of_mem _ (List.mem_cons_of_mem _ (List.mem_cons_of_mem _ (List.mem_cons_self)))))) X
  show Zr E X (zRoom 1 0 0) zm_X1_reduce (zQm E X (zpV S F) 0 0) 0 0 0 [(0, zrv a0), (1, zrv a1), (2, ziv a2), (3, ziv a3), (4, ziv a4)] [] S V
  refine z_iload_n 3 dX1_reduce_0 rfl ?_
  refine z_istore dX1_reduce_1 (by decide) (L' := [(0, zrv a0), (1, zrv a1), (2, ziv a2), (3, ziv a3), (4, ziv a4), (5, ziv a3)]) [1, 2, 3, 4, 5, 0] rfl ?_
  refine z_loc (L' := [(0, zrv a0), (1, zrv a1), (2, ziv a2), (4, ziv a4), (5, ziv a3)]) [0, 1, 2, 4, 5] rfl ?_
  exact h
set_option maxRecDepth 100000 in
set_option maxHeartbeats 4000000 in
theorem en_X1_tailOf {E : zE} {F : Int → Prop} {S : zS} {a0 a1 : Int} {V : zH}
    (h : z32 a1 → (z32 (a1 * 72)) ∧ ((S a0).1 = 4) ∧ (z32 ((a1 * 72) + (V a0 1))) ∧ F ((a1 * 72) + (V a0 1))) :
    SpF E 0 zm_X1_tailOf [zrv a0, ziv a1] S V F := by
  refine Sp.of (plainFor_of_name (by decide +kernel)) (Nat.le_of_ble_eq_true rfl) (fun hok X => ?_)
  have h := h (hok _ (List.mem_cons_of_mem _ (List.mem_cons_self)))
  show Zr E X (zRoom 0 0 0) zm_X1_tailOf (zQm E X (zpF S V F) 0 0) 0 0 0 [(0, zrv a0), (1, ziv a1)] [] S V
  refine z_iload_n 1 dX1_tailOf_0 rfl ?_
  refine z_bipush dX1_tailOf_1 ⟨by decide, by decide⟩ (by decide) ?_
  obtain ⟨o1, h⟩ := h
  refine z_imul dX1_tailOf_3 o1 ?_
  refine z_aload_n 0 dX1_tailOf_4 rfl ?_
  obtain ⟨o2, h⟩ := h
  refine zgf_1_1 dX1_tailOf_5 (zf_RX1_28 _ rfl) o2 ?_
  obtain ⟨o3, h⟩ := h
  refine z_iadd dX1_tailOf_8 o3 ?_
  exact z_retFI dX1_tailOf_9 rfl h
set_option maxRecDepth 100000 in
set_option maxHeartbeats 4000000 in
theorem en_X1_orderAt {E : zE} {F : Int → Prop} {S : zS} {a0 a1 : Int} {V : zH}
    (h : z32 a1 → ((S a0).1 = 4) ∧ ((S (V a0 4)).1 = 1) ∧ ((0 : Int) ≤ a1 ∧ a1 < (S (V a0 4)).2) ∧ ((V (V a0 4) a1 ≠ 0) → (((0 : Int) ≤ V a0 0) ∧ ((0 : Int) < V (V a0 4) a1) ∧ F ((V a0 0) / (V (V a0 4) a1)))) ∧ ((V (V a0 4) a1 = 0) → (F 1))) :
    SpF E 0 zm_X1_orderAt [zrv a0, ziv a1] S V F := by
  refine Sp.of (plainFor_of_name (by decide +kernel)) (Nat.le_of_ble_eq_true rfl) (fun hok X => ?_)
  have h := h (hok _ (List.mem_cons_of_mem _ (List.mem_cons_self)))
  show Zr E X (zRoom 0 0 0) zm_X1_orderAt (zQm E X (zpF S V F) 0 0) 0 0 0 [(0, zrv a0), (1, ziv a1)] [] S V
  refine z_aload_n 0 dX1_orderAt_0 rfl ?_
  obtain ⟨o1, h⟩ := h
  refine zgf_1_4 dX1_orderAt_1 (zf_RX1_15 _ rfl) o1 ?_
  refine z_iload_n 1 dX1_orderAt_4 rfl ?_
  obtain ⟨o2, h⟩ := h
  obtain ⟨o3, h⟩ := h
  refine z_iald dX1_orderAt_5 o2 o3 ?_
  refine z_if_ne dX1_orderAt_6 (tgt := 13) (by decide) (fun c4 => ?_) (fun c4 => ?_)
  · have h := h.1 c4
    refine z_aload_n 0 dX1_orderAt_13 rfl ?_
    refine zgf_1_0 dX1_orderAt_14 (zf_RX1_9 _ rfl) o1 ?_
    refine z_aload_n 0 dX1_orderAt_17 rfl ?_
    refine zgf_1_4 dX1_orderAt_18 (zf_RX1_15 _ rfl) o1 ?_
    refine z_iload_n 1 dX1_orderAt_21 rfl ?_
    refine z_iald dX1_orderAt_22 o2 o3 ?_
    obtain ⟨o5, h⟩ := h
    obtain ⟨o6, h⟩ := h
    refine z_idiv dX1_orderAt_23 o5 o6 ?_
    exact z_retFI dX1_orderAt_24 rfl h
  · have h := h.2 c4
    refine z_iconst dX1_orderAt_9 ⟨by decide, by decide⟩ ?_
    refine z_goto (tgt := 24) dX1_orderAt_10 (by decide) ?_
    exact z_retFI dX1_orderAt_24 rfl h
set_option maxRecDepth 100000 in
set_option maxHeartbeats 4000000 in
theorem en_X1_addRow {E : zE} {F : zH → Prop} {S : zS} {a0 a1 a2 : Int} {V : zH}
    (h : z32 a2 → ((S a0).1 = 4) ∧ (z32 (a2 * 72)) ∧ SpV E 0 zm_X1_addTimes [zrv a0, zrv a1, ziv 0, zrv (V a0 5), ziv (a2 * 72), ziv a2, ziv 1] S V (fun V4 => F V4)) :
    SpV E 1 zm_X1_addRow [zrv a0, zrv a1, ziv a2] S V F := by
  refine Sp.of (plainFor_of_name (by decide +kernel)) (Nat.le_of_ble_eq_true rfl) (fun hok X => ?_)
  have h := h (hok _ (List.mem_cons_of_mem _ (List.mem_cons_of_mem _ (List.mem_cons_self))))
  show Zr E X (zRoom 1 0 0) zm_X1_addRow (zQm E X (zpV S F) 0 0) 0 0 0 [(0, zrv a0), (1, zrv a1), (2, ziv a2)] [] S V
  refine z_aload_n 0 dX1_addRow_0 rfl ?_
  refine z_aload_n 1 dX1_addRow_1 rfl ?_
  refine z_iconst dX1_addRow_2 ⟨by decide, by decide⟩ ?_
  refine z_aload_n 0 dX1_addRow_3 rfl ?_
  obtain ⟨o1, h⟩ := h
  refine zgf_1_5 dX1_addRow_4 (zf_RX1_19 _ rfl) o1 ?_
  refine z_iload_n 2 dX1_addRow_7 rfl ?_
  refine z_bipush dX1_addRow_8 ⟨by decide, by decide⟩ (by decide) ?_
  obtain ⟨o2, h⟩ := h
  refine z_imul dX1_addRow_10 o2 ?_
  refine z_iload_n 2 dX1_addRow_11 rfl ?_
  refine z_iconst dX1_addRow_12 ⟨by decide, by decide⟩ ?_
  refine z_cVV [zrv a1, ziv 0, zrv (V a0 5), ziv (a2 * 72), ziv a2, ziv 1] (zk_RX1_75 _ rfl) dX1_addRow_13 o1 (by decide) rfl rfl (Nat.le_of_ble_eq_true rfl) (Nat.le_of_ble_eq_true rfl) (Nat.le_of_ble_eq_true rfl) (Nat.le_of_ble_eq_true rfl) (Nat.le_of_ble_eq_true rfl) h (fun V4 h => ?_)
  exact z_retV dX1_addRow_16 rfl h
def zl_X1_reduceHead_2 (E : zE) (X : zX) (F : Int → zH → Prop) (S : zS) (a0 a1 a2 : Int) (V : zH) : Prop := Zr E X (zRoom 2 0 0) zm_X1_reduceHead (zQm E X (zpI S F) 0 0) 0 0 2 [(0, zrv a0), (1, zrv a1), (2, ziv a2)] [] S V
set_option maxRecDepth 100000 in
set_option maxHeartbeats 4000000 in
theorem wp_X1_reduceHead_2 {E : zE} {X : zX} {F : Int → zH → Prop} {S : zS} {a0 a1 a2 : Int} {V : zH}
    (h : ((S a0).1 = 4) ∧ ((V a0 1 ≤ a2) → (F 1 V)) ∧ ((a2 < V a0 1) → (((S a1).1 = 1) ∧ ((0 : Int) ≤ a2 ∧ a2 < (S a1).2) ∧ ((V a1 a2 = 0) → ((z32 (a2 + 1)) ∧ zl_X1_reduceHead_2 E X F S a0 a1 (a2 + 1) V)) ∧ ((V a1 a2 ≠ 0) → ((z32 (a2 + 1)) ∧ SpV E 1 zm_X1_reduce [zrv a0, zrv a1, ziv 0, ziv a2, ziv (a2 + 1)] S V (fun V9 => ((V9 a1 a2 = 0) → (zl_X1_reduceHead_2 E X F S a0 a1 (a2 + 1) V9)) ∧ ((V9 a1 a2 ≠ 0) → (F 0 V9)))))))) :
    zl_X1_reduceHead_2 E X F S a0 a1 a2 V := by
  unfold zl_X1_reduceHead_2
  refine z_iload_n 2 dX1_reduceHead_2 rfl ?_
  refine z_aload_n 0 dX1_reduceHead_3 rfl ?_
  obtain ⟨o1, h⟩ := h
  refine zgf_1_1 dX1_reduceHead_4 (zf_RX1_28 _ rfl) o1 ?_
  refine z_icmp_ge dX1_reduceHead_7 (tgt := 40) (by decide) (fun c2 => ?_) (fun c2 => ?_)
  · have h := h.1 c2
    refine z_iconst dX1_reduceHead_40 ⟨by decide, by decide⟩ ?_
    exact z_retZ dX1_reduceHead_41 rfl (Or.inr rfl) h
  · have h := h.2 c2
    refine z_aload_n 1 dX1_reduceHead_10 rfl ?_
    refine z_iload_n 2 dX1_reduceHead_11 rfl ?_
    obtain ⟨o3, h⟩ := h
    obtain ⟨o4, h⟩ := h
    refine z_iald dX1_reduceHead_12 o3 o4 ?_
    refine z_if_eq dX1_reduceHead_13 (tgt := 34) (by decide) (fun c5 => ?_) (fun c5 => ?_)
    · have h := h.1 c5
      obtain ⟨o6, h⟩ := h
      refine z_iinc 2 dX1_reduceHead_34 rfl (by decide) o6 (L' := [(0, zrv a0), (1, zrv a1), (2, ziv (a2 + 1))]) [1, 2, 0] rfl ?_
      refine z_goto (tgt := 2) dX1_reduceHead_37 (by decide) ?_
      exact h
    · have h := h.2 c5
      refine z_aload_n 0 dX1_reduceHead_16 rfl ?_
      refine z_aload_n 1 dX1_reduceHead_17 rfl ?_
      refine z_iconst dX1_reduceHead_18 ⟨by decide, by decide⟩ ?_
      refine z_iload_n 2 dX1_reduceHead_19 rfl ?_
      refine z_iload_n 2 dX1_reduceHead_20 rfl ?_
      refine z_iconst dX1_reduceHead_21 ⟨by decide, by decide⟩ ?_
      obtain ⟨o7, h⟩ := h
      refine z_iadd dX1_reduceHead_22 o7 ?_
      refine z_cVV [zrv a1, ziv 0, ziv a2, ziv (a2 + 1)] (zk_RX1_58 _ rfl) dX1_reduceHead_23 o1 (by decide) rfl rfl (Nat.le_of_ble_eq_true rfl) (Nat.le_of_ble_eq_true rfl) (Nat.le_of_ble_eq_true rfl) (Nat.le_of_ble_eq_true rfl) (Nat.le_of_ble_eq_true rfl) h (fun V9 h => ?_)
      refine z_aload_n 1 dX1_reduceHead_26 rfl ?_
      refine z_iload_n 2 dX1_reduceHead_27 rfl ?_
      refine z_iald dX1_reduceHead_28 o3 o4 ?_
      refine z_if_eq dX1_reduceHead_29 (tgt := 34) (by decide) (fun c10 => ?_) (fun c10 => ?_)
      · have h := h.1 c10
        refine z_iinc 2 dX1_reduceHead_34 rfl (by decide) o7 (L' := [(0, zrv a0), (1, zrv a1), (2, ziv (a2 + 1))]) [1, 2, 0] rfl ?_
        refine z_goto (tgt := 2) dX1_reduceHead_37 (by decide) ?_
        exact h
      · have h := h.2 c10
        refine z_iconst dX1_reduceHead_32 ⟨by decide, by decide⟩ ?_
        exact z_retZ dX1_reduceHead_33 rfl (Or.inl rfl) h
set_option maxRecDepth 100000 in
set_option maxHeartbeats 4000000 in
theorem en_X1_reduceHead {E : zE} {F : Int → zH → Prop} {S : zS} {a0 a1 : Int} {V : zH}
    (h : ∀ X : zX, zl_X1_reduceHead_2 E X F S a0 a1 0 V) :
    SpI E 2 zm_X1_reduceHead [zrv a0, zrv a1] S V F := by
  refine Sp.of (plainFor_of_name (by decide +kernel)) (Nat.le_of_ble_eq_true rfl) (fun hok X => ?_)
  have h := h X
  show Zr E X (zRoom 2 0 0) zm_X1_reduceHead (zQm E X (zpI S F) 0 0) 0 0 0 [(0, zrv a0), (1, zrv a1)] [] S V
  refine z_iconst dX1_reduceHead_0 ⟨by decide, by decide⟩ ?_
  refine z_istore_n dX1_reduceHead_1 (by decide) (L' := [(0, zrv a0), (1, zrv a1), (2, ziv 0)]) [1, 2, 0] rfl ?_
  exact h
def zl_X1_stepTail_7 (E : zE) (X : zX) (F : Int → zH → Prop) (S : zS) (a0 a1 a2 : Int) (V : zH) : Prop := Zr E X (zRoom 2 0 0) zm_X1_stepTail (zQm E X (zpI S F) 0 0) 0 0 7 [(0, zrv a0), (1, zrv a1), (2, ziv a2)] [] S V
set_option maxRecDepth 100000 in
set_option maxHeartbeats 4000000 in
theorem wp_X1_stepTail_7 {E : zE} {X : zX} {F : Int → zH → Prop} {S : zS} {a0 a1 a2 : Int} {V : zH}
    (h : ((S a0).1 = 4) ∧ ((a2 < V a0 1) → (F 0 V)) ∧ ((V a0 1 ≤ a2) → (((S (V a0 4)).1 = 1) ∧ ((0 : Int) ≤ a2 ∧ a2 < (S (V a0 4)).2) ∧ ((V (V a0 4) a2 = 0) → ((z32 (a2 + (-1))) ∧ zl_X1_stepTail_7 E X F S a0 a1 (a2 + (-1)) V)) ∧ ((V (V a0 4) a2 ≠ 0) → (((S a1).1 = 1) ∧ ((0 : Int) ≤ a2 ∧ a2 < (S a1).2) ∧ (z32 ((V a1 a2) + (V (V a0 4) a2))) ∧ ((V a0 0 ≤ (V a1 a2) + (V (V a0 4) a2)) → ((z32 (a2 + (-1))) ∧ zl_X1_stepTail_7 E X F S a0 a1 (a2 + (-1)) V)) ∧ (((V a1 a2) + (V (V a0 4) a2) < V a0 0) → (SpV E 1 zm_X1_addRow [zrv a0, zrv a1, ziv a2] S V (fun V13 => (z32 (a2 + 1)) ∧ SpV E 1 zm_X1_reduce [zrv a0, zrv a1, ziv 0, ziv (a2 + 1), ziv (V13 a0 2)] S V13 (fun V16 => F 1 V16))))))))) :
    zl_X1_stepTail_7 E X F S a0 a1 a2 V := by
  unfold zl_X1_stepTail_7
  refine z_iload_n 2 dX1_stepTail_7 rfl ?_
  refine z_aload_n 0 dX1_stepTail_8 rfl ?_
  obtain ⟨o1, h⟩ := h
  refine zgf_1_1 dX1_stepTail_9 (zf_RX1_28 _ rfl) o1 ?_
  refine z_icmp_lt dX1_stepTail_12 (tgt := 68) (by decide) (fun c2 => ?_) (fun c2 => ?_)
  · have h := h.1 c2
    refine z_iconst dX1_stepTail_68 ⟨by decide, by decide⟩ ?_
    exact z_retZ dX1_stepTail_69 rfl (Or.inl rfl) h
  · have h := h.2 c2
    refine z_aload_n 0 dX1_stepTail_15 rfl ?_
    refine zgf_1_4 dX1_stepTail_16 (zf_RX1_15 _ rfl) o1 ?_
    refine z_iload_n 2 dX1_stepTail_19 rfl ?_
    obtain ⟨o3, h⟩ := h
    obtain ⟨o4, h⟩ := h
    refine z_iald dX1_stepTail_20 o3 o4 ?_
    refine z_if_eq dX1_stepTail_21 (tgt := 62) (by decide) (fun c5 => ?_) (fun c5 => ?_)
    · have h := h.1 c5
      obtain ⟨o6, h⟩ := h
      refine z_iinc 2 dX1_stepTail_62 rfl (by decide) o6 (L' := [(0, zrv a0), (1, zrv a1), (2, ziv (a2 + (-1)))]) [1, 2, 0] rfl ?_
      refine z_goto (tgt := 7) dX1_stepTail_65 (by decide) ?_
      exact h
    · have h := h.2 c5
      refine z_aload_n 1 dX1_stepTail_24 rfl ?_
      refine z_iload_n 2 dX1_stepTail_25 rfl ?_
      obtain ⟨o7, h⟩ := h
      obtain ⟨o8, h⟩ := h
      refine z_iald dX1_stepTail_26 o7 o8 ?_
      refine z_aload_n 0 dX1_stepTail_27 rfl ?_
      refine zgf_1_4 dX1_stepTail_28 (zf_RX1_15 _ rfl) o1 ?_
      refine z_iload_n 2 dX1_stepTail_31 rfl ?_
      refine z_iald dX1_stepTail_32 o3 o4 ?_
      obtain ⟨o9, h⟩ := h
      refine z_iadd dX1_stepTail_33 o9 ?_
      refine z_aload_n 0 dX1_stepTail_34 rfl ?_
      refine zgf_1_0 dX1_stepTail_35 (zf_RX1_9 _ rfl) o1 ?_
      refine z_icmp_ge dX1_stepTail_38 (tgt := 62) (by decide) (fun c10 => ?_) (fun c10 => ?_)
      · have h := h.1 c10
        obtain ⟨o11, h⟩ := h
        refine z_iinc 2 dX1_stepTail_62 rfl (by decide) o11 (L' := [(0, zrv a0), (1, zrv a1), (2, ziv (a2 + (-1)))]) [1, 2, 0] rfl ?_
        refine z_goto (tgt := 7) dX1_stepTail_65 (by decide) ?_
        exact h
      · have h := h.2 c10
        refine z_aload_n 0 dX1_stepTail_41 rfl ?_
        refine z_aload_n 1 dX1_stepTail_42 rfl ?_
        refine z_iload_n 2 dX1_stepTail_43 rfl ?_
        refine z_cVV [zrv a1, ziv a2] (zk_RX1_85 _ rfl) dX1_stepTail_44 o1 (by decide) rfl rfl (Nat.le_of_ble_eq_true rfl) (Nat.le_of_ble_eq_true rfl) (Nat.le_of_ble_eq_true rfl) (Nat.le_of_ble_eq_true rfl) (Nat.le_of_ble_eq_true rfl) h (fun V13 h => ?_)
        refine z_aload_n 0 dX1_stepTail_47 rfl ?_
        refine z_aload_n 1 dX1_stepTail_48 rfl ?_
        refine z_iconst dX1_stepTail_49 ⟨by decide, by decide⟩ ?_
        refine z_iload_n 2 dX1_stepTail_50 rfl ?_
        refine z_iconst dX1_stepTail_51 ⟨by decide, by decide⟩ ?_
        obtain ⟨o14, h⟩ := h
        refine z_iadd dX1_stepTail_52 o14 ?_
        refine z_aload_n 0 dX1_stepTail_53 rfl ?_
        refine zgf_1_2 dX1_stepTail_54 (zf_RX1_31 _ rfl) o1 ?_
        refine z_cVV [zrv a1, ziv 0, ziv (a2 + 1), ziv (V13 a0 2)] (zk_RX1_58 _ rfl) dX1_stepTail_57 o1 (by decide) rfl rfl (Nat.le_of_ble_eq_true rfl) (Nat.le_of_ble_eq_true rfl) (Nat.le_of_ble_eq_true rfl) (Nat.le_of_ble_eq_true rfl) (Nat.le_of_ble_eq_true rfl) h (fun V16 h => ?_)
        refine z_iconst dX1_stepTail_60 ⟨by decide, by decide⟩ ?_
        exact z_retZ dX1_stepTail_61 rfl (Or.inr rfl) h
set_option maxRecDepth 100000 in
set_option maxHeartbeats 4000000 in
theorem en_X1_stepTail {E : zE} {F : Int → zH → Prop} {S : zS} {a0 a1 : Int} {V : zH}
    (h : ∀ X : zX, ((S a0).1 = 4) ∧ (z32 ((V a0 2) - 1)) ∧ ∀ x3 : Int, x3 = (V a0 2) - 1 → zl_X1_stepTail_7 E X F S a0 a1 x3 V) :
    SpI E 2 zm_X1_stepTail [zrv a0, zrv a1] S V F := by
  refine Sp.of (plainFor_of_name (by decide +kernel)) (Nat.le_of_ble_eq_true rfl) (fun hok X => ?_)
  have h := h X
  show Zr E X (zRoom 2 0 0) zm_X1_stepTail (zQm E X (zpI S F) 0 0) 0 0 0 [(0, zrv a0), (1, zrv a1)] [] S V
  refine z_aload_n 0 dX1_stepTail_0 rfl ?_
  obtain ⟨o1, h⟩ := h
  refine zgf_1_2 dX1_stepTail_1 (zf_RX1_31 _ rfl) o1 ?_
  refine z_iconst dX1_stepTail_4 ⟨by decide, by decide⟩ ?_
  obtain ⟨o2, h⟩ := h
  refine z_isub dX1_stepTail_5 o2 ?_
  refine z_nameI (fun x3 e4 => ?_)
  have h := h x3 e4
  refine z_istore_n dX1_stepTail_6 (by decide) (L' := [(0, zrv a0), (1, zrv a1), (2, ziv x3)]) [1, 2, 0] rfl ?_
  exact h
def zl_X1_countElements_7 (E : zE) (X : zX) (F : Int → Prop) (S : zS) (a0 a1 a2 : Int) (V : zH) : Prop := Zr E X (zRoom 0 0 0) zm_X1_countElements (zQm E X (zpF S V F) 0 0) 0 0 7 [(0, zrv a0), (1, ziv a1), (2, ziv a2)] [] S V
set_option maxRecDepth 100000 in
set_option maxHeartbeats 4000000 in
theorem wp_X1_countElements_7 {E : zE} {X : zX} {F : Int → Prop} {S : zS} {a0 a1 a2 : Int} {V : zH}
    (h : ((S a0).1 = 4) ∧ ((V a0 2 ≤ a2) → (F a1)) ∧ ((a2 < V a0 2) → (((S (V a0 4)).1 = 1) ∧ ((0 : Int) ≤ a2 ∧ a2 < (S (V a0 4)).2) ∧ ((V (V a0 4) a2 = 0) → ((z32 (a2 + 1)) ∧ zl_X1_countElements_7 E X F S a0 a1 (a2 + 1) V)) ∧ ((V (V a0 4) a2 ≠ 0) → ((z32 (a1 + 1)) ∧ (z32 (a2 + 1)) ∧ zl_X1_countElements_7 E X F S a0 (a1 + 1) (a2 + 1) V))))) :
    zl_X1_countElements_7 E X F S a0 a1 a2 V := by
  unfold zl_X1_countElements_7
  refine z_iload_n 2 dX1_countElements_7 rfl ?_
  refine z_aload_n 0 dX1_countElements_8 rfl ?_
  obtain ⟨o1, h⟩ := h
  refine zgf_1_2 dX1_countElements_9 (zf_RX1_31 _ rfl) o1 ?_
  refine z_icmp_ge dX1_countElements_12 (tgt := 33) (by decide) (fun c2 => ?_) (fun c2 => ?_)
  · have h := h.1 c2
    refine z_iload_n 1 dX1_countElements_33 rfl ?_
    exact z_retFI dX1_countElements_34 rfl h
  · have h := h.2 c2
    refine z_aload_n 0 dX1_countElements_15 rfl ?_
    refine zgf_1_4 dX1_countElements_16 (zf_RX1_15 _ rfl) o1 ?_
    refine z_iload_n 2 dX1_countElements_19 rfl ?_
    obtain ⟨o3, h⟩ := h
    obtain ⟨o4, h⟩ := h
    refine z_iald dX1_countElements_20 o3 o4 ?_
    refine z_if_eq dX1_countElements_21 (tgt := 27) (by decide) (fun c5 => ?_) (fun c5 => ?_)
    · have h := h.1 c5
      obtain ⟨o6, h⟩ := h
      refine z_iinc 2 dX1_countElements_27 rfl (by decide) o6 (L' := [(0, zrv a0), (1, ziv a1), (2, ziv (a2 + 1))]) [1, 2, 0] rfl ?_
      refine z_goto (tgt := 7) dX1_countElements_30 (by decide) ?_
      exact h
    · have h := h.2 c5
      obtain ⟨o7, h⟩ := h
      refine z_iinc 1 dX1_countElements_24 rfl (by decide) o7 (L' := [(0, zrv a0), (1, ziv (a1 + 1)), (2, ziv a2)]) [1, 0, 2] rfl ?_
      obtain ⟨o8, h⟩ := h
      refine z_iinc 2 dX1_countElements_27 rfl (by decide) o8 (L' := [(0, zrv a0), (1, ziv (a1 + 1)), (2, ziv (a2 + 1))]) [1, 2, 0] rfl ?_
      refine z_goto (tgt := 7) dX1_countElements_30 (by decide) ?_
      exact h
set_option maxRecDepth 100000 in
set_option maxHeartbeats 4000000 in
theorem en_X1_countElements {E : zE} {F : Int → Prop} {S : zS} {a0 : Int} {V : zH}
    (h : ∀ X : zX, ((S a0).1 = 4) ∧ ∀ x2 : Int, x2 = V a0 1 → zl_X1_countElements_7 E X F S a0 0 x2 V) :
    SpF E 0 zm_X1_countElements [zrv a0] S V F := by
  refine Sp.of (plainFor_of_name (by decide +kernel)) (Nat.le_of_ble_eq_true rfl) (fun hok X => ?_)
  have h := h X
  show Zr E X (zRoom 0 0 0) zm_X1_countElements (zQm E X (zpF S V F) 0 0) 0 0 0 [(0, zrv a0)] [] S V
  refine z_iconst dX1_countElements_0 ⟨by decide, by decide⟩ ?_
  refine z_istore_n dX1_countElements_1 (by decide) (L' := [(0, zrv a0), (1, ziv 0)]) [1, 0] rfl ?_
  refine z_aload_n 0 dX1_countElements_2 rfl ?_
  obtain ⟨o1, h⟩ := h
  refine zgf_1_1 dX1_countElements_3 (zf_RX1_28 _ rfl) o1 ?_
  refine z_nameI (fun x2 e3 => ?_)
  have h := h x2 e3
  refine z_istore_n dX1_countElements_6 (by decide) (L' := [(0, zrv a0), (1, ziv 0), (2, ziv x2)]) [1, 2, 0] rfl ?_
  exact h
def zl_X1_columnOfElement_7 (E : zE) (X : zX) (F : Int → Prop) (S : zS) (a0 a1 a2 a3 : Int) (V : zH) : Prop := Zr E X (zRoom 0 0 0) zm_X1_columnOfElement (zQm E X (zpF S V F) 0 0) 0 0 7 [(0, zrv a0), (1, ziv a1), (2, ziv a2), (3, ziv a3)] [] S V
set_option maxRecDepth 100000 in
set_option maxHeartbeats 4000000 in
theorem wp_X1_columnOfElement_7 {E : zE} {X : zX} {F : Int → Prop} {S : zS} {a0 a1 a2 a3 : Int} {V : zH}
    (h : ((S a0).1 = 4) ∧ ((V a0 2 ≤ a3) → (F (-1))) ∧ ((a3 < V a0 2) → (((S (V a0 4)).1 = 1) ∧ ((0 : Int) ≤ a3 ∧ a3 < (S (V a0 4)).2) ∧ ((V (V a0 4) a3 = 0) → ((z32 (a3 + 1)) ∧ zl_X1_columnOfElement_7 E X F S a0 a1 a2 (a3 + 1) V)) ∧ ((V (V a0 4) a3 ≠ 0) → (((a2 ≠ a1) → ((z32 (a2 + 1)) ∧ (z32 (a3 + 1)) ∧ zl_X1_columnOfElement_7 E X F S a0 a1 (a2 + 1) (a3 + 1) V)) ∧ ((a2 = a1) → (F a3))))))) :
    zl_X1_columnOfElement_7 E X F S a0 a1 a2 a3 V := by
  unfold zl_X1_columnOfElement_7
  refine z_iload_n 3 dX1_columnOfElement_7 rfl ?_
  refine z_aload_n 0 dX1_columnOfElement_8 rfl ?_
  obtain ⟨o1, h⟩ := h
  refine zgf_1_2 dX1_columnOfElement_9 (zf_RX1_31 _ rfl) o1 ?_
  refine z_icmp_ge dX1_columnOfElement_12 (tgt := 40) (by decide) (fun c2 => ?_) (fun c2 => ?_)
  · have h := h.1 c2
    refine z_iconst dX1_columnOfElement_40 ⟨by decide, by decide⟩ ?_
    exact z_retFI dX1_columnOfElement_41 rfl h
  · have h := h.2 c2
    refine z_aload_n 0 dX1_columnOfElement_15 rfl ?_
    refine zgf_1_4 dX1_columnOfElement_16 (zf_RX1_15 _ rfl) o1 ?_
    refine z_iload_n 3 dX1_columnOfElement_19 rfl ?_
    obtain ⟨o3, h⟩ := h
    obtain ⟨o4, h⟩ := h
    refine z_iald dX1_columnOfElement_20 o3 o4 ?_
    refine z_if_eq dX1_columnOfElement_21 (tgt := 34) (by decide) (fun c5 => ?_) (fun c5 => ?_)
    · have h := h.1 c5
      obtain ⟨o6, h⟩ := h
      refine z_iinc 3 dX1_columnOfElement_34 rfl (by decide) o6 (L' := [(0, zrv a0), (1, ziv a1), (2, ziv a2), (3, ziv (a3 + 1))]) [1, 2, 3, 0] rfl ?_
      refine z_goto (tgt := 7) dX1_columnOfElement_37 (by decide) ?_
      exact h
    · have h := h.2 c5
      refine z_iload_n 2 dX1_columnOfElement_24 rfl ?_
      refine z_iload_n 1 dX1_columnOfElement_25 rfl ?_
      refine z_icmp_ne dX1_columnOfElement_26 (tgt := 31) (by decide) (fun c7 => ?_) (fun c7 => ?_)
      · have h := h.1 c7
        obtain ⟨o8, h⟩ := h
        refine z_iinc 2 dX1_columnOfElement_31 rfl (by decide) o8 (L' := [(0, zrv a0), (1, ziv a1), (2, ziv (a2 + 1)), (3, ziv a3)]) [1, 2, 0, 3] rfl ?_
        obtain ⟨o9, h⟩ := h
        refine z_iinc 3 dX1_columnOfElement_34 rfl (by decide) o9 (L' := [(0, zrv a0), (1, ziv a1), (2, ziv (a2 + 1)), (3, ziv (a3 + 1))]) [1, 2, 3, 0] rfl ?_
        refine z_goto (tgt := 7) dX1_columnOfElement_37 (by decide) ?_
        exact h
      · have h := h.2 c7
        refine z_iload_n 3 dX1_columnOfElement_29 rfl ?_
        exact z_retFI dX1_columnOfElement_30 rfl h
set_option maxRecDepth 100000 in
set_option maxHeartbeats 4000000 in
theorem en_X1_columnOfElement {E : zE} {F : Int → Prop} {S : zS} {a0 a1 : Int} {V : zH}
    (h : z32 a1 → ∀ X : zX, ((S a0).1 = 4) ∧ ∀ x2 : Int, x2 = V a0 1 → zl_X1_columnOfElement_7 E X F S a0 a1 0 x2 V) :
    SpF E 0 zm_X1_columnOfElement [zrv a0, ziv a1] S V F := by
  refine Sp.of (plainFor_of_name (by decide +kernel)) (Nat.le_of_ble_eq_true rfl) (fun hok X => ?_)
  have h := h (hok _ (List.mem_cons_of_mem _ (List.mem_cons_self))) X
  show Zr E X (zRoom 0 0 0) zm_X1_columnOfElement (zQm E X (zpF S V F) 0 0) 0 0 0 [(0, zrv a0), (1, ziv a1)] [] S V
  refine z_iconst dX1_columnOfElement_0 ⟨by decide, by decide⟩ ?_
  refine z_istore_n dX1_columnOfElement_1 (by decide) (L' := [(0, zrv a0), (1, ziv a1), (2, ziv 0)]) [1, 2, 0] rfl ?_
  refine z_aload_n 0 dX1_columnOfElement_2 rfl ?_
  obtain ⟨o1, h⟩ := h
  refine zgf_1_1 dX1_columnOfElement_3 (zf_RX1_28 _ rfl) o1 ?_
  refine z_nameI (fun x2 e3 => ?_)
  have h := h x2 e3
  refine z_istore_n dX1_columnOfElement_6 (by decide) (L' := [(0, zrv a0), (1, ziv a1), (2, ziv 0), (3, ziv x2)]) [1, 2, 3, 0] rfl ?_
  exact h
