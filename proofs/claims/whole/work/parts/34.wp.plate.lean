set_option maxRecDepth 100000 in
set_option maxHeartbeats 4000000 in
theorem en_X3_init {E : zE} {F : zS → zH → Prop} {mc ms : Nat} {S : zS} {a0 : Int} {V : zH}
    (h : ((S a0).1 = 6) ∧ (0 < a0) ∧ ∀ V3 : zH, V3 = zput V a0 0 1 → ∀ V5 : zH, V5 = zput V3 a0 1 2 → ∀ V7 : zH, V7 = zput V5 a0 2 1 → (0 + 1 ≤ mc ∧ 0 + 36 ≤ ms) ∧ ∀ r10 : Int, 0 < r10 → ((S r10).1 = 0 ∧ ∀ q : Int, (S q).1 ≠ 0 → q < r10 ∧ (S (r10 - 1)).1 ≠ 0) → ∀ (S13 : zS) (V14 : zH), S13 = zSn S r10 (1, 36) → V14 = zVn V7 r10 → ∀ V19 : zH, V19 = zput V14 a0 5 r10 → (0 + 1 + 1 ≤ mc ∧ 0 + 36 + 36 ≤ ms) ∧ ∀ r22 : Int, 0 < r22 → ((S13 r22).1 = 0 ∧ ∀ q : Int, (S13 q).1 ≠ 0 → q < r22 ∧ (S13 (r22 - 1)).1 ≠ 0) → ∀ (S25 : zS) (V26 : zH), S25 = zSn S13 r22 (1, 36) → V26 = zVn V19 r22 → ∀ V32 : zH, V32 = zput V26 a0 6 r22 → (0 + 1 + 1 + 1 ≤ mc ∧ 0 + 36 + 36 + 36 ≤ ms) ∧ ∀ r35 : Int, 0 < r35 → ((S25 r35).1 = 0 ∧ ∀ q : Int, (S25 q).1 ≠ 0 → q < r35 ∧ (S25 (r35 - 1)).1 ≠ 0) → ∀ (S38 : zS) (V39 : zH), S38 = zSn S25 r35 (1, 36) → V39 = zVn V32 r35 → ∀ V46 : zH, V46 = zput V39 a0 7 r35 → (0 + 1 + 1 + 1 + 1 ≤ mc ∧ 0 + 36 + 36 + 36 + 36 ≤ ms) ∧ ∀ r49 : Int, 0 < r49 → ((S38 r49).1 = 0 ∧ ∀ q : Int, (S38 q).1 ≠ 0 → q < r49 ∧ (S38 (r49 - 1)).1 ≠ 0) → ∀ (S52 : zS) (V53 : zH), S52 = zSn S38 r49 (1, 36) → V53 = zVn V46 r49 → ∀ V61 : zH, V61 = zput V53 a0 8 r49 → (0 + 1 + 1 + 1 + 1 + 1 ≤ mc ∧ 0 + 36 + 36 + 36 + 36 + 36 ≤ ms) ∧ ∀ r64 : Int, 0 < r64 → ((S52 r64).1 = 0 ∧ ∀ q : Int, (S52 q).1 ≠ 0 → q < r64 ∧ (S52 (r64 - 1)).1 ≠ 0) → ∀ (S67 : zS) (V68 : zH), S67 = zSn S52 r64 (1, 36) → V68 = zVn V61 r64 → ∀ V77 : zH, V77 = zput V68 a0 9 r64 → (0 + 1 + 1 + 1 + 1 + 1 + 1 ≤ mc ∧ 0 + 36 + 36 + 36 + 36 + 36 + 36 ≤ ms) ∧ ∀ r80 : Int, 0 < r80 → ((S67 r80).1 = 0 ∧ ∀ q : Int, (S67 q).1 ≠ 0 → q < r80 ∧ (S67 (r80 - 1)).1 ≠ 0) → ∀ (S83 : zS) (V84 : zH), S83 = zSn S67 r80 (1, 36) → V84 = zVn V77 r80 → ∀ V94 : zH, V94 = zput V84 a0 10 r80 → (0 + 1 + 1 + 1 + 1 + 1 + 1 + 1 ≤ mc ∧ 0 + 36 + 36 + 36 + 36 + 36 + 36 + 1296 ≤ ms) ∧ ∀ r97 : Int, 0 < r97 → ((S83 r97).1 = 0 ∧ ∀ q : Int, (S83 q).1 ≠ 0 → q < r97 ∧ (S83 (r97 - 1)).1 ≠ 0) → ∀ (S100 : zS) (V101 : zH), S100 = zSn S83 r97 (1, 1296) → V101 = zVn V94 r97 → ∀ V112 : zH, V112 = zput V101 a0 11 r97 → (0 + 1 + 1 + 1 + 1 + 1 + 1 + 1 ≤ mc ∧ 0 + 36 + 36 + 36 + 36 + 36 + 36 + 1296 ≤ ms) ∧ F S100 V112) :
    SaV E 1 mc ms zm_X3_init [zrv a0] S V F := by
  refine Sp.of (plainFor_of_name (by decide +kernel)) (Nat.le_of_ble_eq_true rfl) (fun hok X => ?_)
  have h := h
  show Zr E X (zRoom 1 mc ms) zm_X3_init (zQm E X (zaV F) mc ms) 0 0 0 [(0, zrv a0)] [] S V
  refine z_aload_n 0 dX3_init_0 rfl ?_
  obtain ⟨o1, h⟩ := h
  obtain ⟨o2, h⟩ := h
  refine z_objInit dX3_init_1 (zk_RX3_3 _ rfl) zw_oi1 zw_oi2 o2 (Nat.le_of_ble_eq_true rfl) (Nat.le_of_ble_eq_true rfl) (Nat.le_of_ble_eq_true rfl) ?_
  refine z_aload_n 0 dX3_init_4 rfl ?_
  refine z_iconst dX3_init_5 ⟨by decide, by decide⟩ ?_
  refine zpf_3_0 dX3_init_6 (zf_RX3_9 _ rfl) o1 ?_
  refine z_nameV (fun V3 e4 => ?_)
  have h := h V3 e4
  refine z_aload_n 0 dX3_init_9 rfl ?_
  refine z_iconst dX3_init_10 ⟨by decide, by decide⟩ ?_
  refine zpf_3_1 dX3_init_11 (zf_RX3_15 _ rfl) o1 ?_
  refine z_nameV (fun V5 e6 => ?_)
  have h := h V5 e6
  refine z_aload_n 0 dX3_init_14 rfl ?_
  refine z_iconst dX3_init_15 ⟨by decide, by decide⟩ ?_
  refine zpf_3_2 dX3_init_16 (zf_RX3_18 _ rfl) o1 ?_
  refine z_nameV (fun V7 e8 => ?_)
  have h := h V7 e8
  refine z_aload_n 0 dX3_init_19 rfl ?_
  refine z_bipush dX3_init_20 ⟨by decide, by decide⟩ (by decide) ?_
  obtain ⟨o9, h⟩ := h
  refine z_newi dX3_init_22 zw_arri (by decide) (by decide) o9.1 o9.2 (fun r10 q11 f12 => ?_)
  refine z_nameS (fun S13 V14 e15 e16 => ?_)
  have h := h r10 q11 f12 S13 V14 e15 e16
  have o17 : (S13 a0).1 = 6 := zSn_k e15 o1 f12.1 (by decide)
  have o18 : (S13 r10).1 = 1 := zSn_r e15
  refine zpf_3_5 rfl rfl dX3_init_24 (zf_RX3_21 _ rfl) o17 ?_
  refine z_nameV (fun V19 e20 => ?_)
  have h := h V19 e20
  refine z_aload_n 0 dX3_init_27 rfl ?_
  refine z_bipush dX3_init_28 ⟨by decide, by decide⟩ (by decide) ?_
  obtain ⟨o21, h⟩ := h
  refine z_newi dX3_init_30 zw_arri (by decide) (by decide) o21.1 o21.2 (fun r22 q23 f24 => ?_)
  refine z_nameS (fun S25 V26 e27 e28 => ?_)
  have h := h r22 q23 f24 S25 V26 e27 e28
  have o29 : (S25 a0).1 = 6 := zSn_k e27 o17 f24.1 (by decide)
  have o30 : (S25 r10).1 = 1 := zSn_k e27 o18 f24.1 (by decide)
  have o31 : (S25 r22).1 = 1 := zSn_r e27
  refine zpf_3_6 rfl rfl dX3_init_32 (zf_RX3_25 _ rfl) o29 ?_
  refine z_nameV (fun V32 e33 => ?_)
  have h := h V32 e33
  refine z_aload_n 0 dX3_init_35 rfl ?_
  refine z_bipush dX3_init_36 ⟨by decide, by decide⟩ (by decide) ?_
  obtain ⟨o34, h⟩ := h
  refine z_newi dX3_init_38 zw_arri (by decide) (by decide) o34.1 o34.2 (fun r35 q36 f37 => ?_)
  refine z_nameS (fun S38 V39 e40 e41 => ?_)
  have h := h r35 q36 f37 S38 V39 e40 e41
  have o42 : (S38 a0).1 = 6 := zSn_k e40 o29 f37.1 (by decide)
  have o43 : (S38 r10).1 = 1 := zSn_k e40 o30 f37.1 (by decide)
  have o44 : (S38 r22).1 = 1 := zSn_k e40 o31 f37.1 (by decide)
  have o45 : (S38 r35).1 = 1 := zSn_r e40
  refine zpf_3_7 rfl rfl dX3_init_40 (zf_RX3_28 _ rfl) o42 ?_
  refine z_nameV (fun V46 e47 => ?_)
  have h := h V46 e47
  refine z_aload_n 0 dX3_init_43 rfl ?_
  refine z_bipush dX3_init_44 ⟨by decide, by decide⟩ (by decide) ?_
  obtain ⟨o48, h⟩ := h
  refine z_newi dX3_init_46 zw_arri (by decide) (by decide) o48.1 o48.2 (fun r49 q50 f51 => ?_)
  refine z_nameS (fun S52 V53 e54 e55 => ?_)
  have h := h r49 q50 f51 S52 V53 e54 e55
  have o56 : (S52 a0).1 = 6 := zSn_k e54 o42 f51.1 (by decide)
  have o57 : (S52 r10).1 = 1 := zSn_k e54 o43 f51.1 (by decide)
  have o58 : (S52 r22).1 = 1 := zSn_k e54 o44 f51.1 (by decide)
  have o59 : (S52 r35).1 = 1 := zSn_k e54 o45 f51.1 (by decide)
  have o60 : (S52 r49).1 = 1 := zSn_r e54
  refine zpf_3_8 rfl rfl dX3_init_48 (zf_RX3_31 _ rfl) o56 ?_
  refine z_nameV (fun V61 e62 => ?_)
  have h := h V61 e62
  refine z_aload_n 0 dX3_init_51 rfl ?_
  refine z_bipush dX3_init_52 ⟨by decide, by decide⟩ (by decide) ?_
  obtain ⟨o63, h⟩ := h
  refine z_newi dX3_init_54 zw_arri (by decide) (by decide) o63.1 o63.2 (fun r64 q65 f66 => ?_)
  refine z_nameS (fun S67 V68 e69 e70 => ?_)
  have h := h r64 q65 f66 S67 V68 e69 e70
  have o71 : (S67 a0).1 = 6 := zSn_k e69 o56 f66.1 (by decide)
  have o72 : (S67 r10).1 = 1 := zSn_k e69 o57 f66.1 (by decide)
  have o73 : (S67 r22).1 = 1 := zSn_k e69 o58 f66.1 (by decide)
  have o74 : (S67 r35).1 = 1 := zSn_k e69 o59 f66.1 (by decide)
  have o75 : (S67 r49).1 = 1 := zSn_k e69 o60 f66.1 (by decide)
  have o76 : (S67 r64).1 = 1 := zSn_r e69
  refine zpf_3_9 rfl rfl dX3_init_56 (zf_RX3_34 _ rfl) o71 ?_
  refine z_nameV (fun V77 e78 => ?_)
  have h := h V77 e78
  refine z_aload_n 0 dX3_init_59 rfl ?_
  refine z_bipush dX3_init_60 ⟨by decide, by decide⟩ (by decide) ?_
  obtain ⟨o79, h⟩ := h
  refine z_newi dX3_init_62 zw_arri (by decide) (by decide) o79.1 o79.2 (fun r80 q81 f82 => ?_)
  refine z_nameS (fun S83 V84 e85 e86 => ?_)
  have h := h r80 q81 f82 S83 V84 e85 e86
  have o87 : (S83 a0).1 = 6 := zSn_k e85 o71 f82.1 (by decide)
  have o88 : (S83 r10).1 = 1 := zSn_k e85 o72 f82.1 (by decide)
  have o89 : (S83 r22).1 = 1 := zSn_k e85 o73 f82.1 (by decide)
  have o90 : (S83 r35).1 = 1 := zSn_k e85 o74 f82.1 (by decide)
  have o91 : (S83 r49).1 = 1 := zSn_k e85 o75 f82.1 (by decide)
  have o92 : (S83 r64).1 = 1 := zSn_k e85 o76 f82.1 (by decide)
  have o93 : (S83 r80).1 = 1 := zSn_r e85
  refine zpf_3_10 rfl rfl dX3_init_64 (zf_RX3_37 _ rfl) o87 ?_
  refine z_nameV (fun V94 e95 => ?_)
  have h := h V94 e95
  refine z_aload_n 0 dX3_init_67 rfl ?_
  refine z_sipush dX3_init_68 ⟨by decide, by decide⟩ (by decide) ?_
  obtain ⟨o96, h⟩ := h
  refine z_newi dX3_init_71 zw_arri (by decide) (by decide) o96.1 o96.2 (fun r97 q98 f99 => ?_)
  refine z_nameS (fun S100 V101 e102 e103 => ?_)
  have h := h r97 q98 f99 S100 V101 e102 e103
  have o104 : (S100 a0).1 = 6 := zSn_k e102 o87 f99.1 (by decide)
  have o105 : (S100 r10).1 = 1 := zSn_k e102 o88 f99.1 (by decide)
  have o106 : (S100 r22).1 = 1 := zSn_k e102 o89 f99.1 (by decide)
  have o107 : (S100 r35).1 = 1 := zSn_k e102 o90 f99.1 (by decide)
  have o108 : (S100 r49).1 = 1 := zSn_k e102 o91 f99.1 (by decide)
  have o109 : (S100 r64).1 = 1 := zSn_k e102 o92 f99.1 (by decide)
  have o110 : (S100 r80).1 = 1 := zSn_k e102 o93 f99.1 (by decide)
  have o111 : (S100 r97).1 = 1 := zSn_r e102
  refine zpf_3_11 rfl rfl dX3_init_73 (zf_RX3_40 _ rfl) o104 ?_
  refine z_nameV (fun V112 e113 => ?_)
  have h := h V112 e113
  obtain ⟨o114, h⟩ := h
  exact z_retaV dX3_init_76 rfl o114.1 o114.2 h
set_option maxRecDepth 100000 in
set_option maxHeartbeats 4000000 in
theorem en_X3_makeNew {E : zE} {F : zH → Prop} {S : zS} {a0 a1 a2 a3 : Int} {V : zH}
    (h : z32 a1 → z32 a2 → z32 a3 → ((S a0).1 = 6) ∧ ∀ V2 : zH, V2 = zput V a0 0 a1 → ∀ V4 : zH, V4 = zput V2 a0 1 a2 → ∀ V6 : zH, V6 = zput V4 a0 2 a3 → ∀ V8 : zH, V8 = zput V6 a0 3 0 → (z32 ((V a0 4) + 1)) ∧ ∀ V11 : zH, V11 = zput V8 a0 4 ((V a0 4) + 1) → SpV E 0 zm_J7_fill_53178 [zrv (V a0 5), ziv 0] S V11 (fun V14 => F V14)) :
    SpV E 1 zm_X3_makeNew [zrv a0, ziv a1, ziv a2, ziv a3] S V F := by
  refine Sp.of (plainFor_of_name (by decide +kernel)) (Nat.le_of_ble_eq_true rfl) (fun hok X => ?_)
  have h := h (hok _ (List.mem_cons_of_mem _ (List.mem_cons_self))) (hok _ (List.mem_cons_of_mem _ (List.mem_cons_of_mem _ (List.mem_cons_self)))) (hok _ (List.mem_cons_of_mem _ (List.mem_cons_of_mem _ (List.mem_cons_of_mem _ (List.mem_cons_self)))))
  show Zr E X (zRoom 1 0 0) zm_X3_makeNew (zQm E X (zpV S F) 0 0) 0 0 0 [(0, zrv a0), (1, ziv a1), (2, ziv a2), (3, ziv a3)] [] S V
  refine z_aload_n 0 dX3_makeNew_0 rfl ?_
  refine z_iload_n 1 dX3_makeNew_1 rfl ?_
  obtain ⟨o1, h⟩ := h
  refine zpf_3_0 dX3_makeNew_2 (zf_RX3_9 _ rfl) o1 ?_
  refine z_nameV (fun V2 e3 => ?_)
  have h := h V2 e3
  refine z_aload_n 0 dX3_makeNew_5 rfl ?_
  refine z_iload_n 2 dX3_makeNew_6 rfl ?_
  refine zpf_3_1 dX3_makeNew_7 (zf_RX3_15 _ rfl) o1 ?_
  refine z_nameV (fun V4 e5 => ?_)
  have h := h V4 e5
  refine z_aload_n 0 dX3_makeNew_10 rfl ?_
  refine z_iload_n 3 dX3_makeNew_11 rfl ?_
  refine zpf_3_2 dX3_makeNew_12 (zf_RX3_18 _ rfl) o1 ?_
  refine z_nameV (fun V6 e7 => ?_)
  have h := h V6 e7
  refine z_aload_n 0 dX3_makeNew_15 rfl ?_
  refine z_iconst dX3_makeNew_16 ⟨by decide, by decide⟩ ?_
  refine zpf_3_3 dX3_makeNew_17 (zf_RX3_43 _ rfl) o1 ?_
  refine z_nameV (fun V8 e9 => ?_)
  have h := h V8 e9
  refine z_aload_n 0 dX3_makeNew_20 rfl ?_
  refine z_dup (zref_cat _) dX3_makeNew_21 ?_
  refine zgf_3_4 dX3_makeNew_22 (zf_RX3_46 _ rfl) o1 ?_
  refine z_topI ((((zfr_j e9 (by decide)).trans (zfr_j e7 (by decide))).trans (zfr_j e5 (by decide))).trans (zfr_j e3 (by decide))) ?_
  refine z_iconst dX3_makeNew_25 ⟨by decide, by decide⟩ ?_
  obtain ⟨o10, h⟩ := h
  refine z_iadd dX3_makeNew_26 o10 ?_
  refine zpf_3_4 dX3_makeNew_27 (zf_RX3_46 _ rfl) o1 ?_
  refine z_nameV (fun V11 e12 => ?_)
  have h := h V11 e12
  refine z_aload_n 0 dX3_makeNew_30 rfl ?_
  refine zgf_3_5 dX3_makeNew_31 (zf_RX3_21 _ rfl) o1 ?_
  refine z_topR (((((zfr_j e12 (by decide)).trans (zfr_j e9 (by decide))).trans (zfr_j e7 (by decide))).trans (zfr_j e5 (by decide))).trans (zfr_j e3 (by decide))) ?_
  refine z_iconst dX3_makeNew_34 ⟨by decide, by decide⟩ ?_
  refine z_cSV [zrv (V a0 5), ziv 0] (zk_RX3_49 _ rfl) dX3_makeNew_35 rfl rfl (Nat.le_of_ble_eq_true rfl) (Nat.le_of_ble_eq_true rfl) (Nat.le_of_ble_eq_true rfl) (Nat.le_of_ble_eq_true rfl) (Nat.le_of_ble_eq_true rfl) h (fun V14 h => ?_)
  exact z_retV dX3_makeNew_38 rfl h
set_option maxRecDepth 100000 in
set_option maxHeartbeats 4000000 in
theorem en_X3_copyFrom {E : zE} {F : zH → Prop} {S : zS} {a0 a1 : Int} {V : zH}
    (h : ((S a1).1 = 6) ∧ ((S a0).1 = 6) ∧ ∀ V3 : zH, V3 = zput V a0 0 (V a1 0) → ∀ V5 : zH, V5 = zput V3 a0 1 (V a1 1) → ∀ V7 : zH, V7 = zput V5 a0 2 (V a1 2) → ∀ V9 : zH, V9 = zput V7 a0 3 (V a1 3) → (z32 ((V a0 4) + 1)) ∧ ∀ V12 : zH, V12 = zput V9 a0 4 ((V a0 4) + 1) → ((S (V a1 5)).1 = 1) ∧ ((S (V a0 5)).1 = 1) ∧ ((0 : Int) ≤ 0 ∧ (0 : Int) ≤ 0 ∧ (0 : Int) ≤ 36 ∧ 0 + 36 ≤ (S (V a1 5)).2 ∧ 0 + 36 ≤ (S (V a0 5)).2) ∧ ∀ V17 : zH, V17 = zcpy V12 (V a1 5) 0 (V a0 5) 0 36 → ((S (V a1 6)).1 = 1) ∧ ((S (V a0 6)).1 = 1) ∧ ((0 : Int) ≤ 0 ∧ (0 : Int) ≤ 0 ∧ (0 : Int) ≤ 36 ∧ 0 + 36 ≤ (S (V a1 6)).2 ∧ 0 + 36 ≤ (S (V a0 6)).2) ∧ ∀ V22 : zH, V22 = zcpy V17 (V a1 6) 0 (V a0 6) 0 36 → ((S (V a1 7)).1 = 1) ∧ ((S (V a0 7)).1 = 1) ∧ ((0 : Int) ≤ 0 ∧ (0 : Int) ≤ 0 ∧ (0 : Int) ≤ 36 ∧ 0 + 36 ≤ (S (V a1 7)).2 ∧ 0 + 36 ≤ (S (V a0 7)).2) ∧ ∀ V27 : zH, V27 = zcpy V22 (V a1 7) 0 (V a0 7) 0 36 → ((S (V a1 8)).1 = 1) ∧ ((S (V a0 8)).1 = 1) ∧ ((0 : Int) ≤ 0 ∧ (0 : Int) ≤ 0 ∧ (0 : Int) ≤ 36 ∧ 0 + 36 ≤ (S (V a1 8)).2 ∧ 0 + 36 ≤ (S (V a0 8)).2) ∧ ∀ V32 : zH, V32 = zcpy V27 (V a1 8) 0 (V a0 8) 0 36 → ((S (V a1 9)).1 = 1) ∧ ((S (V a0 9)).1 = 1) ∧ ((0 : Int) ≤ 0 ∧ (0 : Int) ≤ 0 ∧ (0 : Int) ≤ 36 ∧ 0 + 36 ≤ (S (V a1 9)).2 ∧ 0 + 36 ≤ (S (V a0 9)).2) ∧ ∀ V37 : zH, V37 = zcpy V32 (V a1 9) 0 (V a0 9) 0 36 → ((S (V a1 10)).1 = 1) ∧ ((S (V a0 10)).1 = 1) ∧ ((0 : Int) ≤ 0 ∧ (0 : Int) ≤ 0 ∧ (0 : Int) ≤ 36 ∧ 0 + 36 ≤ (S (V a1 10)).2 ∧ 0 + 36 ≤ (S (V a0 10)).2) ∧ ∀ V42 : zH, V42 = zcpy V37 (V a1 10) 0 (V a0 10) 0 36 → ((S (V a1 11)).1 = 1) ∧ ((S (V a0 11)).1 = 1) ∧ ((0 : Int) ≤ 0 ∧ (0 : Int) ≤ 0 ∧ (0 : Int) ≤ 1296 ∧ 0 + 1296 ≤ (S (V a1 11)).2 ∧ 0 + 1296 ≤ (S (V a0 11)).2) ∧ ∀ V47 : zH, V47 = zcpy V42 (V a1 11) 0 (V a0 11) 0 1296 → F V47) :
    SpV E 1 zm_X3_copyFrom [zrv a0, zrv a1] S V F := by
  refine Sp.of (plainFor_of_name (by decide +kernel)) (Nat.le_of_ble_eq_true rfl) (fun hok X => ?_)
  have h := h
  show Zr E X (zRoom 1 0 0) zm_X3_copyFrom (zQm E X (zpV S F) 0 0) 0 0 0 [(0, zrv a0), (1, zrv a1)] [] S V
  refine z_aload_n 0 dX3_copyFrom_0 rfl ?_
  refine z_aload_n 1 dX3_copyFrom_1 rfl ?_
  obtain ⟨o1, h⟩ := h
  refine zgf_3_0 dX3_copyFrom_2 (zf_RX3_9 _ rfl) o1 ?_
  obtain ⟨o2, h⟩ := h
  refine zpf_3_0 dX3_copyFrom_5 (zf_RX3_9 _ rfl) o2 ?_
  refine z_nameV (fun V3 e4 => ?_)
  have h := h V3 e4
  refine z_aload_n 0 dX3_copyFrom_8 rfl ?_
  refine z_aload_n 1 dX3_copyFrom_9 rfl ?_
  refine zgf_3_1 dX3_copyFrom_10 (zf_RX3_15 _ rfl) o1 ?_
  refine z_topI (zfr_j e4 (by decide)) ?_
  refine zpf_3_1 dX3_copyFrom_13 (zf_RX3_15 _ rfl) o2 ?_
  refine z_nameV (fun V5 e6 => ?_)
  have h := h V5 e6
  refine z_aload_n 0 dX3_copyFrom_16 rfl ?_
  refine z_aload_n 1 dX3_copyFrom_17 rfl ?_
  refine zgf_3_2 dX3_copyFrom_18 (zf_RX3_18 _ rfl) o1 ?_
  refine z_topI ((zfr_j e6 (by decide)).trans (zfr_j e4 (by decide))) ?_
  refine zpf_3_2 dX3_copyFrom_21 (zf_RX3_18 _ rfl) o2 ?_
  refine z_nameV (fun V7 e8 => ?_)
  have h := h V7 e8
  refine z_aload_n 0 dX3_copyFrom_24 rfl ?_
  refine z_aload_n 1 dX3_copyFrom_25 rfl ?_
  refine zgf_3_3 dX3_copyFrom_26 (zf_RX3_43 _ rfl) o1 ?_
  refine z_topI (((zfr_j e8 (by decide)).trans (zfr_j e6 (by decide))).trans (zfr_j e4 (by decide))) ?_
  refine zpf_3_3 dX3_copyFrom_29 (zf_RX3_43 _ rfl) o2 ?_
  refine z_nameV (fun V9 e10 => ?_)
  have h := h V9 e10
  refine z_aload_n 0 dX3_copyFrom_32 rfl ?_
  refine z_dup (zref_cat _) dX3_copyFrom_33 ?_
  refine zgf_3_4 dX3_copyFrom_34 (zf_RX3_46 _ rfl) o2 ?_
  refine z_topI ((((zfr_j e10 (by decide)).trans (zfr_j e8 (by decide))).trans (zfr_j e6 (by decide))).trans (zfr_j e4 (by decide))) ?_
  refine z_iconst dX3_copyFrom_37 ⟨by decide, by decide⟩ ?_
  obtain ⟨o11, h⟩ := h
  refine z_iadd dX3_copyFrom_38 o11 ?_
  refine zpf_3_4 dX3_copyFrom_39 (zf_RX3_46 _ rfl) o2 ?_
  refine z_nameV (fun V12 e13 => ?_)
  have h := h V12 e13
  refine z_aload_n 1 dX3_copyFrom_42 rfl ?_
  refine zgf_3_5 dX3_copyFrom_43 (zf_RX3_21 _ rfl) o1 ?_
  refine z_topR (((((zfr_j e13 (by decide)).trans (zfr_j e10 (by decide))).trans (zfr_j e8 (by decide))).trans (zfr_j e6 (by decide))).trans (zfr_j e4 (by decide))) ?_
  refine z_iconst dX3_copyFrom_46 ⟨by decide, by decide⟩ ?_
  refine z_aload_n 0 dX3_copyFrom_47 rfl ?_
  refine zgf_3_5 dX3_copyFrom_48 (zf_RX3_21 _ rfl) o2 ?_
  refine z_topR (((((zfr_j e13 (by decide)).trans (zfr_j e10 (by decide))).trans (zfr_j e8 (by decide))).trans (zfr_j e6 (by decide))).trans (zfr_j e4 (by decide))) ?_
  refine z_iconst dX3_copyFrom_51 ⟨by decide, by decide⟩ ?_
  refine z_bipush dX3_copyFrom_52 ⟨by decide, by decide⟩ (by decide) ?_
  obtain ⟨o14, h⟩ := h
  obtain ⟨o15, h⟩ := h
  obtain ⟨o16, h⟩ := h
  refine z_copy dX3_copyFrom_54 (zk_RX3_55 _ rfl) zw_copy o14 o15 o16 (Nat.le_of_ble_eq_true rfl) (Nat.le_of_ble_eq_true rfl) (Nat.le_of_ble_eq_true rfl) ?_
  refine z_nameV (fun V17 e18 => ?_)
  have h := h V17 e18
  refine z_aload_n 1 dX3_copyFrom_57 rfl ?_
  refine zgf_3_6 dX3_copyFrom_58 (zf_RX3_25 _ rfl) o1 ?_
  refine z_topR ((((((zfr_c e18 o15 o1 (by decide)).trans (zfr_j e13 (by decide))).trans (zfr_j e10 (by decide))).trans (zfr_j e8 (by decide))).trans (zfr_j e6 (by decide))).trans (zfr_j e4 (by decide))) ?_
  refine z_iconst dX3_copyFrom_61 ⟨by decide, by decide⟩ ?_
  refine z_aload_n 0 dX3_copyFrom_62 rfl ?_
  refine zgf_3_6 dX3_copyFrom_63 (zf_RX3_25 _ rfl) o2 ?_
  refine z_topR ((((((zfr_c e18 o15 o2 (by decide)).trans (zfr_j e13 (by decide))).trans (zfr_j e10 (by decide))).trans (zfr_j e8 (by decide))).trans (zfr_j e6 (by decide))).trans (zfr_j e4 (by decide))) ?_
  refine z_iconst dX3_copyFrom_66 ⟨by decide, by decide⟩ ?_
  refine z_bipush dX3_copyFrom_67 ⟨by decide, by decide⟩ (by decide) ?_
  obtain ⟨o19, h⟩ := h
  obtain ⟨o20, h⟩ := h
  obtain ⟨o21, h⟩ := h
  refine z_copy dX3_copyFrom_69 (zk_RX3_55 _ rfl) zw_copy o19 o20 o21 (Nat.le_of_ble_eq_true rfl) (Nat.le_of_ble_eq_true rfl) (Nat.le_of_ble_eq_true rfl) ?_
  refine z_nameV (fun V22 e23 => ?_)
  have h := h V22 e23
  refine z_aload_n 1 dX3_copyFrom_72 rfl ?_
  refine zgf_3_7 dX3_copyFrom_73 (zf_RX3_28 _ rfl) o1 ?_
  refine z_topR (((((((zfr_c e23 o20 o1 (by decide)).trans (zfr_c e18 o15 o1 (by decide))).trans (zfr_j e13 (by decide))).trans (zfr_j e10 (by decide))).trans (zfr_j e8 (by decide))).trans (zfr_j e6 (by decide))).trans (zfr_j e4 (by decide))) ?_
  refine z_iconst dX3_copyFrom_76 ⟨by decide, by decide⟩ ?_
  refine z_aload_n 0 dX3_copyFrom_77 rfl ?_
  refine zgf_3_7 dX3_copyFrom_78 (zf_RX3_28 _ rfl) o2 ?_
  refine z_topR (((((((zfr_c e23 o20 o2 (by decide)).trans (zfr_c e18 o15 o2 (by decide))).trans (zfr_j e13 (by decide))).trans (zfr_j e10 (by decide))).trans (zfr_j e8 (by decide))).trans (zfr_j e6 (by decide))).trans (zfr_j e4 (by decide))) ?_
  refine z_iconst dX3_copyFrom_81 ⟨by decide, by decide⟩ ?_
  refine z_bipush dX3_copyFrom_82 ⟨by decide, by decide⟩ (by decide) ?_
  obtain ⟨o24, h⟩ := h
  obtain ⟨o25, h⟩ := h
  obtain ⟨o26, h⟩ := h
  refine z_copy dX3_copyFrom_84 (zk_RX3_55 _ rfl) zw_copy o24 o25 o26 (Nat.le_of_ble_eq_true rfl) (Nat.le_of_ble_eq_true rfl) (Nat.le_of_ble_eq_true rfl) ?_
  refine z_nameV (fun V27 e28 => ?_)
  have h := h V27 e28
  refine z_aload_n 1 dX3_copyFrom_87 rfl ?_
  refine zgf_3_8 dX3_copyFrom_88 (zf_RX3_31 _ rfl) o1 ?_
  refine z_topR ((((((((zfr_c e28 o25 o1 (by decide)).trans (zfr_c e23 o20 o1 (by decide))).trans (zfr_c e18 o15 o1 (by decide))).trans (zfr_j e13 (by decide))).trans (zfr_j e10 (by decide))).trans (zfr_j e8 (by decide))).trans (zfr_j e6 (by decide))).trans (zfr_j e4 (by decide))) ?_
  refine z_iconst dX3_copyFrom_91 ⟨by decide, by decide⟩ ?_
  refine z_aload_n 0 dX3_copyFrom_92 rfl ?_
  refine zgf_3_8 dX3_copyFrom_93 (zf_RX3_31 _ rfl) o2 ?_
  refine z_topR ((((((((zfr_c e28 o25 o2 (by decide)).trans (zfr_c e23 o20 o2 (by decide))).trans (zfr_c e18 o15 o2 (by decide))).trans (zfr_j e13 (by decide))).trans (zfr_j e10 (by decide))).trans (zfr_j e8 (by decide))).trans (zfr_j e6 (by decide))).trans (zfr_j e4 (by decide))) ?_
  refine z_iconst dX3_copyFrom_96 ⟨by decide, by decide⟩ ?_
  refine z_bipush dX3_copyFrom_97 ⟨by decide, by decide⟩ (by decide) ?_
  obtain ⟨o29, h⟩ := h
  obtain ⟨o30, h⟩ := h
  obtain ⟨o31, h⟩ := h
  refine z_copy dX3_copyFrom_99 (zk_RX3_55 _ rfl) zw_copy o29 o30 o31 (Nat.le_of_ble_eq_true rfl) (Nat.le_of_ble_eq_true rfl) (Nat.le_of_ble_eq_true rfl) ?_
  refine z_nameV (fun V32 e33 => ?_)
  have h := h V32 e33
  refine z_aload_n 1 dX3_copyFrom_102 rfl ?_
  refine zgf_3_9 dX3_copyFrom_103 (zf_RX3_34 _ rfl) o1 ?_
  refine z_topR (((((((((zfr_c e33 o30 o1 (by decide)).trans (zfr_c e28 o25 o1 (by decide))).trans (zfr_c e23 o20 o1 (by decide))).trans (zfr_c e18 o15 o1 (by decide))).trans (zfr_j e13 (by decide))).trans (zfr_j e10 (by decide))).trans (zfr_j e8 (by decide))).trans (zfr_j e6 (by decide))).trans (zfr_j e4 (by decide))) ?_
  refine z_iconst dX3_copyFrom_106 ⟨by decide, by decide⟩ ?_
  refine z_aload_n 0 dX3_copyFrom_107 rfl ?_
  refine zgf_3_9 dX3_copyFrom_108 (zf_RX3_34 _ rfl) o2 ?_
  refine z_topR (((((((((zfr_c e33 o30 o2 (by decide)).trans (zfr_c e28 o25 o2 (by decide))).trans (zfr_c e23 o20 o2 (by decide))).trans (zfr_c e18 o15 o2 (by decide))).trans (zfr_j e13 (by decide))).trans (zfr_j e10 (by decide))).trans (zfr_j e8 (by decide))).trans (zfr_j e6 (by decide))).trans (zfr_j e4 (by decide))) ?_
  refine z_iconst dX3_copyFrom_111 ⟨by decide, by decide⟩ ?_
  refine z_bipush dX3_copyFrom_112 ⟨by decide, by decide⟩ (by decide) ?_
  obtain ⟨o34, h⟩ := h
  obtain ⟨o35, h⟩ := h
  obtain ⟨o36, h⟩ := h
  refine z_copy dX3_copyFrom_114 (zk_RX3_55 _ rfl) zw_copy o34 o35 o36 (Nat.le_of_ble_eq_true rfl) (Nat.le_of_ble_eq_true rfl) (Nat.le_of_ble_eq_true rfl) ?_
  refine z_nameV (fun V37 e38 => ?_)
  have h := h V37 e38
  refine z_aload_n 1 dX3_copyFrom_117 rfl ?_
  refine zgf_3_10 dX3_copyFrom_118 (zf_RX3_37 _ rfl) o1 ?_
  refine z_topR ((((((((((zfr_c e38 o35 o1 (by decide)).trans (zfr_c e33 o30 o1 (by decide))).trans (zfr_c e28 o25 o1 (by decide))).trans (zfr_c e23 o20 o1 (by decide))).trans (zfr_c e18 o15 o1 (by decide))).trans (zfr_j e13 (by decide))).trans (zfr_j e10 (by decide))).trans (zfr_j e8 (by decide))).trans (zfr_j e6 (by decide))).trans (zfr_j e4 (by decide))) ?_
  refine z_iconst dX3_copyFrom_121 ⟨by decide, by decide⟩ ?_
  refine z_aload_n 0 dX3_copyFrom_122 rfl ?_
  refine zgf_3_10 dX3_copyFrom_123 (zf_RX3_37 _ rfl) o2 ?_
  refine z_topR ((((((((((zfr_c e38 o35 o2 (by decide)).trans (zfr_c e33 o30 o2 (by decide))).trans (zfr_c e28 o25 o2 (by decide))).trans (zfr_c e23 o20 o2 (by decide))).trans (zfr_c e18 o15 o2 (by decide))).trans (zfr_j e13 (by decide))).trans (zfr_j e10 (by decide))).trans (zfr_j e8 (by decide))).trans (zfr_j e6 (by decide))).trans (zfr_j e4 (by decide))) ?_
  refine z_iconst dX3_copyFrom_126 ⟨by decide, by decide⟩ ?_
  refine z_bipush dX3_copyFrom_127 ⟨by decide, by decide⟩ (by decide) ?_
  obtain ⟨o39, h⟩ := h
  obtain ⟨o40, h⟩ := h
  obtain ⟨o41, h⟩ := h
  refine z_copy dX3_copyFrom_129 (zk_RX3_55 _ rfl) zw_copy o39 o40 o41 (Nat.le_of_ble_eq_true rfl) (Nat.le_of_ble_eq_true rfl) (Nat.le_of_ble_eq_true rfl) ?_
  refine z_nameV (fun V42 e43 => ?_)
  have h := h V42 e43
  refine z_aload_n 1 dX3_copyFrom_132 rfl ?_
  refine zgf_3_11 dX3_copyFrom_133 (zf_RX3_40 _ rfl) o1 ?_
  refine z_topR (((((((((((zfr_c e43 o40 o1 (by decide)).trans (zfr_c e38 o35 o1 (by decide))).trans (zfr_c e33 o30 o1 (by decide))).trans (zfr_c e28 o25 o1 (by decide))).trans (zfr_c e23 o20 o1 (by decide))).trans (zfr_c e18 o15 o1 (by decide))).trans (zfr_j e13 (by decide))).trans (zfr_j e10 (by decide))).trans (zfr_j e8 (by decide))).trans (zfr_j e6 (by decide))).trans (zfr_j e4 (by decide))) ?_
  refine z_iconst dX3_copyFrom_136 ⟨by decide, by decide⟩ ?_
  refine z_aload_n 0 dX3_copyFrom_137 rfl ?_
  refine zgf_3_11 dX3_copyFrom_138 (zf_RX3_40 _ rfl) o2 ?_
  refine z_topR (((((((((((zfr_c e43 o40 o2 (by decide)).trans (zfr_c e38 o35 o2 (by decide))).trans (zfr_c e33 o30 o2 (by decide))).trans (zfr_c e28 o25 o2 (by decide))).trans (zfr_c e23 o20 o2 (by decide))).trans (zfr_c e18 o15 o2 (by decide))).trans (zfr_j e13 (by decide))).trans (zfr_j e10 (by decide))).trans (zfr_j e8 (by decide))).trans (zfr_j e6 (by decide))).trans (zfr_j e4 (by decide))) ?_
  refine z_iconst dX3_copyFrom_141 ⟨by decide, by decide⟩ ?_
  refine z_sipush dX3_copyFrom_142 ⟨by decide, by decide⟩ (by decide) ?_
  obtain ⟨o44, h⟩ := h
  obtain ⟨o45, h⟩ := h
  obtain ⟨o46, h⟩ := h
  refine z_copy dX3_copyFrom_145 (zk_RX3_55 _ rfl) zw_copy o44 o45 o46 (Nat.le_of_ble_eq_true rfl) (Nat.le_of_ble_eq_true rfl) (Nat.le_of_ble_eq_true rfl) ?_
  refine z_nameV (fun V47 e48 => ?_)
  have h := h V47 e48
  exact z_retV dX3_copyFrom_148 rfl h
set_option maxRecDepth 100000 in
set_option maxHeartbeats 4000000 in
theorem en_X3_hasLamp {E : zE} {F : Int → Prop} {S : zS} {a0 a1 : Int} {V : zH}
    (h : z32 a1 → ((a1 < 0) → (F 0)) ∧ ((0 ≤ a1) → (((S a0).1 = 6) ∧ ((V a0 0 ≤ a1) → (F 0)) ∧ ((a1 < V a0 0) → (F 1))))) :
    SpF E 0 zm_X3_hasLamp [zrv a0, ziv a1] S V F := by
  refine Sp.of (plainFor_of_name (by decide +kernel)) (Nat.le_of_ble_eq_true rfl) (fun hok X => ?_)
  have h := h (hok _ (List.mem_cons_of_mem _ (List.mem_cons_self)))
  show Zr E X (zRoom 0 0 0) zm_X3_hasLamp (zQm E X (zpF S V F) 0 0) 0 0 0 [(0, zrv a0), (1, ziv a1)] [] S V
  refine z_iload_n 1 dX3_hasLamp_0 rfl ?_
  refine z_if_lt dX3_hasLamp_1 (tgt := 16) (by decide) (fun c1 => ?_) (fun c1 => ?_)
  · have h := h.1 c1
    refine z_iconst dX3_hasLamp_16 ⟨by decide, by decide⟩ ?_
    exact z_retFZ dX3_hasLamp_17 rfl (Or.inl rfl) h
  · have h := h.2 c1
    refine z_iload_n 1 dX3_hasLamp_4 rfl ?_
    refine z_aload_n 0 dX3_hasLamp_5 rfl ?_
    obtain ⟨o2, h⟩ := h
    refine zgf_3_0 dX3_hasLamp_6 (zf_RX3_9 _ rfl) o2 ?_
    refine z_icmp_ge dX3_hasLamp_9 (tgt := 16) (by decide) (fun c3 => ?_) (fun c3 => ?_)
    · have h := h.1 c3
      refine z_iconst dX3_hasLamp_16 ⟨by decide, by decide⟩ ?_
      exact z_retFZ dX3_hasLamp_17 rfl (Or.inl rfl) h
    · have h := h.2 c3
      refine z_iconst dX3_hasLamp_12 ⟨by decide, by decide⟩ ?_
      refine z_goto (tgt := 17) dX3_hasLamp_13 (by decide) ?_
      exact z_retFZ dX3_hasLamp_17 rfl (Or.inr rfl) h
set_option maxRecDepth 100000 in
set_option maxHeartbeats 4000000 in
theorem en_X3_hasButton {E : zE} {F : Int → Prop} {S : zS} {a0 a1 : Int} {V : zH}
    (h : z32 a1 → ((a1 < 0) → (F 0)) ∧ ((0 ≤ a1) → (((S a0).1 = 6) ∧ ((V a0 3 ≤ a1) → (F 0)) ∧ ((a1 < V a0 3) → (F 1))))) :
    SpF E 0 zm_X3_hasButton [zrv a0, ziv a1] S V F := by
  refine Sp.of (plainFor_of_name (by decide +kernel)) (Nat.le_of_ble_eq_true rfl) (fun hok X => ?_)
  have h := h (hok _ (List.mem_cons_of_mem _ (List.mem_cons_self)))
  show Zr E X (zRoom 0 0 0) zm_X3_hasButton (zQm E X (zpF S V F) 0 0) 0 0 0 [(0, zrv a0), (1, ziv a1)] [] S V
  refine z_iload_n 1 dX3_hasButton_0 rfl ?_
  refine z_if_lt dX3_hasButton_1 (tgt := 16) (by decide) (fun c1 => ?_) (fun c1 => ?_)
  · have h := h.1 c1
    refine z_iconst dX3_hasButton_16 ⟨by decide, by decide⟩ ?_
    exact z_retFZ dX3_hasButton_17 rfl (Or.inl rfl) h
  · have h := h.2 c1
    refine z_iload_n 1 dX3_hasButton_4 rfl ?_
    refine z_aload_n 0 dX3_hasButton_5 rfl ?_
    obtain ⟨o2, h⟩ := h
    refine zgf_3_3 dX3_hasButton_6 (zf_RX3_43 _ rfl) o2 ?_
    refine z_icmp_ge dX3_hasButton_9 (tgt := 16) (by decide) (fun c3 => ?_) (fun c3 => ?_)
    · have h := h.1 c3
      refine z_iconst dX3_hasButton_16 ⟨by decide, by decide⟩ ?_
      exact z_retFZ dX3_hasButton_17 rfl (Or.inl rfl) h
    · have h := h.2 c3
      refine z_iconst dX3_hasButton_12 ⟨by decide, by decide⟩ ?_
      refine z_goto (tgt := 17) dX3_hasButton_13 (by decide) ?_
      exact z_retFZ dX3_hasButton_17 rfl (Or.inr rfl) h
set_option maxRecDepth 100000 in
set_option maxHeartbeats 4000000 in
theorem en_X3_takesButton {E : zE} {F : Int → Prop} {S : zS} {a0 a1 a2 a3 a4 : Int} {V : zH}
    (h : z32 a1 → z32 a2 → z32 a3 → z32 a4 → ((a1 ≠ 0) → (((a3 < 0) → (F 0)) ∧ ((0 ≤ a3) → (((S a0).1 = 6) ∧ ((a3 < V a0 1) → (((a1 = 1) → (SpF E 0 zm_X3_hasLamp [zrv a0, ziv a2] S V (fun x6 => (x6 = 0 ∨ x6 = 1) ∧ F x6))) ∧ ((a1 = 2) → (SpF E 0 zm_X3_hasLine [zrv a0, ziv a2] S V (fun x10 => (x10 = 0 ∨ x10 = 1) ∧ F x10))) ∧ ((a1 = 3) → (SpF E 0 zm_X3_hasLine [zrv a0, ziv a2] S V (fun x14 => (x14 = 0 ∨ x14 = 1) ∧ F x14))) ∧ ((a1 = 4) → (SpF E 0 zm_X3_hasLamp [zrv a0, ziv a2] S V (fun x18 => ((x18 = 0) → (F 0)) ∧ ((x18 ≠ 0) → (SpF E 0 zm_X3_hasButton [zrv a0, ziv a4] S V (fun x21 => ((x21 = 0) → (F 0)) ∧ ((x21 ≠ 0) → (F 1)))))))) ∧ ((a1 < 1 ∨ 4 < a1) → (F 0)))) ∧ ((V a0 1 ≤ a3) → (F 0)))))) ∧ ((a1 = 0) → (F 1))) :
    SpF E 1 zm_X3_takesButton [zrv a0, ziv a1, ziv a2, ziv a3, ziv a4] S V F := by
  refine Sp.of (plainFor_of_name (by decide +kernel)) (Nat.le_of_ble_eq_true rfl) (fun hok X => ?_)
  have h := h (hok _ (List.mem_cons_of_mem _ (List.mem_cons_self))) (hok _ (List.mem_cons_of_mem _ (List.mem_cons_of_mem _ (List.mem_cons_self)))) (hok _ (List.mem_cons_of_mem _ (List.mem_cons_of_mem _ (List.mem_cons_of_mem _ (List.mem_cons_self))))) (hok _ (List.mem_cons_of_mem _ (List.mem_cons_of_mem _ (List.mem_cons_of_mem _ (List.mem_cons_of_mem _ (List.mem_cons_self))))))
  show Zr E X (zRoom 1 0 0) zm_X3_takesButton (zQm E X (zpF S V F) 0 0) 0 0 0 [(0, zrv a0), (1, ziv a1), (2, ziv a2), (3, ziv a3), (4, ziv a4)] [] S V
  refine z_iload_n 1 dX3_takesButton_0 rfl ?_
  refine z_if_ne dX3_takesButton_1 (tgt := 6) (by decide) (fun c1 => ?_) (fun c1 => ?_)
  · have h := h.1 c1
    refine z_iload_n 3 dX3_takesButton_6 rfl ?_
    refine z_if_lt dX3_takesButton_7 (tgt := 18) (by decide) (fun c2 => ?_) (fun c2 => ?_)
    · have h := h.1 c2
      refine z_iconst dX3_takesButton_18 ⟨by decide, by decide⟩ ?_
      exact z_retFZ dX3_takesButton_19 rfl (Or.inl rfl) h
    · have h := h.2 c2
      refine z_iload_n 3 dX3_takesButton_10 rfl ?_
      refine z_aload_n 0 dX3_takesButton_11 rfl ?_
      obtain ⟨o3, h⟩ := h
      refine zgf_3_1 dX3_takesButton_12 (zf_RX3_15 _ rfl) o3 ?_
      refine z_icmp_lt dX3_takesButton_15 (tgt := 20) (by decide) (fun c4 => ?_) (fun c4 => ?_)
      · have h := h.1 c4
        refine z_iload_n 1 dX3_takesButton_20 rfl ?_
        by_cases c5 : a1 = 1
        · have h := h.1 c5
          refine z_tableIn dX3_takesButton_21 (by omega) (off := 31) (by rw [c5]; rfl) (tgt := 52) (by decide) ?_
          refine z_aload_n 0 dX3_takesButton_52 rfl ?_
          refine z_iload_n 2 dX3_takesButton_53 rfl ?_
          refine z_cVF [ziv a2] (zk_RX3_61 _ rfl) dX3_takesButton_54 o3 (by decide) rfl rfl (Nat.le_of_ble_eq_true rfl) (Nat.le_of_ble_eq_true rfl) (Nat.le_of_ble_eq_true rfl) (Nat.le_of_ble_eq_true rfl) (Nat.le_of_ble_eq_true rfl) h (fun x6 h => ?_)
          obtain ⟨o8, h⟩ := h
          exact z_retFZ dX3_takesButton_57 rfl o8 h
        by_cases c9 : a1 = 2
        · have h := h.2.1 c9
          refine z_tableIn dX3_takesButton_21 (by omega) (off := 37) (by rw [c9]; rfl) (tgt := 58) (by decide) ?_
          refine z_aload_n 0 dX3_takesButton_58 rfl ?_
          refine z_iload_n 2 dX3_takesButton_59 rfl ?_
          refine z_cVF [ziv a2] (zk_RX3_65 _ rfl) dX3_takesButton_60 o3 (by decide) rfl rfl (Nat.le_of_ble_eq_true rfl) (Nat.le_of_ble_eq_true rfl) (Nat.le_of_ble_eq_true rfl) (Nat.le_of_ble_eq_true rfl) (Nat.le_of_ble_eq_true rfl) h (fun x10 h => ?_)
          obtain ⟨o12, h⟩ := h
          exact z_retFZ dX3_takesButton_63 rfl o12 h
        by_cases c13 : a1 = 3
        · have h := h.2.2.1 c13
          refine z_tableIn dX3_takesButton_21 (by omega) (off := 37) (by rw [c13]; rfl) (tgt := 58) (by decide) ?_
          refine z_aload_n 0 dX3_takesButton_58 rfl ?_
          refine z_iload_n 2 dX3_takesButton_59 rfl ?_
          refine z_cVF [ziv a2] (zk_RX3_65 _ rfl) dX3_takesButton_60 o3 (by decide) rfl rfl (Nat.le_of_ble_eq_true rfl) (Nat.le_of_ble_eq_true rfl) (Nat.le_of_ble_eq_true rfl) (Nat.le_of_ble_eq_true rfl) (Nat.le_of_ble_eq_true rfl) h (fun x14 h => ?_)
          obtain ⟨o16, h⟩ := h
          exact z_retFZ dX3_takesButton_63 rfl o16 h
        by_cases c17 : a1 = 4
        · have h := h.2.2.2.1 c17
          refine z_tableIn dX3_takesButton_21 (by omega) (off := 43) (by rw [c17]; rfl) (tgt := 64) (by decide) ?_
          refine z_aload_n 0 dX3_takesButton_64 rfl ?_
          refine z_iload_n 2 dX3_takesButton_65 rfl ?_
          refine z_cVF [ziv a2] (zk_RX3_61 _ rfl) dX3_takesButton_66 o3 (by decide) rfl rfl (Nat.le_of_ble_eq_true rfl) (Nat.le_of_ble_eq_true rfl) (Nat.le_of_ble_eq_true rfl) (Nat.le_of_ble_eq_true rfl) (Nat.le_of_ble_eq_true rfl) h (fun x18 h => ?_)
          refine z_if_eq dX3_takesButton_69 (tgt := 85) (by decide) (fun c20 => ?_) (fun c20 => ?_)
          · have h := h.1 c20
            refine z_iconst dX3_takesButton_85 ⟨by decide, by decide⟩ ?_
            exact z_retFZ dX3_takesButton_86 rfl (Or.inl rfl) h
          · have h := h.2 c20
            refine z_aload_n 0 dX3_takesButton_72 rfl ?_
            refine z_iload 4 dX3_takesButton_73 rfl ?_
            refine z_cVF [ziv a4] (zk_RX3_68 _ rfl) dX3_takesButton_75 o3 (by decide) rfl rfl (Nat.le_of_ble_eq_true rfl) (Nat.le_of_ble_eq_true rfl) (Nat.le_of_ble_eq_true rfl) (Nat.le_of_ble_eq_true rfl) (Nat.le_of_ble_eq_true rfl) h (fun x21 h => ?_)
            refine z_if_eq dX3_takesButton_78 (tgt := 85) (by decide) (fun c23 => ?_) (fun c23 => ?_)
            · have h := h.1 c23
              refine z_iconst dX3_takesButton_85 ⟨by decide, by decide⟩ ?_
              exact z_retFZ dX3_takesButton_86 rfl (Or.inl rfl) h
            · have h := h.2 c23
              refine z_iconst dX3_takesButton_81 ⟨by decide, by decide⟩ ?_
              refine z_goto (tgt := 86) dX3_takesButton_82 (by decide) ?_
              exact z_retFZ dX3_takesButton_86 rfl (Or.inr rfl) h
        have h := h.2.2.2.2 (by omega)
        refine z_tableOut dX3_takesButton_21 (by omega) (tgt := 87) (by decide) ?_
        refine z_iconst dX3_takesButton_87 ⟨by decide, by decide⟩ ?_
        exact z_retFZ dX3_takesButton_88 rfl (Or.inl rfl) h
      · have h := h.2 c4
        refine z_iconst dX3_takesButton_18 ⟨by decide, by decide⟩ ?_
        exact z_retFZ dX3_takesButton_19 rfl (Or.inl rfl) h
  · have h := h.2 c1
    refine z_iconst dX3_takesButton_4 ⟨by decide, by decide⟩ ?_
    exact z_retFZ dX3_takesButton_5 rfl (Or.inr rfl) h
set_option maxRecDepth 100000 in
set_option maxHeartbeats 4000000 in
theorem en_X3_hasLine {E : zE} {F : Int → Prop} {S : zS} {a0 a1 : Int} {V : zH}
    (h : z32 a1 → ((S a0).1 = 6) ∧ (z32 ((V a0 0) + (V a0 2))) ∧ (z32 (((V a0 0) + (V a0 2)) - 1)) ∧ ((0 : Int) ≤ ((V a0 0) + (V a0 2)) - 1) ∧ ((0 : Int) < V a0 2) ∧ ∀ x6 : Int, x6 = (((V a0 0) + (V a0 2)) - 1) / (V a0 2) → ((a1 < 100) → (((a1 < 0) → (F 0)) ∧ ((0 ≤ a1) → (((x6 ≤ a1) → (F 0)) ∧ ((a1 < x6) → (F 1)))))) ∧ ((100 ≤ a1) → ((z32 (a1 - 100)) ∧ ((V a0 2 ≤ a1 - 100) → (F 0)) ∧ ((a1 - 100 < V a0 2) → (F 1))))) :
    SpF E 0 zm_X3_hasLine [zrv a0, ziv a1] S V F := by
  refine Sp.of (plainFor_of_name (by decide +kernel)) (Nat.le_of_ble_eq_true rfl) (fun hok X => ?_)
  have h := h (hok _ (List.mem_cons_of_mem _ (List.mem_cons_self)))
  show Zr E X (zRoom 0 0 0) zm_X3_hasLine (zQm E X (zpF S V F) 0 0) 0 0 0 [(0, zrv a0), (1, ziv a1)] [] S V
  refine z_aload_n 0 dX3_hasLine_0 rfl ?_
  obtain ⟨o1, h⟩ := h
  refine zgf_3_0 dX3_hasLine_1 (zf_RX3_9 _ rfl) o1 ?_
  refine z_aload_n 0 dX3_hasLine_4 rfl ?_
  refine zgf_3_2 dX3_hasLine_5 (zf_RX3_18 _ rfl) o1 ?_
  obtain ⟨o2, h⟩ := h
  refine z_iadd dX3_hasLine_8 o2 ?_
  refine z_iconst dX3_hasLine_9 ⟨by decide, by decide⟩ ?_
  obtain ⟨o3, h⟩ := h
  refine z_isub dX3_hasLine_10 o3 ?_
  refine z_aload_n 0 dX3_hasLine_11 rfl ?_
  refine zgf_3_2 dX3_hasLine_12 (zf_RX3_18 _ rfl) o1 ?_
  obtain ⟨o4, h⟩ := h
  obtain ⟨o5, h⟩ := h
  refine z_idiv dX3_hasLine_15 o4 o5 ?_
  refine z_nameI (fun x6 e7 => ?_)
  have h := h x6 e7
  refine z_istore_n dX3_hasLine_16 (by decide) (L' := [(0, zrv a0), (1, ziv a1), (2, ziv x6)]) [1, 2, 0] rfl ?_
  refine z_iload_n 1 dX3_hasLine_17 rfl ?_
  refine z_bipush dX3_hasLine_18 ⟨by decide, by decide⟩ (by decide) ?_
  refine z_icmp_lt dX3_hasLine_20 (tgt := 40) (by decide) (fun c8 => ?_) (fun c8 => ?_)
  · have h := h.1 c8
    refine z_iload_n 1 dX3_hasLine_40 rfl ?_
    refine z_if_lt dX3_hasLine_41 (tgt := 53) (by decide) (fun c9 => ?_) (fun c9 => ?_)
    · have h := h.1 c9
      refine z_iconst dX3_hasLine_53 ⟨by decide, by decide⟩ ?_
      exact z_retFZ dX3_hasLine_54 rfl (Or.inl rfl) h
    · have h := h.2 c9
      refine z_iload_n 1 dX3_hasLine_44 rfl ?_
      refine z_iload_n 2 dX3_hasLine_45 rfl ?_
      refine z_icmp_ge dX3_hasLine_46 (tgt := 53) (by decide) (fun c10 => ?_) (fun c10 => ?_)
      · have h := h.1 c10
        refine z_iconst dX3_hasLine_53 ⟨by decide, by decide⟩ ?_
        exact z_retFZ dX3_hasLine_54 rfl (Or.inl rfl) h
      · have h := h.2 c10
        refine z_iconst dX3_hasLine_49 ⟨by decide, by decide⟩ ?_
        refine z_goto (tgt := 54) dX3_hasLine_50 (by decide) ?_
        exact z_retFZ dX3_hasLine_54 rfl (Or.inr rfl) h
  · have h := h.2 c8
    refine z_iload_n 1 dX3_hasLine_23 rfl ?_
    refine z_bipush dX3_hasLine_24 ⟨by decide, by decide⟩ (by decide) ?_
    obtain ⟨o11, h⟩ := h
    refine z_isub dX3_hasLine_26 o11 ?_
    refine z_aload_n 0 dX3_hasLine_27 rfl ?_
    refine zgf_3_2 dX3_hasLine_28 (zf_RX3_18 _ rfl) o1 ?_
    refine z_icmp_ge dX3_hasLine_31 (tgt := 38) (by decide) (fun c12 => ?_) (fun c12 => ?_)
    · have h := h.1 c12
      refine z_iconst dX3_hasLine_38 ⟨by decide, by decide⟩ ?_
      exact z_retFZ dX3_hasLine_39 rfl (Or.inl rfl) h
    · have h := h.2 c12
      refine z_iconst dX3_hasLine_34 ⟨by decide, by decide⟩ ?_
      refine z_goto (tgt := 39) dX3_hasLine_35 (by decide) ?_
      exact z_retFZ dX3_hasLine_39 rfl (Or.inr rfl) h
def zl_X3_addButton_50 (E : zE) (X : zX) (F : Int → zH → Prop) (S : zS) (a0 a5 a6 : Int) (V : zH) : Prop := Zr E X (zRoom 0 0 0) zm_X3_addButton (zQm E X (zpI S F) 0 0) 0 0 50 [(0, zrv a0), (5, ziv a5), (6, ziv a6)] [] S V
set_option maxRecDepth 100000 in
set_option maxHeartbeats 4000000 in
theorem wp_X3_addButton_50 {E : zE} {X : zX} {F : Int → zH → Prop} {S : zS} {a0 a5 a6 : Int} {V : zH}
    (h : ((36 ≤ a6) → (((S a0).1 = 6) ∧ (z32 ((V a0 3) + 1)) ∧ ∀ V4 : zH, V4 = zput V a0 3 ((V a0 3) + 1) → (z32 ((V a0 4) + 1)) ∧ ∀ V7 : zH, V7 = zput V4 a0 4 ((V a0 4) + 1) → F a5 V7)) ∧ ((a6 < 36) → (((S a0).1 = 6) ∧ (z32 (a5 * 36)) ∧ (z32 ((a5 * 36) + a6)) ∧ ((S (V a0 11)).1 = 1) ∧ ((0 : Int) ≤ (a5 * 36) + a6 ∧ (a5 * 36) + a6 < (S (V a0 11)).2) ∧ ∀ V14 : zH, V14 = zput V (V a0 11) ((a5 * 36) + a6) 0 → (z32 (a6 + 1)) ∧ zl_X3_addButton_50 E X F S a0 a5 (a6 + 1) V14))) :
    zl_X3_addButton_50 E X F S a0 a5 a6 V := by
  unfold zl_X3_addButton_50
  refine z_iload 2 dX3_addButton_50 rfl ?_
  refine z_bipush dX3_addButton_52 ⟨by decide, by decide⟩ (by decide) ?_
  refine z_icmp_ge dX3_addButton_54 (tgt := 77) (by decide) (fun c1 => ?_) (fun c1 => ?_)
  · have h := h.1 c1
    refine z_aload_n 0 dX3_addButton_77 rfl ?_
    refine z_dup (zref_cat _) dX3_addButton_78 ?_
    obtain ⟨o2, h⟩ := h
    refine zgf_3_3 dX3_addButton_79 (zf_RX3_43 _ rfl) o2 ?_
    refine z_iconst dX3_addButton_82 ⟨by decide, by decide⟩ ?_
    obtain ⟨o3, h⟩ := h
    refine z_iadd dX3_addButton_83 o3 ?_
    refine zpf_3_3 dX3_addButton_84 (zf_RX3_43 _ rfl) o2 ?_
    refine z_nameV (fun V4 e5 => ?_)
    have h := h V4 e5
    refine z_aload_n 0 dX3_addButton_87 rfl ?_
    refine z_dup (zref_cat _) dX3_addButton_88 ?_
    refine zgf_3_4 dX3_addButton_89 (zf_RX3_46 _ rfl) o2 ?_
    refine z_topI (zfr_j e5 (by decide)) ?_
    refine z_iconst dX3_addButton_92 ⟨by decide, by decide⟩ ?_
    obtain ⟨o6, h⟩ := h
    refine z_iadd dX3_addButton_93 o6 ?_
    refine zpf_3_4 dX3_addButton_94 (zf_RX3_46 _ rfl) o2 ?_
    refine z_nameV (fun V7 e8 => ?_)
    have h := h V7 e8
    refine z_iload 1 dX3_addButton_97 rfl ?_
    exact z_retI dX3_addButton_99 rfl h
  · have h := h.2 c1
    refine z_aload_n 0 dX3_addButton_57 rfl ?_
    obtain ⟨o9, h⟩ := h
    refine zgf_3_11 dX3_addButton_58 (zf_RX3_40 _ rfl) o9 ?_
    refine z_iload 1 dX3_addButton_61 rfl ?_
    refine z_bipush dX3_addButton_63 ⟨by decide, by decide⟩ (by decide) ?_
    obtain ⟨o10, h⟩ := h
    refine z_imul dX3_addButton_65 o10 ?_
    refine z_iload 2 dX3_addButton_66 rfl ?_
    obtain ⟨o11, h⟩ := h
    refine z_iadd dX3_addButton_68 o11 ?_
    refine z_iconst dX3_addButton_69 ⟨by decide, by decide⟩ ?_
    obtain ⟨o12, h⟩ := h
    obtain ⟨o13, h⟩ := h
    refine z_iast dX3_addButton_70 o12 o13 ?_
    refine z_nameV (fun V14 e15 => ?_)
    have h := h V14 e15
    obtain ⟨o16, h⟩ := h
    refine z_iinc 2 dX3_addButton_71 rfl (by decide) o16 (L' := [(0, zrv a0), (5, ziv a5), (6, ziv (a6 + 1))]) [1, 2, 0] rfl ?_
    refine z_goto (tgt := 50) dX3_addButton_74 (by decide) ?_
    exact h
set_option maxRecDepth 100000 in
set_option maxHeartbeats 4000000 in
theorem en_X3_addButton {E : zE} {F : Int → zH → Prop} {S : zS} {a0 a1 a2 a3 a4 : Int} {V : zH}
    (h : z32 a1 → z32 a2 → z32 a3 → z32 a4 → ∀ X : zX, ((S a0).1 = 6) ∧ ∀ x2 : Int, x2 = V a0 3 → ((S (V a0 6)).1 = 1) ∧ ((0 : Int) ≤ x2 ∧ x2 < (S (V a0 6)).2) ∧ ∀ V6 : zH, V6 = zput V (V a0 6) x2 a1 → ((S (V a0 7)).1 = 1) ∧ ((0 : Int) ≤ x2 ∧ x2 < (S (V a0 7)).2) ∧ ∀ V10 : zH, V10 = zput V6 (V a0 7) x2 a2 → ((S (V a0 8)).1 = 1) ∧ ((0 : Int) ≤ x2 ∧ x2 < (S (V a0 8)).2) ∧ ∀ V14 : zH, V14 = zput V10 (V a0 8) x2 a3 → ((S (V a0 9)).1 = 1) ∧ ((0 : Int) ≤ x2 ∧ x2 < (S (V a0 9)).2) ∧ ∀ V18 : zH, V18 = zput V14 (V a0 9) x2 a4 → ((S (V a0 10)).1 = 1) ∧ ((0 : Int) ≤ x2 ∧ x2 < (S (V a0 10)).2) ∧ ∀ V22 : zH, V22 = zput V18 (V a0 10) x2 1 → zl_X3_addButton_50 E X F S a0 x2 0 V22) :
    SpI E 0 zm_X3_addButton [zrv a0, ziv a1, ziv a2, ziv a3, ziv a4] S V F := by
  refine Sp.of (plainFor_of_name (by decide +kernel)) (Nat.le_of_ble_eq_true rfl) (fun hok X => ?_)
  have h := h (hok _ (List.mem_cons_of_mem _ (List.mem_cons_self))) (hok _ (List.mem_cons_of_mem _ (List.mem_cons_of_mem _ (List.mem_cons_self)))) (hok _ (List.mem_cons_of_mem _ (List.mem_cons_of_mem _ (List.mem_cons_of_mem _ (List.mem_cons_self))))) (hok _ (List.mem_cons_of_mem _ (List.mem_cons_of_mem _ (List.mem_cons_of_mem _ (List.mem_cons_of_mem _ (List.mem_cons_self)))))) X
  show Zr E X (zRoom 0 0 0) zm_X3_addButton (zQm E X (zpI S F) 0 0) 0 0 0 [(0, zrv a0), (1, ziv a1), (2, ziv a2), (3, ziv a3), (4, ziv a4)] [] S V
  refine z_aload_n 0 dX3_addButton_0 rfl ?_
  obtain ⟨o1, h⟩ := h
  refine zgf_3_3 dX3_addButton_1 (zf_RX3_43 _ rfl) o1 ?_
  refine z_nameI (fun x2 e3 => ?_)
  have h := h x2 e3
  refine z_istore dX3_addButton_4 (by decide) (L' := [(0, zrv a0), (1, ziv a1), (2, ziv a2), (3, ziv a3), (4, ziv a4), (5, ziv x2)]) [1, 2, 3, 4, 5, 0] rfl ?_
  refine z_aload_n 0 dX3_addButton_6 rfl ?_
  refine zgf_3_6 dX3_addButton_7 (zf_RX3_25 _ rfl) o1 ?_
  refine z_iload 5 dX3_addButton_10 rfl ?_
  refine z_iload_n 1 dX3_addButton_12 rfl ?_
  obtain ⟨o4, h⟩ := h
  obtain ⟨o5, h⟩ := h
  refine z_iast dX3_addButton_13 o4 o5 ?_
  refine z_nameV (fun V6 e7 => ?_)
  have h := h V6 e7
  refine z_aload_n 0 dX3_addButton_14 rfl ?_
  refine zgf_3_7 dX3_addButton_15 (zf_RX3_28 _ rfl) o1 ?_
  refine z_topR (zfr_k e7 o4 o1 (by decide)) ?_
  refine z_iload 5 dX3_addButton_18 rfl ?_
  refine z_iload_n 2 dX3_addButton_20 rfl ?_
  obtain ⟨o8, h⟩ := h
  obtain ⟨o9, h⟩ := h
  refine z_iast dX3_addButton_21 o8 o9 ?_
  refine z_nameV (fun V10 e11 => ?_)
  have h := h V10 e11
  refine z_aload_n 0 dX3_addButton_22 rfl ?_
  refine zgf_3_8 dX3_addButton_23 (zf_RX3_31 _ rfl) o1 ?_
  refine z_topR ((zfr_k e11 o8 o1 (by decide)).trans (zfr_k e7 o4 o1 (by decide))) ?_
  refine z_iload 5 dX3_addButton_26 rfl ?_
  refine z_iload_n 3 dX3_addButton_28 rfl ?_
  obtain ⟨o12, h⟩ := h
  obtain ⟨o13, h⟩ := h
  refine z_iast dX3_addButton_29 o12 o13 ?_
  refine z_nameV (fun V14 e15 => ?_)
  have h := h V14 e15
  refine z_aload_n 0 dX3_addButton_30 rfl ?_
  refine zgf_3_9 dX3_addButton_31 (zf_RX3_34 _ rfl) o1 ?_
  refine z_topR (((zfr_k e15 o12 o1 (by decide)).trans (zfr_k e11 o8 o1 (by decide))).trans (zfr_k e7 o4 o1 (by decide))) ?_
  refine z_iload 5 dX3_addButton_34 rfl ?_
  refine z_iload 4 dX3_addButton_36 rfl ?_
  obtain ⟨o16, h⟩ := h
  obtain ⟨o17, h⟩ := h
  refine z_iast dX3_addButton_38 o16 o17 ?_
  refine z_nameV (fun V18 e19 => ?_)
  have h := h V18 e19
  refine z_aload_n 0 dX3_addButton_39 rfl ?_
  refine zgf_3_10 dX3_addButton_40 (zf_RX3_37 _ rfl) o1 ?_
  refine z_topR ((((zfr_k e19 o16 o1 (by decide)).trans (zfr_k e15 o12 o1 (by decide))).trans (zfr_k e11 o8 o1 (by decide))).trans (zfr_k e7 o4 o1 (by decide))) ?_
  refine z_iload 5 dX3_addButton_43 rfl ?_
  refine z_iconst dX3_addButton_45 ⟨by decide, by decide⟩ ?_
  obtain ⟨o20, h⟩ := h
  obtain ⟨o21, h⟩ := h
  refine z_iast dX3_addButton_46 o20 o21 ?_
  refine z_nameV (fun V22 e23 => ?_)
  have h := h V22 e23
  refine z_iconst dX3_addButton_47 ⟨by decide, by decide⟩ ?_
  refine z_istore dX3_addButton_48 (by decide) (L' := [(0, zrv a0), (1, ziv a1), (2, ziv a2), (3, ziv a3), (4, ziv a4), (5, ziv x2), (6, ziv 0)]) [1, 2, 3, 4, 5, 6, 0] rfl ?_
  refine z_loc (L' := [(0, zrv a0), (5, ziv x2), (6, ziv 0)]) [0, 5, 6] rfl ?_
  exact h
set_option maxRecDepth 100000 in
set_option maxHeartbeats 4000000 in
theorem en_X3_removeLastButton {E : zE} {F : zH → Prop} {S : zS} {a0 : Int} {V : zH}
    (h : ((S a0).1 = 6) ∧ ((V a0 3 ≤ 0) → (F V)) ∧ ((0 < V a0 3) → ((z32 ((V a0 3) - 1)) ∧ ∀ V4 : zH, V4 = zput V a0 3 ((V a0 3) - 1) → (z32 ((V a0 4) + 1)) ∧ ∀ V7 : zH, V7 = zput V4 a0 4 ((V a0 4) + 1) → F V7))) :
    SpV E 0 zm_X3_removeLastButton [zrv a0] S V F := by
  refine Sp.of (plainFor_of_name (by decide +kernel)) (Nat.le_of_ble_eq_true rfl) (fun hok X => ?_)
  have h := h
  show Zr E X (zRoom 0 0 0) zm_X3_removeLastButton (zQm E X (zpV S F) 0 0) 0 0 0 [(0, zrv a0)] [] S V
  refine z_aload_n 0 dX3_removeLastButton_0 rfl ?_
  obtain ⟨o1, h⟩ := h
  refine zgf_3_3 dX3_removeLastButton_1 (zf_RX3_43 _ rfl) o1 ?_
  refine z_if_le dX3_removeLastButton_4 (tgt := 27) (by decide) (fun c2 => ?_) (fun c2 => ?_)
  · have h := h.1 c2
    exact z_retV dX3_removeLastButton_27 rfl h
  · have h := h.2 c2
    refine z_aload_n 0 dX3_removeLastButton_7 rfl ?_
    refine z_dup (zref_cat _) dX3_removeLastButton_8 ?_
    refine zgf_3_3 dX3_removeLastButton_9 (zf_RX3_43 _ rfl) o1 ?_
    refine z_iconst dX3_removeLastButton_12 ⟨by decide, by decide⟩ ?_
    obtain ⟨o3, h⟩ := h
    refine z_isub dX3_removeLastButton_13 o3 ?_
    refine zpf_3_3 dX3_removeLastButton_14 (zf_RX3_43 _ rfl) o1 ?_
    refine z_nameV (fun V4 e5 => ?_)
    have h := h V4 e5
    refine z_aload_n 0 dX3_removeLastButton_17 rfl ?_
    refine z_dup (zref_cat _) dX3_removeLastButton_18 ?_
    refine zgf_3_4 dX3_removeLastButton_19 (zf_RX3_46 _ rfl) o1 ?_
    refine z_topI (zfr_j e5 (by decide)) ?_
    refine z_iconst dX3_removeLastButton_22 ⟨by decide, by decide⟩ ?_
    obtain ⟨o6, h⟩ := h
    refine z_iadd dX3_removeLastButton_23 o6 ?_
    refine zpf_3_4 dX3_removeLastButton_24 (zf_RX3_46 _ rfl) o1 ?_
    refine z_nameV (fun V7 e8 => ?_)
    have h := h V7 e8
    exact z_retV dX3_removeLastButton_27 rfl h
def zl_X3_wireTo_5 (E : zE) (X : zX) (F : Int → zH → Prop) (S : zS) (a0 a1 a2 a3 a4 : Int) (V : zH) : Prop := Zr E X (zRoom 2 0 0) zm_X3_wireTo (zQm E X (zpI S F) 0 0) 0 0 5 [(0, zrv a0), (1, ziv a1), (2, zrv a2), (3, ziv a3), (4, ziv a4)] [] S V
set_option maxRecDepth 100000 in
set_option maxHeartbeats 4000000 in
theorem wp_X3_wireTo_5 {E : zE} {X : zX} {F : Int → zH → Prop} {S : zS} {a0 a1 a2 a3 a4 : Int} {V : zH}
    (h : ((S a0).1 = 6) ∧ ((V a0 0 ≤ a4) → ((z32 ((V a0 4) + 1)) ∧ ∀ V4 : zH, V4 = zput V a0 4 ((V a0 4) + 1) → F a3 V4)) ∧ ((a4 < V a0 0) → (((S a2).1 = 3) ∧ SpF E 1 zm_X0_stepsFor [zrv a2, ziv a4, ziv (V a0 1)] S V (fun x7 => (z32 (a1 * 36)) ∧ (z32 ((a1 * 36) + a4)) ∧ ((S (V a0 11)).1 = 1) ∧ ((0 : Int) ≤ (a1 * 36) + a4 ∧ (a1 * 36) + a4 < (S (V a0 11)).2) ∧ ∀ V13 : zH, V13 = zput V (V a0 11) ((a1 * 36) + a4) x7 → ((x7 = 0) → ((z32 (a4 + 1)) ∧ zl_X3_wireTo_5 E X F S a0 a1 a2 a3 (a4 + 1) V13)) ∧ ((x7 ≠ 0) → ((z32 (a3 + 1)) ∧ (z32 (a4 + 1)) ∧ zl_X3_wireTo_5 E X F S a0 a1 a2 (a3 + 1) (a4 + 1) V13)))))) :
    zl_X3_wireTo_5 E X F S a0 a1 a2 a3 a4 V := by
  unfold zl_X3_wireTo_5
  refine z_iload 4 dX3_wireTo_5 rfl ?_
  refine z_aload_n 0 dX3_wireTo_7 rfl ?_
  obtain ⟨o1, h⟩ := h
  refine zgf_3_0 dX3_wireTo_8 (zf_RX3_9 _ rfl) o1 ?_
  refine z_icmp_ge dX3_wireTo_11 (tgt := 54) (by decide) (fun c2 => ?_) (fun c2 => ?_)
  · have h := h.1 c2
    refine z_aload_n 0 dX3_wireTo_54 rfl ?_
    refine z_dup (zref_cat _) dX3_wireTo_55 ?_
    refine zgf_3_4 dX3_wireTo_56 (zf_RX3_46 _ rfl) o1 ?_
    refine z_iconst dX3_wireTo_59 ⟨by decide, by decide⟩ ?_
    obtain ⟨o3, h⟩ := h
    refine z_iadd dX3_wireTo_60 o3 ?_
    refine zpf_3_4 dX3_wireTo_61 (zf_RX3_46 _ rfl) o1 ?_
    refine z_nameV (fun V4 e5 => ?_)
    have h := h V4 e5
    refine z_iload_n 3 dX3_wireTo_64 rfl ?_
    exact z_retI dX3_wireTo_65 rfl h
  · have h := h.2 c2
    refine z_aload_n 2 dX3_wireTo_14 rfl ?_
    refine z_iload 4 dX3_wireTo_15 rfl ?_
    refine z_aload_n 0 dX3_wireTo_17 rfl ?_
    refine zgf_3_1 dX3_wireTo_18 (zf_RX3_15 _ rfl) o1 ?_
    obtain ⟨o6, h⟩ := h
    refine z_cVF [ziv a4, ziv (V a0 1)] (zk_RX3_71 _ rfl) dX3_wireTo_21 o6 (by decide) rfl rfl (Nat.le_of_ble_eq_true rfl) (Nat.le_of_ble_eq_true rfl) (Nat.le_of_ble_eq_true rfl) (Nat.le_of_ble_eq_true rfl) (Nat.le_of_ble_eq_true rfl) h (fun x7 h => ?_)
    refine z_istore dX3_wireTo_24 (by decide) (L' := [(0, zrv a0), (1, ziv a1), (2, zrv a2), (3, ziv a3), (4, ziv a4), (5, ziv x7)]) [1, 2, 3, 4, 5, 0] rfl ?_
    refine z_aload_n 0 dX3_wireTo_26 rfl ?_
    refine zgf_3_11 dX3_wireTo_27 (zf_RX3_40 _ rfl) o1 ?_
    refine z_iload_n 1 dX3_wireTo_30 rfl ?_
    refine z_bipush dX3_wireTo_31 ⟨by decide, by decide⟩ (by decide) ?_
    obtain ⟨o9, h⟩ := h
    refine z_imul dX3_wireTo_33 o9 ?_
    refine z_iload 4 dX3_wireTo_34 rfl ?_
    obtain ⟨o10, h⟩ := h
    refine z_iadd dX3_wireTo_36 o10 ?_
    refine z_iload 5 dX3_wireTo_37 rfl ?_
    obtain ⟨o11, h⟩ := h
    obtain ⟨o12, h⟩ := h
    refine z_iast dX3_wireTo_39 o11 o12 ?_
    refine z_nameV (fun V13 e14 => ?_)
    have h := h V13 e14
    refine z_iload 5 dX3_wireTo_40 rfl ?_
    refine z_if_eq dX3_wireTo_42 (tgt := 48) (by decide) (fun c15 => ?_) (fun c15 => ?_)
    · have h := h.1 c15
      obtain ⟨o16, h⟩ := h
      refine z_iinc 4 dX3_wireTo_48 rfl (by decide) o16 (L' := [(0, zrv a0), (1, ziv a1), (2, zrv a2), (3, ziv a3), (4, ziv (a4 + 1)), (5, ziv x7)]) [1, 2, 3, 4, 0, 5] rfl ?_
      refine z_goto (tgt := 5) dX3_wireTo_51 (by decide) ?_
      refine z_loc (L' := [(0, zrv a0), (1, ziv a1), (2, zrv a2), (3, ziv a3), (4, ziv (a4 + 1))]) [0, 1, 2, 3, 4] rfl ?_
      exact h
    · have h := h.2 c15
      obtain ⟨o17, h⟩ := h
      refine z_iinc 3 dX3_wireTo_45 rfl (by decide) o17 (L' := [(0, zrv a0), (1, ziv a1), (2, zrv a2), (3, ziv (a3 + 1)), (4, ziv a4), (5, ziv x7)]) [1, 2, 3, 0, 4, 5] rfl ?_
      obtain ⟨o18, h⟩ := h
      refine z_iinc 4 dX3_wireTo_48 rfl (by decide) o18 (L' := [(0, zrv a0), (1, ziv a1), (2, zrv a2), (3, ziv (a3 + 1)), (4, ziv (a4 + 1)), (5, ziv x7)]) [1, 2, 3, 4, 0, 5] rfl ?_
      refine z_goto (tgt := 5) dX3_wireTo_51 (by decide) ?_
      refine z_loc (L' := [(0, zrv a0), (1, ziv a1), (2, zrv a2), (3, ziv (a3 + 1)), (4, ziv (a4 + 1))]) [0, 1, 2, 3, 4] rfl ?_
      exact h
set_option maxRecDepth 100000 in
set_option maxHeartbeats 4000000 in
theorem en_X3_wireTo {E : zE} {F : Int → zH → Prop} {S : zS} {a0 a1 a2 : Int} {V : zH}
    (h : z32 a1 → ∀ X : zX, zl_X3_wireTo_5 E X F S a0 a1 a2 0 0 V) :
    SpI E 2 zm_X3_wireTo [zrv a0, ziv a1, zrv a2] S V F := by
  refine Sp.of (plainFor_of_name (by decide +kernel)) (Nat.le_of_ble_eq_true rfl) (fun hok X => ?_)
  have h := h (hok _ (List.mem_cons_of_mem _ (List.mem_cons_self))) X
  show Zr E X (zRoom 2 0 0) zm_X3_wireTo (zQm E X (zpI S F) 0 0) 0 0 0 [(0, zrv a0), (1, ziv a1), (2, zrv a2)] [] S V
  refine z_iconst dX3_wireTo_0 ⟨by decide, by decide⟩ ?_
  refine z_istore_n dX3_wireTo_1 (by decide) (L' := [(0, zrv a0), (1, ziv a1), (2, zrv a2), (3, ziv 0)]) [1, 2, 3, 0] rfl ?_
  refine z_iconst dX3_wireTo_2 ⟨by decide, by decide⟩ ?_
  refine z_istore dX3_wireTo_3 (by decide) (L' := [(0, zrv a0), (1, ziv a1), (2, zrv a2), (3, ziv 0), (4, ziv 0)]) [1, 2, 3, 4, 0] rfl ?_
  exact h
set_option maxRecDepth 100000 in
set_option maxHeartbeats 4000000 in
theorem en_X3_stepAt {E : zE} {F : Int → Prop} {S : zS} {a0 a1 a2 : Int} {V : zH}
    (h : z32 a1 → z32 a2 → ((S a0).1 = 6) ∧ SpF E 2 zm_X3_ownStepAt [zrv a0, ziv a1, ziv a2] S V (fun x2 => ((S (V a0 6)).1 = 1) ∧ ((0 : Int) ≤ a1 ∧ a1 < (S (V a0 6)).2) ∧ ((V (V a0 6) a1 ≠ 4) → (((0 : Int) ≤ x2) ∧ ((0 : Int) < V a0 1) ∧ F (x2 % (V a0 1)))) ∧ ((V (V a0 6) a1 = 4) → (((S (V a0 9)).1 = 1) ∧ ((0 : Int) ≤ a1 ∧ a1 < (S (V a0 9)).2) ∧ SpF E 0 zm_X3_hasButton [zrv a0, ziv (V (V a0 9) a1)] S V (fun x11 => ((x11 = 0) → (((0 : Int) ≤ x2) ∧ ((0 : Int) < V a0 1) ∧ F (x2 % (V a0 1)))) ∧ ((x11 ≠ 0) → (SpF E 2 zm_X3_ownStepAt [zrv a0, ziv (V (V a0 9) a1), ziv a2] S V (fun x16 => (z32 (x2 + x16)) ∧ ∀ x19 : Int, x19 = x2 + x16 → ((0 : Int) ≤ x19) ∧ ((0 : Int) < V a0 1) ∧ F (x19 % (V a0 1)))))))))) :
    SpF E 3 zm_X3_stepAt [zrv a0, ziv a1, ziv a2] S V F := by
  refine Sp.of (plainFor_of_name (by decide +kernel)) (Nat.le_of_ble_eq_true rfl) (fun hok X => ?_)
  have h := h (hok _ (List.mem_cons_of_mem _ (List.mem_cons_self))) (hok _ (List.mem_cons_of_mem _ (List.mem_cons_of_mem _ (List.mem_cons_self))))
  show Zr E X (zRoom 3 0 0) zm_X3_stepAt (zQm E X (zpF S V F) 0 0) 0 0 0 [(0, zrv a0), (1, ziv a1), (2, ziv a2)] [] S V
  refine z_aload_n 0 dX3_stepAt_0 rfl ?_
  refine z_iload_n 1 dX3_stepAt_1 rfl ?_
  refine z_iload_n 2 dX3_stepAt_2 rfl ?_
  obtain ⟨o1, h⟩ := h
  refine z_cVF [ziv a1, ziv a2] (zk_RX3_77 _ rfl) dX3_stepAt_3 o1 (by decide) rfl rfl (Nat.le_of_ble_eq_true rfl) (Nat.le_of_ble_eq_true rfl) (Nat.le_of_ble_eq_true rfl) (Nat.le_of_ble_eq_true rfl) (Nat.le_of_ble_eq_true rfl) h (fun x2 h => ?_)
  refine z_istore_n dX3_stepAt_6 (by decide) (L' := [(0, zrv a0), (1, ziv a1), (2, ziv a2), (3, ziv x2)]) [1, 2, 3, 0] rfl ?_
  refine z_aload_n 0 dX3_stepAt_7 rfl ?_
  refine zgf_3_6 dX3_stepAt_8 (zf_RX3_25 _ rfl) o1 ?_
  refine z_iload_n 1 dX3_stepAt_11 rfl ?_
  obtain ⟨o4, h⟩ := h
  obtain ⟨o5, h⟩ := h
  refine z_iald dX3_stepAt_12 o4 o5 ?_
  refine z_iconst dX3_stepAt_13 ⟨by decide, by decide⟩ ?_
  refine z_icmp_ne dX3_stepAt_14 (tgt := 44) (by decide) (fun c6 => ?_) (fun c6 => ?_)
  · have h := h.1 c6
    refine z_iload_n 3 dX3_stepAt_44 rfl ?_
    refine z_aload_n 0 dX3_stepAt_45 rfl ?_
    refine zgf_3_1 dX3_stepAt_46 (zf_RX3_15 _ rfl) o1 ?_
    obtain ⟨o7, h⟩ := h
    obtain ⟨o8, h⟩ := h
    refine z_irem dX3_stepAt_49 o7 o8 ?_
    exact z_retFI dX3_stepAt_50 rfl h
  · have h := h.2 c6
    refine z_aload_n 0 dX3_stepAt_17 rfl ?_
    refine z_aload_n 0 dX3_stepAt_18 rfl ?_
    refine zgf_3_9 dX3_stepAt_19 (zf_RX3_34 _ rfl) o1 ?_
    refine z_iload_n 1 dX3_stepAt_22 rfl ?_
    obtain ⟨o9, h⟩ := h
    obtain ⟨o10, h⟩ := h
    refine z_iald dX3_stepAt_23 o9 o10 ?_
    refine z_cVF [ziv (V (V a0 9) a1)] (zk_RX3_68 _ rfl) dX3_stepAt_24 o1 (by decide) rfl rfl (Nat.le_of_ble_eq_true rfl) (Nat.le_of_ble_eq_true rfl) (Nat.le_of_ble_eq_true rfl) (Nat.le_of_ble_eq_true rfl) (Nat.le_of_ble_eq_true rfl) h (fun x11 h => ?_)
    refine z_if_eq dX3_stepAt_27 (tgt := 44) (by decide) (fun c13 => ?_) (fun c13 => ?_)
    · have h := h.1 c13
      refine z_iload_n 3 dX3_stepAt_44 rfl ?_
      refine z_aload_n 0 dX3_stepAt_45 rfl ?_
      refine zgf_3_1 dX3_stepAt_46 (zf_RX3_15 _ rfl) o1 ?_
      obtain ⟨o14, h⟩ := h
      obtain ⟨o15, h⟩ := h
      refine z_irem dX3_stepAt_49 o14 o15 ?_
      exact z_retFI dX3_stepAt_50 rfl h
    · have h := h.2 c13
      refine z_iload_n 3 dX3_stepAt_30 rfl ?_
      refine z_aload_n 0 dX3_stepAt_31 rfl ?_
      refine z_aload_n 0 dX3_stepAt_32 rfl ?_
      refine zgf_3_9 dX3_stepAt_33 (zf_RX3_34 _ rfl) o1 ?_
      refine z_iload_n 1 dX3_stepAt_36 rfl ?_
      refine z_iald dX3_stepAt_37 o9 o10 ?_
      refine z_iload_n 2 dX3_stepAt_38 rfl ?_
      refine z_cVF [ziv (V (V a0 9) a1), ziv a2] (zk_RX3_77 _ rfl) dX3_stepAt_39 o1 (by decide) rfl rfl (Nat.le_of_ble_eq_true rfl) (Nat.le_of_ble_eq_true rfl) (Nat.le_of_ble_eq_true rfl) (Nat.le_of_ble_eq_true rfl) (Nat.le_of_ble_eq_true rfl) h (fun x16 h => ?_)
      obtain ⟨o18, h⟩ := h
      refine z_iadd dX3_stepAt_42 o18 ?_
      refine z_nameI (fun x19 e20 => ?_)
      have h := h x19 e20
      refine z_istore_n dX3_stepAt_43 (by decide) (L' := [(0, zrv a0), (1, ziv a1), (2, ziv a2), (3, ziv x19)]) [1, 2, 3, 0] rfl ?_
      refine z_iload_n 3 dX3_stepAt_44 rfl ?_
      refine z_aload_n 0 dX3_stepAt_45 rfl ?_
      refine zgf_3_1 dX3_stepAt_46 (zf_RX3_15 _ rfl) o1 ?_
      obtain ⟨o21, h⟩ := h
      obtain ⟨o22, h⟩ := h
      refine z_irem dX3_stepAt_49 o21 o22 ?_
      exact z_retFI dX3_stepAt_50 rfl h
def zl_X3_ownStepAt_48 (E : zE) (X : zX) (F : Int → Prop) (S : zS) (a0 a1 a2 : Int) (V : zH) : Prop := Zr E X (zRoom 2 0 0) zm_X3_ownStepAt (zQm E X (zpF S V F) 0 0) 0 0 48 [(0, zrv a0), (1, ziv a1), (2, ziv a2)] [] S V
def zl_X3_ownStepAt_73 (E : zE) (X : zX) (F : Int → Prop) (S : zS) (a0 a1 a2 : Int) (V : zH) : Prop := Zr E X (zRoom 2 0 0) zm_X3_ownStepAt (zQm E X (zpF S V F) 0 0) 0 0 73 [(0, zrv a0), (1, ziv a1), (2, ziv a2)] [] S V
set_option maxRecDepth 100000 in
set_option maxHeartbeats 4000000 in
theorem wp_X3_ownStepAt_48 {E : zE} {X : zX} {F : Int → Prop} {S : zS} {a0 a1 a2 : Int} {V : zH}
    (h : ((S a0).1 = 6) ∧ ((S (V a0 7)).1 = 1) ∧ ((0 : Int) ≤ a1 ∧ a1 < (S (V a0 7)).2) ∧ SpF E 0 zm_X3_isOnLine [zrv a0, ziv (V (V a0 7) a1), ziv a2] S V (fun x4 => ((x4 = 0) → (F 0)) ∧ ((x4 ≠ 0) → (((S (V a0 8)).1 = 1) ∧ ((0 : Int) ≤ a1 ∧ a1 < (S (V a0 8)).2) ∧ F (V (V a0 8) a1))))) :
    zl_X3_ownStepAt_48 E X F S a0 a1 a2 V := by
  unfold zl_X3_ownStepAt_48
  refine z_aload_n 0 dX3_ownStepAt_48 rfl ?_
  refine z_aload_n 0 dX3_ownStepAt_49 rfl ?_
  obtain ⟨o1, h⟩ := h
  refine zgf_3_7 dX3_ownStepAt_50 (zf_RX3_28 _ rfl) o1 ?_
  refine z_iload_n 1 dX3_ownStepAt_53 rfl ?_
  obtain ⟨o2, h⟩ := h
  obtain ⟨o3, h⟩ := h
  refine z_iald dX3_ownStepAt_54 o2 o3 ?_
  refine z_iload_n 2 dX3_ownStepAt_55 rfl ?_
  refine z_cVF [ziv (V (V a0 7) a1), ziv a2] (zk_RX3_80 _ rfl) dX3_ownStepAt_56 o1 (by decide) rfl rfl (Nat.le_of_ble_eq_true rfl) (Nat.le_of_ble_eq_true rfl) (Nat.le_of_ble_eq_true rfl) (Nat.le_of_ble_eq_true rfl) (Nat.le_of_ble_eq_true rfl) h (fun x4 h => ?_)
  refine z_if_eq dX3_ownStepAt_59 (tgt := 71) (by decide) (fun c6 => ?_) (fun c6 => ?_)
  · have h := h.1 c6
    refine z_iconst dX3_ownStepAt_71 ⟨by decide, by decide⟩ ?_
    exact z_retFI dX3_ownStepAt_72 rfl h
  · have h := h.2 c6
    refine z_aload_n 0 dX3_ownStepAt_62 rfl ?_
    refine zgf_3_8 dX3_ownStepAt_63 (zf_RX3_31 _ rfl) o1 ?_
    refine z_iload_n 1 dX3_ownStepAt_66 rfl ?_
    obtain ⟨o7, h⟩ := h
    obtain ⟨o8, h⟩ := h
    refine z_iald dX3_ownStepAt_67 o7 o8 ?_
    refine z_goto (tgt := 72) dX3_ownStepAt_68 (by decide) ?_
    exact z_retFI dX3_ownStepAt_72 rfl h
set_option maxRecDepth 100000 in
set_option maxHeartbeats 4000000 in
theorem wp_X3_ownStepAt_73 {E : zE} {X : zX} {F : Int → Prop} {S : zS} {a0 a1 a2 : Int} {V : zH}
    (h : ((S a0).1 = 6) ∧ ((S (V a0 7)).1 = 1) ∧ ((0 : Int) ≤ a1 ∧ a1 < (S (V a0 7)).2) ∧ SpF E 1 zm_X3_isInCross [zrv a0, ziv (V (V a0 7) a1), ziv a2] S V (fun x4 => ((x4 = 0) → (F 0)) ∧ ((x4 ≠ 0) → (((S (V a0 8)).1 = 1) ∧ ((0 : Int) ≤ a1 ∧ a1 < (S (V a0 8)).2) ∧ F (V (V a0 8) a1))))) :
    zl_X3_ownStepAt_73 E X F S a0 a1 a2 V := by
  unfold zl_X3_ownStepAt_73
  refine z_aload_n 0 dX3_ownStepAt_73 rfl ?_
  refine z_aload_n 0 dX3_ownStepAt_74 rfl ?_
  obtain ⟨o1, h⟩ := h
  refine zgf_3_7 dX3_ownStepAt_75 (zf_RX3_28 _ rfl) o1 ?_
  refine z_iload_n 1 dX3_ownStepAt_78 rfl ?_
  obtain ⟨o2, h⟩ := h
  obtain ⟨o3, h⟩ := h
  refine z_iald dX3_ownStepAt_79 o2 o3 ?_
  refine z_iload_n 2 dX3_ownStepAt_80 rfl ?_
  refine z_cVF [ziv (V (V a0 7) a1), ziv a2] (zk_RX3_84 _ rfl) dX3_ownStepAt_81 o1 (by decide) rfl rfl (Nat.le_of_ble_eq_true rfl) (Nat.le_of_ble_eq_true rfl) (Nat.le_of_ble_eq_true rfl) (Nat.le_of_ble_eq_true rfl) (Nat.le_of_ble_eq_true rfl) h (fun x4 h => ?_)
  refine z_if_eq dX3_ownStepAt_84 (tgt := 96) (by decide) (fun c6 => ?_) (fun c6 => ?_)
  · have h := h.1 c6
    refine z_iconst dX3_ownStepAt_96 ⟨by decide, by decide⟩ ?_
    exact z_retFI dX3_ownStepAt_97 rfl h
  · have h := h.2 c6
    refine z_aload_n 0 dX3_ownStepAt_87 rfl ?_
    refine zgf_3_8 dX3_ownStepAt_88 (zf_RX3_31 _ rfl) o1 ?_
    refine z_iload_n 1 dX3_ownStepAt_91 rfl ?_
    obtain ⟨o7, h⟩ := h
    obtain ⟨o8, h⟩ := h
    refine z_iald dX3_ownStepAt_92 o7 o8 ?_
    refine z_goto (tgt := 97) dX3_ownStepAt_93 (by decide) ?_
    exact z_retFI dX3_ownStepAt_97 rfl h
set_option maxRecDepth 100000 in
set_option maxHeartbeats 4000000 in
theorem en_X3_ownStepAt {E : zE} {F : Int → Prop} {S : zS} {a0 a1 a2 : Int} {V : zH}
    (h : z32 a1 → z32 a2 → ∀ X : zX, ((S a0).1 = 6) ∧ ((S (V a0 6)).1 = 1) ∧ ((0 : Int) ≤ a1 ∧ a1 < (S (V a0 6)).2) ∧ ((V (V a0 6) a1 = 0) → ((z32 (a1 * 36)) ∧ (z32 ((a1 * 36) + a2)) ∧ ((S (V a0 11)).1 = 1) ∧ ((0 : Int) ≤ (a1 * 36) + a2 ∧ (a1 * 36) + a2 < (S (V a0 11)).2) ∧ F (V (V a0 11) ((a1 * 36) + a2)))) ∧ ((V (V a0 6) a1 = 1) → (zl_X3_ownStepAt_73 E X F S a0 a1 a2 V)) ∧ ((V (V a0 6) a1 = 2) → (zl_X3_ownStepAt_48 E X F S a0 a1 a2 V)) ∧ ((V (V a0 6) a1 = 3) → (zl_X3_ownStepAt_48 E X F S a0 a1 a2 V)) ∧ ((V (V a0 6) a1 < 0 ∨ 3 < V (V a0 6) a1) → (zl_X3_ownStepAt_73 E X F S a0 a1 a2 V))) :
    SpF E 2 zm_X3_ownStepAt [zrv a0, ziv a1, ziv a2] S V F := by
  refine Sp.of (plainFor_of_name (by decide +kernel)) (Nat.le_of_ble_eq_true rfl) (fun hok X => ?_)
  have h := h (hok _ (List.mem_cons_of_mem _ (List.mem_cons_self))) (hok _ (List.mem_cons_of_mem _ (List.mem_cons_of_mem _ (List.mem_cons_self)))) X
  show Zr E X (zRoom 2 0 0) zm_X3_ownStepAt (zQm E X (zpF S V F) 0 0) 0 0 0 [(0, zrv a0), (1, ziv a1), (2, ziv a2)] [] S V
  refine z_aload_n 0 dX3_ownStepAt_0 rfl ?_
  obtain ⟨o1, h⟩ := h
  refine zgf_3_6 dX3_ownStepAt_1 (zf_RX3_25 _ rfl) o1 ?_
  refine z_iload_n 1 dX3_ownStepAt_4 rfl ?_
  obtain ⟨o2, h⟩ := h
  obtain ⟨o3, h⟩ := h
  refine z_iald dX3_ownStepAt_5 o2 o3 ?_
  by_cases c4 : V (V a0 6) a1 = 0
  · have h := h.1 c4
    refine z_tableIn dX3_ownStepAt_6 (by omega) (off := 30) (by rw [c4]; rfl) (tgt := 36) (by decide) ?_
    refine z_aload_n 0 dX3_ownStepAt_36 rfl ?_
    refine zgf_3_11 dX3_ownStepAt_37 (zf_RX3_40 _ rfl) o1 ?_
    refine z_iload_n 1 dX3_ownStepAt_40 rfl ?_
    refine z_bipush dX3_ownStepAt_41 ⟨by decide, by decide⟩ (by decide) ?_
    obtain ⟨o5, h⟩ := h
    refine z_imul dX3_ownStepAt_43 o5 ?_
    refine z_iload_n 2 dX3_ownStepAt_44 rfl ?_
    obtain ⟨o6, h⟩ := h
    refine z_iadd dX3_ownStepAt_45 o6 ?_
    obtain ⟨o7, h⟩ := h
    obtain ⟨o8, h⟩ := h
    refine z_iald dX3_ownStepAt_46 o7 o8 ?_
    exact z_retFI dX3_ownStepAt_47 rfl h
  by_cases c9 : V (V a0 6) a1 = 1
  · have h := h.2.1 c9
    refine z_tableIn dX3_ownStepAt_6 (by omega) (off := 67) (by rw [c9]; rfl) (tgt := 73) (by decide) ?_
    exact h
  by_cases c10 : V (V a0 6) a1 = 2
  · have h := h.2.2.1 c10
    refine z_tableIn dX3_ownStepAt_6 (by omega) (off := 42) (by rw [c10]; rfl) (tgt := 48) (by decide) ?_
    exact h
  by_cases c11 : V (V a0 6) a1 = 3
  · have h := h.2.2.2.1 c11
    refine z_tableIn dX3_ownStepAt_6 (by omega) (off := 42) (by rw [c11]; rfl) (tgt := 48) (by decide) ?_
    exact h
  have h := h.2.2.2.2 (by omega)
  refine z_tableOut dX3_ownStepAt_6 (by omega) (tgt := 73) (by decide) ?_
  exact h
set_option maxRecDepth 100000 in
set_option maxHeartbeats 4000000 in
theorem en_X3_isOnLine {E : zE} {F : Int → Prop} {S : zS} {a0 a1 a2 : Int} {V : zH}
    (h : z32 a1 → z32 a2 → ((a1 < 100) → (((S a0).1 = 6) ∧ ((0 : Int) ≤ a2) ∧ ((0 : Int) < V a0 2) ∧ ((a2 / (V a0 2) ≠ a1) → (F 0)) ∧ ((a2 / (V a0 2) = a1) → (F 1)))) ∧ ((100 ≤ a1) → (((S a0).1 = 6) ∧ ((0 : Int) ≤ a2) ∧ ((0 : Int) < V a0 2) ∧ (z32 (a1 - 100)) ∧ ((a2 % (V a0 2) ≠ a1 - 100) → (F 0)) ∧ ((a2 % (V a0 2) = a1 - 100) → (F 1))))) :
    SpF E 0 zm_X3_isOnLine [zrv a0, ziv a1, ziv a2] S V F := by
  refine Sp.of (plainFor_of_name (by decide +kernel)) (Nat.le_of_ble_eq_true rfl) (fun hok X => ?_)
  have h := h (hok _ (List.mem_cons_of_mem _ (List.mem_cons_self))) (hok _ (List.mem_cons_of_mem _ (List.mem_cons_of_mem _ (List.mem_cons_self))))
  show Zr E X (zRoom 0 0 0) zm_X3_isOnLine (zQm E X (zpF S V F) 0 0) 0 0 0 [(0, zrv a0), (1, ziv a1), (2, ziv a2)] [] S V
  refine z_iload_n 1 dX3_isOnLine_0 rfl ?_
  refine z_bipush dX3_isOnLine_1 ⟨by decide, by decide⟩ (by decide) ?_
  refine z_icmp_lt dX3_isOnLine_3 (tgt := 25) (by decide) (fun c1 => ?_) (fun c1 => ?_)
  · have h := h.1 c1
    refine z_iload_n 2 dX3_isOnLine_25 rfl ?_
    refine z_aload_n 0 dX3_isOnLine_26 rfl ?_
    obtain ⟨o2, h⟩ := h
    refine zgf_3_2 dX3_isOnLine_27 (zf_RX3_18 _ rfl) o2 ?_
    obtain ⟨o3, h⟩ := h
    obtain ⟨o4, h⟩ := h
    refine z_idiv dX3_isOnLine_30 o3 o4 ?_
    refine z_iload_n 1 dX3_isOnLine_31 rfl ?_
    refine z_icmp_ne dX3_isOnLine_32 (tgt := 39) (by decide) (fun c5 => ?_) (fun c5 => ?_)
    · have h := h.1 c5
      refine z_iconst dX3_isOnLine_39 ⟨by decide, by decide⟩ ?_
      exact z_retFZ dX3_isOnLine_40 rfl (Or.inl rfl) h
    · have h := h.2 c5
      refine z_iconst dX3_isOnLine_35 ⟨by decide, by decide⟩ ?_
      refine z_goto (tgt := 40) dX3_isOnLine_36 (by decide) ?_
      exact z_retFZ dX3_isOnLine_40 rfl (Or.inr rfl) h
  · have h := h.2 c1
    refine z_iload_n 2 dX3_isOnLine_6 rfl ?_
    refine z_aload_n 0 dX3_isOnLine_7 rfl ?_
    obtain ⟨o6, h⟩ := h
    refine zgf_3_2 dX3_isOnLine_8 (zf_RX3_18 _ rfl) o6 ?_
    obtain ⟨o7, h⟩ := h
    obtain ⟨o8, h⟩ := h
    refine z_irem dX3_isOnLine_11 o7 o8 ?_
    refine z_iload_n 1 dX3_isOnLine_12 rfl ?_
    refine z_bipush dX3_isOnLine_13 ⟨by decide, by decide⟩ (by decide) ?_
    obtain ⟨o9, h⟩ := h
    refine z_isub dX3_isOnLine_15 o9 ?_
    refine z_icmp_ne dX3_isOnLine_16 (tgt := 23) (by decide) (fun c10 => ?_) (fun c10 => ?_)
    · have h := h.1 c10
      refine z_iconst dX3_isOnLine_23 ⟨by decide, by decide⟩ ?_
      exact z_retFZ dX3_isOnLine_24 rfl (Or.inl rfl) h
    · have h := h.2 c10
      refine z_iconst dX3_isOnLine_19 ⟨by decide, by decide⟩ ?_
      refine z_goto (tgt := 24) dX3_isOnLine_20 (by decide) ?_
      exact z_retFZ dX3_isOnLine_24 rfl (Or.inr rfl) h
set_option maxRecDepth 100000 in
set_option maxHeartbeats 4000000 in
theorem en_X3_isInCross {E : zE} {F : Int → Prop} {S : zS} {a0 a1 a2 : Int} {V : zH}
    (h : z32 a1 → z32 a2 → ((S a0).1 = 6) ∧ ((0 : Int) ≤ a2) ∧ ((0 : Int) < V a0 2) ∧ ((0 : Int) ≤ a1) ∧ (z32 ((a2 / (V a0 2)) - (a1 / (V a0 2)))) ∧ SpF E 0 zm_J9_abs_0f7a4 [ziv ((a2 / (V a0 2)) - (a1 / (V a0 2)))] S V (fun x6 => (z32 ((a2 % (V a0 2)) - (a1 % (V a0 2)))) ∧ SpF E 0 zm_J9_abs_0f7a4 [ziv ((a2 % (V a0 2)) - (a1 % (V a0 2)))] S V (fun x9 => (z32 (x6 + x9)) ∧ ((1 < x6 + x9) → (F 0)) ∧ ((x6 + x9 ≤ 1) → (F 1))))) :
    SpF E 1 zm_X3_isInCross [zrv a0, ziv a1, ziv a2] S V F := by
  refine Sp.of (plainFor_of_name (by decide +kernel)) (Nat.le_of_ble_eq_true rfl) (fun hok X => ?_)
  have h := h (hok _ (List.mem_cons_of_mem _ (List.mem_cons_self))) (hok _ (List.mem_cons_of_mem _ (List.mem_cons_of_mem _ (List.mem_cons_self))))
  show Zr E X (zRoom 1 0 0) zm_X3_isInCross (zQm E X (zpF S V F) 0 0) 0 0 0 [(0, zrv a0), (1, ziv a1), (2, ziv a2)] [] S V
  refine z_iload_n 2 dX3_isInCross_0 rfl ?_
  refine z_aload_n 0 dX3_isInCross_1 rfl ?_
  obtain ⟨o1, h⟩ := h
  refine zgf_3_2 dX3_isInCross_2 (zf_RX3_18 _ rfl) o1 ?_
  obtain ⟨o2, h⟩ := h
  obtain ⟨o3, h⟩ := h
  refine z_idiv dX3_isInCross_5 o2 o3 ?_
  refine z_iload_n 1 dX3_isInCross_6 rfl ?_
  refine z_aload_n 0 dX3_isInCross_7 rfl ?_
  refine zgf_3_2 dX3_isInCross_8 (zf_RX3_18 _ rfl) o1 ?_
  obtain ⟨o4, h⟩ := h
  refine z_idiv dX3_isInCross_11 o4 o3 ?_
  obtain ⟨o5, h⟩ := h
  refine z_isub dX3_isInCross_12 o5 ?_
  refine z_cSF [ziv ((a2 / (V a0 2)) - (a1 / (V a0 2)))] (zk_RX3_87 _ rfl) dX3_isInCross_13 rfl rfl (Nat.le_of_ble_eq_true rfl) (Nat.le_of_ble_eq_true rfl) (Nat.le_of_ble_eq_true rfl) (Nat.le_of_ble_eq_true rfl) (Nat.le_of_ble_eq_true rfl) h (fun x6 h => ?_)
  refine z_istore_n dX3_isInCross_16 (by decide) (L' := [(0, zrv a0), (1, ziv a1), (2, ziv a2), (3, ziv x6)]) [1, 2, 3, 0] rfl ?_
  refine z_iload_n 2 dX3_isInCross_17 rfl ?_
  refine z_aload_n 0 dX3_isInCross_18 rfl ?_
  refine zgf_3_2 dX3_isInCross_19 (zf_RX3_18 _ rfl) o1 ?_
  refine z_irem dX3_isInCross_22 o2 o3 ?_
  refine z_iload_n 1 dX3_isInCross_23 rfl ?_
  refine z_aload_n 0 dX3_isInCross_24 rfl ?_
  refine zgf_3_2 dX3_isInCross_25 (zf_RX3_18 _ rfl) o1 ?_
  refine z_irem dX3_isInCross_28 o4 o3 ?_
  obtain ⟨o8, h⟩ := h
  refine z_isub dX3_isInCross_29 o8 ?_
  refine z_cSF [ziv ((a2 % (V a0 2)) - (a1 % (V a0 2)))] (zk_RX3_87 _ rfl) dX3_isInCross_30 rfl rfl (Nat.le_of_ble_eq_true rfl) (Nat.le_of_ble_eq_true rfl) (Nat.le_of_ble_eq_true rfl) (Nat.le_of_ble_eq_true rfl) (Nat.le_of_ble_eq_true rfl) h (fun x9 h => ?_)
  refine z_istore dX3_isInCross_33 (by decide) (L' := [(0, zrv a0), (1, ziv a1), (2, ziv a2), (3, ziv x6), (4, ziv x9)]) [1, 2, 3, 4, 0] rfl ?_
  refine z_iload_n 3 dX3_isInCross_35 rfl ?_
  refine z_iload 4 dX3_isInCross_36 rfl ?_
  obtain ⟨o11, h⟩ := h
  refine z_iadd dX3_isInCross_38 o11 ?_
  refine z_iconst dX3_isInCross_39 ⟨by decide, by decide⟩ ?_
  refine z_icmp_gt dX3_isInCross_40 (tgt := 47) (by decide) (fun c12 => ?_) (fun c12 => ?_)
  · have h := h.1 c12
    refine z_iconst dX3_isInCross_47 ⟨by decide, by decide⟩ ?_
    exact z_retFZ dX3_isInCross_48 rfl (Or.inl rfl) h
  · have h := h.2 c12
    refine z_iconst dX3_isInCross_43 ⟨by decide, by decide⟩ ?_
    refine z_goto (tgt := 48) dX3_isInCross_44 (by decide) ?_
    exact z_retFZ dX3_isInCross_48 rfl (Or.inr rfl) h
def zl_X3_pushOne_5 (E : zE) (X : zX) (F : Int → zH → Prop) (S : zS) (a0 a1 a2 a3 a4 : Int) (V : zH) : Prop := Zr E X (zRoom 4 0 0) zm_X3_pushOne (zQm E X (zpI S F) 0 0) 0 0 5 [(0, zrv a0), (1, ziv a1), (2, ziv a2), (3, ziv a3), (4, ziv a4)] [] S V
set_option maxRecDepth 100000 in
set_option maxHeartbeats 4000000 in
theorem wp_X3_pushOne_5 {E : zE} {X : zX} {F : Int → zH → Prop} {S : zS} {a0 a1 a2 a3 a4 : Int} {V : zH}
    (h : ((S a0).1 = 6) ∧ ((V a0 0 ≤ a4) → (F a3 V)) ∧ ((a4 < V a0 0) → (((0 : Int) ≤ a2) ∧ ((0 : Int) < V a0 1) ∧ SpF E 3 zm_X3_stepAt [zrv a0, ziv a1, ziv a4] S V (fun x5 => (z32 ((a2 % (V a0 1)) * x5)) ∧ SpI E 0 zm_X3_turn [zrv a0, ziv a4, ziv ((a2 % (V a0 1)) * x5)] S V (fun x8 V9 => (z32 (a3 + x8)) ∧ ∀ x11 : Int, x11 = a3 + x8 → (z32 (a4 + 1)) ∧ zl_X3_pushOne_5 E X F S a0 a1 a2 x11 (a4 + 1) V9))))) :
    zl_X3_pushOne_5 E X F S a0 a1 a2 a3 a4 V := by
  unfold zl_X3_pushOne_5
  refine z_iload 4 dX3_pushOne_5 rfl ?_
  refine z_aload_n 0 dX3_pushOne_7 rfl ?_
  obtain ⟨o1, h⟩ := h
  refine zgf_3_0 dX3_pushOne_8 (zf_RX3_9 _ rfl) o1 ?_
  refine z_icmp_ge dX3_pushOne_11 (tgt := 43) (by decide) (fun c2 => ?_) (fun c2 => ?_)
  · have h := h.1 c2
    refine z_iload_n 3 dX3_pushOne_43 rfl ?_
    exact z_retI dX3_pushOne_44 rfl h
  · have h := h.2 c2
    refine z_iload_n 3 dX3_pushOne_14 rfl ?_
    refine z_aload_n 0 dX3_pushOne_15 rfl ?_
    refine z_iload 4 dX3_pushOne_16 rfl ?_
    refine z_iload_n 2 dX3_pushOne_18 rfl ?_
    refine z_aload_n 0 dX3_pushOne_19 rfl ?_
    refine zgf_3_1 dX3_pushOne_20 (zf_RX3_15 _ rfl) o1 ?_
    obtain ⟨o3, h⟩ := h
    obtain ⟨o4, h⟩ := h
    refine z_irem dX3_pushOne_23 o3 o4 ?_
    refine z_aload_n 0 dX3_pushOne_24 rfl ?_
    refine z_iload_n 1 dX3_pushOne_25 rfl ?_
    refine z_iload 4 dX3_pushOne_26 rfl ?_
    refine z_cVF [ziv a1, ziv a4] (zk_RX3_93 _ rfl) dX3_pushOne_28 o1 (by decide) rfl rfl (Nat.le_of_ble_eq_true rfl) (Nat.le_of_ble_eq_true rfl) (Nat.le_of_ble_eq_true rfl) (Nat.le_of_ble_eq_true rfl) (Nat.le_of_ble_eq_true rfl) h (fun x5 h => ?_)
    obtain ⟨o7, h⟩ := h
    refine z_imul dX3_pushOne_31 o7 ?_
    refine z_cVI [ziv a4, ziv ((a2 % (V a0 1)) * x5)] (zk_RX3_96 _ rfl) dX3_pushOne_32 o1 (by decide) rfl rfl (Nat.le_of_ble_eq_true rfl) (Nat.le_of_ble_eq_true rfl) (Nat.le_of_ble_eq_true rfl) (Nat.le_of_ble_eq_true rfl) (Nat.le_of_ble_eq_true rfl) h (fun x8 V9 h => ?_)
    obtain ⟨o10, h⟩ := h
    refine z_iadd dX3_pushOne_35 o10 ?_
    refine z_nameI (fun x11 e12 => ?_)
    have h := h x11 e12
    refine z_istore_n dX3_pushOne_36 (by decide) (L' := [(0, zrv a0), (1, ziv a1), (2, ziv a2), (3, ziv x11), (4, ziv a4)]) [1, 2, 3, 0, 4] rfl ?_
    obtain ⟨o13, h⟩ := h
    refine z_iinc 4 dX3_pushOne_37 rfl (by decide) o13 (L' := [(0, zrv a0), (1, ziv a1), (2, ziv a2), (3, ziv x11), (4, ziv (a4 + 1))]) [1, 2, 3, 4, 0] rfl ?_
    refine z_goto (tgt := 5) dX3_pushOne_40 (by decide) ?_
    exact h
set_option maxRecDepth 100000 in
set_option maxHeartbeats 4000000 in
theorem en_X3_pushOne {E : zE} {F : Int → zH → Prop} {S : zS} {a0 a1 a2 : Int} {V : zH}
    (h : z32 a1 → z32 a2 → ∀ X : zX, zl_X3_pushOne_5 E X F S a0 a1 a2 0 0 V) :
    SpI E 4 zm_X3_pushOne [zrv a0, ziv a1, ziv a2] S V F := by
  refine Sp.of (plainFor_of_name (by decide +kernel)) (Nat.le_of_ble_eq_true rfl) (fun hok X => ?_)
  have h := h (hok _ (List.mem_cons_of_mem _ (List.mem_cons_self))) (hok _ (List.mem_cons_of_mem _ (List.mem_cons_of_mem _ (List.mem_cons_self)))) X
  show Zr E X (zRoom 4 0 0) zm_X3_pushOne (zQm E X (zpI S F) 0 0) 0 0 0 [(0, zrv a0), (1, ziv a1), (2, ziv a2)] [] S V
  refine z_iconst dX3_pushOne_0 ⟨by decide, by decide⟩ ?_
  refine z_istore_n dX3_pushOne_1 (by decide) (L' := [(0, zrv a0), (1, ziv a1), (2, ziv a2), (3, ziv 0)]) [1, 2, 3, 0] rfl ?_
  refine z_iconst dX3_pushOne_2 ⟨by decide, by decide⟩ ?_
  refine z_istore dX3_pushOne_3 (by decide) (L' := [(0, zrv a0), (1, ziv a1), (2, ziv a2), (3, ziv 0), (4, ziv 0)]) [1, 2, 3, 4, 0] rfl ?_
  exact h
def zl_X3_pushAll_4 (E : zE) (X : zX) (F : Int → zH → Prop) (S : zS) (a0 a1 a2 a3 : Int) (V : zH) : Prop := Zr E X (zRoom 5 0 0) zm_X3_pushAll (zQm E X (zpI S F) 0 0) 0 0 4 [(0, zrv a0), (1, zrv a1), (2, ziv a2), (3, ziv a3)] [] S V
set_option maxRecDepth 100000 in
set_option maxHeartbeats 4000000 in
theorem wp_X3_pushAll_4 {E : zE} {X : zX} {F : Int → zH → Prop} {S : zS} {a0 a1 a2 a3 : Int} {V : zH}
    (h : ((S a0).1 = 6) ∧ ((V a0 0 ≤ a3) → (F a2 V)) ∧ ((a3 < V a0 0) → (SpF E 4 zm_X3_patternAt [zrv a0, zrv a1, ziv a3] S V (fun x3 => SpI E 0 zm_X3_turn [zrv a0, ziv a3, ziv x3] S V (fun x5 V6 => (z32 (a2 + x5)) ∧ ∀ x8 : Int, x8 = a2 + x5 → (z32 (a3 + 1)) ∧ zl_X3_pushAll_4 E X F S a0 a1 x8 (a3 + 1) V6))))) :
    zl_X3_pushAll_4 E X F S a0 a1 a2 a3 V := by
  unfold zl_X3_pushAll_4
  refine z_iload_n 3 dX3_pushAll_4 rfl ?_
  refine z_aload_n 0 dX3_pushAll_5 rfl ?_
  obtain ⟨o1, h⟩ := h
  refine zgf_3_0 dX3_pushAll_6 (zf_RX3_9 _ rfl) o1 ?_
  refine z_icmp_ge dX3_pushAll_9 (tgt := 32) (by decide) (fun c2 => ?_) (fun c2 => ?_)
  · have h := h.1 c2
    refine z_iload_n 2 dX3_pushAll_32 rfl ?_
    exact z_retI dX3_pushAll_33 rfl h
  · have h := h.2 c2
    refine z_iload_n 2 dX3_pushAll_12 rfl ?_
    refine z_aload_n 0 dX3_pushAll_13 rfl ?_
    refine z_iload_n 3 dX3_pushAll_14 rfl ?_
    refine z_aload_n 0 dX3_pushAll_15 rfl ?_
    refine z_aload_n 1 dX3_pushAll_16 rfl ?_
    refine z_iload_n 3 dX3_pushAll_17 rfl ?_
    refine z_cVF [zrv a1, ziv a3] (zk_RX3_99 _ rfl) dX3_pushAll_18 o1 (by decide) rfl rfl (Nat.le_of_ble_eq_true rfl) (Nat.le_of_ble_eq_true rfl) (Nat.le_of_ble_eq_true rfl) (Nat.le_of_ble_eq_true rfl) (Nat.le_of_ble_eq_true rfl) h (fun x3 h => ?_)
    refine z_cVI [ziv a3, ziv x3] (zk_RX3_96 _ rfl) dX3_pushAll_21 o1 (by decide) rfl rfl (Nat.le_of_ble_eq_true rfl) (Nat.le_of_ble_eq_true rfl) (Nat.le_of_ble_eq_true rfl) (Nat.le_of_ble_eq_true rfl) (Nat.le_of_ble_eq_true rfl) h (fun x5 V6 h => ?_)
    obtain ⟨o7, h⟩ := h
    refine z_iadd dX3_pushAll_24 o7 ?_
    refine z_nameI (fun x8 e9 => ?_)
    have h := h x8 e9
    refine z_istore_n dX3_pushAll_25 (by decide) (L' := [(0, zrv a0), (1, zrv a1), (2, ziv x8), (3, ziv a3)]) [1, 2, 0, 3] rfl ?_
    obtain ⟨o10, h⟩ := h
    refine z_iinc 3 dX3_pushAll_26 rfl (by decide) o10 (L' := [(0, zrv a0), (1, zrv a1), (2, ziv x8), (3, ziv (a3 + 1))]) [1, 2, 3, 0] rfl ?_
    refine z_goto (tgt := 4) dX3_pushAll_29 (by decide) ?_
    exact h
set_option maxRecDepth 100000 in
set_option maxHeartbeats 4000000 in
theorem en_X3_pushAll {E : zE} {F : Int → zH → Prop} {S : zS} {a0 a1 : Int} {V : zH}
    (h : ∀ X : zX, zl_X3_pushAll_4 E X F S a0 a1 0 0 V) :
    SpI E 5 zm_X3_pushAll [zrv a0, zrv a1] S V F := by
  refine Sp.of (plainFor_of_name (by decide +kernel)) (Nat.le_of_ble_eq_true rfl) (fun hok X => ?_)
  have h := h X
  show Zr E X (zRoom 5 0 0) zm_X3_pushAll (zQm E X (zpI S F) 0 0) 0 0 0 [(0, zrv a0), (1, zrv a1)] [] S V
  refine z_iconst dX3_pushAll_0 ⟨by decide, by decide⟩ ?_
  refine z_istore_n dX3_pushAll_1 (by decide) (L' := [(0, zrv a0), (1, zrv a1), (2, ziv 0)]) [1, 2, 0] rfl ?_
  refine z_iconst dX3_pushAll_2 ⟨by decide, by decide⟩ ?_
  refine z_istore_n dX3_pushAll_3 (by decide) (L' := [(0, zrv a0), (1, zrv a1), (2, ziv 0), (3, ziv 0)]) [1, 2, 3, 0] rfl ?_
  exact h
set_option maxRecDepth 100000 in
set_option maxHeartbeats 4000000 in
theorem en_X3_turn {E : zE} {F : Int → zH → Prop} {S : zS} {a0 a1 a2 : Int} {V : zH}
    (h : z32 a1 → z32 a2 → ((S a0).1 = 6) ∧ ((S (V a0 5)).1 = 1) ∧ ((0 : Int) ≤ a1 ∧ a1 < (S (V a0 5)).2) ∧ ∀ x4 : Int, x4 = V (V a0 5) a1 → (z32 (x4 + a2)) ∧ ((0 : Int) ≤ x4 + a2) ∧ ((0 : Int) < V a0 1) ∧ ∀ V9 : zH, V9 = zput V (V a0 5) a1 ((x4 + a2) % (V a0 1)) → (((x4 + a2) % (V a0 1) ≠ x4) → (F 1 V9)) ∧ (((x4 + a2) % (V a0 1) = x4) → (F 0 V9))) :
    SpI E 0 zm_X3_turn [zrv a0, ziv a1, ziv a2] S V F := by
  refine Sp.of (plainFor_of_name (by decide +kernel)) (Nat.le_of_ble_eq_true rfl) (fun hok X => ?_)
  have h := h (hok _ (List.mem_cons_of_mem _ (List.mem_cons_self))) (hok _ (List.mem_cons_of_mem _ (List.mem_cons_of_mem _ (List.mem_cons_self))))
  show Zr E X (zRoom 0 0 0) zm_X3_turn (zQm E X (zpI S F) 0 0) 0 0 0 [(0, zrv a0), (1, ziv a1), (2, ziv a2)] [] S V
  refine z_aload_n 0 dX3_turn_0 rfl ?_
  obtain ⟨o1, h⟩ := h
  refine zgf_3_5 dX3_turn_1 (zf_RX3_21 _ rfl) o1 ?_
  refine z_iload_n 1 dX3_turn_4 rfl ?_
  obtain ⟨o2, h⟩ := h
  obtain ⟨o3, h⟩ := h
  refine z_iald dX3_turn_5 o2 o3 ?_
  refine z_nameI (fun x4 e5 => ?_)
  have h := h x4 e5
  refine z_istore_n dX3_turn_6 (by decide) (L' := [(0, zrv a0), (1, ziv a1), (2, ziv a2), (3, ziv x4)]) [1, 2, 3, 0] rfl ?_
  refine z_aload_n 0 dX3_turn_7 rfl ?_
  refine zgf_3_5 dX3_turn_8 (zf_RX3_21 _ rfl) o1 ?_
  refine z_iload_n 1 dX3_turn_11 rfl ?_
  refine z_iload_n 3 dX3_turn_12 rfl ?_
  refine z_iload_n 2 dX3_turn_13 rfl ?_
  obtain ⟨o6, h⟩ := h
  refine z_iadd dX3_turn_14 o6 ?_
  refine z_aload_n 0 dX3_turn_15 rfl ?_
  refine zgf_3_1 dX3_turn_16 (zf_RX3_15 _ rfl) o1 ?_
  obtain ⟨o7, h⟩ := h
  obtain ⟨o8, h⟩ := h
  refine z_irem dX3_turn_19 o7 o8 ?_
  refine z_iast dX3_turn_20 o2 o3 ?_
  refine z_nameV (fun V9 e10 => ?_)
  have h := h V9 e10
  refine z_aload_n 0 dX3_turn_21 rfl ?_
  refine zgf_3_5 dX3_turn_22 (zf_RX3_21 _ rfl) o1 ?_
  refine z_topR (zfr_k e10 o2 o1 (by decide)) ?_
  refine z_iload_n 1 dX3_turn_25 rfl ?_
  refine z_iald dX3_turn_26 o2 o3 ?_
  refine z_topI (zfr_s e10) ?_
  refine z_iload_n 3 dX3_turn_27 rfl ?_
  refine z_icmp_ne dX3_turn_28 (tgt := 35) (by decide) (fun c11 => ?_) (fun c11 => ?_)
  · have h := h.1 c11
    refine z_iconst dX3_turn_35 ⟨by decide, by decide⟩ ?_
    exact z_retI dX3_turn_36 rfl h
  · have h := h.2 c11
    refine z_iconst dX3_turn_31 ⟨by decide, by decide⟩ ?_
    refine z_goto (tgt := 36) dX3_turn_32 (by decide) ?_
    exact z_retI dX3_turn_36 rfl h
def zl_X3_isAllCrosses_15 (E : zE) (X : zX) (F : Int → Prop) (S : zS) (a0 a1 : Int) (V : zH) : Prop := Zr E X (zRoom 0 0 0) zm_X3_isAllCrosses (zQm E X (zpF S V F) 0 0) 0 0 15 [(0, zrv a0), (1, ziv a1)] [] S V
set_option maxRecDepth 100000 in
set_option maxHeartbeats 4000000 in
theorem wp_X3_isAllCrosses_15 {E : zE} {X : zX} {F : Int → Prop} {S : zS} {a0 a1 : Int} {V : zH}
    (h : ((S a0).1 = 6) ∧ ((V a0 3 ≤ a1) → (F 1)) ∧ ((a1 < V a0 3) → (((S (V a0 6)).1 = 1) ∧ ((0 : Int) ≤ a1 ∧ a1 < (S (V a0 6)).2) ∧ ((V (V a0 6) a1 ≠ 1) → (F 0)) ∧ ((V (V a0 6) a1 = 1) → (((S (V a0 7)).1 = 1) ∧ ((0 : Int) ≤ a1 ∧ a1 < (S (V a0 7)).2) ∧ ((V (V a0 7) a1 ≠ a1) → (F 0)) ∧ ((V (V a0 7) a1 = a1) → (((S (V a0 8)).1 = 1) ∧ ((0 : Int) ≤ a1 ∧ a1 < (S (V a0 8)).2) ∧ ((V (V a0 8) a1 = 1) → ((z32 (a1 + 1)) ∧ zl_X3_isAllCrosses_15 E X F S a0 (a1 + 1) V)) ∧ ((V (V a0 8) a1 ≠ 1) → (F 0))))))))) :
    zl_X3_isAllCrosses_15 E X F S a0 a1 V := by
  unfold zl_X3_isAllCrosses_15
  refine z_iload_n 1 dX3_isAllCrosses_15 rfl ?_
  refine z_aload_n 0 dX3_isAllCrosses_16 rfl ?_
  obtain ⟨o1, h⟩ := h
  refine zgf_3_3 dX3_isAllCrosses_17 (zf_RX3_43 _ rfl) o1 ?_
  refine z_icmp_ge dX3_isAllCrosses_20 (tgt := 61) (by decide) (fun c2 => ?_) (fun c2 => ?_)
  · have h := h.1 c2
    refine z_iconst dX3_isAllCrosses_61 ⟨by decide, by decide⟩ ?_
    exact z_retFZ dX3_isAllCrosses_62 rfl (Or.inr rfl) h
  · have h := h.2 c2
    refine z_aload_n 0 dX3_isAllCrosses_23 rfl ?_
    refine zgf_3_6 dX3_isAllCrosses_24 (zf_RX3_25 _ rfl) o1 ?_
    refine z_iload_n 1 dX3_isAllCrosses_27 rfl ?_
    obtain ⟨o3, h⟩ := h
    obtain ⟨o4, h⟩ := h
    refine z_iald dX3_isAllCrosses_28 o3 o4 ?_
    refine z_iconst dX3_isAllCrosses_29 ⟨by decide, by decide⟩ ?_
    refine z_icmp_ne dX3_isAllCrosses_30 (tgt := 53) (by decide) (fun c5 => ?_) (fun c5 => ?_)
    · have h := h.1 c5
      refine z_iconst dX3_isAllCrosses_53 ⟨by decide, by decide⟩ ?_
      exact z_retFZ dX3_isAllCrosses_54 rfl (Or.inl rfl) h
    · have h := h.2 c5
      refine z_aload_n 0 dX3_isAllCrosses_33 rfl ?_
      refine zgf_3_7 dX3_isAllCrosses_34 (zf_RX3_28 _ rfl) o1 ?_
      refine z_iload_n 1 dX3_isAllCrosses_37 rfl ?_
      obtain ⟨o6, h⟩ := h
      obtain ⟨o7, h⟩ := h
      refine z_iald dX3_isAllCrosses_38 o6 o7 ?_
      refine z_iload_n 1 dX3_isAllCrosses_39 rfl ?_
      refine z_icmp_ne dX3_isAllCrosses_40 (tgt := 53) (by decide) (fun c8 => ?_) (fun c8 => ?_)
      · have h := h.1 c8
        refine z_iconst dX3_isAllCrosses_53 ⟨by decide, by decide⟩ ?_
        exact z_retFZ dX3_isAllCrosses_54 rfl (Or.inl rfl) h
      · have h := h.2 c8
        refine z_aload_n 0 dX3_isAllCrosses_43 rfl ?_
        refine zgf_3_8 dX3_isAllCrosses_44 (zf_RX3_31 _ rfl) o1 ?_
        refine z_iload_n 1 dX3_isAllCrosses_47 rfl ?_
        obtain ⟨o9, h⟩ := h
        obtain ⟨o10, h⟩ := h
        refine z_iald dX3_isAllCrosses_48 o9 o10 ?_
        refine z_iconst dX3_isAllCrosses_49 ⟨by decide, by decide⟩ ?_
        refine z_icmp_eq dX3_isAllCrosses_50 (tgt := 55) (by decide) (fun c11 => ?_) (fun c11 => ?_)
        · have h := h.1 c11
          obtain ⟨o12, h⟩ := h
          refine z_iinc 1 dX3_isAllCrosses_55 rfl (by decide) o12 (L' := [(0, zrv a0), (1, ziv (a1 + 1))]) [1, 0] rfl ?_
          refine z_goto (tgt := 15) dX3_isAllCrosses_58 (by decide) ?_
          exact h
        · have h := h.2 c11
          refine z_iconst dX3_isAllCrosses_53 ⟨by decide, by decide⟩ ?_
          exact z_retFZ dX3_isAllCrosses_54 rfl (Or.inl rfl) h
set_option maxRecDepth 100000 in
set_option maxHeartbeats 4000000 in
theorem en_X3_isAllCrosses {E : zE} {F : Int → Prop} {S : zS} {a0 : Int} {V : zH}
    (h : ∀ X : zX, ((S a0).1 = 6) ∧ ((V a0 3 = V a0 0) → (zl_X3_isAllCrosses_15 E X F S a0 0 V)) ∧ ((V a0 3 ≠ V a0 0) → (F 0))) :
    SpF E 0 zm_X3_isAllCrosses [zrv a0] S V F := by
  refine Sp.of (plainFor_of_name (by decide +kernel)) (Nat.le_of_ble_eq_true rfl) (fun hok X => ?_)
  have h := h X
  show Zr E X (zRoom 0 0 0) zm_X3_isAllCrosses (zQm E X (zpF S V F) 0 0) 0 0 0 [(0, zrv a0)] [] S V
  refine z_aload_n 0 dX3_isAllCrosses_0 rfl ?_
  obtain ⟨o1, h⟩ := h
  refine zgf_3_3 dX3_isAllCrosses_1 (zf_RX3_43 _ rfl) o1 ?_
  refine z_aload_n 0 dX3_isAllCrosses_4 rfl ?_
  refine zgf_3_0 dX3_isAllCrosses_5 (zf_RX3_9 _ rfl) o1 ?_
  refine z_icmp_eq dX3_isAllCrosses_8 (tgt := 13) (by decide) (fun c2 => ?_) (fun c2 => ?_)
  · have h := h.1 c2
    refine z_iconst dX3_isAllCrosses_13 ⟨by decide, by decide⟩ ?_
    refine z_istore_n dX3_isAllCrosses_14 (by decide) (L' := [(0, zrv a0), (1, ziv 0)]) [1, 0] rfl ?_
    exact h
  · have h := h.2 c2
    refine z_iconst dX3_isAllCrosses_11 ⟨by decide, by decide⟩ ?_
    exact z_retFZ dX3_isAllCrosses_12 rfl (Or.inl rfl) h
def zl_X3_chaseDown_7 (E : zE) (X : zX) (F : Int → zH → Prop) (S : zS) (a0 a1 a2 : Int) (V : zH) : Prop := Zr E X (zRoom 5 0 0) zm_X3_chaseDown (zQm E X (zpI S F) 0 0) 0 0 7 [(0, zrv a0), (1, ziv a1), (2, ziv a2)] [] S V
set_option maxRecDepth 100000 in
set_option maxHeartbeats 4000000 in
theorem wp_X3_chaseDown_7 {E : zE} {X : zX} {F : Int → zH → Prop} {S : zS} {a0 a1 a2 : Int} {V : zH}
    (h : ((S a0).1 = 6) ∧ ((V a0 0 ≤ a2) → (F a1 V)) ∧ ((a2 < V a0 0) → ((z32 (a2 - (V a0 2))) ∧ ((S (V a0 5)).1 = 1) ∧ ((0 : Int) ≤ a2 - (V a0 2) ∧ a2 - (V a0 2) < (S (V a0 5)).2) ∧ ∀ x6 : Int, x6 = V (V a0 5) (a2 - (V a0 2)) → ((x6 = 0) → ((z32 (a2 + 1)) ∧ zl_X3_chaseDown_7 E X F S a0 a1 (a2 + 1) V)) ∧ ((x6 ≠ 0) → ((z32 ((V a0 1) - x6)) ∧ SpI E 4 zm_X3_pushOne [zrv a0, ziv a2, ziv ((V a0 1) - x6)] S V (fun x11 V12 => (z32 ((V12 a0 1) - x6)) ∧ (z32 (a1 + ((V12 a0 1) - x6))) ∧ ∀ x15 : Int, x15 = a1 + ((V12 a0 1) - x6) → (z32 (a2 + 1)) ∧ zl_X3_chaseDown_7 E X F S a0 x15 (a2 + 1) V12)))))) :
    zl_X3_chaseDown_7 E X F S a0 a1 a2 V := by
  unfold zl_X3_chaseDown_7
  refine z_iload_n 2 dX3_chaseDown_7 rfl ?_
  refine z_aload_n 0 dX3_chaseDown_8 rfl ?_
  obtain ⟨o1, h⟩ := h
  refine zgf_3_0 dX3_chaseDown_9 (zf_RX3_9 _ rfl) o1 ?_
  refine z_icmp_ge dX3_chaseDown_12 (tgt := 58) (by decide) (fun c2 => ?_) (fun c2 => ?_)
  · have h := h.1 c2
    refine z_iload_n 1 dX3_chaseDown_58 rfl ?_
    exact z_retI dX3_chaseDown_59 rfl h
  · have h := h.2 c2
    refine z_aload_n 0 dX3_chaseDown_15 rfl ?_
    refine zgf_3_5 dX3_chaseDown_16 (zf_RX3_21 _ rfl) o1 ?_
    refine z_iload_n 2 dX3_chaseDown_19 rfl ?_
    refine z_aload_n 0 dX3_chaseDown_20 rfl ?_
    refine zgf_3_2 dX3_chaseDown_21 (zf_RX3_18 _ rfl) o1 ?_
    obtain ⟨o3, h⟩ := h
    refine z_isub dX3_chaseDown_24 o3 ?_
    obtain ⟨o4, h⟩ := h
    obtain ⟨o5, h⟩ := h
    refine z_iald dX3_chaseDown_25 o4 o5 ?_
    refine z_nameI (fun x6 e7 => ?_)
    have h := h x6 e7
    refine z_istore_n dX3_chaseDown_26 (by decide) (L' := [(0, zrv a0), (1, ziv a1), (2, ziv a2), (3, ziv x6)]) [1, 2, 3, 0] rfl ?_
    refine z_iload_n 3 dX3_chaseDown_27 rfl ?_
    refine z_if_eq dX3_chaseDown_28 (tgt := 52) (by decide) (fun c8 => ?_) (fun c8 => ?_)
    · have h := h.1 c8
      obtain ⟨o9, h⟩ := h
      refine z_iinc 2 dX3_chaseDown_52 rfl (by decide) o9 (L' := [(0, zrv a0), (1, ziv a1), (2, ziv (a2 + 1)), (3, ziv x6)]) [1, 2, 0, 3] rfl ?_
      refine z_goto (tgt := 7) dX3_chaseDown_55 (by decide) ?_
      refine z_loc (L' := [(0, zrv a0), (1, ziv a1), (2, ziv (a2 + 1))]) [0, 1, 2] rfl ?_
      exact h
    · have h := h.2 c8
      refine z_aload_n 0 dX3_chaseDown_31 rfl ?_
      refine z_iload_n 2 dX3_chaseDown_32 rfl ?_
      refine z_aload_n 0 dX3_chaseDown_33 rfl ?_
      refine zgf_3_1 dX3_chaseDown_34 (zf_RX3_15 _ rfl) o1 ?_
      refine z_iload_n 3 dX3_chaseDown_37 rfl ?_
      obtain ⟨o10, h⟩ := h
      refine z_isub dX3_chaseDown_38 o10 ?_
      refine z_cVI [ziv a2, ziv ((V a0 1) - x6)] (zk_RX3_103 _ rfl) dX3_chaseDown_39 o1 (by decide) rfl rfl (Nat.le_of_ble_eq_true rfl) (Nat.le_of_ble_eq_true rfl) (Nat.le_of_ble_eq_true rfl) (Nat.le_of_ble_eq_true rfl) (Nat.le_of_ble_eq_true rfl) h (fun x11 V12 h => ?_)
      refine z_pop rfl dX3_chaseDown_42 ?_
      refine z_iload_n 1 dX3_chaseDown_43 rfl ?_
      refine z_aload_n 0 dX3_chaseDown_44 rfl ?_
      refine zgf_3_1 dX3_chaseDown_45 (zf_RX3_15 _ rfl) o1 ?_
      refine z_iload_n 3 dX3_chaseDown_48 rfl ?_
      obtain ⟨o13, h⟩ := h
      refine z_isub dX3_chaseDown_49 o13 ?_
      obtain ⟨o14, h⟩ := h
      refine z_iadd dX3_chaseDown_50 o14 ?_
      refine z_nameI (fun x15 e16 => ?_)
      have h := h x15 e16
      refine z_istore_n dX3_chaseDown_51 (by decide) (L' := [(0, zrv a0), (1, ziv x15), (2, ziv a2), (3, ziv x6)]) [1, 0, 2, 3] rfl ?_
      obtain ⟨o17, h⟩ := h
      refine z_iinc 2 dX3_chaseDown_52 rfl (by decide) o17 (L' := [(0, zrv a0), (1, ziv x15), (2, ziv (a2 + 1)), (3, ziv x6)]) [1, 2, 0, 3] rfl ?_
      refine z_goto (tgt := 7) dX3_chaseDown_55 (by decide) ?_
      refine z_loc (L' := [(0, zrv a0), (1, ziv x15), (2, ziv (a2 + 1))]) [0, 1, 2] rfl ?_
      exact h
set_option maxRecDepth 100000 in
set_option maxHeartbeats 4000000 in
theorem en_X3_chaseDown {E : zE} {F : Int → zH → Prop} {S : zS} {a0 : Int} {V : zH}
    (h : ∀ X : zX, ((S a0).1 = 6) ∧ ∀ x2 : Int, x2 = V a0 2 → zl_X3_chaseDown_7 E X F S a0 0 x2 V) :
    SpI E 5 zm_X3_chaseDown [zrv a0] S V F := by
  refine Sp.of (plainFor_of_name (by decide +kernel)) (Nat.le_of_ble_eq_true rfl) (fun hok X => ?_)
  have h := h X
  show Zr E X (zRoom 5 0 0) zm_X3_chaseDown (zQm E X (zpI S F) 0 0) 0 0 0 [(0, zrv a0)] [] S V
  refine z_iconst dX3_chaseDown_0 ⟨by decide, by decide⟩ ?_
  refine z_istore_n dX3_chaseDown_1 (by decide) (L' := [(0, zrv a0), (1, ziv 0)]) [1, 0] rfl ?_
  refine z_aload_n 0 dX3_chaseDown_2 rfl ?_
  obtain ⟨o1, h⟩ := h
  refine zgf_3_2 dX3_chaseDown_3 (zf_RX3_18 _ rfl) o1 ?_
  refine z_nameI (fun x2 e3 => ?_)
  have h := h x2 e3
  refine z_istore_n dX3_chaseDown_6 (by decide) (L' := [(0, zrv a0), (1, ziv 0), (2, ziv x2)]) [1, 2, 0] rfl ?_
  exact h
def zl_X3_countLit_4 (E : zE) (X : zX) (F : Int → Prop) (S : zS) (a0 a1 a2 : Int) (V : zH) : Prop := Zr E X (zRoom 0 0 0) zm_X3_countLit (zQm E X (zpF S V F) 0 0) 0 0 4 [(0, zrv a0), (1, ziv a1), (2, ziv a2)] [] S V
set_option maxRecDepth 100000 in
set_option maxHeartbeats 4000000 in
theorem wp_X3_countLit_4 {E : zE} {X : zX} {F : Int → Prop} {S : zS} {a0 a1 a2 : Int} {V : zH}
    (h : ((S a0).1 = 6) ∧ ((V a0 0 ≤ a2) → (F a1)) ∧ ((a2 < V a0 0) → (((S (V a0 5)).1 = 1) ∧ ((0 : Int) ≤ a2 ∧ a2 < (S (V a0 5)).2) ∧ ((V (V a0 5) a2 = 0) → ((z32 (a2 + 1)) ∧ zl_X3_countLit_4 E X F S a0 a1 (a2 + 1) V)) ∧ ((V (V a0 5) a2 ≠ 0) → ((z32 (a1 + 1)) ∧ (z32 (a2 + 1)) ∧ zl_X3_countLit_4 E X F S a0 (a1 + 1) (a2 + 1) V))))) :
    zl_X3_countLit_4 E X F S a0 a1 a2 V := by
  unfold zl_X3_countLit_4
  refine z_iload_n 2 dX3_countLit_4 rfl ?_
  refine z_aload_n 0 dX3_countLit_5 rfl ?_
  obtain ⟨o1, h⟩ := h
  refine zgf_3_0 dX3_countLit_6 (zf_RX3_9 _ rfl) o1 ?_
  refine z_icmp_ge dX3_countLit_9 (tgt := 30) (by decide) (fun c2 => ?_) (fun c2 => ?_)
  · have h := h.1 c2
    refine z_iload_n 1 dX3_countLit_30 rfl ?_
    exact z_retFI dX3_countLit_31 rfl h
  · have h := h.2 c2
    refine z_aload_n 0 dX3_countLit_12 rfl ?_
    refine zgf_3_5 dX3_countLit_13 (zf_RX3_21 _ rfl) o1 ?_
    refine z_iload_n 2 dX3_countLit_16 rfl ?_
    obtain ⟨o3, h⟩ := h
    obtain ⟨o4, h⟩ := h
    refine z_iald dX3_countLit_17 o3 o4 ?_
    refine z_if_eq dX3_countLit_18 (tgt := 24) (by decide) (fun c5 => ?_) (fun c5 => ?_)
    · have h := h.1 c5
      obtain ⟨o6, h⟩ := h
      refine z_iinc 2 dX3_countLit_24 rfl (by decide) o6 (L' := [(0, zrv a0), (1, ziv a1), (2, ziv (a2 + 1))]) [1, 2, 0] rfl ?_
      refine z_goto (tgt := 4) dX3_countLit_27 (by decide) ?_
      exact h
    · have h := h.2 c5
      obtain ⟨o7, h⟩ := h
      refine z_iinc 1 dX3_countLit_21 rfl (by decide) o7 (L' := [(0, zrv a0), (1, ziv (a1 + 1)), (2, ziv a2)]) [1, 0, 2] rfl ?_
      obtain ⟨o8, h⟩ := h
      refine z_iinc 2 dX3_countLit_24 rfl (by decide) o8 (L' := [(0, zrv a0), (1, ziv (a1 + 1)), (2, ziv (a2 + 1))]) [1, 2, 0] rfl ?_
      refine z_goto (tgt := 4) dX3_countLit_27 (by decide) ?_
      exact h
set_option maxRecDepth 100000 in
set_option maxHeartbeats 4000000 in
theorem en_X3_countLit {E : zE} {F : Int → Prop} {S : zS} {a0 : Int} {V : zH}
    (h : ∀ X : zX, zl_X3_countLit_4 E X F S a0 0 0 V) :
    SpF E 0 zm_X3_countLit [zrv a0] S V F := by
  refine Sp.of (plainFor_of_name (by decide +kernel)) (Nat.le_of_ble_eq_true rfl) (fun hok X => ?_)
  have h := h X
  show Zr E X (zRoom 0 0 0) zm_X3_countLit (zQm E X (zpF S V F) 0 0) 0 0 0 [(0, zrv a0)] [] S V
  refine z_iconst dX3_countLit_0 ⟨by decide, by decide⟩ ?_
  refine z_istore_n dX3_countLit_1 (by decide) (L' := [(0, zrv a0), (1, ziv 0)]) [1, 0] rfl ?_
  refine z_iconst dX3_countLit_2 ⟨by decide, by decide⟩ ?_
  refine z_istore_n dX3_countLit_3 (by decide) (L' := [(0, zrv a0), (1, ziv 0), (2, ziv 0)]) [1, 2, 0] rfl ?_
  exact h
def zl_X3_sumShown_4 (E : zE) (X : zX) (F : Int → Prop) (S : zS) (a0 a1 a2 : Int) (V : zH) : Prop := Zr E X (zRoom 0 0 0) zm_X3_sumShown (zQm E X (zpF S V F) 0 0) 0 0 4 [(0, zrv a0), (1, ziv a1), (2, ziv a2)] [] S V
set_option maxRecDepth 100000 in
set_option maxHeartbeats 4000000 in
theorem wp_X3_sumShown_4 {E : zE} {X : zX} {F : Int → Prop} {S : zS} {a0 a1 a2 : Int} {V : zH}
    (h : ((S a0).1 = 6) ∧ ((V a0 0 ≤ a2) → (F a1)) ∧ ((a2 < V a0 0) → (((S (V a0 5)).1 = 1) ∧ ((0 : Int) ≤ a2 ∧ a2 < (S (V a0 5)).2) ∧ (z32 (a1 + (V (V a0 5) a2))) ∧ ∀ x6 : Int, x6 = a1 + (V (V a0 5) a2) → (z32 (a2 + 1)) ∧ zl_X3_sumShown_4 E X F S a0 x6 (a2 + 1) V))) :
    zl_X3_sumShown_4 E X F S a0 a1 a2 V := by
  unfold zl_X3_sumShown_4
  refine z_iload_n 2 dX3_sumShown_4 rfl ?_
  refine z_aload_n 0 dX3_sumShown_5 rfl ?_
  obtain ⟨o1, h⟩ := h
  refine zgf_3_0 dX3_sumShown_6 (zf_RX3_9 _ rfl) o1 ?_
  refine z_icmp_ge dX3_sumShown_9 (tgt := 27) (by decide) (fun c2 => ?_) (fun c2 => ?_)
  · have h := h.1 c2
    refine z_iload_n 1 dX3_sumShown_27 rfl ?_
    exact z_retFI dX3_sumShown_28 rfl h
  · have h := h.2 c2
    refine z_iload_n 1 dX3_sumShown_12 rfl ?_
    refine z_aload_n 0 dX3_sumShown_13 rfl ?_
    refine zgf_3_5 dX3_sumShown_14 (zf_RX3_21 _ rfl) o1 ?_
    refine z_iload_n 2 dX3_sumShown_17 rfl ?_
    obtain ⟨o3, h⟩ := h
    obtain ⟨o4, h⟩ := h
    refine z_iald dX3_sumShown_18 o3 o4 ?_
    obtain ⟨o5, h⟩ := h
    refine z_iadd dX3_sumShown_19 o5 ?_
    refine z_nameI (fun x6 e7 => ?_)
    have h := h x6 e7
    refine z_istore_n dX3_sumShown_20 (by decide) (L' := [(0, zrv a0), (1, ziv x6), (2, ziv a2)]) [1, 0, 2] rfl ?_
    obtain ⟨o8, h⟩ := h
    refine z_iinc 2 dX3_sumShown_21 rfl (by decide) o8 (L' := [(0, zrv a0), (1, ziv x6), (2, ziv (a2 + 1))]) [1, 2, 0] rfl ?_
    refine z_goto (tgt := 4) dX3_sumShown_24 (by decide) ?_
    exact h
set_option maxRecDepth 100000 in
set_option maxHeartbeats 4000000 in
theorem en_X3_sumShown {E : zE} {F : Int → Prop} {S : zS} {a0 : Int} {V : zH}
    (h : ∀ X : zX, zl_X3_sumShown_4 E X F S a0 0 0 V) :
    SpF E 0 zm_X3_sumShown [zrv a0] S V F := by
  refine Sp.of (plainFor_of_name (by decide +kernel)) (Nat.le_of_ble_eq_true rfl) (fun hok X => ?_)
  have h := h X
  show Zr E X (zRoom 0 0 0) zm_X3_sumShown (zQm E X (zpF S V F) 0 0) 0 0 0 [(0, zrv a0)] [] S V
  refine z_iconst dX3_sumShown_0 ⟨by decide, by decide⟩ ?_
  refine z_istore_n dX3_sumShown_1 (by decide) (L' := [(0, zrv a0), (1, ziv 0)]) [1, 0] rfl ?_
  refine z_iconst dX3_sumShown_2 ⟨by decide, by decide⟩ ?_
  refine z_istore_n dX3_sumShown_3 (by decide) (L' := [(0, zrv a0), (1, ziv 0), (2, ziv 0)]) [1, 2, 0] rfl ?_
  exact h
def zl_X3_allBelowColours_2 (E : zE) (X : zX) (F : Int → Prop) (S : zS) (a0 a1 a2 a3 : Int) (V : zH) : Prop := Zr E X (zRoom 0 0 0) zm_X3_allBelowColours (zQm E X (zpF S V F) 0 0) 0 0 2 [(0, zrv a0), (1, zrv a1), (2, ziv a2), (3, ziv a3)] [] S V
set_option maxRecDepth 100000 in
set_option maxHeartbeats 4000000 in
theorem wp_X3_allBelowColours_2 {E : zE} {X : zX} {F : Int → Prop} {S : zS} {a0 a1 a2 a3 : Int} {V : zH}
    (h : ((a2 ≤ a3) → (F 1)) ∧ ((a3 < a2) → (((S a1).1 = 1) ∧ (((S a1).2 ≤ a3) → (F 1)) ∧ ((a3 < (S a1).2) → (((0 : Int) ≤ a3 ∧ a3 < (S a1).2) ∧ ((S a0).1 = 6) ∧ ((V a1 a3 < V a0 1) → ((z32 (a3 + 1)) ∧ zl_X3_allBelowColours_2 E X F S a0 a1 a2 (a3 + 1) V)) ∧ ((V a0 1 ≤ V a1 a3) → (F 0))))))) :
    zl_X3_allBelowColours_2 E X F S a0 a1 a2 a3 V := by
  unfold zl_X3_allBelowColours_2
  refine z_iload_n 3 dX3_allBelowColours_2 rfl ?_
  refine z_iload_n 2 dX3_allBelowColours_3 rfl ?_
  refine z_icmp_ge dX3_allBelowColours_4 (tgt := 31) (by decide) (fun c1 => ?_) (fun c1 => ?_)
  · have h := h.1 c1
    refine z_iconst dX3_allBelowColours_31 ⟨by decide, by decide⟩ ?_
    exact z_retFZ dX3_allBelowColours_32 rfl (Or.inr rfl) h
  · have h := h.2 c1
    refine z_iload_n 3 dX3_allBelowColours_7 rfl ?_
    refine z_aload_n 1 dX3_allBelowColours_8 rfl ?_
    obtain ⟨o2, h⟩ := h
    refine z_len1 dX3_allBelowColours_9 o2 ?_
    refine z_icmp_ge dX3_allBelowColours_10 (tgt := 31) (by decide) (fun c3 => ?_) (fun c3 => ?_)
    · have h := h.1 c3
      refine z_iconst dX3_allBelowColours_31 ⟨by decide, by decide⟩ ?_
      exact z_retFZ dX3_allBelowColours_32 rfl (Or.inr rfl) h
    · have h := h.2 c3
      refine z_aload_n 1 dX3_allBelowColours_13 rfl ?_
      refine z_iload_n 3 dX3_allBelowColours_14 rfl ?_
      obtain ⟨o4, h⟩ := h
      refine z_iald dX3_allBelowColours_15 o2 o4 ?_
      refine z_aload_n 0 dX3_allBelowColours_16 rfl ?_
      obtain ⟨o5, h⟩ := h
      refine zgf_3_1 dX3_allBelowColours_17 (zf_RX3_15 _ rfl) o5 ?_
      refine z_icmp_lt dX3_allBelowColours_20 (tgt := 25) (by decide) (fun c6 => ?_) (fun c6 => ?_)
      · have h := h.1 c6
        obtain ⟨o7, h⟩ := h
        refine z_iinc 3 dX3_allBelowColours_25 rfl (by decide) o7 (L' := [(0, zrv a0), (1, zrv a1), (2, ziv a2), (3, ziv (a3 + 1))]) [1, 2, 3, 0] rfl ?_
        refine z_goto (tgt := 2) dX3_allBelowColours_28 (by decide) ?_
        exact h
      · have h := h.2 c6
        refine z_iconst dX3_allBelowColours_23 ⟨by decide, by decide⟩ ?_
        exact z_retFZ dX3_allBelowColours_24 rfl (Or.inl rfl) h
set_option maxRecDepth 100000 in
set_option maxHeartbeats 4000000 in
theorem en_X3_allBelowColours {E : zE} {F : Int → Prop} {S : zS} {a0 a1 a2 : Int} {V : zH}
    (h : z32 a2 → ∀ X : zX, zl_X3_allBelowColours_2 E X F S a0 a1 a2 0 V) :
    SpF E 0 zm_X3_allBelowColours [zrv a0, zrv a1, ziv a2] S V F := by
  refine Sp.of (plainFor_of_name (by decide +kernel)) (Nat.le_of_ble_eq_true rfl) (fun hok X => ?_)
  have h := h (hok _ (List.mem_cons_of_mem _ (List.mem_cons_of_mem _ (List.mem_cons_self)))) X
  show Zr E X (zRoom 0 0 0) zm_X3_allBelowColours (zQm E X (zpF S V F) 0 0) 0 0 0 [(0, zrv a0), (1, zrv a1), (2, ziv a2)] [] S V
  refine z_iconst dX3_allBelowColours_0 ⟨by decide, by decide⟩ ?_
  refine z_istore_n dX3_allBelowColours_1 (by decide) (L' := [(0, zrv a0), (1, zrv a1), (2, ziv a2), (3, ziv 0)]) [1, 2, 3, 0] rfl ?_
  exact h
set_option maxRecDepth 100000 in
set_option maxHeartbeats 4000000 in
theorem en_X3_isPushing {E : zE} {F : Int → Prop} {S : zS} {a0 a1 a2 : Int} {V : zH}
    (h : z32 a2 → ((S a0).1 = 6) ∧ ((a2 ≠ V a0 3) → (F 0)) ∧ ((a2 = V a0 3) → (SpF E 0 zm_X3_allBelowColours [zrv a0, zrv a1, ziv a2] S V (fun x3 => ((x3 = 0) → (F 0)) ∧ ((x3 ≠ 0) → (SpF E 0 zm_X3_firstStuckPushed [zrv a0, zrv a1] S V (fun x6 => ((x6 ≠ (-1)) → (F 0)) ∧ ((x6 = (-1)) → (F 1))))))))) :
    SpF E 1 zm_X3_isPushing [zrv a0, zrv a1, ziv a2] S V F := by
  refine Sp.of (plainFor_of_name (by decide +kernel)) (Nat.le_of_ble_eq_true rfl) (fun hok X => ?_)
  have h := h (hok _ (List.mem_cons_of_mem _ (List.mem_cons_of_mem _ (List.mem_cons_self))))
  show Zr E X (zRoom 1 0 0) zm_X3_isPushing (zQm E X (zpF S V F) 0 0) 0 0 0 [(0, zrv a0), (1, zrv a1), (2, ziv a2)] [] S V
  refine z_iload_n 2 dX3_isPushing_0 rfl ?_
  refine z_aload_n 0 dX3_isPushing_1 rfl ?_
  obtain ⟨o1, h⟩ := h
  refine zgf_3_3 dX3_isPushing_2 (zf_RX3_43 _ rfl) o1 ?_
  refine z_icmp_ne dX3_isPushing_5 (tgt := 30) (by decide) (fun c2 => ?_) (fun c2 => ?_)
  · have h := h.1 c2
    refine z_iconst dX3_isPushing_30 ⟨by decide, by decide⟩ ?_
    exact z_retFZ dX3_isPushing_31 rfl (Or.inl rfl) h
  · have h := h.2 c2
    refine z_aload_n 0 dX3_isPushing_8 rfl ?_
    refine z_aload_n 1 dX3_isPushing_9 rfl ?_
    refine z_iload_n 2 dX3_isPushing_10 rfl ?_
    refine z_cVF [zrv a1, ziv a2] (zk_RX3_106 _ rfl) dX3_isPushing_11 o1 (by decide) rfl rfl (Nat.le_of_ble_eq_true rfl) (Nat.le_of_ble_eq_true rfl) (Nat.le_of_ble_eq_true rfl) (Nat.le_of_ble_eq_true rfl) (Nat.le_of_ble_eq_true rfl) h (fun x3 h => ?_)
    refine z_if_eq dX3_isPushing_14 (tgt := 30) (by decide) (fun c5 => ?_) (fun c5 => ?_)
    · have h := h.1 c5
      refine z_iconst dX3_isPushing_30 ⟨by decide, by decide⟩ ?_
      exact z_retFZ dX3_isPushing_31 rfl (Or.inl rfl) h
    · have h := h.2 c5
      refine z_aload_n 0 dX3_isPushing_17 rfl ?_
      refine z_aload_n 1 dX3_isPushing_18 rfl ?_
      refine z_cVF [zrv a1] (zk_RX3_110 _ rfl) dX3_isPushing_19 o1 (by decide) rfl rfl (Nat.le_of_ble_eq_true rfl) (Nat.le_of_ble_eq_true rfl) (Nat.le_of_ble_eq_true rfl) (Nat.le_of_ble_eq_true rfl) (Nat.le_of_ble_eq_true rfl) h (fun x6 h => ?_)
      refine z_iconst dX3_isPushing_22 ⟨by decide, by decide⟩ ?_
      refine z_icmp_ne dX3_isPushing_23 (tgt := 30) (by decide) (fun c8 => ?_) (fun c8 => ?_)
      · have h := h.1 c8
        refine z_iconst dX3_isPushing_30 ⟨by decide, by decide⟩ ?_
        exact z_retFZ dX3_isPushing_31 rfl (Or.inl rfl) h
      · have h := h.2 c8
        refine z_iconst dX3_isPushing_26 ⟨by decide, by decide⟩ ?_
        refine z_goto (tgt := 31) dX3_isPushing_27 (by decide) ?_
        exact z_retFZ dX3_isPushing_31 rfl (Or.inr rfl) h
def zl_X3_firstStuckPushed_2 (E : zE) (X : zX) (F : Int → Prop) (S : zS) (a0 a1 a2 : Int) (V : zH) : Prop := Zr E X (zRoom 0 0 0) zm_X3_firstStuckPushed (zQm E X (zpF S V F) 0 0) 0 0 2 [(0, zrv a0), (1, zrv a1), (2, ziv a2)] [] S V
set_option maxRecDepth 100000 in
set_option maxHeartbeats 4000000 in
theorem wp_X3_firstStuckPushed_2 {E : zE} {X : zX} {F : Int → Prop} {S : zS} {a0 a1 a2 : Int} {V : zH}
    (h : ((S a0).1 = 6) ∧ ((V a0 3 ≤ a2) → (F (-1))) ∧ ((a2 < V a0 3) → (((S (V a0 6)).1 = 1) ∧ ((0 : Int) ≤ a2 ∧ a2 < (S (V a0 6)).2) ∧ ((V (V a0 6) a2 ≠ 3) → ((z32 (a2 + 1)) ∧ zl_X3_firstStuckPushed_2 E X F S a0 a1 (a2 + 1) V)) ∧ ((V (V a0 6) a2 = 3) → (((S a1).1 = 1) ∧ ((0 : Int) ≤ a2 ∧ a2 < (S a1).2) ∧ ((V a1 a2 = 0) → ((z32 (a2 + 1)) ∧ zl_X3_firstStuckPushed_2 E X F S a0 a1 (a2 + 1) V)) ∧ ((V a1 a2 ≠ 0) → (F a2))))))) :
    zl_X3_firstStuckPushed_2 E X F S a0 a1 a2 V := by
  unfold zl_X3_firstStuckPushed_2
  refine z_iload_n 2 dX3_firstStuckPushed_2 rfl ?_
  refine z_aload_n 0 dX3_firstStuckPushed_3 rfl ?_
  obtain ⟨o1, h⟩ := h
  refine zgf_3_3 dX3_firstStuckPushed_4 (zf_RX3_43 _ rfl) o1 ?_
  refine z_icmp_ge dX3_firstStuckPushed_7 (tgt := 34) (by decide) (fun c2 => ?_) (fun c2 => ?_)
  · have h := h.1 c2
    refine z_iconst dX3_firstStuckPushed_34 ⟨by decide, by decide⟩ ?_
    exact z_retFI dX3_firstStuckPushed_35 rfl h
  · have h := h.2 c2
    refine z_aload_n 0 dX3_firstStuckPushed_10 rfl ?_
    refine zgf_3_6 dX3_firstStuckPushed_11 (zf_RX3_25 _ rfl) o1 ?_
    refine z_iload_n 2 dX3_firstStuckPushed_14 rfl ?_
    obtain ⟨o3, h⟩ := h
    obtain ⟨o4, h⟩ := h
    refine z_iald dX3_firstStuckPushed_15 o3 o4 ?_
    refine z_iconst dX3_firstStuckPushed_16 ⟨by decide, by decide⟩ ?_
    refine z_icmp_ne dX3_firstStuckPushed_17 (tgt := 28) (by decide) (fun c5 => ?_) (fun c5 => ?_)
    · have h := h.1 c5
      obtain ⟨o6, h⟩ := h
      refine z_iinc 2 dX3_firstStuckPushed_28 rfl (by decide) o6 (L' := [(0, zrv a0), (1, zrv a1), (2, ziv (a2 + 1))]) [1, 2, 0] rfl ?_
      refine z_goto (tgt := 2) dX3_firstStuckPushed_31 (by decide) ?_
      exact h
    · have h := h.2 c5
      refine z_aload_n 1 dX3_firstStuckPushed_20 rfl ?_
      refine z_iload_n 2 dX3_firstStuckPushed_21 rfl ?_
      obtain ⟨o7, h⟩ := h
      obtain ⟨o8, h⟩ := h
      refine z_iald dX3_firstStuckPushed_22 o7 o8 ?_
      refine z_if_eq dX3_firstStuckPushed_23 (tgt := 28) (by decide) (fun c9 => ?_) (fun c9 => ?_)
      · have h := h.1 c9
        obtain ⟨o10, h⟩ := h
        refine z_iinc 2 dX3_firstStuckPushed_28 rfl (by decide) o10 (L' := [(0, zrv a0), (1, zrv a1), (2, ziv (a2 + 1))]) [1, 2, 0] rfl ?_
        refine z_goto (tgt := 2) dX3_firstStuckPushed_31 (by decide) ?_
        exact h
      · have h := h.2 c9
        refine z_iload_n 2 dX3_firstStuckPushed_26 rfl ?_
        exact z_retFI dX3_firstStuckPushed_27 rfl h
set_option maxRecDepth 100000 in
set_option maxHeartbeats 4000000 in
theorem en_X3_firstStuckPushed {E : zE} {F : Int → Prop} {S : zS} {a0 a1 : Int} {V : zH}
    (h : ∀ X : zX, zl_X3_firstStuckPushed_2 E X F S a0 a1 0 V) :
    SpF E 0 zm_X3_firstStuckPushed [zrv a0, zrv a1] S V F := by
  refine Sp.of (plainFor_of_name (by decide +kernel)) (Nat.le_of_ble_eq_true rfl) (fun hok X => ?_)
  have h := h X
  show Zr E X (zRoom 0 0 0) zm_X3_firstStuckPushed (zQm E X (zpF S V F) 0 0) 0 0 0 [(0, zrv a0), (1, zrv a1)] [] S V
  refine z_iconst dX3_firstStuckPushed_0 ⟨by decide, by decide⟩ ?_
  refine z_istore_n dX3_firstStuckPushed_1 (by decide) (L' := [(0, zrv a0), (1, zrv a1), (2, ziv 0)]) [1, 2, 0] rfl ?_
  exact h
def zl_X3_patternAt_5 (E : zE) (X : zX) (F : Int → Prop) (S : zS) (a0 a1 a2 a3 a4 : Int) (V : zH) : Prop := Zr E X (zRoom 4 0 0) zm_X3_patternAt (zQm E X (zpF S V F) 0 0) 0 0 5 [(0, zrv a0), (1, zrv a1), (2, ziv a2), (3, ziv a3), (4, ziv a4)] [] S V
set_option maxRecDepth 100000 in
set_option maxHeartbeats 4000000 in
theorem wp_X3_patternAt_5 {E : zE} {X : zX} {F : Int → Prop} {S : zS} {a0 a1 a2 a3 a4 : Int} {V : zH}
    (h : ((S a0).1 = 6) ∧ ((V a0 3 ≤ a4) → (((0 : Int) ≤ a3) ∧ ((0 : Int) < V a0 1) ∧ F (a3 % (V a0 1)))) ∧ ((a4 < V a0 3) → (((S a1).1 = 1) ∧ ((0 : Int) ≤ a4 ∧ a4 < (S a1).2) ∧ ((V a1 a4 = 0) → ((z32 (a4 + 1)) ∧ zl_X3_patternAt_5 E X F S a0 a1 a2 a3 (a4 + 1) V)) ∧ ((V a1 a4 ≠ 0) → (SpF E 3 zm_X3_stepAt [zrv a0, ziv a4, ziv a2] S V (fun x9 => (z32 ((V a1 a4) * x9)) ∧ (z32 (a3 + ((V a1 a4) * x9))) ∧ ∀ x13 : Int, x13 = a3 + ((V a1 a4) * x9) → (z32 (a4 + 1)) ∧ zl_X3_patternAt_5 E X F S a0 a1 a2 x13 (a4 + 1) V)))))) :
    zl_X3_patternAt_5 E X F S a0 a1 a2 a3 a4 V := by
  unfold zl_X3_patternAt_5
  refine z_iload 4 dX3_patternAt_5 rfl ?_
  refine z_aload_n 0 dX3_patternAt_7 rfl ?_
  obtain ⟨o1, h⟩ := h
  refine zgf_3_3 dX3_patternAt_8 (zf_RX3_43 _ rfl) o1 ?_
  refine z_icmp_ge dX3_patternAt_11 (tgt := 42) (by decide) (fun c2 => ?_) (fun c2 => ?_)
  · have h := h.1 c2
    refine z_iload_n 3 dX3_patternAt_42 rfl ?_
    refine z_aload_n 0 dX3_patternAt_43 rfl ?_
    refine zgf_3_1 dX3_patternAt_44 (zf_RX3_15 _ rfl) o1 ?_
    obtain ⟨o3, h⟩ := h
    obtain ⟨o4, h⟩ := h
    refine z_irem dX3_patternAt_47 o3 o4 ?_
    exact z_retFI dX3_patternAt_48 rfl h
  · have h := h.2 c2
    refine z_aload_n 1 dX3_patternAt_14 rfl ?_
    refine z_iload 4 dX3_patternAt_15 rfl ?_
    obtain ⟨o5, h⟩ := h
    obtain ⟨o6, h⟩ := h
    refine z_iald dX3_patternAt_17 o5 o6 ?_
    refine z_if_eq dX3_patternAt_18 (tgt := 36) (by decide) (fun c7 => ?_) (fun c7 => ?_)
    · have h := h.1 c7
      obtain ⟨o8, h⟩ := h
      refine z_iinc 4 dX3_patternAt_36 rfl (by decide) o8 (L' := [(0, zrv a0), (1, zrv a1), (2, ziv a2), (3, ziv a3), (4, ziv (a4 + 1))]) [1, 2, 3, 4, 0] rfl ?_
      refine z_goto (tgt := 5) dX3_patternAt_39 (by decide) ?_
      exact h
    · have h := h.2 c7
      refine z_iload_n 3 dX3_patternAt_21 rfl ?_
      refine z_aload_n 1 dX3_patternAt_22 rfl ?_
      refine z_iload 4 dX3_patternAt_23 rfl ?_
      refine z_iald dX3_patternAt_25 o5 o6 ?_
      refine z_aload_n 0 dX3_patternAt_26 rfl ?_
      refine z_iload 4 dX3_patternAt_27 rfl ?_
      refine z_iload_n 2 dX3_patternAt_29 rfl ?_
      refine z_cVF [ziv a4, ziv a2] (zk_RX3_93 _ rfl) dX3_patternAt_30 o1 (by decide) rfl rfl (Nat.le_of_ble_eq_true rfl) (Nat.le_of_ble_eq_true rfl) (Nat.le_of_ble_eq_true rfl) (Nat.le_of_ble_eq_true rfl) (Nat.le_of_ble_eq_true rfl) h (fun x9 h => ?_)
      obtain ⟨o11, h⟩ := h
      refine z_imul dX3_patternAt_33 o11 ?_
      obtain ⟨o12, h⟩ := h
      refine z_iadd dX3_patternAt_34 o12 ?_
      refine z_nameI (fun x13 e14 => ?_)
      have h := h x13 e14
      refine z_istore_n dX3_patternAt_35 (by decide) (L' := [(0, zrv a0), (1, zrv a1), (2, ziv a2), (3, ziv x13), (4, ziv a4)]) [1, 2, 3, 0, 4] rfl ?_
      obtain ⟨o15, h⟩ := h
      refine z_iinc 4 dX3_patternAt_36 rfl (by decide) o15 (L' := [(0, zrv a0), (1, zrv a1), (2, ziv a2), (3, ziv x13), (4, ziv (a4 + 1))]) [1, 2, 3, 4, 0] rfl ?_
      refine z_goto (tgt := 5) dX3_patternAt_39 (by decide) ?_
      exact h
set_option maxRecDepth 100000 in
set_option maxHeartbeats 4000000 in
theorem en_X3_patternAt {E : zE} {F : Int → Prop} {S : zS} {a0 a1 a2 : Int} {V : zH}
    (h : z32 a2 → ∀ X : zX, zl_X3_patternAt_5 E X F S a0 a1 a2 0 0 V) :
    SpF E 4 zm_X3_patternAt [zrv a0, zrv a1, ziv a2] S V F := by
  refine Sp.of (plainFor_of_name (by decide +kernel)) (Nat.le_of_ble_eq_true rfl) (fun hok X => ?_)
  have h := h (hok _ (List.mem_cons_of_mem _ (List.mem_cons_of_mem _ (List.mem_cons_self)))) X
  show Zr E X (zRoom 4 0 0) zm_X3_patternAt (zQm E X (zpF S V F) 0 0) 0 0 0 [(0, zrv a0), (1, zrv a1), (2, ziv a2)] [] S V
  refine z_iconst dX3_patternAt_0 ⟨by decide, by decide⟩ ?_
  refine z_istore_n dX3_patternAt_1 (by decide) (L' := [(0, zrv a0), (1, zrv a1), (2, ziv a2), (3, ziv 0)]) [1, 2, 3, 0] rfl ?_
  refine z_iconst dX3_patternAt_2 ⟨by decide, by decide⟩ ?_
  refine z_istore dX3_patternAt_3 (by decide) (L' := [(0, zrv a0), (1, zrv a1), (2, ziv a2), (3, ziv 0), (4, ziv 0)]) [1, 2, 3, 4, 0] rfl ?_
  exact h
def zl_X3_weighSteps_5 (E : zE) (X : zX) (F : Int → Prop) (S : zS) (a0 a1 a2 a3 a4 : Int) (V : zH) : Prop := Zr E X (zRoom 4 0 0) zm_X3_weighSteps (zQm E X (zpF S V F) 0 0) 0 0 5 [(0, zrv a0), (1, zrv a1), (2, ziv a2), (3, ziv a3), (4, ziv a4)] [] S V
set_option maxRecDepth 100000 in
set_option maxHeartbeats 4000000 in
theorem wp_X3_weighSteps_5 {E : zE} {X : zX} {F : Int → Prop} {S : zS} {a0 a1 a2 a3 a4 : Int} {V : zH}
    (h : ((S a0).1 = 6) ∧ ((V a0 0 ≤ a4) → (((0 : Int) ≤ a3) ∧ ((0 : Int) < V a0 1) ∧ F (a3 % (V a0 1)))) ∧ ((a4 < V a0 0) → (((S a1).1 = 1) ∧ ((0 : Int) ≤ a4 ∧ a4 < (S a1).2) ∧ ((V a1 a4 = 0) → ((z32 (a4 + 1)) ∧ zl_X3_weighSteps_5 E X F S a0 a1 a2 a3 (a4 + 1) V)) ∧ ((V a1 a4 ≠ 0) → (SpF E 3 zm_X3_stepAt [zrv a0, ziv a2, ziv a4] S V (fun x9 => (z32 ((V a1 a4) * x9)) ∧ (z32 (a3 + ((V a1 a4) * x9))) ∧ ∀ x13 : Int, x13 = a3 + ((V a1 a4) * x9) → (z32 (a4 + 1)) ∧ zl_X3_weighSteps_5 E X F S a0 a1 a2 x13 (a4 + 1) V)))))) :
    zl_X3_weighSteps_5 E X F S a0 a1 a2 a3 a4 V := by
  unfold zl_X3_weighSteps_5
  refine z_iload 4 dX3_weighSteps_5 rfl ?_
  refine z_aload_n 0 dX3_weighSteps_7 rfl ?_
  obtain ⟨o1, h⟩ := h
  refine zgf_3_0 dX3_weighSteps_8 (zf_RX3_9 _ rfl) o1 ?_
  refine z_icmp_ge dX3_weighSteps_11 (tgt := 42) (by decide) (fun c2 => ?_) (fun c2 => ?_)
  · have h := h.1 c2
    refine z_iload_n 3 dX3_weighSteps_42 rfl ?_
    refine z_aload_n 0 dX3_weighSteps_43 rfl ?_
    refine zgf_3_1 dX3_weighSteps_44 (zf_RX3_15 _ rfl) o1 ?_
    obtain ⟨o3, h⟩ := h
    obtain ⟨o4, h⟩ := h
    refine z_irem dX3_weighSteps_47 o3 o4 ?_
    exact z_retFI dX3_weighSteps_48 rfl h
  · have h := h.2 c2
    refine z_aload_n 1 dX3_weighSteps_14 rfl ?_
    refine z_iload 4 dX3_weighSteps_15 rfl ?_
    obtain ⟨o5, h⟩ := h
    obtain ⟨o6, h⟩ := h
    refine z_iald dX3_weighSteps_17 o5 o6 ?_
    refine z_if_eq dX3_weighSteps_18 (tgt := 36) (by decide) (fun c7 => ?_) (fun c7 => ?_)
    · have h := h.1 c7
      obtain ⟨o8, h⟩ := h
      refine z_iinc 4 dX3_weighSteps_36 rfl (by decide) o8 (L' := [(0, zrv a0), (1, zrv a1), (2, ziv a2), (3, ziv a3), (4, ziv (a4 + 1))]) [1, 2, 3, 4, 0] rfl ?_
      refine z_goto (tgt := 5) dX3_weighSteps_39 (by decide) ?_
      exact h
    · have h := h.2 c7
      refine z_iload_n 3 dX3_weighSteps_21 rfl ?_
      refine z_aload_n 1 dX3_weighSteps_22 rfl ?_
      refine z_iload 4 dX3_weighSteps_23 rfl ?_
      refine z_iald dX3_weighSteps_25 o5 o6 ?_
      refine z_aload_n 0 dX3_weighSteps_26 rfl ?_
      refine z_iload_n 2 dX3_weighSteps_27 rfl ?_
      refine z_iload 4 dX3_weighSteps_28 rfl ?_
      refine z_cVF [ziv a2, ziv a4] (zk_RX3_93 _ rfl) dX3_weighSteps_30 o1 (by decide) rfl rfl (Nat.le_of_ble_eq_true rfl) (Nat.le_of_ble_eq_true rfl) (Nat.le_of_ble_eq_true rfl) (Nat.le_of_ble_eq_true rfl) (Nat.le_of_ble_eq_true rfl) h (fun x9 h => ?_)
      obtain ⟨o11, h⟩ := h
      refine z_imul dX3_weighSteps_33 o11 ?_
      obtain ⟨o12, h⟩ := h
      refine z_iadd dX3_weighSteps_34 o12 ?_
      refine z_nameI (fun x13 e14 => ?_)
      have h := h x13 e14
      refine z_istore_n dX3_weighSteps_35 (by decide) (L' := [(0, zrv a0), (1, zrv a1), (2, ziv a2), (3, ziv x13), (4, ziv a4)]) [1, 2, 3, 0, 4] rfl ?_
      obtain ⟨o15, h⟩ := h
      refine z_iinc 4 dX3_weighSteps_36 rfl (by decide) o15 (L' := [(0, zrv a0), (1, zrv a1), (2, ziv a2), (3, ziv x13), (4, ziv (a4 + 1))]) [1, 2, 3, 4, 0] rfl ?_
      refine z_goto (tgt := 5) dX3_weighSteps_39 (by decide) ?_
      exact h
set_option maxRecDepth 100000 in
set_option maxHeartbeats 4000000 in
theorem en_X3_weighSteps {E : zE} {F : Int → Prop} {S : zS} {a0 a1 a2 : Int} {V : zH}
    (h : z32 a2 → ∀ X : zX, zl_X3_weighSteps_5 E X F S a0 a1 a2 0 0 V) :
    SpF E 4 zm_X3_weighSteps [zrv a0, zrv a1, ziv a2] S V F := by
  refine Sp.of (plainFor_of_name (by decide +kernel)) (Nat.le_of_ble_eq_true rfl) (fun hok X => ?_)
  have h := h (hok _ (List.mem_cons_of_mem _ (List.mem_cons_of_mem _ (List.mem_cons_self)))) X
  show Zr E X (zRoom 4 0 0) zm_X3_weighSteps (zQm E X (zpF S V F) 0 0) 0 0 0 [(0, zrv a0), (1, zrv a1), (2, ziv a2)] [] S V
  refine z_iconst dX3_weighSteps_0 ⟨by decide, by decide⟩ ?_
  refine z_istore_n dX3_weighSteps_1 (by decide) (L' := [(0, zrv a0), (1, zrv a1), (2, ziv a2), (3, ziv 0)]) [1, 2, 3, 0] rfl ?_
  refine z_iconst dX3_weighSteps_2 ⟨by decide, by decide⟩ ?_
  refine z_istore dX3_weighSteps_3 (by decide) (L' := [(0, zrv a0), (1, zrv a1), (2, ziv a2), (3, ziv 0), (4, ziv 0)]) [1, 2, 3, 4, 0] rfl ?_
  exact h
def zl_X3_weighShown_5 (E : zE) (X : zX) (F : Int → Prop) (S : zS) (a0 a1 a2 a3 a4 : Int) (V : zH) : Prop := Zr E X (zRoom 0 0 0) zm_X3_weighShown (zQm E X (zpF S V F) 0 0) 0 0 5 [(0, zrv a0), (1, zrv a1), (2, ziv a2), (3, ziv a3), (4, ziv a4)] [] S V
set_option maxRecDepth 100000 in
set_option maxHeartbeats 4000000 in
theorem wp_X3_weighShown_5 {E : zE} {X : zX} {F : Int → Prop} {S : zS} {a0 a1 a2 a3 a4 : Int} {V : zH}
    (h : ((S a0).1 = 6) ∧ ((V a0 0 ≤ a4) → (((0 : Int) ≤ a3) ∧ ((0 : Int) < V a0 1) ∧ F (a3 % (V a0 1)))) ∧ ((a4 < V a0 0) → ((z32 (a2 + a4)) ∧ ((S a1).1 = 1) ∧ ((0 : Int) ≤ a2 + a4 ∧ a2 + a4 < (S a1).2) ∧ ((S (V a0 5)).1 = 1) ∧ ((0 : Int) ≤ a4 ∧ a4 < (S (V a0 5)).2) ∧ (z32 ((V a1 (a2 + a4)) * (V (V a0 5) a4))) ∧ (z32 (a3 + ((V a1 (a2 + a4)) * (V (V a0 5) a4)))) ∧ ∀ x12 : Int, x12 = a3 + ((V a1 (a2 + a4)) * (V (V a0 5) a4)) → (z32 (a4 + 1)) ∧ zl_X3_weighShown_5 E X F S a0 a1 a2 x12 (a4 + 1) V))) :
    zl_X3_weighShown_5 E X F S a0 a1 a2 a3 a4 V := by
  unfold zl_X3_weighShown_5
  refine z_iload 4 dX3_weighShown_5 rfl ?_
  refine z_aload_n 0 dX3_weighShown_7 rfl ?_
  obtain ⟨o1, h⟩ := h
  refine zgf_3_0 dX3_weighShown_8 (zf_RX3_9 _ rfl) o1 ?_
  refine z_icmp_ge dX3_weighShown_11 (tgt := 37) (by decide) (fun c2 => ?_) (fun c2 => ?_)
  · have h := h.1 c2
    refine z_iload_n 3 dX3_weighShown_37 rfl ?_
    refine z_aload_n 0 dX3_weighShown_38 rfl ?_
    refine zgf_3_1 dX3_weighShown_39 (zf_RX3_15 _ rfl) o1 ?_
    obtain ⟨o3, h⟩ := h
    obtain ⟨o4, h⟩ := h
    refine z_irem dX3_weighShown_42 o3 o4 ?_
    exact z_retFI dX3_weighShown_43 rfl h
  · have h := h.2 c2
    refine z_iload_n 3 dX3_weighShown_14 rfl ?_
    refine z_aload_n 1 dX3_weighShown_15 rfl ?_
    refine z_iload_n 2 dX3_weighShown_16 rfl ?_
    refine z_iload 4 dX3_weighShown_17 rfl ?_
    obtain ⟨o5, h⟩ := h
    refine z_iadd dX3_weighShown_19 o5 ?_
    obtain ⟨o6, h⟩ := h
    obtain ⟨o7, h⟩ := h
    refine z_iald dX3_weighShown_20 o6 o7 ?_
    refine z_aload_n 0 dX3_weighShown_21 rfl ?_
    refine zgf_3_5 dX3_weighShown_22 (zf_RX3_21 _ rfl) o1 ?_
    refine z_iload 4 dX3_weighShown_25 rfl ?_
    obtain ⟨o8, h⟩ := h
    obtain ⟨o9, h⟩ := h
    refine z_iald dX3_weighShown_27 o8 o9 ?_
    obtain ⟨o10, h⟩ := h
    refine z_imul dX3_weighShown_28 o10 ?_
    obtain ⟨o11, h⟩ := h
    refine z_iadd dX3_weighShown_29 o11 ?_
    refine z_nameI (fun x12 e13 => ?_)
    have h := h x12 e13
    refine z_istore_n dX3_weighShown_30 (by decide) (L' := [(0, zrv a0), (1, zrv a1), (2, ziv a2), (3, ziv x12), (4, ziv a4)]) [1, 2, 3, 0, 4] rfl ?_
    obtain ⟨o14, h⟩ := h
    refine z_iinc 4 dX3_weighShown_31 rfl (by decide) o14 (L' := [(0, zrv a0), (1, zrv a1), (2, ziv a2), (3, ziv x12), (4, ziv (a4 + 1))]) [1, 2, 3, 4, 0] rfl ?_
    refine z_goto (tgt := 5) dX3_weighShown_34 (by decide) ?_
    exact h
set_option maxRecDepth 100000 in
set_option maxHeartbeats 4000000 in
theorem en_X3_weighShown {E : zE} {F : Int → Prop} {S : zS} {a0 a1 a2 : Int} {V : zH}
    (h : z32 a2 → ∀ X : zX, zl_X3_weighShown_5 E X F S a0 a1 a2 0 0 V) :
    SpF E 0 zm_X3_weighShown [zrv a0, zrv a1, ziv a2] S V F := by
  refine Sp.of (plainFor_of_name (by decide +kernel)) (Nat.le_of_ble_eq_true rfl) (fun hok X => ?_)
  have h := h (hok _ (List.mem_cons_of_mem _ (List.mem_cons_of_mem _ (List.mem_cons_self)))) X
  show Zr E X (zRoom 0 0 0) zm_X3_weighShown (zQm E X (zpF S V F) 0 0) 0 0 0 [(0, zrv a0), (1, zrv a1), (2, ziv a2)] [] S V
  refine z_iconst dX3_weighShown_0 ⟨by decide, by decide⟩ ?_
  refine z_istore_n dX3_weighShown_1 (by decide) (L' := [(0, zrv a0), (1, zrv a1), (2, ziv a2), (3, ziv 0)]) [1, 2, 3, 0] rfl ?_
  refine z_iconst dX3_weighShown_2 ⟨by decide, by decide⟩ ?_
  refine z_istore dX3_weighShown_3 (by decide) (L' := [(0, zrv a0), (1, zrv a1), (2, ziv a2), (3, ziv 0), (4, ziv 0)]) [1, 2, 3, 4, 0] rfl ?_
  exact h
