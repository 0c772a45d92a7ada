set_option maxRecDepth 100000 in
set_option maxHeartbeats 4000000 in
theorem en_X2_init {E : zE} {F : zS → zH → Prop} {mc ms : Nat} {S : zS} {a0 : Int} {V : zH}
    (h : ((S a0).1 = 5) ∧ (0 < a0) ∧ (0 + 1 ≤ mc ∧ 0 + 60 ≤ ms) ∧ ∀ r4 : Int, 0 < r4 → ((S r4).1 = 0 ∧ ∀ q : Int, (S q).1 ≠ 0 → q < r4 ∧ (S (r4 - 1)).1 ≠ 0) → ∀ (S7 : zS) (V8 : zH), S7 = zSn S r4 (1, 60) → V8 = zVn V r4 → ∀ V13 : zH, V13 = zput V8 a0 2 r4 → (0 + 1 + 1 ≤ mc ∧ 0 + 60 + 60 ≤ ms) ∧ ∀ r16 : Int, 0 < r16 → ((S7 r16).1 = 0 ∧ ∀ q : Int, (S7 q).1 ≠ 0 → q < r16 ∧ (S7 (r16 - 1)).1 ≠ 0) → ∀ (S19 : zS) (V20 : zH), S19 = zSn S7 r16 (1, 60) → V20 = zVn V13 r16 → ∀ V26 : zH, V26 = zput V20 a0 3 r16 → (0 + 1 + 1 + 1 ≤ mc ∧ 0 + 60 + 60 + 2160 ≤ ms) ∧ ∀ r29 : Int, 0 < r29 → ((S19 r29).1 = 0 ∧ ∀ q : Int, (S19 q).1 ≠ 0 → q < r29 ∧ (S19 (r29 - 1)).1 ≠ 0) → ∀ (S32 : zS) (V33 : zH), S32 = zSn S19 r29 (1, 2160) → V33 = zVn V26 r29 → ∀ V40 : zH, V40 = zput V33 a0 4 r29 → (0 + 1 + 1 + 1 ≤ mc ∧ 0 + 60 + 60 + 2160 ≤ ms) ∧ F S32 V40) :
    SaV E 1 mc ms zm_X2_init [zrv a0] S V F := by
  refine Sp.of (plainFor_of_name (by decide +kernel)) (Nat.le_of_ble_eq_true rfl) (fun hok X => ?_)
  have h := h
  show Zr E X (zRoom 1 mc ms) zm_X2_init (zQm E X (zaV F) mc ms) 0 0 0 [(0, zrv a0)] [] S V
  refine z_aload_n 0 dX2_init_0 rfl ?_
  obtain ⟨o1, h⟩ := h
  obtain ⟨o2, h⟩ := h
  refine z_objInit dX2_init_1 (zk_RX2_3 _ rfl) zw_oi1 zw_oi2 o2 (Nat.le_of_ble_eq_true rfl) (Nat.le_of_ble_eq_true rfl) (Nat.le_of_ble_eq_true rfl) ?_
  refine z_aload_n 0 dX2_init_4 rfl ?_
  refine z_bipush dX2_init_5 ⟨by decide, by decide⟩ (by decide) ?_
  obtain ⟨o3, h⟩ := h
  refine z_newi dX2_init_7 zw_arri (by decide) (by decide) o3.1 o3.2 (fun r4 q5 f6 => ?_)
  refine z_nameS (fun S7 V8 e9 e10 => ?_)
  have h := h r4 q5 f6 S7 V8 e9 e10
  have o11 : (S7 a0).1 = 5 := zSn_k e9 o1 f6.1 (by decide)
  have o12 : (S7 r4).1 = 1 := zSn_r e9
  refine zpf_2_2 rfl rfl dX2_init_9 (zf_RX2_11 _ rfl) o11 ?_
  refine z_nameV (fun V13 e14 => ?_)
  have h := h V13 e14
  refine z_aload_n 0 dX2_init_12 rfl ?_
  refine z_bipush dX2_init_13 ⟨by decide, by decide⟩ (by decide) ?_
  obtain ⟨o15, h⟩ := h
  refine z_newi dX2_init_15 zw_arri (by decide) (by decide) o15.1 o15.2 (fun r16 q17 f18 => ?_)
  refine z_nameS (fun S19 V20 e21 e22 => ?_)
  have h := h r16 q17 f18 S19 V20 e21 e22
  have o23 : (S19 a0).1 = 5 := zSn_k e21 o11 f18.1 (by decide)
  have o24 : (S19 r4).1 = 1 := zSn_k e21 o12 f18.1 (by decide)
  have o25 : (S19 r16).1 = 1 := zSn_r e21
  refine zpf_2_3 rfl rfl dX2_init_17 (zf_RX2_15 _ rfl) o23 ?_
  refine z_nameV (fun V26 e27 => ?_)
  have h := h V26 e27
  refine z_aload_n 0 dX2_init_20 rfl ?_
  refine z_sipush dX2_init_21 ⟨by decide, by decide⟩ (by decide) ?_
  obtain ⟨o28, h⟩ := h
  refine z_newi dX2_init_24 zw_arri (by decide) (by decide) o28.1 o28.2 (fun r29 q30 f31 => ?_)
  refine z_nameS (fun S32 V33 e34 e35 => ?_)
  have h := h r29 q30 f31 S32 V33 e34 e35
  have o36 : (S32 a0).1 = 5 := zSn_k e34 o23 f31.1 (by decide)
  have o37 : (S32 r4).1 = 1 := zSn_k e34 o24 f31.1 (by decide)
  have o38 : (S32 r16).1 = 1 := zSn_k e34 o25 f31.1 (by decide)
  have o39 : (S32 r29).1 = 1 := zSn_r e34
  refine zpf_2_4 rfl rfl dX2_init_26 (zf_RX2_18 _ rfl) o36 ?_
  refine z_nameV (fun V40 e41 => ?_)
  have h := h V40 e41
  obtain ⟨o42, h⟩ := h
  exact z_retaV dX2_init_29 rfl o42.1 o42.2 h
def zl_X2_note_104 (E : zE) (X : zX) (F : zH → Prop) (S : zS) (a0 : Int) (V : zH) : Prop := Zr E X (zRoom 1 0 0) zm_X2_note (zQm E X (zpV S F) 0 0) 0 0 104 [(0, zrv a0)] [] S V
set_option maxRecDepth 100000 in
set_option maxHeartbeats 4000000 in
theorem wp_X2_note_104 {E : zE} {X : zX} {F : zH → Prop} {S : zS} {a0 : Int} {V : zH}
    (h : ((S a0).1 = 5) ∧ (z32 ((V a0 1) + 1)) ∧ ((0 : Int) ≤ (V a0 1) + 1) ∧ ∀ V4 : zH, V4 = zput V a0 1 (((V a0 1) + 1) % 60) → (z32 ((V a0 0) + 1)) ∧ SpF E 0 zm_J9_min_7cf53 [ziv ((V a0 0) + 1), ziv 60] S V4 (fun x7 => ∀ V9 : zH, V9 = zput V4 a0 0 x7 → F V9)) :
    zl_X2_note_104 E X F S a0 V := by
  unfold zl_X2_note_104
  refine z_aload_n 0 dX2_note_104 rfl ?_
  refine z_aload_n 0 dX2_note_105 rfl ?_
  obtain ⟨o1, h⟩ := h
  refine zgf_2_1 dX2_note_106 (zf_RX2_21 _ rfl) o1 ?_
  refine z_iconst dX2_note_109 ⟨by decide, by decide⟩ ?_
  obtain ⟨o2, h⟩ := h
  refine z_iadd dX2_note_110 o2 ?_
  refine z_bipush dX2_note_111 ⟨by decide, by decide⟩ (by decide) ?_
  obtain ⟨o3, h⟩ := h
  refine z_irem dX2_note_113 o3 (by decide) ?_
  refine zpf_2_1 dX2_note_114 (zf_RX2_21 _ rfl) o1 ?_
  refine z_nameV (fun V4 e5 => ?_)
  have h := h V4 e5
  refine z_aload_n 0 dX2_note_117 rfl ?_
  refine z_aload_n 0 dX2_note_118 rfl ?_
  refine zgf_2_0 dX2_note_119 (zf_RX2_42 _ rfl) o1 ?_
  refine z_topI (zfr_j e5 (by decide)) ?_
  refine z_iconst dX2_note_122 ⟨by decide, by decide⟩ ?_
  obtain ⟨o6, h⟩ := h
  refine z_iadd dX2_note_123 o6 ?_
  refine z_bipush dX2_note_124 ⟨by decide, by decide⟩ (by decide) ?_
  refine z_cSF [ziv ((V a0 0) + 1), ziv 60] (zk_RX2_45 _ rfl) dX2_note_126 rfl rfl (Nat.le_of_ble_eq_true rfl) (Nat.le_of_ble_eq_true rfl) (Nat.le_of_ble_eq_true rfl) (Nat.le_of_ble_eq_true rfl) (Nat.le_of_ble_eq_true rfl) h (fun x7 h => ?_)
  refine zpf_2_0 dX2_note_129 (zf_RX2_42 _ rfl) o1 ?_
  refine z_nameV (fun V9 e10 => ?_)
  have h := h V9 e10
  exact z_retV dX2_note_132 rfl h
set_option maxRecDepth 100000 in
set_option maxHeartbeats 4000000 in
theorem en_X2_note {E : zE} {F : zH → Prop} {S : zS} {a0 a1 a2 a3 : Int} {V : zH}
    (h : z32 a2 → z32 a3 → ∀ X : zX, ((S a0).1 = 5) ∧ ((S (V a0 2)).1 = 1) ∧ ((0 : Int) ≤ V a0 1 ∧ V a0 1 < (S (V a0 2)).2) ∧ ∀ V4 : zH, V4 = zput V (V a0 2) (V a0 1) a2 → ((S (V a0 3)).1 = 1) ∧ ((0 : Int) ≤ V a0 1 ∧ V a0 1 < (S (V a0 3)).2) ∧ ∀ V8 : zH, V8 = zput V4 (V a0 3) (V a0 1) a3 → ((a2 ≠ 3) → (((a2 ≠ 1) → (((a2 ≠ 2) → (zl_X2_note_104 E X F S a0 V8)) ∧ ((a2 = 2) → ((z32 ((V a0 1) * 36)) ∧ ((S a1).1 = 6) ∧ ((S (V a1 10)).1 = 1) ∧ ((0 : Int) ≤ a3 ∧ a3 < (S (V a1 10)).2) ∧ ((S (V a0 4)).1 = 1) ∧ ((0 : Int) ≤ (V a0 1) * 36 ∧ (V a0 1) * 36 < (S (V a0 4)).2) ∧ ∀ V19 : zH, V19 = zput V8 (V a0 4) ((V a0 1) * 36) (V8 (V a1 10) a3) → zl_X2_note_104 E X F S a0 V19)))) ∧ ((a2 = 1) → (((S a1).1 = 6) ∧ (z32 (a3 * 36)) ∧ (z32 ((V a0 1) * 36)) ∧ ((S (V a1 11)).1 = 1) ∧ ((S (V a0 4)).1 = 1) ∧ ((0 : Int) ≤ a3 * 36 ∧ (0 : Int) ≤ (V a0 1) * 36 ∧ (0 : Int) ≤ 36 ∧ (a3 * 36) + 36 ≤ (S (V a1 11)).2 ∧ ((V a0 1) * 36) + 36 ≤ (S (V a0 4)).2) ∧ ∀ V27 : zH, V27 = zcpy V8 (V a1 11) (a3 * 36) (V a0 4) ((V a0 1) * 36) 36 → zl_X2_note_104 E X F S a0 V27)))) ∧ ((a2 = 3) → (((S a1).1 = 6) ∧ (z32 ((V a0 1) * 36)) ∧ ((S (V a1 5)).1 = 1) ∧ ((S (V a0 4)).1 = 1) ∧ ((0 : Int) ≤ 0 ∧ (0 : Int) ≤ (V a0 1) * 36 ∧ (0 : Int) ≤ 36 ∧ 0 + 36 ≤ (S (V a1 5)).2 ∧ ((V a0 1) * 36) + 36 ≤ (S (V a0 4)).2) ∧ ∀ V34 : zH, V34 = zcpy V8 (V a1 5) 0 (V a0 4) ((V a0 1) * 36) 36 → zl_X2_note_104 E X F S a0 V34))) :
    SpV E 1 zm_X2_note [zrv a0, zrv a1, ziv a2, ziv a3] S V F := by
  refine Sp.of (plainFor_of_name (by decide +kernel)) (Nat.le_of_ble_eq_true rfl) (fun hok X => ?_)
  have h := h (hok _ (List.mem_cons_of_mem _ (List.mem_cons_of_mem _ (List.mem_cons_self)))) (hok _ (List.mem_cons_of_mem _ (List.mem_cons_of_mem _ (List.mem_cons_of_mem _ (List.mem_cons_self))))) X
  show Zr E X (zRoom 1 0 0) zm_X2_note (zQm E X (zpV S F) 0 0) 0 0 0 [(0, zrv a0), (1, zrv a1), (2, ziv a2), (3, ziv a3)] [] S V
  refine z_aload_n 0 dX2_note_0 rfl ?_
  obtain ⟨o1, h⟩ := h
  refine zgf_2_2 dX2_note_1 (zf_RX2_11 _ rfl) o1 ?_
  refine z_aload_n 0 dX2_note_4 rfl ?_
  refine zgf_2_1 dX2_note_5 (zf_RX2_21 _ rfl) o1 ?_
  refine z_iload_n 2 dX2_note_8 rfl ?_
  obtain ⟨o2, h⟩ := h
  obtain ⟨o3, h⟩ := h
  refine z_iast dX2_note_9 o2 o3 ?_
  refine z_nameV (fun V4 e5 => ?_)
  have h := h V4 e5
  refine z_aload_n 0 dX2_note_10 rfl ?_
  refine zgf_2_3 dX2_note_11 (zf_RX2_15 _ rfl) o1 ?_
  refine z_topR (zfr_k e5 o2 o1 (by decide)) ?_
  refine z_aload_n 0 dX2_note_14 rfl ?_
  refine zgf_2_1 dX2_note_15 (zf_RX2_21 _ rfl) o1 ?_
  refine z_topI (zfr_k e5 o2 o1 (by decide)) ?_
  refine z_iload_n 3 dX2_note_18 rfl ?_
  obtain ⟨o6, h⟩ := h
  obtain ⟨o7, h⟩ := h
  refine z_iast dX2_note_19 o6 o7 ?_
  refine z_nameV (fun V8 e9 => ?_)
  have h := h V8 e9
  refine z_iload_n 2 dX2_note_20 rfl ?_
  refine z_iconst dX2_note_21 ⟨by decide, by decide⟩ ?_
  refine z_icmp_ne dX2_note_22 (tgt := 49) (by decide) (fun c10 => ?_) (fun c10 => ?_)
  · have h := h.1 c10
    refine z_iload_n 2 dX2_note_49 rfl ?_
    refine z_iconst dX2_note_50 ⟨by decide, by decide⟩ ?_
    refine z_icmp_ne dX2_note_51 (tgt := 81) (by decide) (fun c11 => ?_) (fun c11 => ?_)
    · have h := h.1 c11
      refine z_iload_n 2 dX2_note_81 rfl ?_
      refine z_iconst dX2_note_82 ⟨by decide, by decide⟩ ?_
      refine z_icmp_ne dX2_note_83 (tgt := 104) (by decide) (fun c12 => ?_) (fun c12 => ?_)
      · have h := h.1 c12
        refine z_loc (L' := [(0, zrv a0)]) [0] rfl ?_
        exact h
      · have h := h.2 c12
        refine z_aload_n 0 dX2_note_86 rfl ?_
        refine zgf_2_4 dX2_note_87 (zf_RX2_18 _ rfl) o1 ?_
        refine z_topR ((zfr_k e9 o6 o1 (by decide)).trans (zfr_k e5 o2 o1 (by decide))) ?_
        refine z_aload_n 0 dX2_note_90 rfl ?_
        refine zgf_2_1 dX2_note_91 (zf_RX2_21 _ rfl) o1 ?_
        refine z_topI ((zfr_k e9 o6 o1 (by decide)).trans (zfr_k e5 o2 o1 (by decide))) ?_
        refine z_bipush dX2_note_94 ⟨by decide, by decide⟩ (by decide) ?_
        obtain ⟨o13, h⟩ := h
        refine z_imul dX2_note_96 o13 ?_
        refine z_aload_n 1 dX2_note_97 rfl ?_
        obtain ⟨o14, h⟩ := h
        refine zgf_3_10 dX2_note_98 (zf_RX2_39 _ rfl) o14 ?_
        refine z_topR ((zfr_k e9 o6 o14 (by decide)).trans (zfr_k e5 o2 o14 (by decide))) ?_
        refine z_iload_n 3 dX2_note_101 rfl ?_
        obtain ⟨o15, h⟩ := h
        obtain ⟨o16, h⟩ := h
        refine z_iald dX2_note_102 o15 o16 ?_
        obtain ⟨o17, h⟩ := h
        obtain ⟨o18, h⟩ := h
        refine z_iast dX2_note_103 o17 o18 ?_
        refine z_nameV (fun V19 e20 => ?_)
        have h := h V19 e20
        refine z_loc (L' := [(0, zrv a0)]) [0] rfl ?_
        exact h
    · have h := h.2 c11
      refine z_aload_n 1 dX2_note_54 rfl ?_
      obtain ⟨o21, h⟩ := h
      refine zgf_3_11 dX2_note_55 (zf_RX2_36 _ rfl) o21 ?_
      refine z_topR ((zfr_k e9 o6 o21 (by decide)).trans (zfr_k e5 o2 o21 (by decide))) ?_
      refine z_iload_n 3 dX2_note_58 rfl ?_
      refine z_bipush dX2_note_59 ⟨by decide, by decide⟩ (by decide) ?_
      obtain ⟨o22, h⟩ := h
      refine z_imul dX2_note_61 o22 ?_
      refine z_aload_n 0 dX2_note_62 rfl ?_
      refine zgf_2_4 dX2_note_63 (zf_RX2_18 _ rfl) o1 ?_
      refine z_topR ((zfr_k e9 o6 o1 (by decide)).trans (zfr_k e5 o2 o1 (by decide))) ?_
      refine z_aload_n 0 dX2_note_66 rfl ?_
      refine zgf_2_1 dX2_note_67 (zf_RX2_21 _ rfl) o1 ?_
      refine z_topI ((zfr_k e9 o6 o1 (by decide)).trans (zfr_k e5 o2 o1 (by decide))) ?_
      refine z_bipush dX2_note_70 ⟨by decide, by decide⟩ (by decide) ?_
      obtain ⟨o23, h⟩ := h
      refine z_imul dX2_note_72 o23 ?_
      refine z_bipush dX2_note_73 ⟨by decide, by decide⟩ (by decide) ?_
      obtain ⟨o24, h⟩ := h
      obtain ⟨o25, h⟩ := h
      obtain ⟨o26, h⟩ := h
      refine z_copy dX2_note_75 (zk_RX2_30 _ rfl) zw_copy o24 o25 o26 (Nat.le_of_ble_eq_true rfl) (Nat.le_of_ble_eq_true rfl) (Nat.le_of_ble_eq_true rfl) ?_
      refine z_nameV (fun V27 e28 => ?_)
      have h := h V27 e28
      refine z_goto (tgt := 104) dX2_note_78 (by decide) ?_
      refine z_loc (L' := [(0, zrv a0)]) [0] rfl ?_
      exact h
  · have h := h.2 c10
    refine z_aload_n 1 dX2_note_25 rfl ?_
    obtain ⟨o29, h⟩ := h
    refine zgf_3_5 dX2_note_26 (zf_RX2_25 _ rfl) o29 ?_
    refine z_topR ((zfr_k e9 o6 o29 (by decide)).trans (zfr_k e5 o2 o29 (by decide))) ?_
    refine z_iconst dX2_note_29 ⟨by decide, by decide⟩ ?_
    refine z_aload_n 0 dX2_note_30 rfl ?_
    refine zgf_2_4 dX2_note_31 (zf_RX2_18 _ rfl) o1 ?_
    refine z_topR ((zfr_k e9 o6 o1 (by decide)).trans (zfr_k e5 o2 o1 (by decide))) ?_
    refine z_aload_n 0 dX2_note_34 rfl ?_
    refine zgf_2_1 dX2_note_35 (zf_RX2_21 _ rfl) o1 ?_
    refine z_topI ((zfr_k e9 o6 o1 (by decide)).trans (zfr_k e5 o2 o1 (by decide))) ?_
    refine z_bipush dX2_note_38 ⟨by decide, by decide⟩ (by decide) ?_
    obtain ⟨o30, h⟩ := h
    refine z_imul dX2_note_40 o30 ?_
    refine z_bipush dX2_note_41 ⟨by decide, by decide⟩ (by decide) ?_
    obtain ⟨o31, h⟩ := h
    obtain ⟨o32, h⟩ := h
    obtain ⟨o33, h⟩ := h
    refine z_copy dX2_note_43 (zk_RX2_30 _ rfl) zw_copy o31 o32 o33 (Nat.le_of_ble_eq_true rfl) (Nat.le_of_ble_eq_true rfl) (Nat.le_of_ble_eq_true rfl) ?_
    refine z_nameV (fun V34 e35 => ?_)
    have h := h V34 e35
    refine z_goto (tgt := 104) dX2_note_46 (by decide) ?_
    refine z_loc (L' := [(0, zrv a0)]) [0] rfl ?_
    exact h
set_option maxRecDepth 100000 in
set_option maxHeartbeats 4000000 in
theorem en_X2_takeBack {E : zE} {F : zH → Prop} {S : zS} {a0 a1 : Int} {V : zH}
    (h : ((S a0).1 = 5) ∧ (z32 ((V a0 1) + 60)) ∧ (z32 (((V a0 1) + 60) - 1)) ∧ ((0 : Int) ≤ ((V a0 1) + 60) - 1) ∧ ∀ V5 : zH, V5 = zput V a0 1 ((((V a0 1) + 60) - 1) % 60) → (z32 ((V a0 0) - 1)) ∧ ∀ V8 : zH, V8 = zput V5 a0 0 ((V a0 0) - 1) → ((S (V a0 2)).1 = 1) ∧ ((0 : Int) ≤ (((V a0 1) + 60) - 1) % 60 ∧ (((V a0 1) + 60) - 1) % 60 < (S (V a0 2)).2) ∧ ((V (V a0 2) ((((V a0 1) + 60) - 1) % 60) ≠ 3) → (((V (V a0 2) ((((V a0 1) + 60) - 1) % 60) ≠ 1) → (((V (V a0 2) ((((V a0 1) + 60) - 1) % 60) ≠ 2) → (((S a1).1 = 6) ∧ SpV E 0 zm_X3_removeLastButton [zrv a1] S V8 (fun V17 => F V17))) ∧ ((V (V a0 2) ((((V a0 1) + 60) - 1) % 60) = 2) → (((S a1).1 = 6) ∧ ((S (V a0 3)).1 = 1) ∧ ((0 : Int) ≤ (((V a0 1) + 60) - 1) % 60 ∧ (((V a0 1) + 60) - 1) % 60 < (S (V a0 3)).2) ∧ (z32 (((((V a0 1) + 60) - 1) % 60) * 36)) ∧ ((S (V a0 4)).1 = 1) ∧ ((0 : Int) ≤ ((((V a0 1) + 60) - 1) % 60) * 36 ∧ ((((V a0 1) + 60) - 1) % 60) * 36 < (S (V a0 4)).2) ∧ ((S (V a1 10)).1 = 1) ∧ ((0 : Int) ≤ V (V a0 3) ((((V a0 1) + 60) - 1) % 60) ∧ V (V a0 3) ((((V a0 1) + 60) - 1) % 60) < (S (V a1 10)).2) ∧ ∀ V26 : zH, V26 = zput V8 (V a1 10) (V (V a0 3) ((((V a0 1) + 60) - 1) % 60)) (V (V a0 4) (((((V a0 1) + 60) - 1) % 60) * 36)) → F V26)))) ∧ ((V (V a0 2) ((((V a0 1) + 60) - 1) % 60) = 1) → ((z32 (((((V a0 1) + 60) - 1) % 60) * 36)) ∧ ((S a1).1 = 6) ∧ ((S (V a0 3)).1 = 1) ∧ ((0 : Int) ≤ (((V a0 1) + 60) - 1) % 60 ∧ (((V a0 1) + 60) - 1) % 60 < (S (V a0 3)).2) ∧ (z32 ((V (V a0 3) ((((V a0 1) + 60) - 1) % 60)) * 36)) ∧ ((S (V a0 4)).1 = 1) ∧ ((S (V a1 11)).1 = 1) ∧ ((0 : Int) ≤ ((((V a0 1) + 60) - 1) % 60) * 36 ∧ (0 : Int) ≤ (V (V a0 3) ((((V a0 1) + 60) - 1) % 60)) * 36 ∧ (0 : Int) ≤ 36 ∧ (((((V a0 1) + 60) - 1) % 60) * 36) + 36 ≤ (S (V a0 4)).2 ∧ ((V (V a0 3) ((((V a0 1) + 60) - 1) % 60)) * 36) + 36 ≤ (S (V a1 11)).2) ∧ ∀ V36 : zH, V36 = zcpy V8 (V a0 4) (((((V a0 1) + 60) - 1) % 60) * 36) (V a1 11) ((V (V a0 3) ((((V a0 1) + 60) - 1) % 60)) * 36) 36 → (z32 ((V a1 4) + 1)) ∧ ∀ V39 : zH, V39 = zput V36 a1 4 ((V a1 4) + 1) → F V39)))) ∧ ((V (V a0 2) ((((V a0 1) + 60) - 1) % 60) = 3) → ((z32 (((((V a0 1) + 60) - 1) % 60) * 36)) ∧ ((S a1).1 = 6) ∧ ((S (V a0 4)).1 = 1) ∧ ((S (V a1 5)).1 = 1) ∧ ((0 : Int) ≤ ((((V a0 1) + 60) - 1) % 60) * 36 ∧ (0 : Int) ≤ 0 ∧ (0 : Int) ≤ 36 ∧ (((((V a0 1) + 60) - 1) % 60) * 36) + 36 ≤ (S (V a0 4)).2 ∧ 0 + 36 ≤ (S (V a1 5)).2) ∧ ∀ V46 : zH, V46 = zcpy V8 (V a0 4) (((((V a0 1) + 60) - 1) % 60) * 36) (V a1 5) 0 36 → F V46))) :
    SpV E 1 zm_X2_takeBack [zrv a0, zrv a1] S V F := by
  refine Sp.of (plainFor_of_name (by decide +kernel)) (Nat.le_of_ble_eq_true rfl) (fun hok X => ?_)
  have h := h
  show Zr E X (zRoom 1 0 0) zm_X2_takeBack (zQm E X (zpV S F) 0 0) 0 0 0 [(0, zrv a0), (1, zrv a1)] [] S V
  refine z_aload_n 0 dX2_takeBack_0 rfl ?_
  refine z_aload_n 0 dX2_takeBack_1 rfl ?_
  obtain ⟨o1, h⟩ := h
  refine zgf_2_1 dX2_takeBack_2 (zf_RX2_21 _ rfl) o1 ?_
  refine z_bipush dX2_takeBack_5 ⟨by decide, by decide⟩ (by decide) ?_
  obtain ⟨o2, h⟩ := h
  refine z_iadd dX2_takeBack_7 o2 ?_
  refine z_iconst dX2_takeBack_8 ⟨by decide, by decide⟩ ?_
  obtain ⟨o3, h⟩ := h
  refine z_isub dX2_takeBack_9 o3 ?_
  refine z_bipush dX2_takeBack_10 ⟨by decide, by decide⟩ (by decide) ?_
  obtain ⟨o4, h⟩ := h
  refine z_irem dX2_takeBack_12 o4 (by decide) ?_
  refine zpf_2_1 dX2_takeBack_13 (zf_RX2_21 _ rfl) o1 ?_
  refine z_nameV (fun V5 e6 => ?_)
  have h := h V5 e6
  refine z_aload_n 0 dX2_takeBack_16 rfl ?_
  refine z_dup (zref_cat _) dX2_takeBack_17 ?_
  refine zgf_2_0 dX2_takeBack_18 (zf_RX2_42 _ rfl) o1 ?_
  refine z_topI (zfr_j e6 (by decide)) ?_
  refine z_iconst dX2_takeBack_21 ⟨by decide, by decide⟩ ?_
  obtain ⟨o7, h⟩ := h
  refine z_isub dX2_takeBack_22 o7 ?_
  refine zpf_2_0 dX2_takeBack_23 (zf_RX2_42 _ rfl) o1 ?_
  refine z_nameV (fun V8 e9 => ?_)
  have h := h V8 e9
  refine z_aload_n 0 dX2_takeBack_26 rfl ?_
  refine zgf_2_2 dX2_takeBack_27 (zf_RX2_11 _ rfl) o1 ?_
  refine z_topR ((zfr_j e9 (by decide)).trans (zfr_j e6 (by decide))) ?_
  refine z_aload_n 0 dX2_takeBack_30 rfl ?_
  refine zgf_2_1 dX2_takeBack_31 (zf_RX2_21 _ rfl) o1 ?_
  refine z_topI ((zfr_j e9 (by decide)).trans (zfr_s e6)) ?_
  obtain ⟨o10, h⟩ := h
  obtain ⟨o11, h⟩ := h
  refine z_iald dX2_takeBack_34 o10 o11 ?_
  refine z_topI ((zfr_k e9 o1 o10 (by decide)).trans (zfr_k e6 o1 o10 (by decide))) ?_
  refine z_iconst dX2_takeBack_35 ⟨by decide, by decide⟩ ?_
  refine z_icmp_ne dX2_takeBack_36 (tgt := 63) (by decide) (fun c12 => ?_) (fun c12 => ?_)
  · have h := h.1 c12
    refine z_aload_n 0 dX2_takeBack_63 rfl ?_
    refine zgf_2_2 dX2_takeBack_64 (zf_RX2_11 _ rfl) o1 ?_
    refine z_topR ((zfr_j e9 (by decide)).trans (zfr_j e6 (by decide))) ?_
    refine z_aload_n 0 dX2_takeBack_67 rfl ?_
    refine zgf_2_1 dX2_takeBack_68 (zf_RX2_21 _ rfl) o1 ?_
    refine z_topI ((zfr_j e9 (by decide)).trans (zfr_s e6)) ?_
    refine z_iald dX2_takeBack_71 o10 o11 ?_
    refine z_topI ((zfr_k e9 o1 o10 (by decide)).trans (zfr_k e6 o1 o10 (by decide))) ?_
    refine z_iconst dX2_takeBack_72 ⟨by decide, by decide⟩ ?_
    refine z_icmp_ne dX2_takeBack_73 (tgt := 121) (by decide) (fun c13 => ?_) (fun c13 => ?_)
    · have h := h.1 c13
      refine z_aload_n 0 dX2_takeBack_121 rfl ?_
      refine zgf_2_2 dX2_takeBack_122 (zf_RX2_11 _ rfl) o1 ?_
      refine z_topR ((zfr_j e9 (by decide)).trans (zfr_j e6 (by decide))) ?_
      refine z_aload_n 0 dX2_takeBack_125 rfl ?_
      refine zgf_2_1 dX2_takeBack_126 (zf_RX2_21 _ rfl) o1 ?_
      refine z_topI ((zfr_j e9 (by decide)).trans (zfr_s e6)) ?_
      refine z_iald dX2_takeBack_129 o10 o11 ?_
      refine z_topI ((zfr_k e9 o1 o10 (by decide)).trans (zfr_k e6 o1 o10 (by decide))) ?_
      refine z_iconst dX2_takeBack_130 ⟨by decide, by decide⟩ ?_
      refine z_icmp_ne dX2_takeBack_131 (tgt := 163) (by decide) (fun c14 => ?_) (fun c14 => ?_)
      · have h := h.1 c14
        refine z_aload_n 1 dX2_takeBack_163 rfl ?_
        obtain ⟨o15, h⟩ := h
        refine z_cVV [] (zk_RX2_54 _ rfl) dX2_takeBack_164 o15 (by decide) rfl rfl (Nat.le_of_ble_eq_true rfl) (Nat.le_of_ble_eq_true rfl) (Nat.le_of_ble_eq_true rfl) (Nat.le_of_ble_eq_true rfl) (Nat.le_of_ble_eq_true rfl) h (fun V17 h => ?_)
        exact z_retV dX2_takeBack_167 rfl h
      · have h := h.2 c14
        refine z_aload_n 1 dX2_takeBack_134 rfl ?_
        obtain ⟨o18, h⟩ := h
        refine zgf_3_10 dX2_takeBack_135 (zf_RX2_39 _ rfl) o18 ?_
        refine z_topR ((zfr_k e9 o1 o18 (by decide)).trans (zfr_k e6 o1 o18 (by decide))) ?_
        refine z_aload_n 0 dX2_takeBack_138 rfl ?_
        refine zgf_2_3 dX2_takeBack_139 (zf_RX2_15 _ rfl) o1 ?_
        refine z_topR ((zfr_j e9 (by decide)).trans (zfr_j e6 (by decide))) ?_
        refine z_aload_n 0 dX2_takeBack_142 rfl ?_
        refine zgf_2_1 dX2_takeBack_143 (zf_RX2_21 _ rfl) o1 ?_
        refine z_topI ((zfr_j e9 (by decide)).trans (zfr_s e6)) ?_
        obtain ⟨o19, h⟩ := h
        obtain ⟨o20, h⟩ := h
        refine z_iald dX2_takeBack_146 o19 o20 ?_
        refine z_topI ((zfr_k e9 o1 o19 (by decide)).trans (zfr_k e6 o1 o19 (by decide))) ?_
        refine z_aload_n 0 dX2_takeBack_147 rfl ?_
        refine zgf_2_4 dX2_takeBack_148 (zf_RX2_18 _ rfl) o1 ?_
        refine z_topR ((zfr_j e9 (by decide)).trans (zfr_j e6 (by decide))) ?_
        refine z_aload_n 0 dX2_takeBack_151 rfl ?_
        refine zgf_2_1 dX2_takeBack_152 (zf_RX2_21 _ rfl) o1 ?_
        refine z_topI ((zfr_j e9 (by decide)).trans (zfr_s e6)) ?_
        refine z_bipush dX2_takeBack_155 ⟨by decide, by decide⟩ (by decide) ?_
        obtain ⟨o21, h⟩ := h
        refine z_imul dX2_takeBack_157 o21 ?_
        obtain ⟨o22, h⟩ := h
        obtain ⟨o23, h⟩ := h
        refine z_iald dX2_takeBack_158 o22 o23 ?_
        refine z_topI ((zfr_k e9 o1 o22 (by decide)).trans (zfr_k e6 o1 o22 (by decide))) ?_
        obtain ⟨o24, h⟩ := h
        obtain ⟨o25, h⟩ := h
        refine z_iast dX2_takeBack_159 o24 o25 ?_
        refine z_nameV (fun V26 e27 => ?_)
        have h := h V26 e27
        refine z_goto (tgt := 167) dX2_takeBack_160 (by decide) ?_
        exact z_retV dX2_takeBack_167 rfl h
    · have h := h.2 c13
      refine z_aload_n 0 dX2_takeBack_76 rfl ?_
      refine zgf_2_4 dX2_takeBack_77 (zf_RX2_18 _ rfl) o1 ?_
      refine z_topR ((zfr_j e9 (by decide)).trans (zfr_j e6 (by decide))) ?_
      refine z_aload_n 0 dX2_takeBack_80 rfl ?_
      refine zgf_2_1 dX2_takeBack_81 (zf_RX2_21 _ rfl) o1 ?_
      refine z_topI ((zfr_j e9 (by decide)).trans (zfr_s e6)) ?_
      refine z_bipush dX2_takeBack_84 ⟨by decide, by decide⟩ (by decide) ?_
      obtain ⟨o28, h⟩ := h
      refine z_imul dX2_takeBack_86 o28 ?_
      refine z_aload_n 1 dX2_takeBack_87 rfl ?_
      obtain ⟨o29, h⟩ := h
      refine zgf_3_11 dX2_takeBack_88 (zf_RX2_36 _ rfl) o29 ?_
      refine z_topR ((zfr_k e9 o1 o29 (by decide)).trans (zfr_k e6 o1 o29 (by decide))) ?_
      refine z_aload_n 0 dX2_takeBack_91 rfl ?_
      refine zgf_2_3 dX2_takeBack_92 (zf_RX2_15 _ rfl) o1 ?_
      refine z_topR ((zfr_j e9 (by decide)).trans (zfr_j e6 (by decide))) ?_
      refine z_aload_n 0 dX2_takeBack_95 rfl ?_
      refine zgf_2_1 dX2_takeBack_96 (zf_RX2_21 _ rfl) o1 ?_
      refine z_topI ((zfr_j e9 (by decide)).trans (zfr_s e6)) ?_
      obtain ⟨o30, h⟩ := h
      obtain ⟨o31, h⟩ := h
      refine z_iald dX2_takeBack_99 o30 o31 ?_
      refine z_topI ((zfr_k e9 o1 o30 (by decide)).trans (zfr_k e6 o1 o30 (by decide))) ?_
      refine z_bipush dX2_takeBack_100 ⟨by decide, by decide⟩ (by decide) ?_
      obtain ⟨o32, h⟩ := h
      refine z_imul dX2_takeBack_102 o32 ?_
      refine z_bipush dX2_takeBack_103 ⟨by decide, by decide⟩ (by decide) ?_
      obtain ⟨o33, h⟩ := h
      obtain ⟨o34, h⟩ := h
      obtain ⟨o35, h⟩ := h
      refine z_copy dX2_takeBack_105 (zk_RX2_30 _ rfl) zw_copy o33 o34 o35 (Nat.le_of_ble_eq_true rfl) (Nat.le_of_ble_eq_true rfl) (Nat.le_of_ble_eq_true rfl) ?_
      refine z_nameV (fun V36 e37 => ?_)
      have h := h V36 e37
      refine z_aload_n 1 dX2_takeBack_108 rfl ?_
      refine z_dup (zref_cat _) dX2_takeBack_109 ?_
      refine zgf_3_4 dX2_takeBack_110 (zf_RX2_51 _ rfl) o29 ?_
      refine z_topI (((zfr_c e37 o34 o29 (by decide)).trans (zfr_k e9 o1 o29 (by decide))).trans (zfr_k e6 o1 o29 (by decide))) ?_
      refine z_iconst dX2_takeBack_113 ⟨by decide, by decide⟩ ?_
      obtain ⟨o38, h⟩ := h
      refine z_iadd dX2_takeBack_114 o38 ?_
      refine zpf_3_4 dX2_takeBack_115 (zf_RX2_51 _ rfl) o29 ?_
      refine z_nameV (fun V39 e40 => ?_)
      have h := h V39 e40
      refine z_goto (tgt := 167) dX2_takeBack_118 (by decide) ?_
      exact z_retV dX2_takeBack_167 rfl h
  · have h := h.2 c12
    refine z_aload_n 0 dX2_takeBack_39 rfl ?_
    refine zgf_2_4 dX2_takeBack_40 (zf_RX2_18 _ rfl) o1 ?_
    refine z_topR ((zfr_j e9 (by decide)).trans (zfr_j e6 (by decide))) ?_
    refine z_aload_n 0 dX2_takeBack_43 rfl ?_
    refine zgf_2_1 dX2_takeBack_44 (zf_RX2_21 _ rfl) o1 ?_
    refine z_topI ((zfr_j e9 (by decide)).trans (zfr_s e6)) ?_
    refine z_bipush dX2_takeBack_47 ⟨by decide, by decide⟩ (by decide) ?_
    obtain ⟨o41, h⟩ := h
    refine z_imul dX2_takeBack_49 o41 ?_
    refine z_aload_n 1 dX2_takeBack_50 rfl ?_
    obtain ⟨o42, h⟩ := h
    refine zgf_3_5 dX2_takeBack_51 (zf_RX2_25 _ rfl) o42 ?_
    refine z_topR ((zfr_k e9 o1 o42 (by decide)).trans (zfr_k e6 o1 o42 (by decide))) ?_
    refine z_iconst dX2_takeBack_54 ⟨by decide, by decide⟩ ?_
    refine z_bipush dX2_takeBack_55 ⟨by decide, by decide⟩ (by decide) ?_
    obtain ⟨o43, h⟩ := h
    obtain ⟨o44, h⟩ := h
    obtain ⟨o45, h⟩ := h
    refine z_copy dX2_takeBack_57 (zk_RX2_30 _ rfl) zw_copy o43 o44 o45 (Nat.le_of_ble_eq_true rfl) (Nat.le_of_ble_eq_true rfl) (Nat.le_of_ble_eq_true rfl) ?_
    refine z_nameV (fun V46 e47 => ?_)
    have h := h V46 e47
    refine z_goto (tgt := 167) dX2_takeBack_60 (by decide) ?_
    exact z_retV dX2_takeBack_167 rfl h
set_option maxRecDepth 100000 in
set_option maxHeartbeats 4000000 in
theorem en_X6_init {E : zE} {F : zS → zH → Prop} {mc ms : Nat} {S : zS} {a0 : Int} {V : zH}
    (h : ((S a0).1 = 9) ∧ (0 < a0) ∧ ∀ V3 : zH, V3 = zput V a0 0 0 → (0 + 1 ≤ mc ∧ 0 + 36 ≤ ms) ∧ ∀ r6 : Int, 0 < r6 → ((S r6).1 = 0 ∧ ∀ q : Int, (S q).1 ≠ 0 → q < r6 ∧ (S (r6 - 1)).1 ≠ 0) → ∀ (S9 : zS) (V10 : zH), S9 = zSn S r6 (1, 36) → V10 = zVn V3 r6 → ∀ V15 : zH, V15 = zput V10 a0 3 r6 → (0 + 1 ≤ mc ∧ 0 + 36 ≤ ms) ∧ F S9 V15) :
    SaV E 1 mc ms zm_X6_init [zrv a0] S V F := by
  refine Sp.of (plainFor_of_name (by decide +kernel)) (Nat.le_of_ble_eq_true rfl) (fun hok X => ?_)
  have h := h
  show Zr E X (zRoom 1 mc ms) zm_X6_init (zQm E X (zaV F) mc ms) 0 0 0 [(0, zrv a0)] [] S V
  refine z_aload_n 0 dX6_init_0 rfl ?_
  obtain ⟨o1, h⟩ := h
  obtain ⟨o2, h⟩ := h
  refine z_objInit dX6_init_1 (zk_RX6_3 _ rfl) zw_oi1 zw_oi2 o2 (Nat.le_of_ble_eq_true rfl) (Nat.le_of_ble_eq_true rfl) (Nat.le_of_ble_eq_true rfl) ?_
  refine z_aload_n 0 dX6_init_4 rfl ?_
  refine z_iconst dX6_init_5 ⟨by decide, by decide⟩ ?_
  refine zpf_6_0 dX6_init_6 (zf_RX6_11 _ rfl) o1 ?_
  refine z_nameV (fun V3 e4 => ?_)
  have h := h V3 e4
  refine z_aload_n 0 dX6_init_9 rfl ?_
  refine z_bipush dX6_init_10 ⟨by decide, by decide⟩ (by decide) ?_
  obtain ⟨o5, h⟩ := h
  refine z_newi dX6_init_12 zw_arri (by decide) (by decide) o5.1 o5.2 (fun r6 q7 f8 => ?_)
  refine z_nameS (fun S9 V10 e11 e12 => ?_)
  have h := h r6 q7 f8 S9 V10 e11 e12
  have o13 : (S9 a0).1 = 9 := zSn_k e11 o1 f8.1 (by decide)
  have o14 : (S9 r6).1 = 1 := zSn_r e11
  refine zpf_6_3 rfl rfl dX6_init_14 (zf_RX6_15 _ rfl) o13 ?_
  refine z_nameV (fun V15 e16 => ?_)
  have h := h V15 e16
  obtain ⟨o17, h⟩ := h
  exact z_retaV dX6_init_17 rfl o17.1 o17.2 h
set_option maxRecDepth 100000 in
set_option maxHeartbeats 4000000 in
theorem en_X6_begin {E : zE} {F : zH → Prop} {S : zS} {a0 a1 a2 : Int} {V : zH}
    (h : z32 a1 → z32 a2 → ((S a0).1 = 9) ∧ ∀ V2 : zH, V2 = zput V a0 0 a1 → ∀ V4 : zH, V4 = zput V2 a0 1 a2 → ∀ V6 : zH, V6 = zput V4 a0 2 0 → SpV E 0 zm_J7_fill_53178 [zrv (V a0 3), ziv 0] S V6 (fun V9 => F V9)) :
    SpV E 1 zm_X6_begin [zrv a0, ziv a1, ziv a2] S V F := by
  refine Sp.of (plainFor_of_name (by decide +kernel)) (Nat.le_of_ble_eq_true rfl) (fun hok X => ?_)
  have h := h (hok _ (List.mem_cons_of_mem _ (List.mem_cons_self))) (hok _ (List.mem_cons_of_mem _ (List.mem_cons_of_mem _ (List.mem_cons_self))))
  show Zr E X (zRoom 1 0 0) zm_X6_begin (zQm E X (zpV S F) 0 0) 0 0 0 [(0, zrv a0), (1, ziv a1), (2, ziv a2)] [] S V
  refine z_aload_n 0 dX6_begin_0 rfl ?_
  refine z_iload_n 1 dX6_begin_1 rfl ?_
  obtain ⟨o1, h⟩ := h
  refine zpf_6_0 dX6_begin_2 (zf_RX6_11 _ rfl) o1 ?_
  refine z_nameV (fun V2 e3 => ?_)
  have h := h V2 e3
  refine z_aload_n 0 dX6_begin_5 rfl ?_
  refine z_iload_n 2 dX6_begin_6 rfl ?_
  refine zpf_6_1 dX6_begin_7 (zf_RX6_19 _ rfl) o1 ?_
  refine z_nameV (fun V4 e5 => ?_)
  have h := h V4 e5
  refine z_aload_n 0 dX6_begin_10 rfl ?_
  refine z_iconst dX6_begin_11 ⟨by decide, by decide⟩ ?_
  refine zpf_6_2 dX6_begin_12 (zf_RX6_22 _ rfl) o1 (Or.inl rfl) ?_
  refine z_nameV (fun V6 e7 => ?_)
  have h := h V6 e7
  refine z_aload_n 0 dX6_begin_15 rfl ?_
  refine zgf_6_3 dX6_begin_16 (zf_RX6_15 _ rfl) o1 ?_
  refine z_topR (((zfr_j e7 (by decide)).trans (zfr_j e5 (by decide))).trans (zfr_j e3 (by decide))) ?_
  refine z_iconst dX6_begin_19 ⟨by decide, by decide⟩ ?_
  refine z_cSV [zrv (V a0 3), ziv 0] (zk_RX6_26 _ rfl) dX6_begin_20 rfl rfl (Nat.le_of_ble_eq_true rfl) (Nat.le_of_ble_eq_true rfl) (Nat.le_of_ble_eq_true rfl) (Nat.le_of_ble_eq_true rfl) (Nat.le_of_ble_eq_true rfl) h (fun V9 h => ?_)
  exact z_retV dX6_begin_23 rfl h
