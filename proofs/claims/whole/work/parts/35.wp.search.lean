set_option maxRecDepth 100000 in
set_option maxHeartbeats 4000000 in
theorem en_X4_init {E : zE} {F : zS → zH → Prop} {mc ms : Nat} {S : zS} {a0 a1 a2 : Int} {V : zH}
    (h : ((S a0).1 = 7) ∧ (0 < a0) ∧ (0 + 1 ≤ mc ∧ 0 + 36 ≤ ms) ∧ ∀ r4 : Int, 0 < r4 → ((S r4).1 = 0 ∧ ∀ q : Int, (S q).1 ≠ 0 → q < r4 ∧ (S (r4 - 1)).1 ≠ 0) → ∀ (S7 : zS) (V8 : zH), S7 = zSn S r4 (1, 36) → V8 = zVn V r4 → ∀ V13 : zH, V13 = zput V8 a0 4 r4 → (0 + 1 + 1 ≤ mc ∧ 0 + 36 + 72 ≤ ms) ∧ ∀ r16 : Int, 0 < r16 → ((S7 r16).1 = 0 ∧ ∀ q : Int, (S7 q).1 ≠ 0 → q < r16 ∧ (S7 (r16 - 1)).1 ≠ 0) → ∀ (S19 : zS) (V20 : zH), S19 = zSn S7 r16 (1, 72) → V20 = zVn V13 r16 → ∀ V26 : zH, V26 = zput V20 a0 5 r16 → (0 + 1 + 1 + 1 ≤ mc ∧ 0 + 36 + 72 + 72 ≤ ms) ∧ ∀ r29 : Int, 0 < r29 → ((S19 r29).1 = 0 ∧ ∀ q : Int, (S19 q).1 ≠ 0 → q < r29 ∧ (S19 (r29 - 1)).1 ≠ 0) → ∀ (S32 : zS) (V33 : zH), S32 = zSn S19 r29 (1, 72) → V33 = zVn V26 r29 → ∀ V40 : zH, V40 = zput V33 a0 6 r29 → (0 + 1 + 1 + 1 + 1 ≤ mc ∧ 0 + 36 + 72 + 72 + 72 ≤ ms) ∧ ∀ r43 : Int, 0 < r43 → ((S32 r43).1 = 0 ∧ ∀ q : Int, (S32 q).1 ≠ 0 → q < r43 ∧ (S32 (r43 - 1)).1 ≠ 0) → ∀ (S46 : zS) (V47 : zH), S46 = zSn S32 r43 (1, 72) → V47 = zVn V40 r43 → ∀ V55 : zH, V55 = zput V47 a0 8 r43 → (0 + 1 + 1 + 1 + 1 + 1 ≤ mc ∧ 0 + 36 + 72 + 72 + 72 + 72 ≤ ms) ∧ ∀ r58 : Int, 0 < r58 → ((S46 r58).1 = 0 ∧ ∀ q : Int, (S46 q).1 ≠ 0 → q < r58 ∧ (S46 (r58 - 1)).1 ≠ 0) → ∀ (S61 : zS) (V62 : zH), S61 = zSn S46 r58 (1, 72) → V62 = zVn V55 r58 → ∀ V71 : zH, V71 = zput V62 a0 9 r58 → (0 + 1 + 1 + 1 + 1 + 1 + 1 ≤ mc ∧ 0 + 36 + 72 + 72 + 72 + 72 + 36 ≤ ms) ∧ ∀ r74 : Int, 0 < r74 → ((S61 r74).1 = 0 ∧ ∀ q : Int, (S61 q).1 ≠ 0 → q < r74 ∧ (S61 (r74 - 1)).1 ≠ 0) → ∀ (S77 : zS) (V78 : zH), S77 = zSn S61 r74 (1, 36) → V78 = zVn V71 r74 → ∀ V88 : zH, V88 = zput V78 a0 11 r74 → ∀ V90 : zH, V90 = zput V88 a0 0 a1 → ∀ V92 : zH, V92 = zput V90 a0 1 a2 → (0 + 1 + 1 + 1 + 1 + 1 + 1 ≤ mc ∧ 0 + 36 + 72 + 72 + 72 + 72 + 36 ≤ ms) ∧ F S77 V92) :
    SaV E 1 mc ms zm_X4_init [zrv a0, zrv a1, zrv a2] S V F := by
  refine Sp.of (plainFor_of_name (by decide +kernel)) (Nat.le_of_ble_eq_true rfl) (fun hok X => ?_)
  have h := h
  show Zr E X (zRoom 1 mc ms) zm_X4_init (zQm E X (zaV F) mc ms) 0 0 0 [(0, zrv a0), (1, zrv a1), (2, zrv a2)] [] S V
  refine z_aload_n 0 dX4_init_0 rfl ?_
  obtain ⟨o1, h⟩ := h
  obtain ⟨o2, h⟩ := h
  refine z_objInit dX4_init_1 (zk_RX4_3 _ rfl) zw_oi1 zw_oi2 o2 (Nat.le_of_ble_eq_true rfl) (Nat.le_of_ble_eq_true rfl) (Nat.le_of_ble_eq_true rfl) ?_
  refine z_aload_n 0 dX4_init_4 rfl ?_
  refine z_bipush dX4_init_5 ⟨by decide, by decide⟩ (by decide) ?_
  obtain ⟨o3, h⟩ := h
  refine z_newi dX4_init_7 zw_arri (by decide) (by decide) o3.1 o3.2 (fun r4 q5 f6 => ?_)
  refine z_nameS (fun S7 V8 e9 e10 => ?_)
  have h := h r4 q5 f6 S7 V8 e9 e10
  have o11 : (S7 a0).1 = 7 := zSn_k e9 o1 f6.1 (by decide)
  have o12 : (S7 r4).1 = 1 := zSn_r e9
  refine zpf_4_4 rfl rfl dX4_init_9 (zf_RX4_9 _ rfl) o11 ?_
  refine z_nameV (fun V13 e14 => ?_)
  have h := h V13 e14
  refine z_aload_n 0 dX4_init_12 rfl ?_
  refine z_bipush dX4_init_13 ⟨by decide, by decide⟩ (by decide) ?_
  obtain ⟨o15, h⟩ := h
  refine z_newi dX4_init_15 zw_arri (by decide) (by decide) o15.1 o15.2 (fun r16 q17 f18 => ?_)
  refine z_nameS (fun S19 V20 e21 e22 => ?_)
  have h := h r16 q17 f18 S19 V20 e21 e22
  have o23 : (S19 a0).1 = 7 := zSn_k e21 o11 f18.1 (by decide)
  have o24 : (S19 r4).1 = 1 := zSn_k e21 o12 f18.1 (by decide)
  have o25 : (S19 r16).1 = 1 := zSn_r e21
  refine zpf_4_5 rfl rfl dX4_init_17 (zf_RX4_17 _ rfl) o23 ?_
  refine z_nameV (fun V26 e27 => ?_)
  have h := h V26 e27
  refine z_aload_n 0 dX4_init_20 rfl ?_
  refine z_bipush dX4_init_21 ⟨by decide, by decide⟩ (by decide) ?_
  obtain ⟨o28, h⟩ := h
  refine z_newi dX4_init_23 zw_arri (by decide) (by decide) o28.1 o28.2 (fun r29 q30 f31 => ?_)
  refine z_nameS (fun S32 V33 e34 e35 => ?_)
  have h := h r29 q30 f31 S32 V33 e34 e35
  have o36 : (S32 a0).1 = 7 := zSn_k e34 o23 f31.1 (by decide)
  have o37 : (S32 r4).1 = 1 := zSn_k e34 o24 f31.1 (by decide)
  have o38 : (S32 r16).1 = 1 := zSn_k e34 o25 f31.1 (by decide)
  have o39 : (S32 r29).1 = 1 := zSn_r e34
  refine zpf_4_6 rfl rfl dX4_init_25 (zf_RX4_20 _ rfl) o36 ?_
  refine z_nameV (fun V40 e41 => ?_)
  have h := h V40 e41
  refine z_aload_n 0 dX4_init_28 rfl ?_
  refine z_bipush dX4_init_29 ⟨by decide, by decide⟩ (by decide) ?_
  obtain ⟨o42, h⟩ := h
  refine z_newi dX4_init_31 zw_arri (by decide) (by decide) o42.1 o42.2 (fun r43 q44 f45 => ?_)
  refine z_nameS (fun S46 V47 e48 e49 => ?_)
  have h := h r43 q44 f45 S46 V47 e48 e49
  have o50 : (S46 a0).1 = 7 := zSn_k e48 o36 f45.1 (by decide)
  have o51 : (S46 r4).1 = 1 := zSn_k e48 o37 f45.1 (by decide)
  have o52 : (S46 r16).1 = 1 := zSn_k e48 o38 f45.1 (by decide)
  have o53 : (S46 r29).1 = 1 := zSn_k e48 o39 f45.1 (by decide)
  have o54 : (S46 r43).1 = 1 := zSn_r e48
  refine zpf_4_8 rfl rfl dX4_init_33 (zf_RX4_23 _ rfl) o50 ?_
  refine z_nameV (fun V55 e56 => ?_)
  have h := h V55 e56
  refine z_aload_n 0 dX4_init_36 rfl ?_
  refine z_bipush dX4_init_37 ⟨by decide, by decide⟩ (by decide) ?_
  obtain ⟨o57, h⟩ := h
  refine z_newi dX4_init_39 zw_arri (by decide) (by decide) o57.1 o57.2 (fun r58 q59 f60 => ?_)
  refine z_nameS (fun S61 V62 e63 e64 => ?_)
  have h := h r58 q59 f60 S61 V62 e63 e64
  have o65 : (S61 a0).1 = 7 := zSn_k e63 o50 f60.1 (by decide)
  have o66 : (S61 r4).1 = 1 := zSn_k e63 o51 f60.1 (by decide)
  have o67 : (S61 r16).1 = 1 := zSn_k e63 o52 f60.1 (by decide)
  have o68 : (S61 r29).1 = 1 := zSn_k e63 o53 f60.1 (by decide)
  have o69 : (S61 r43).1 = 1 := zSn_k e63 o54 f60.1 (by decide)
  have o70 : (S61 r58).1 = 1 := zSn_r e63
  refine zpf_4_9 rfl rfl dX4_init_41 (zf_RX4_26 _ rfl) o65 ?_
  refine z_nameV (fun V71 e72 => ?_)
  have h := h V71 e72
  refine z_aload_n 0 dX4_init_44 rfl ?_
  refine z_bipush dX4_init_45 ⟨by decide, by decide⟩ (by decide) ?_
  obtain ⟨o73, h⟩ := h
  refine z_newi dX4_init_47 zw_arri (by decide) (by decide) o73.1 o73.2 (fun r74 q75 f76 => ?_)
  refine z_nameS (fun S77 V78 e79 e80 => ?_)
  have h := h r74 q75 f76 S77 V78 e79 e80
  have o81 : (S77 a0).1 = 7 := zSn_k e79 o65 f76.1 (by decide)
  have o82 : (S77 r4).1 = 1 := zSn_k e79 o66 f76.1 (by decide)
  have o83 : (S77 r16).1 = 1 := zSn_k e79 o67 f76.1 (by decide)
  have o84 : (S77 r29).1 = 1 := zSn_k e79 o68 f76.1 (by decide)
  have o85 : (S77 r43).1 = 1 := zSn_k e79 o69 f76.1 (by decide)
  have o86 : (S77 r58).1 = 1 := zSn_k e79 o70 f76.1 (by decide)
  have o87 : (S77 r74).1 = 1 := zSn_r e79
  refine zpf_4_11 rfl rfl dX4_init_49 (zf_RX4_29 _ rfl) o81 ?_
  refine z_nameV (fun V88 e89 => ?_)
  have h := h V88 e89
  refine z_aload_n 0 dX4_init_52 rfl ?_
  refine z_aload_n 1 dX4_init_53 rfl ?_
  refine zpf_4_0 rfl rfl dX4_init_54 (zf_RX4_32 _ rfl) o81 ?_
  refine z_nameV (fun V90 e91 => ?_)
  have h := h V90 e91
  refine z_aload_n 0 dX4_init_57 rfl ?_
  refine z_aload_n 2 dX4_init_58 rfl ?_
  refine zpf_4_1 rfl rfl dX4_init_59 (zf_RX4_36 _ rfl) o81 ?_
  refine z_nameV (fun V92 e93 => ?_)
  have h := h V92 e93
  obtain ⟨o94, h⟩ := h
  exact z_retaV dX4_init_62 rfl o94.1 o94.2 h
def zl_X4_begin_23 (E : zE) (X : zX) (F : zH → Prop) (S : zS) (a0 a2 : Int) (V : zH) : Prop := Zr E X (zRoom 0 0 0) zm_X4_begin (zQm E X (zpV S F) 0 0) 0 0 23 [(0, zrv a0), (2, ziv a2)] [] S V
set_option maxRecDepth 100000 in
set_option maxHeartbeats 4000000 in
theorem wp_X4_begin_23 {E : zE} {X : zX} {F : zH → Prop} {S : zS} {a0 a2 : Int} {V : zH}
    (h : ((S a0).1 = 7) ∧ ((S (V a0 0)).1 = 4) ∧ ((V (V a0 0) 2 ≤ a2) → (F V)) ∧ ((a2 < V (V a0 0) 2) → (((S (V (V a0 0) 4)).1 = 1) ∧ ((0 : Int) ≤ a2 ∧ a2 < (S (V (V a0 0) 4)).2) ∧ ((V (V (V a0 0) 4) a2 = 0) → ((z32 (a2 + 1)) ∧ zl_X4_begin_23 E X F S a0 (a2 + 1) V)) ∧ ((V (V (V a0 0) 4) a2 ≠ 0) → (((S (V a0 4)).1 = 1) ∧ ((0 : Int) ≤ V a0 3 ∧ V a0 3 < (S (V a0 4)).2) ∧ ∀ V10 : zH, V10 = zput V (V a0 4) (V a0 3) a2 → (z32 ((V a0 3) + 1)) ∧ ∀ V13 : zH, V13 = zput V10 a0 3 ((V a0 3) + 1) → (z32 (a2 + 1)) ∧ zl_X4_begin_23 E X F S a0 (a2 + 1) V13))))) :
    zl_X4_begin_23 E X F S a0 a2 V := by
  unfold zl_X4_begin_23
  refine z_iload_n 1 dX4_begin_23 rfl ?_
  refine z_aload_n 0 dX4_begin_24 rfl ?_
  obtain ⟨o1, h⟩ := h
  refine zgf_4_0 dX4_begin_25 (zf_RX4_32 _ rfl) o1 ?_
  obtain ⟨o2, h⟩ := h
  refine zgf_1_2 dX4_begin_28 (zf_RX4_52 _ rfl) o2 ?_
  refine z_icmp_ge dX4_begin_31 (tgt := 72) (by decide) (fun c3 => ?_) (fun c3 => ?_)
  · have h := h.1 c3
    exact z_retV dX4_begin_72 rfl h
  · have h := h.2 c3
    refine z_aload_n 0 dX4_begin_34 rfl ?_
    refine zgf_4_0 dX4_begin_35 (zf_RX4_32 _ rfl) o1 ?_
    refine zgf_1_4 dX4_begin_38 (zf_RX4_55 _ rfl) o2 ?_
    refine z_iload_n 1 dX4_begin_41 rfl ?_
    obtain ⟨o4, h⟩ := h
    obtain ⟨o5, h⟩ := h
    refine z_iald dX4_begin_42 o4 o5 ?_
    refine z_if_eq dX4_begin_43 (tgt := 66) (by decide) (fun c6 => ?_) (fun c6 => ?_)
    · have h := h.1 c6
      obtain ⟨o7, h⟩ := h
      refine z_iinc 1 dX4_begin_66 rfl (by decide) o7 (L' := [(0, zrv a0), (2, ziv (a2 + 1))]) [1, 0] rfl ?_
      refine z_goto (tgt := 23) dX4_begin_69 (by decide) ?_
      exact h
    · have h := h.2 c6
      refine z_aload_n 0 dX4_begin_46 rfl ?_
      refine zgf_4_4 dX4_begin_47 (zf_RX4_9 _ rfl) o1 ?_
      refine z_aload_n 0 dX4_begin_50 rfl ?_
      refine zgf_4_3 dX4_begin_51 (zf_RX4_43 _ rfl) o1 ?_
      refine z_iload_n 1 dX4_begin_54 rfl ?_
      obtain ⟨o8, h⟩ := h
      obtain ⟨o9, h⟩ := h
      refine z_iast dX4_begin_55 o8 o9 ?_
      refine z_nameV (fun V10 e11 => ?_)
      have h := h V10 e11
      refine z_aload_n 0 dX4_begin_56 rfl ?_
      refine z_dup (zref_cat _) dX4_begin_57 ?_
      refine zgf_4_3 dX4_begin_58 (zf_RX4_43 _ rfl) o1 ?_
      refine z_topI (zfr_k e11 o8 o1 (by decide)) ?_
      refine z_iconst dX4_begin_61 ⟨by decide, by decide⟩ ?_
      obtain ⟨o12, h⟩ := h
      refine z_iadd dX4_begin_62 o12 ?_
      refine zpf_4_3 dX4_begin_63 (zf_RX4_43 _ rfl) o1 ?_
      refine z_nameV (fun V13 e14 => ?_)
      have h := h V13 e14
      obtain ⟨o15, h⟩ := h
      refine z_iinc 1 dX4_begin_66 rfl (by decide) o15 (L' := [(0, zrv a0), (2, ziv (a2 + 1))]) [1, 0] rfl ?_
      refine z_goto (tgt := 23) dX4_begin_69 (by decide) ?_
      exact h
set_option maxRecDepth 100000 in
set_option maxHeartbeats 4000000 in
theorem en_X4_begin {E : zE} {F : zH → Prop} {S : zS} {a0 a1 : Int} {V : zH}
    (h : z32 a1 → ∀ X : zX, ((S a0).1 = 7) ∧ ∀ V2 : zH, V2 = zput V a0 2 a1 → ∀ V4 : zH, V4 = zput V2 a0 3 0 → ∀ V6 : zH, V6 = zput V4 a0 10 (-1) → ((S (V a0 0)).1 = 4) ∧ ∀ x9 : Int, x9 = V (V a0 0) 1 → zl_X4_begin_23 E X F S a0 x9 V6) :
    SpV E 0 zm_X4_begin [zrv a0, ziv a1] S V F := by
  refine Sp.of (plainFor_of_name (by decide +kernel)) (Nat.le_of_ble_eq_true rfl) (fun hok X => ?_)
  have h := h (hok _ (List.mem_cons_of_mem _ (List.mem_cons_self))) X
  show Zr E X (zRoom 0 0 0) zm_X4_begin (zQm E X (zpV S F) 0 0) 0 0 0 [(0, zrv a0), (1, ziv a1)] [] S V
  refine z_aload_n 0 dX4_begin_0 rfl ?_
  refine z_iload_n 1 dX4_begin_1 rfl ?_
  obtain ⟨o1, h⟩ := h
  refine zpf_4_2 dX4_begin_2 (zf_RX4_39 _ rfl) o1 ?_
  refine z_nameV (fun V2 e3 => ?_)
  have h := h V2 e3
  refine z_aload_n 0 dX4_begin_5 rfl ?_
  refine z_iconst dX4_begin_6 ⟨by decide, by decide⟩ ?_
  refine zpf_4_3 dX4_begin_7 (zf_RX4_43 _ rfl) o1 ?_
  refine z_nameV (fun V4 e5 => ?_)
  have h := h V4 e5
  refine z_aload_n 0 dX4_begin_10 rfl ?_
  refine z_iconst dX4_begin_11 ⟨by decide, by decide⟩ ?_
  refine zpf_4_10 dX4_begin_12 (zf_RX4_46 _ rfl) o1 ?_
  refine z_nameV (fun V6 e7 => ?_)
  have h := h V6 e7
  refine z_aload_n 0 dX4_begin_15 rfl ?_
  refine zgf_4_0 dX4_begin_16 (zf_RX4_32 _ rfl) o1 ?_
  refine z_topR (((zfr_j e7 (by decide)).trans (zfr_j e5 (by decide))).trans (zfr_j e3 (by decide))) ?_
  obtain ⟨o8, h⟩ := h
  refine zgf_1_1 dX4_begin_19 (zf_RX4_49 _ rfl) o8 ?_
  refine z_topI (((zfr_k e7 o1 o8 (by decide)).trans (zfr_k e5 o1 o8 (by decide))).trans (zfr_k e3 o1 o8 (by decide))) ?_
  refine z_nameI (fun x9 e10 => ?_)
  have h := h x9 e10
  refine z_istore_n dX4_begin_22 (by decide) (L' := [(0, zrv a0), (1, ziv a1), (2, ziv x9)]) [1, 2, 0] rfl ?_
  refine z_loc (L' := [(0, zrv a0), (2, ziv x9)]) [0, 2] rfl ?_
  exact h
set_option maxRecDepth 100000 in
set_option maxHeartbeats 4000000 in
theorem en_X4_putPrice {E : zE} {F : zH → Prop} {S : zS} {a0 a1 a2 : Int} {V : zH}
    (h : z32 a1 → z32 a2 → ((S a0).1 = 7) ∧ ((S (V a0 0)).1 = 4) ∧ (z32 ((V (V a0 0) 1) + a1)) ∧ ((S (V a0 5)).1 = 1) ∧ ((0 : Int) ≤ (V (V a0 0) 1) + a1 ∧ (V (V a0 0) 1) + a1 < (S (V a0 5)).2) ∧ ∀ V6 : zH, V6 = zput V (V a0 5) ((V (V a0 0) 1) + a1) a2 → F V6) :
    SpV E 0 zm_X4_putPrice [zrv a0, ziv a1, ziv a2] S V F := by
  refine Sp.of (plainFor_of_name (by decide +kernel)) (Nat.le_of_ble_eq_true rfl) (fun hok X => ?_)
  have h := h (hok _ (List.mem_cons_of_mem _ (List.mem_cons_self))) (hok _ (List.mem_cons_of_mem _ (List.mem_cons_of_mem _ (List.mem_cons_self))))
  show Zr E X (zRoom 0 0 0) zm_X4_putPrice (zQm E X (zpV S F) 0 0) 0 0 0 [(0, zrv a0), (1, ziv a1), (2, ziv a2)] [] S V
  refine z_aload_n 0 dX4_putPrice_0 rfl ?_
  obtain ⟨o1, h⟩ := h
  refine zgf_4_5 dX4_putPrice_1 (zf_RX4_17 _ rfl) o1 ?_
  refine z_aload_n 0 dX4_putPrice_4 rfl ?_
  refine zgf_4_0 dX4_putPrice_5 (zf_RX4_32 _ rfl) o1 ?_
  obtain ⟨o2, h⟩ := h
  refine zgf_1_1 dX4_putPrice_8 (zf_RX4_49 _ rfl) o2 ?_
  refine z_iload_n 1 dX4_putPrice_11 rfl ?_
  obtain ⟨o3, h⟩ := h
  refine z_iadd dX4_putPrice_12 o3 ?_
  refine z_iload_n 2 dX4_putPrice_13 rfl ?_
  obtain ⟨o4, h⟩ := h
  obtain ⟨o5, h⟩ := h
  refine z_iast dX4_putPrice_14 o4 o5 ?_
  refine z_nameV (fun V6 e7 => ?_)
  have h := h V6 e7
  exact z_retV dX4_putPrice_15 rfl h
set_option maxRecDepth 100000 in
set_option maxHeartbeats 4000000 in
theorem en_X4_findCheapest {E : zE} {F : Int → zH → Prop} {S : zS} {a0 a1 a2 : Int} {V : zH}
    (h : z32 a2 → ((S a0).1 = 7) ∧ ((S (V a0 0)).1 = 4) ∧ (z32 ((V (V a0 0) 2) - (V (V a0 0) 1))) ∧ ((S a1).1 = 1) ∧ ((S (V a0 6)).1 = 1) ∧ ((0 : Int) ≤ V (V a0 0) 1 ∧ (0 : Int) ≤ V (V a0 0) 1 ∧ (0 : Int) ≤ (V (V a0 0) 2) - (V (V a0 0) 1) ∧ (V (V a0 0) 1) + ((V (V a0 0) 2) - (V (V a0 0) 1)) ≤ (S a1).2 ∧ (V (V a0 0) 1) + ((V (V a0 0) 2) - (V (V a0 0) 1)) ≤ (S (V a0 6)).2) ∧ ∀ V7 : zH, V7 = zcpy V a1 (V (V a0 0) 1) (V a0 6) (V (V a0 0) 1) ((V (V a0 0) 2) - (V (V a0 0) 1)) → ∀ V9 : zH, V9 = zput V7 a0 7 432000 → SpV E 22 zm_X4_explore [zrv a0, ziv 0, ziv a2] S V9 (fun V12 => F (V12 a0 7) V12)) :
    SpI E 23 zm_X4_findCheapest [zrv a0, zrv a1, ziv a2] S V F := by
  refine Sp.of (plainFor_of_name (by decide +kernel)) (Nat.le_of_ble_eq_true rfl) (fun hok X => ?_)
  have h := h (hok _ (List.mem_cons_of_mem _ (List.mem_cons_of_mem _ (List.mem_cons_self))))
  show Zr E X (zRoom 23 0 0) zm_X4_findCheapest (zQm E X (zpI S F) 0 0) 0 0 0 [(0, zrv a0), (1, zrv a1), (2, ziv a2)] [] S V
  refine z_aload_n 1 dX4_findCheapest_0 rfl ?_
  refine z_aload_n 0 dX4_findCheapest_1 rfl ?_
  obtain ⟨o1, h⟩ := h
  refine zgf_4_0 dX4_findCheapest_2 (zf_RX4_32 _ rfl) o1 ?_
  obtain ⟨o2, h⟩ := h
  refine zgf_1_1 dX4_findCheapest_5 (zf_RX4_49 _ rfl) o2 ?_
  refine z_aload_n 0 dX4_findCheapest_8 rfl ?_
  refine zgf_4_6 dX4_findCheapest_9 (zf_RX4_20 _ rfl) o1 ?_
  refine z_aload_n 0 dX4_findCheapest_12 rfl ?_
  refine zgf_4_0 dX4_findCheapest_13 (zf_RX4_32 _ rfl) o1 ?_
  refine zgf_1_1 dX4_findCheapest_16 (zf_RX4_49 _ rfl) o2 ?_
  refine z_aload_n 0 dX4_findCheapest_19 rfl ?_
  refine zgf_4_0 dX4_findCheapest_20 (zf_RX4_32 _ rfl) o1 ?_
  refine zgf_1_2 dX4_findCheapest_23 (zf_RX4_52 _ rfl) o2 ?_
  refine z_aload_n 0 dX4_findCheapest_26 rfl ?_
  refine zgf_4_0 dX4_findCheapest_27 (zf_RX4_32 _ rfl) o1 ?_
  refine zgf_1_1 dX4_findCheapest_30 (zf_RX4_49 _ rfl) o2 ?_
  obtain ⟨o3, h⟩ := h
  refine z_isub dX4_findCheapest_33 o3 ?_
  obtain ⟨o4, h⟩ := h
  obtain ⟨o5, h⟩ := h
  obtain ⟨o6, h⟩ := h
  refine z_copy dX4_findCheapest_34 (zk_RX4_58 _ rfl) zw_copy o4 o5 o6 (Nat.le_of_ble_eq_true rfl) (Nat.le_of_ble_eq_true rfl) (Nat.le_of_ble_eq_true rfl) ?_
  refine z_nameV (fun V7 e8 => ?_)
  have h := h V7 e8
  refine z_aload_n 0 dX4_findCheapest_37 rfl ?_
  refine z_ldc (c := 432000) (zd_RX4_64 _ rfl) (by decide) ⟨by decide, by decide⟩ dX4_findCheapest_38 ?_
  refine zpf_4_7 dX4_findCheapest_40 (zf_RX4_65 _ rfl) o1 ?_
  refine z_nameV (fun V9 e10 => ?_)
  have h := h V9 e10
  refine z_aload_n 0 dX4_findCheapest_43 rfl ?_
  refine z_iconst dX4_findCheapest_44 ⟨by decide, by decide⟩ ?_
  refine z_iload_n 2 dX4_findCheapest_45 rfl ?_
  refine z_cSV [zrv a0, ziv 0, ziv a2] (zk_RX4_68 _ rfl) dX4_findCheapest_46 rfl rfl (Nat.le_of_ble_eq_true rfl) (Nat.le_of_ble_eq_true rfl) (Nat.le_of_ble_eq_true rfl) (Nat.le_of_ble_eq_true rfl) (Nat.le_of_ble_eq_true rfl) h (fun V12 h => ?_)
  refine z_aload_n 0 dX4_findCheapest_49 rfl ?_
  refine zgf_4_7 dX4_findCheapest_50 (zf_RX4_65 _ rfl) o1 ?_
  exact z_retI dX4_findCheapest_53 rfl h
set_option maxRecDepth 100000 in
set_option maxHeartbeats 4000000 in
theorem en_X4_findCheapestFor {E : zE} {F : Int → zH → Prop} {S : zS} {a0 a1 : Int} {V : zH}
    (h : ((S a0).1 = 7) ∧ ((S (V a0 0)).1 = 4) ∧ SpF E 0 zm_X4_endOf [zrv a0, ziv (-1)] S V (fun x3 => SpF E 0 zm_X4_costOf [zrv a0, zrv a1, ziv (V (V a0 0) 1), ziv x3] S V (fun x5 => SpI E 23 zm_X4_findCheapest [zrv a0, zrv a1, ziv x5] S V (fun x7 V8 => F x7 V8)))) :
    SpI E 24 zm_X4_findCheapestFor [zrv a0, zrv a1] S V F := by
  refine Sp.of (plainFor_of_name (by decide +kernel)) (Nat.le_of_ble_eq_true rfl) (fun hok X => ?_)
  have h := h
  show Zr E X (zRoom 24 0 0) zm_X4_findCheapestFor (zQm E X (zpI S F) 0 0) 0 0 0 [(0, zrv a0), (1, zrv a1)] [] S V
  refine z_aload_n 0 dX4_findCheapestFor_0 rfl ?_
  refine z_aload_n 1 dX4_findCheapestFor_1 rfl ?_
  refine z_aload_n 0 dX4_findCheapestFor_2 rfl ?_
  refine z_aload_n 1 dX4_findCheapestFor_3 rfl ?_
  refine z_aload_n 0 dX4_findCheapestFor_4 rfl ?_
  obtain ⟨o1, h⟩ := h
  refine zgf_4_0 dX4_findCheapestFor_5 (zf_RX4_32 _ rfl) o1 ?_
  obtain ⟨o2, h⟩ := h
  refine zgf_1_1 dX4_findCheapestFor_8 (zf_RX4_49 _ rfl) o2 ?_
  refine z_aload_n 0 dX4_findCheapestFor_11 rfl ?_
  refine z_iconst dX4_findCheapestFor_12 ⟨by decide, by decide⟩ ?_
  refine z_cVF [ziv (-1)] (zk_RX4_72 _ rfl) dX4_findCheapestFor_13 o1 (by decide) rfl rfl (Nat.le_of_ble_eq_true rfl) (Nat.le_of_ble_eq_true rfl) (Nat.le_of_ble_eq_true rfl) (Nat.le_of_ble_eq_true rfl) (Nat.le_of_ble_eq_true rfl) h (fun x3 h => ?_)
  refine z_cVF [zrv a1, ziv (V (V a0 0) 1), ziv x3] (zk_RX4_76 _ rfl) dX4_findCheapestFor_16 o1 (by decide) rfl rfl (Nat.le_of_ble_eq_true rfl) (Nat.le_of_ble_eq_true rfl) (Nat.le_of_ble_eq_true rfl) (Nat.le_of_ble_eq_true rfl) (Nat.le_of_ble_eq_true rfl) h (fun x5 h => ?_)
  refine z_cVI [zrv a1, ziv x5] (zk_RX4_80 _ rfl) dX4_findCheapestFor_19 o1 (by decide) rfl rfl (Nat.le_of_ble_eq_true rfl) (Nat.le_of_ble_eq_true rfl) (Nat.le_of_ble_eq_true rfl) (Nat.le_of_ble_eq_true rfl) (Nat.le_of_ble_eq_true rfl) h (fun x7 V8 h => ?_)
  exact z_retI dX4_findCheapestFor_22 rfl h
set_option maxRecDepth 100000 in
set_option maxHeartbeats 4000000 in
theorem en_X4_endOf {E : zE} {F : Int → Prop} {S : zS} {a0 a1 : Int} {V : zH}
    (h : z32 a1 → (z32 (a1 + 1)) ∧ ((S a0).1 = 7) ∧ ((V a0 3 ≤ a1 + 1) → (((S (V a0 0)).1 = 4) ∧ F (V (V a0 0) 2))) ∧ ((a1 + 1 < V a0 3) → (((S (V a0 4)).1 = 1) ∧ ((0 : Int) ≤ a1 + 1 ∧ a1 + 1 < (S (V a0 4)).2) ∧ F (V (V a0 4) (a1 + 1))))) :
    SpF E 0 zm_X4_endOf [zrv a0, ziv a1] S V F := by
  refine Sp.of (plainFor_of_name (by decide +kernel)) (Nat.le_of_ble_eq_true rfl) (fun hok X => ?_)
  have h := h (hok _ (List.mem_cons_of_mem _ (List.mem_cons_self)))
  show Zr E X (zRoom 0 0 0) zm_X4_endOf (zQm E X (zpF S V F) 0 0) 0 0 0 [(0, zrv a0), (1, ziv a1)] [] S V
  refine z_iload_n 1 dX4_endOf_0 rfl ?_
  refine z_iconst dX4_endOf_1 ⟨by decide, by decide⟩ ?_
  obtain ⟨o1, h⟩ := h
  refine z_iadd dX4_endOf_2 o1 ?_
  refine z_aload_n 0 dX4_endOf_3 rfl ?_
  obtain ⟨o2, h⟩ := h
  refine zgf_4_3 dX4_endOf_4 (zf_RX4_43 _ rfl) o2 ?_
  refine z_icmp_ge dX4_endOf_7 (tgt := 21) (by decide) (fun c3 => ?_) (fun c3 => ?_)
  · have h := h.1 c3
    refine z_aload_n 0 dX4_endOf_21 rfl ?_
    refine zgf_4_0 dX4_endOf_22 (zf_RX4_32 _ rfl) o2 ?_
    obtain ⟨o4, h⟩ := h
    refine zgf_1_2 dX4_endOf_25 (zf_RX4_52 _ rfl) o4 ?_
    exact z_retFI dX4_endOf_28 rfl h
  · have h := h.2 c3
    refine z_aload_n 0 dX4_endOf_10 rfl ?_
    refine zgf_4_4 dX4_endOf_11 (zf_RX4_9 _ rfl) o2 ?_
    refine z_iload_n 1 dX4_endOf_14 rfl ?_
    refine z_iconst dX4_endOf_15 ⟨by decide, by decide⟩ ?_
    refine z_iadd dX4_endOf_16 o1 ?_
    obtain ⟨o5, h⟩ := h
    obtain ⟨o6, h⟩ := h
    refine z_iald dX4_endOf_17 o5 o6 ?_
    refine z_goto (tgt := 28) dX4_endOf_18 (by decide) ?_
    exact z_retFI dX4_endOf_28 rfl h
def zl_X4_costOf_6 (E : zE) (X : zX) (F : Int → Prop) (S : zS) (a0 a1 a3 a4 a5 : Int) (V : zH) : Prop := Zr E X (zRoom 0 0 0) zm_X4_costOf (zQm E X (zpF S V F) 0 0) 0 0 6 [(0, zrv a0), (1, zrv a1), (3, ziv a3), (4, ziv a4), (5, ziv a5)] [] S V
set_option maxRecDepth 100000 in
set_option maxHeartbeats 4000000 in
theorem wp_X4_costOf_6 {E : zE} {X : zX} {F : Int → Prop} {S : zS} {a0 a1 a3 a4 a5 : Int} {V : zH}
    (h : ((a3 ≤ a5) → (F a4)) ∧ ((a5 < a3) → (((S a1).1 = 1) ∧ ((0 : Int) ≤ a5 ∧ a5 < (S a1).2) ∧ ((S a0).1 = 7) ∧ ((S (V a0 5)).1 = 1) ∧ ((0 : Int) ≤ a5 ∧ a5 < (S (V a0 5)).2) ∧ (z32 ((V a1 a5) * (V (V a0 5) a5))) ∧ (z32 (a4 + ((V a1 a5) * (V (V a0 5) a5)))) ∧ ∀ x9 : Int, x9 = a4 + ((V a1 a5) * (V (V a0 5) a5)) → (z32 (a5 + 1)) ∧ zl_X4_costOf_6 E X F S a0 a1 a3 x9 (a5 + 1) V))) :
    zl_X4_costOf_6 E X F S a0 a1 a3 a4 a5 V := by
  unfold zl_X4_costOf_6
  refine z_iload 4 dX4_costOf_6 rfl ?_
  refine z_iload_n 2 dX4_costOf_8 rfl ?_
  refine z_icmp_ge dX4_costOf_9 (tgt := 35) (by decide) (fun c1 => ?_) (fun c1 => ?_)
  · have h := h.1 c1
    refine z_iload 3 dX4_costOf_35 rfl ?_
    exact z_retFI dX4_costOf_37 rfl h
  · have h := h.2 c1
    refine z_iload 3 dX4_costOf_12 rfl ?_
    refine z_aload_n 1 dX4_costOf_14 rfl ?_
    refine z_iload 4 dX4_costOf_15 rfl ?_
    obtain ⟨o2, h⟩ := h
    obtain ⟨o3, h⟩ := h
    refine z_iald dX4_costOf_17 o2 o3 ?_
    refine z_aload_n 0 dX4_costOf_18 rfl ?_
    obtain ⟨o4, h⟩ := h
    refine zgf_4_5 dX4_costOf_19 (zf_RX4_17 _ rfl) o4 ?_
    refine z_iload 4 dX4_costOf_22 rfl ?_
    obtain ⟨o5, h⟩ := h
    obtain ⟨o6, h⟩ := h
    refine z_iald dX4_costOf_24 o5 o6 ?_
    obtain ⟨o7, h⟩ := h
    refine z_imul dX4_costOf_25 o7 ?_
    obtain ⟨o8, h⟩ := h
    refine z_iadd dX4_costOf_26 o8 ?_
    refine z_nameI (fun x9 e10 => ?_)
    have h := h x9 e10
    refine z_istore dX4_costOf_27 (by decide) (L' := [(0, zrv a0), (1, zrv a1), (3, ziv a3), (4, ziv x9), (5, ziv a5)]) [1, 2, 3, 0, 4] rfl ?_
    obtain ⟨o11, h⟩ := h
    refine z_iinc 4 dX4_costOf_29 rfl (by decide) o11 (L' := [(0, zrv a0), (1, zrv a1), (3, ziv a3), (4, ziv x9), (5, ziv (a5 + 1))]) [1, 2, 3, 4, 0] rfl ?_
    refine z_goto (tgt := 6) dX4_costOf_32 (by decide) ?_
    exact h
set_option maxRecDepth 100000 in
set_option maxHeartbeats 4000000 in
theorem en_X4_costOf {E : zE} {F : Int → Prop} {S : zS} {a0 a1 a2 a3 : Int} {V : zH}
    (h : z32 a2 → z32 a3 → ∀ X : zX, zl_X4_costOf_6 E X F S a0 a1 a3 0 a2 V) :
    SpF E 0 zm_X4_costOf [zrv a0, zrv a1, ziv a2, ziv a3] S V F := by
  refine Sp.of (plainFor_of_name (by decide +kernel)) (Nat.le_of_ble_eq_true rfl) (fun hok X => ?_)
  have h := h (hok _ (List.mem_cons_of_mem _ (List.mem_cons_of_mem _ (List.mem_cons_self)))) (hok _ (List.mem_cons_of_mem _ (List.mem_cons_of_mem _ (List.mem_cons_of_mem _ (List.mem_cons_self))))) X
  show Zr E X (zRoom 0 0 0) zm_X4_costOf (zQm E X (zpF S V F) 0 0) 0 0 0 [(0, zrv a0), (1, zrv a1), (2, ziv a2), (3, ziv a3)] [] S V
  refine z_iconst dX4_costOf_0 ⟨by decide, by decide⟩ ?_
  refine z_istore dX4_costOf_1 (by decide) (L' := [(0, zrv a0), (1, zrv a1), (2, ziv a2), (3, ziv a3), (4, ziv 0)]) [1, 2, 3, 4, 0] rfl ?_
  refine z_iload_n 2 dX4_costOf_3 rfl ?_
  refine z_istore dX4_costOf_4 (by decide) (L' := [(0, zrv a0), (1, zrv a1), (2, ziv a2), (3, ziv a3), (4, ziv 0), (5, ziv a2)]) [1, 2, 3, 4, 5, 0] rfl ?_
  refine z_loc (L' := [(0, zrv a0), (1, zrv a1), (3, ziv a3), (4, ziv 0), (5, ziv a2)]) [0, 1, 3, 4, 5] rfl ?_
  exact h
def zl_X4_explore_67 (E : zE) (X : zX) (F : zH → Prop) (d : Nat) (S : zS) (a0 a1 a2 a3 a4 a5 a6 : Int) (V : zH) : Prop := Zr E X (zRoom d 0 0) zm_X4_explore (zQm E X (zpV S F) 0 0) 0 0 67 [(0, zrv a0), (1, ziv a1), (2, ziv a2), (3, ziv a3), (4, ziv a4), (5, ziv a5), (6, ziv a6)] [] S V
set_option maxRecDepth 100000 in
set_option maxHeartbeats 4000000 in
theorem wp_X4_explore_67 {E : zE} {X : zX} {F : zH → Prop} {d d1 : Nat} {S : zS} {a0 a1 a2 a3 a4 a5 a6 : Int} {V : zH} (hd0 : 2 ≤ d) (hd1 : d1 + 1 ≤ d)
    (h : ((S a0).1 = 7) ∧ ((S (V a0 0)).1 = 4) ∧ ((V (V a0 0) 0 ≤ a6) → (F V)) ∧ ((a6 < V (V a0 0) 0) → (((S (V a0 5)).1 = 1) ∧ ((0 : Int) ≤ a3 ∧ a3 < (S (V a0 5)).2) ∧ (z32 (a6 * (V (V a0 5) a3))) ∧ (z32 (a2 + (a6 * (V (V a0 5) a3)))) ∧ ((a2 + (a6 * (V (V a0 5) a3)) < V a0 7) → (SpF E 0 zm_X4_costOf [zrv a0, zrv (V a0 6), ziv a3, ziv a4] S V (fun x9 => (z32 (a2 + x9)) ∧ ∀ x12 : Int, x12 = a2 + x9 → ((V a0 7 ≤ x12) → (SpV E 1 zm_X1_addRow [zrv (V a0 0), zrv (V a0 6), ziv a3] S V (fun V16 => (z32 (a6 + a5)) ∧ ∀ x18 : Int, x18 = a6 + a5 → zl_X4_explore_67 E X F d S a0 a1 a2 a3 a4 a5 x18 V16))) ∧ ((x12 < V a0 7) → ((z32 (a1 + 1)) ∧ SpV E d1 zm_X4_explore [zrv a0, ziv (a1 + 1), ziv x12] S V (fun V22 => ((S (V22 a0 0)).1 = 4) ∧ SpV E 1 zm_X1_addRow [zrv (V22 a0 0), zrv (V22 a0 6), ziv a3] S V22 (fun V25 => (z32 (a6 + a5)) ∧ ∀ x27 : Int, x27 = a6 + a5 → zl_X4_explore_67 E X F d S a0 a1 a2 a3 a4 a5 x27 V25))))))) ∧ ((V a0 7 ≤ a2 + (a6 * (V (V a0 5) a3))) → (F V))))) :
    zl_X4_explore_67 E X F d S a0 a1 a2 a3 a4 a5 a6 V := by
  unfold zl_X4_explore_67
  refine z_iload 6 dX4_explore_67 rfl ?_
  refine z_aload_n 0 dX4_explore_69 rfl ?_
  obtain ⟨o1, h⟩ := h
  refine zgf_4_0 dX4_explore_70 (zf_RX4_32 _ rfl) o1 ?_
  obtain ⟨o2, h⟩ := h
  refine zgf_1_0 dX4_explore_73 (zf_RX4_98 _ rfl) o2 ?_
  refine z_icmp_ge dX4_explore_76 (tgt := 153) (by decide) (fun c3 => ?_) (fun c3 => ?_)
  · have h := h.1 c3
    exact z_retV dX4_explore_153 rfl h
  · have h := h.2 c3
    refine z_iload_n 2 dX4_explore_79 rfl ?_
    refine z_iload 6 dX4_explore_80 rfl ?_
    refine z_aload_n 0 dX4_explore_82 rfl ?_
    refine zgf_4_5 dX4_explore_83 (zf_RX4_17 _ rfl) o1 ?_
    refine z_iload_n 3 dX4_explore_86 rfl ?_
    obtain ⟨o4, h⟩ := h
    obtain ⟨o5, h⟩ := h
    refine z_iald dX4_explore_87 o4 o5 ?_
    obtain ⟨o6, h⟩ := h
    refine z_imul dX4_explore_88 o6 ?_
    obtain ⟨o7, h⟩ := h
    refine z_iadd dX4_explore_89 o7 ?_
    refine z_aload_n 0 dX4_explore_90 rfl ?_
    refine zgf_4_7 dX4_explore_91 (zf_RX4_65 _ rfl) o1 ?_
    refine z_icmp_lt dX4_explore_94 (tgt := 98) (by decide) (fun c8 => ?_) (fun c8 => ?_)
    · have h := h.1 c8
      refine z_iload_n 2 dX4_explore_98 rfl ?_
      refine z_aload_n 0 dX4_explore_99 rfl ?_
      refine z_aload_n 0 dX4_explore_100 rfl ?_
      refine zgf_4_6 dX4_explore_101 (zf_RX4_20 _ rfl) o1 ?_
      refine z_iload_n 3 dX4_explore_104 rfl ?_
      refine z_iload 4 dX4_explore_105 rfl ?_
      refine z_cVF [zrv (V a0 6), ziv a3, ziv a4] (zk_RX4_76 _ rfl) dX4_explore_107 o1 (by decide) rfl rfl (Nat.le_of_ble_eq_true rfl) (by show 0 + 1 ≤ d; omega) (by show 8 + (6 + 11) + 64 * 0 ≤ 64 * d; omega) (Nat.le_of_ble_eq_true rfl) (Nat.le_of_ble_eq_true rfl) h (fun x9 h => ?_)
      obtain ⟨o11, h⟩ := h
      refine z_iadd dX4_explore_110 o11 ?_
      refine z_nameI (fun x12 e13 => ?_)
      have h := h x12 e13
      refine z_istore dX4_explore_111 (by decide) (L' := [(0, zrv a0), (1, ziv a1), (2, ziv a2), (3, ziv a3), (4, ziv a4), (5, ziv a5), (6, ziv a6), (7, ziv x12)]) [1, 2, 3, 4, 5, 6, 7, 0] rfl ?_
      refine z_iload 7 dX4_explore_113 rfl ?_
      refine z_aload_n 0 dX4_explore_115 rfl ?_
      refine zgf_4_7 dX4_explore_116 (zf_RX4_65 _ rfl) o1 ?_
      refine z_icmp_ge dX4_explore_119 (tgt := 131) (by decide) (fun c14 => ?_) (fun c14 => ?_)
      · have h := h.1 c14
        refine z_aload_n 0 dX4_explore_131 rfl ?_
        refine zgf_4_0 dX4_explore_132 (zf_RX4_32 _ rfl) o1 ?_
        refine z_aload_n 0 dX4_explore_135 rfl ?_
        refine zgf_4_6 dX4_explore_136 (zf_RX4_20 _ rfl) o1 ?_
        refine z_iload_n 3 dX4_explore_139 rfl ?_
        refine z_cVV [zrv (V a0 6), ziv a3] (zk_RX4_101 _ rfl) dX4_explore_140 o2 (by decide) rfl rfl (Nat.le_of_ble_eq_true rfl) (by show 1 + 1 ≤ d; omega) (by show 8 + (3 + 11) + 64 * 1 ≤ 64 * d; omega) (Nat.le_of_ble_eq_true rfl) (Nat.le_of_ble_eq_true rfl) h (fun V16 h => ?_)
        refine z_iload 6 dX4_explore_143 rfl ?_
        refine z_iload 5 dX4_explore_145 rfl ?_
        obtain ⟨o17, h⟩ := h
        refine z_iadd dX4_explore_147 o17 ?_
        refine z_nameI (fun x18 e19 => ?_)
        have h := h x18 e19
        refine z_istore dX4_explore_148 (by decide) (L' := [(0, zrv a0), (1, ziv a1), (2, ziv a2), (3, ziv a3), (4, ziv a4), (5, ziv a5), (6, ziv x18), (7, ziv x12)]) [1, 2, 3, 4, 5, 6, 0, 7] rfl ?_
        refine z_goto (tgt := 67) dX4_explore_150 (by decide) ?_
        refine z_loc (L' := [(0, zrv a0), (1, ziv a1), (2, ziv a2), (3, ziv a3), (4, ziv a4), (5, ziv a5), (6, ziv x18)]) [0, 1, 2, 3, 4, 5, 6] rfl ?_
        exact h
      · have h := h.2 c14
        refine z_aload_n 0 dX4_explore_122 rfl ?_
        refine z_iload_n 1 dX4_explore_123 rfl ?_
        refine z_iconst dX4_explore_124 ⟨by decide, by decide⟩ ?_
        obtain ⟨o20, h⟩ := h
        refine z_iadd dX4_explore_125 o20 ?_
        refine z_iload 7 dX4_explore_126 rfl ?_
        refine z_cSV [zrv a0, ziv (a1 + 1), ziv x12] (zk_RX4_68 _ rfl) dX4_explore_128 rfl rfl (Nat.le_of_ble_eq_true rfl) (by show d1 + 1 ≤ d; omega) (by show 8 + (8 + 11) + 64 * d1 ≤ 64 * d; omega) (Nat.le_of_ble_eq_true rfl) (Nat.le_of_ble_eq_true rfl) h (fun V22 h => ?_)
        refine z_aload_n 0 dX4_explore_131 rfl ?_
        refine zgf_4_0 dX4_explore_132 (zf_RX4_32 _ rfl) o1 ?_
        refine z_aload_n 0 dX4_explore_135 rfl ?_
        refine zgf_4_6 dX4_explore_136 (zf_RX4_20 _ rfl) o1 ?_
        refine z_iload_n 3 dX4_explore_139 rfl ?_
        obtain ⟨o23, h⟩ := h
        refine z_cVV [zrv (V22 a0 6), ziv a3] (zk_RX4_101 _ rfl) dX4_explore_140 o23 (by decide) rfl rfl (Nat.le_of_ble_eq_true rfl) (by show 1 + 1 ≤ d; omega) (by show 8 + (3 + 11) + 64 * 1 ≤ 64 * d; omega) (Nat.le_of_ble_eq_true rfl) (Nat.le_of_ble_eq_true rfl) h (fun V25 h => ?_)
        refine z_iload 6 dX4_explore_143 rfl ?_
        refine z_iload 5 dX4_explore_145 rfl ?_
        obtain ⟨o26, h⟩ := h
        refine z_iadd dX4_explore_147 o26 ?_
        refine z_nameI (fun x27 e28 => ?_)
        have h := h x27 e28
        refine z_istore dX4_explore_148 (by decide) (L' := [(0, zrv a0), (1, ziv a1), (2, ziv a2), (3, ziv a3), (4, ziv a4), (5, ziv a5), (6, ziv x27), (7, ziv x12)]) [1, 2, 3, 4, 5, 6, 0, 7] rfl ?_
        refine z_goto (tgt := 67) dX4_explore_150 (by decide) ?_
        refine z_loc (L' := [(0, zrv a0), (1, ziv a1), (2, ziv a2), (3, ziv a3), (4, ziv a4), (5, ziv a5), (6, ziv x27)]) [0, 1, 2, 3, 4, 5, 6] rfl ?_
        exact h
    · have h := h.2 c8
      exact z_retV dX4_explore_97 rfl h
set_option maxRecDepth 100000 in
set_option maxHeartbeats 4000000 in
theorem en_X4_explore {E : zE} {F : zH → Prop} {d d1 : Nat} {S : zS} {a0 a1 a2 : Int} {V : zH} (hd0 : 2 ≤ d) (hd1 : d1 + 1 ≤ d)
    (h : z32 a1 → z32 a2 → ∀ X : zX, ((S a0).1 = 7) ∧ ((a1 < V a0 3) → (((S (V a0 4)).1 = 1) ∧ ((0 : Int) ≤ a1 ∧ a1 < (S (V a0 4)).2) ∧ ∀ x5 : Int, x5 = V (V a0 4) a1 → SpF E 0 zm_X4_endOf [zrv a0, ziv a1] S V (fun x7 => ((S (V a0 0)).1 = 4) ∧ ((S (V (V a0 0) 4)).1 = 1) ∧ ((0 : Int) ≤ x5 ∧ x5 < (S (V (V a0 0) 4)).2) ∧ SpF E 0 zm_J9_max_7cf53 [ziv 1, ziv (V (V (V a0 0) 4) x5)] S V (fun x12 => (z32 (x5 + 1)) ∧ SpV E 1 zm_X1_reduce [zrv (V a0 0), zrv (V a0 6), ziv 0, ziv x5, ziv (x5 + 1)] S V (fun V16 => ((S (V16 a0 6)).1 = 1) ∧ ((0 : Int) ≤ x5 ∧ x5 < (S (V16 a0 6)).2) ∧ ∀ x19 : Int, x19 = V16 (V16 a0 6) x5 → zl_X4_explore_67 E X F d S a0 a1 a2 x5 x7 x12 x19 V16))))) ∧ ((V a0 3 ≤ a1) → (SpV E 1 zm_X4_takeFound [zrv a0, ziv a2] S V (fun V22 => F V22)))) :
    SpV E d zm_X4_explore [zrv a0, ziv a1, ziv a2] S V F := by
  refine Sp.of (plainFor_of_name (by decide +kernel)) (Nat.le_of_ble_eq_true rfl) (fun hok X => ?_)
  have h := h (hok _ (List.mem_cons_of_mem _ (List.mem_cons_self))) (hok _ (List.mem_cons_of_mem _ (List.mem_cons_of_mem _ (List.mem_cons_self)))) X
  show Zr E X (zRoom d 0 0) zm_X4_explore (zQm E X (zpV S F) 0 0) 0 0 0 [(0, zrv a0), (1, ziv a1), (2, ziv a2)] [] S V
  refine z_iload_n 1 dX4_explore_0 rfl ?_
  refine z_aload_n 0 dX4_explore_1 rfl ?_
  obtain ⟨o1, h⟩ := h
  refine zgf_4_3 dX4_explore_2 (zf_RX4_43 _ rfl) o1 ?_
  refine z_icmp_lt dX4_explore_5 (tgt := 14) (by decide) (fun c2 => ?_) (fun c2 => ?_)
  · have h := h.1 c2
    refine z_aload_n 0 dX4_explore_14 rfl ?_
    refine zgf_4_4 dX4_explore_15 (zf_RX4_9 _ rfl) o1 ?_
    refine z_iload_n 1 dX4_explore_18 rfl ?_
    obtain ⟨o3, h⟩ := h
    obtain ⟨o4, h⟩ := h
    refine z_iald dX4_explore_19 o3 o4 ?_
    refine z_nameI (fun x5 e6 => ?_)
    have h := h x5 e6
    refine z_istore_n dX4_explore_20 (by decide) (L' := [(0, zrv a0), (1, ziv a1), (2, ziv a2), (3, ziv x5)]) [1, 2, 3, 0] rfl ?_
    refine z_aload_n 0 dX4_explore_21 rfl ?_
    refine z_iload_n 1 dX4_explore_22 rfl ?_
    refine z_cVF [ziv a1] (zk_RX4_72 _ rfl) dX4_explore_23 o1 (by decide) rfl rfl (Nat.le_of_ble_eq_true rfl) (by show 0 + 1 ≤ d; omega) (by show 8 + (2 + 11) + 64 * 0 ≤ 64 * d; omega) (Nat.le_of_ble_eq_true rfl) (Nat.le_of_ble_eq_true rfl) h (fun x7 h => ?_)
    refine z_istore dX4_explore_26 (by decide) (L' := [(0, zrv a0), (1, ziv a1), (2, ziv a2), (3, ziv x5), (4, ziv x7)]) [1, 2, 3, 4, 0] rfl ?_
    refine z_iconst dX4_explore_28 ⟨by decide, by decide⟩ ?_
    refine z_aload_n 0 dX4_explore_29 rfl ?_
    refine zgf_4_0 dX4_explore_30 (zf_RX4_32 _ rfl) o1 ?_
    obtain ⟨o9, h⟩ := h
    refine zgf_1_4 dX4_explore_33 (zf_RX4_55 _ rfl) o9 ?_
    refine z_iload_n 3 dX4_explore_36 rfl ?_
    obtain ⟨o10, h⟩ := h
    obtain ⟨o11, h⟩ := h
    refine z_iald dX4_explore_37 o10 o11 ?_
    refine z_cSF [ziv 1, ziv (V (V (V a0 0) 4) x5)] (zk_RX4_88 _ rfl) dX4_explore_38 rfl rfl (Nat.le_of_ble_eq_true rfl) (by show 0 + 1 ≤ d; omega) (by show 8 + (2 + 11) + 64 * 0 ≤ 64 * d; omega) (Nat.le_of_ble_eq_true rfl) (Nat.le_of_ble_eq_true rfl) h (fun x12 h => ?_)
    refine z_istore dX4_explore_41 (by decide) (L' := [(0, zrv a0), (1, ziv a1), (2, ziv a2), (3, ziv x5), (4, ziv x7), (5, ziv x12)]) [1, 2, 3, 4, 5, 0] rfl ?_
    refine z_aload_n 0 dX4_explore_43 rfl ?_
    refine zgf_4_0 dX4_explore_44 (zf_RX4_32 _ rfl) o1 ?_
    refine z_aload_n 0 dX4_explore_47 rfl ?_
    refine zgf_4_6 dX4_explore_48 (zf_RX4_20 _ rfl) o1 ?_
    refine z_iconst dX4_explore_51 ⟨by decide, by decide⟩ ?_
    refine z_iload_n 3 dX4_explore_52 rfl ?_
    refine z_iload_n 3 dX4_explore_53 rfl ?_
    refine z_iconst dX4_explore_54 ⟨by decide, by decide⟩ ?_
    obtain ⟨o14, h⟩ := h
    refine z_iadd dX4_explore_55 o14 ?_
    refine z_cVV [zrv (V a0 6), ziv 0, ziv x5, ziv (x5 + 1)] (zk_RX4_94 _ rfl) dX4_explore_56 o9 (by decide) rfl rfl (Nat.le_of_ble_eq_true rfl) (by show 1 + 1 ≤ d; omega) (by show 8 + (8 + 11) + 64 * 1 ≤ 64 * d; omega) (Nat.le_of_ble_eq_true rfl) (Nat.le_of_ble_eq_true rfl) h (fun V16 h => ?_)
    refine z_aload_n 0 dX4_explore_59 rfl ?_
    refine zgf_4_6 dX4_explore_60 (zf_RX4_20 _ rfl) o1 ?_
    refine z_iload_n 3 dX4_explore_63 rfl ?_
    obtain ⟨o17, h⟩ := h
    obtain ⟨o18, h⟩ := h
    refine z_iald dX4_explore_64 o17 o18 ?_
    refine z_nameI (fun x19 e20 => ?_)
    have h := h x19 e20
    refine z_istore dX4_explore_65 (by decide) (L' := [(0, zrv a0), (1, ziv a1), (2, ziv a2), (3, ziv x5), (4, ziv x7), (5, ziv x12), (6, ziv x19)]) [1, 2, 3, 4, 5, 6, 0] rfl ?_
    exact h
  · have h := h.2 c2
    refine z_aload_n 0 dX4_explore_8 rfl ?_
    refine z_iload_n 2 dX4_explore_9 rfl ?_
    refine z_cVV [ziv a2] (zk_RX4_84 _ rfl) dX4_explore_10 o1 (by decide) rfl rfl (Nat.le_of_ble_eq_true rfl) (by show 1 + 1 ≤ d; omega) (by show 8 + (2 + 11) + 64 * 1 ≤ 64 * d; omega) (Nat.le_of_ble_eq_true rfl) (Nat.le_of_ble_eq_true rfl) h (fun V22 h => ?_)
    exact z_retV dX4_explore_13 rfl h
set_option maxRecDepth 100000 in
set_option maxHeartbeats 4000000 in
theorem en_X4_takeFound {E : zE} {F : zH → Prop} {S : zS} {a0 a1 : Int} {V : zH}
    (h : z32 a1 → ((S a0).1 = 7) ∧ ((a1 < V a0 7) → (((V a0 10 ≤ a1) → (∀ V4 : zH, V4 = zput V a0 7 a1 → ((S (V a0 0)).1 = 4) ∧ (z32 ((V (V a0 0) 2) - (V (V a0 0) 1))) ∧ ((S (V a0 6)).1 = 1) ∧ ((S (V a0 8)).1 = 1) ∧ ((0 : Int) ≤ V (V a0 0) 1 ∧ (0 : Int) ≤ V (V a0 0) 1 ∧ (0 : Int) ≤ (V (V a0 0) 2) - (V (V a0 0) 1) ∧ (V (V a0 0) 1) + ((V (V a0 0) 2) - (V (V a0 0) 1)) ≤ (S (V a0 6)).2 ∧ (V (V a0 0) 1) + ((V (V a0 0) 2) - (V (V a0 0) 1)) ≤ (S (V a0 8)).2) ∧ ∀ V11 : zH, V11 = zcpy V4 (V a0 6) (V (V a0 0) 1) (V a0 8) (V (V a0 0) 1) ((V (V a0 0) 2) - (V (V a0 0) 1)) → F V11)) ∧ ((a1 < V a0 10) → (∀ V13 : zH, V13 = zput V a0 7 0 → ((S (V a0 0)).1 = 4) ∧ (z32 ((V (V a0 0) 2) - (V (V a0 0) 1))) ∧ ((S (V a0 6)).1 = 1) ∧ ((S (V a0 8)).1 = 1) ∧ ((0 : Int) ≤ V (V a0 0) 1 ∧ (0 : Int) ≤ V (V a0 0) 1 ∧ (0 : Int) ≤ (V (V a0 0) 2) - (V (V a0 0) 1) ∧ (V (V a0 0) 1) + ((V (V a0 0) 2) - (V (V a0 0) 1)) ≤ (S (V a0 6)).2 ∧ (V (V a0 0) 1) + ((V (V a0 0) 2) - (V (V a0 0) 1)) ≤ (S (V a0 8)).2) ∧ ∀ V20 : zH, V20 = zcpy V13 (V a0 6) (V (V a0 0) 1) (V a0 8) (V (V a0 0) 1) ((V (V a0 0) 2) - (V (V a0 0) 1)) → F V20)))) ∧ ((V a0 7 ≤ a1) → (F V))) :
    SpV E 1 zm_X4_takeFound [zrv a0, ziv a1] S V F := by
  refine Sp.of (plainFor_of_name (by decide +kernel)) (Nat.le_of_ble_eq_true rfl) (fun hok X => ?_)
  have h := h (hok _ (List.mem_cons_of_mem _ (List.mem_cons_self)))
  show Zr E X (zRoom 1 0 0) zm_X4_takeFound (zQm E X (zpV S F) 0 0) 0 0 0 [(0, zrv a0), (1, ziv a1)] [] S V
  refine z_iload_n 1 dX4_takeFound_0 rfl ?_
  refine z_aload_n 0 dX4_takeFound_1 rfl ?_
  obtain ⟨o1, h⟩ := h
  refine zgf_4_7 dX4_takeFound_2 (zf_RX4_65 _ rfl) o1 ?_
  refine z_icmp_lt dX4_takeFound_5 (tgt := 9) (by decide) (fun c2 => ?_) (fun c2 => ?_)
  · have h := h.1 c2
    refine z_aload_n 0 dX4_takeFound_9 rfl ?_
    refine z_iload_n 1 dX4_takeFound_10 rfl ?_
    refine z_aload_n 0 dX4_takeFound_11 rfl ?_
    refine zgf_4_10 dX4_takeFound_12 (zf_RX4_46 _ rfl) o1 ?_
    refine z_icmp_ge dX4_takeFound_15 (tgt := 22) (by decide) (fun c3 => ?_) (fun c3 => ?_)
    · have h := h.1 c3
      refine z_iload_n 1 dX4_takeFound_22 rfl ?_
      refine zpf_4_7 dX4_takeFound_23 (zf_RX4_65 _ rfl) o1 ?_
      refine z_nameV (fun V4 e5 => ?_)
      have h := h V4 e5
      refine z_aload_n 0 dX4_takeFound_26 rfl ?_
      refine zgf_4_6 dX4_takeFound_27 (zf_RX4_20 _ rfl) o1 ?_
      refine z_topR (zfr_j e5 (by decide)) ?_
      refine z_aload_n 0 dX4_takeFound_30 rfl ?_
      refine zgf_4_0 dX4_takeFound_31 (zf_RX4_32 _ rfl) o1 ?_
      refine z_topR (zfr_j e5 (by decide)) ?_
      obtain ⟨o6, h⟩ := h
      refine zgf_1_1 dX4_takeFound_34 (zf_RX4_49 _ rfl) o6 ?_
      refine z_topI (zfr_k e5 o1 o6 (by decide)) ?_
      refine z_aload_n 0 dX4_takeFound_37 rfl ?_
      refine zgf_4_8 dX4_takeFound_38 (zf_RX4_23 _ rfl) o1 ?_
      refine z_topR (zfr_j e5 (by decide)) ?_
      refine z_aload_n 0 dX4_takeFound_41 rfl ?_
      refine zgf_4_0 dX4_takeFound_42 (zf_RX4_32 _ rfl) o1 ?_
      refine z_topR (zfr_j e5 (by decide)) ?_
      refine zgf_1_1 dX4_takeFound_45 (zf_RX4_49 _ rfl) o6 ?_
      refine z_topI (zfr_k e5 o1 o6 (by decide)) ?_
      refine z_aload_n 0 dX4_takeFound_48 rfl ?_
      refine zgf_4_0 dX4_takeFound_49 (zf_RX4_32 _ rfl) o1 ?_
      refine z_topR (zfr_j e5 (by decide)) ?_
      refine zgf_1_2 dX4_takeFound_52 (zf_RX4_52 _ rfl) o6 ?_
      refine z_topI (zfr_k e5 o1 o6 (by decide)) ?_
      refine z_aload_n 0 dX4_takeFound_55 rfl ?_
      refine zgf_4_0 dX4_takeFound_56 (zf_RX4_32 _ rfl) o1 ?_
      refine z_topR (zfr_j e5 (by decide)) ?_
      refine zgf_1_1 dX4_takeFound_59 (zf_RX4_49 _ rfl) o6 ?_
      refine z_topI (zfr_k e5 o1 o6 (by decide)) ?_
      obtain ⟨o7, h⟩ := h
      refine z_isub dX4_takeFound_62 o7 ?_
      obtain ⟨o8, h⟩ := h
      obtain ⟨o9, h⟩ := h
      obtain ⟨o10, h⟩ := h
      refine z_copy dX4_takeFound_63 (zk_RX4_58 _ rfl) zw_copy o8 o9 o10 (Nat.le_of_ble_eq_true rfl) (Nat.le_of_ble_eq_true rfl) (Nat.le_of_ble_eq_true rfl) ?_
      refine z_nameV (fun V11 e12 => ?_)
      have h := h V11 e12
      exact z_retV dX4_takeFound_66 rfl h
    · have h := h.2 c3
      refine z_iconst dX4_takeFound_18 ⟨by decide, by decide⟩ ?_
      refine z_goto (tgt := 23) dX4_takeFound_19 (by decide) ?_
      refine zpf_4_7 dX4_takeFound_23 (zf_RX4_65 _ rfl) o1 ?_
      refine z_nameV (fun V13 e14 => ?_)
      have h := h V13 e14
      refine z_aload_n 0 dX4_takeFound_26 rfl ?_
      refine zgf_4_6 dX4_takeFound_27 (zf_RX4_20 _ rfl) o1 ?_
      refine z_topR (zfr_j e14 (by decide)) ?_
      refine z_aload_n 0 dX4_takeFound_30 rfl ?_
      refine zgf_4_0 dX4_takeFound_31 (zf_RX4_32 _ rfl) o1 ?_
      refine z_topR (zfr_j e14 (by decide)) ?_
      obtain ⟨o15, h⟩ := h
      refine zgf_1_1 dX4_takeFound_34 (zf_RX4_49 _ rfl) o15 ?_
      refine z_topI (zfr_k e14 o1 o15 (by decide)) ?_
      refine z_aload_n 0 dX4_takeFound_37 rfl ?_
      refine zgf_4_8 dX4_takeFound_38 (zf_RX4_23 _ rfl) o1 ?_
      refine z_topR (zfr_j e14 (by decide)) ?_
      refine z_aload_n 0 dX4_takeFound_41 rfl ?_
      refine zgf_4_0 dX4_takeFound_42 (zf_RX4_32 _ rfl) o1 ?_
      refine z_topR (zfr_j e14 (by decide)) ?_
      refine zgf_1_1 dX4_takeFound_45 (zf_RX4_49 _ rfl) o15 ?_
      refine z_topI (zfr_k e14 o1 o15 (by decide)) ?_
      refine z_aload_n 0 dX4_takeFound_48 rfl ?_
      refine zgf_4_0 dX4_takeFound_49 (zf_RX4_32 _ rfl) o1 ?_
      refine z_topR (zfr_j e14 (by decide)) ?_
      refine zgf_1_2 dX4_takeFound_52 (zf_RX4_52 _ rfl) o15 ?_
      refine z_topI (zfr_k e14 o1 o15 (by decide)) ?_
      refine z_aload_n 0 dX4_takeFound_55 rfl ?_
      refine zgf_4_0 dX4_takeFound_56 (zf_RX4_32 _ rfl) o1 ?_
      refine z_topR (zfr_j e14 (by decide)) ?_
      refine zgf_1_1 dX4_takeFound_59 (zf_RX4_49 _ rfl) o15 ?_
      refine z_topI (zfr_k e14 o1 o15 (by decide)) ?_
      obtain ⟨o16, h⟩ := h
      refine z_isub dX4_takeFound_62 o16 ?_
      obtain ⟨o17, h⟩ := h
      obtain ⟨o18, h⟩ := h
      obtain ⟨o19, h⟩ := h
      refine z_copy dX4_takeFound_63 (zk_RX4_58 _ rfl) zw_copy o17 o18 o19 (Nat.le_of_ble_eq_true rfl) (Nat.le_of_ble_eq_true rfl) (Nat.le_of_ble_eq_true rfl) ?_
      refine z_nameV (fun V20 e21 => ?_)
      have h := h V20 e21
      exact z_retV dX4_takeFound_66 rfl h
  · have h := h.2 c2
    exact z_retV dX4_takeFound_8 rfl h
set_option maxRecDepth 100000 in
set_option maxHeartbeats 4000000 in
theorem en_X4_findHardest {E : zE} {F : zH → Prop} {S : zS} {a0 : Int} {V : zH}
    (h : ((S a0).1 = 7) ∧ ((S (V a0 0)).1 = 4) ∧ SpV E 44 zm_X4_pickFrom [zrv a0, ziv (V (V a0 0) 1), ziv 0] S V (fun V4 => F V4)) :
    SpV E 45 zm_X4_findHardest [zrv a0] S V F := by
  refine Sp.of (plainFor_of_name (by decide +kernel)) (Nat.le_of_ble_eq_true rfl) (fun hok X => ?_)
  have h := h
  show Zr E X (zRoom 45 0 0) zm_X4_findHardest (zQm E X (zpV S F) 0 0) 0 0 0 [(0, zrv a0)] [] S V
  refine z_aload_n 0 dX4_findHardest_0 rfl ?_
  refine z_aload_n 0 dX4_findHardest_1 rfl ?_
  obtain ⟨o1, h⟩ := h
  refine zgf_4_0 dX4_findHardest_2 (zf_RX4_32 _ rfl) o1 ?_
  obtain ⟨o2, h⟩ := h
  refine zgf_1_1 dX4_findHardest_5 (zf_RX4_49 _ rfl) o2 ?_
  refine z_iconst dX4_findHardest_8 ⟨by decide, by decide⟩ ?_
  refine z_cSV [zrv a0, ziv (V (V a0 0) 1), ziv 0] (zk_RX4_105 _ rfl) dX4_findHardest_9 rfl rfl (Nat.le_of_ble_eq_true rfl) (Nat.le_of_ble_eq_true rfl) (Nat.le_of_ble_eq_true rfl) (Nat.le_of_ble_eq_true rfl) (Nat.le_of_ble_eq_true rfl) h (fun V4 h => ?_)
  exact z_retV dX4_findHardest_12 rfl h
def zl_X4_pickFrom_81 (E : zE) (X : zX) (F : zH → Prop) (d : Nat) (S : zS) (a0 a1 a2 a3 a4 a5 : Int) (V : zH) : Prop := Zr E X (zRoom d 0 0) zm_X4_pickFrom (zQm E X (zpV S F) 0 0) 0 0 81 [(0, zrv a0), (1, ziv a1), (2, ziv a2), (3, ziv a3), (4, ziv a4), (5, ziv a5)] [] S V
set_option maxRecDepth 100000 in
set_option maxHeartbeats 4000000 in
theorem wp_X4_pickFrom_81 {E : zE} {X : zX} {F : zH → Prop} {d d1 : Nat} {S : zS} {a0 a1 a2 a3 a4 a5 : Int} {V : zH} (hd0 : 24 ≤ d) (hd1 : d1 + 1 ≤ d)
    (h : ((a3 ≤ a5) → (F V)) ∧ ((a5 < a3) → (((S a0).1 = 7) ∧ ((S (V a0 9)).1 = 1) ∧ ((0 : Int) ≤ a1 ∧ a1 < (S (V a0 9)).2) ∧ ∀ V5 : zH, V5 = zput V (V a0 9) a1 a5 → (z32 (a1 + 1)) ∧ (z32 (a5 * a4)) ∧ (z32 (a2 + (a5 * a4))) ∧ SpV E d1 zm_X4_pickFrom [zrv a0, ziv (a1 + 1), ziv (a2 + (a5 * a4))] S V5 (fun V11 => (z32 (a5 + 1)) ∧ zl_X4_pickFrom_81 E X F d S a0 a1 a2 a3 a4 (a5 + 1) V11)))) :
    zl_X4_pickFrom_81 E X F d S a0 a1 a2 a3 a4 a5 V := by
  unfold zl_X4_pickFrom_81
  refine z_iload 5 dX4_pickFrom_81 rfl ?_
  refine z_iload_n 3 dX4_pickFrom_83 rfl ?_
  refine z_icmp_ge dX4_pickFrom_84 (tgt := 115) (by decide) (fun c1 => ?_) (fun c1 => ?_)
  · have h := h.1 c1
    exact z_retV dX4_pickFrom_115 rfl h
  · have h := h.2 c1
    refine z_aload_n 0 dX4_pickFrom_87 rfl ?_
    obtain ⟨o2, h⟩ := h
    refine zgf_4_9 dX4_pickFrom_88 (zf_RX4_26 _ rfl) o2 ?_
    refine z_iload_n 1 dX4_pickFrom_91 rfl ?_
    refine z_iload 5 dX4_pickFrom_92 rfl ?_
    obtain ⟨o3, h⟩ := h
    obtain ⟨o4, h⟩ := h
    refine z_iast dX4_pickFrom_94 o3 o4 ?_
    refine z_nameV (fun V5 e6 => ?_)
    have h := h V5 e6
    refine z_aload_n 0 dX4_pickFrom_95 rfl ?_
    refine z_iload_n 1 dX4_pickFrom_96 rfl ?_
    refine z_iconst dX4_pickFrom_97 ⟨by decide, by decide⟩ ?_
    obtain ⟨o7, h⟩ := h
    refine z_iadd dX4_pickFrom_98 o7 ?_
    refine z_iload_n 2 dX4_pickFrom_99 rfl ?_
    refine z_iload 5 dX4_pickFrom_100 rfl ?_
    refine z_iload 4 dX4_pickFrom_102 rfl ?_
    obtain ⟨o8, h⟩ := h
    refine z_imul dX4_pickFrom_104 o8 ?_
    obtain ⟨o9, h⟩ := h
    refine z_iadd dX4_pickFrom_105 o9 ?_
    refine z_cSV [zrv a0, ziv (a1 + 1), ziv (a2 + (a5 * a4))] (zk_RX4_105 _ rfl) dX4_pickFrom_106 rfl rfl (Nat.le_of_ble_eq_true rfl) (by show d1 + 1 ≤ d; omega) (by show 8 + (6 + 11) + 64 * d1 ≤ 64 * d; omega) (Nat.le_of_ble_eq_true rfl) (Nat.le_of_ble_eq_true rfl) h (fun V11 h => ?_)
    obtain ⟨o12, h⟩ := h
    refine z_iinc 5 dX4_pickFrom_109 rfl (by decide) o12 (L' := [(0, zrv a0), (1, ziv a1), (2, ziv a2), (3, ziv a3), (4, ziv a4), (5, ziv (a5 + 1))]) [1, 2, 3, 4, 5, 0] rfl ?_
    refine z_goto (tgt := 81) dX4_pickFrom_112 (by decide) ?_
    exact h
set_option maxRecDepth 100000 in
set_option maxHeartbeats 4000000 in
theorem en_X4_pickFrom {E : zE} {F : zH → Prop} {d d1 : Nat} {S : zS} {a0 a1 a2 : Int} {V : zH} (hd0 : 24 ≤ d) (hd1 : d1 + 1 ≤ d)
    (h : z32 a1 → z32 a2 → ∀ X : zX, ((S a0).1 = 7) ∧ ((S (V a0 0)).1 = 4) ∧ ((a1 < V (V a0 0) 2) → (((S (V (V a0 0) 4)).1 = 1) ∧ ((0 : Int) ≤ a1 ∧ a1 < (S (V (V a0 0) 4)).2) ∧ ((V (V (V a0 0) 4) a1 ≠ 0) → (∀ x7 : Int, x7 = V (V (V a0 0) 4) a1 → SpF E 0 zm_X4_endOf [zrv a0, ziv (-1)] S V (fun x9 => ((x9 ≤ a1) → (zl_X4_pickFrom_81 E X F d S a0 a1 a2 x7 0 0 V)) ∧ ((a1 < x9) → (((S (V a0 5)).1 = 1) ∧ ((0 : Int) ≤ a1 ∧ a1 < (S (V a0 5)).2) ∧ ∀ x14 : Int, x14 = V (V a0 5) a1 → zl_X4_pickFrom_81 E X F d S a0 a1 a2 x7 x14 0 V))))) ∧ ((V (V (V a0 0) 4) a1 = 0) → (∀ x16 : Int, x16 = V (V a0 0) 0 → SpF E 0 zm_X4_endOf [zrv a0, ziv (-1)] S V (fun x18 => ((x18 ≤ a1) → (zl_X4_pickFrom_81 E X F d S a0 a1 a2 x16 0 0 V)) ∧ ((a1 < x18) → (((S (V a0 5)).1 = 1) ∧ ((0 : Int) ≤ a1 ∧ a1 < (S (V a0 5)).2) ∧ ∀ x23 : Int, x23 = V (V a0 5) a1 → zl_X4_pickFrom_81 E X F d S a0 a1 a2 x16 x23 0 V))))))) ∧ ((V (V a0 0) 2 ≤ a1) → (SpI E 23 zm_X4_findCheapest [zrv a0, zrv (V a0 9), ziv a2] S V (fun x25 V26 => SpV E 2 zm_X4_takePicked [zrv a0, ziv x25] S V26 (fun V28 => F V28))))) :
    SpV E d zm_X4_pickFrom [zrv a0, ziv a1, ziv a2] S V F := by
  refine Sp.of (plainFor_of_name (by decide +kernel)) (Nat.le_of_ble_eq_true rfl) (fun hok X => ?_)
  have h := h (hok _ (List.mem_cons_of_mem _ (List.mem_cons_self))) (hok _ (List.mem_cons_of_mem _ (List.mem_cons_of_mem _ (List.mem_cons_self)))) X
  show Zr E X (zRoom d 0 0) zm_X4_pickFrom (zQm E X (zpV S F) 0 0) 0 0 0 [(0, zrv a0), (1, ziv a1), (2, ziv a2)] [] S V
  refine z_iload_n 1 dX4_pickFrom_0 rfl ?_
  refine z_aload_n 0 dX4_pickFrom_1 rfl ?_
  obtain ⟨o1, h⟩ := h
  refine zgf_4_0 dX4_pickFrom_2 (zf_RX4_32 _ rfl) o1 ?_
  obtain ⟨o2, h⟩ := h
  refine zgf_1_2 dX4_pickFrom_5 (zf_RX4_52 _ rfl) o2 ?_
  refine z_icmp_lt dX4_pickFrom_8 (tgt := 25) (by decide) (fun c3 => ?_) (fun c3 => ?_)
  · have h := h.1 c3
    refine z_aload_n 0 dX4_pickFrom_25 rfl ?_
    refine zgf_4_0 dX4_pickFrom_26 (zf_RX4_32 _ rfl) o1 ?_
    refine zgf_1_4 dX4_pickFrom_29 (zf_RX4_55 _ rfl) o2 ?_
    refine z_iload_n 1 dX4_pickFrom_32 rfl ?_
    obtain ⟨o4, h⟩ := h
    obtain ⟨o5, h⟩ := h
    refine z_iald dX4_pickFrom_33 o4 o5 ?_
    refine z_if_ne dX4_pickFrom_34 (tgt := 47) (by decide) (fun c6 => ?_) (fun c6 => ?_)
    · have h := h.1 c6
      refine z_aload_n 0 dX4_pickFrom_47 rfl ?_
      refine zgf_4_0 dX4_pickFrom_48 (zf_RX4_32 _ rfl) o1 ?_
      refine zgf_1_4 dX4_pickFrom_51 (zf_RX4_55 _ rfl) o2 ?_
      refine z_iload_n 1 dX4_pickFrom_54 rfl ?_
      refine z_iald dX4_pickFrom_55 o4 o5 ?_
      refine z_nameI (fun x7 e8 => ?_)
      have h := h x7 e8
      refine z_istore_n dX4_pickFrom_56 (by decide) (L' := [(0, zrv a0), (1, ziv a1), (2, ziv a2), (3, ziv x7)]) [1, 2, 3, 0] rfl ?_
      refine z_iload_n 1 dX4_pickFrom_57 rfl ?_
      refine z_aload_n 0 dX4_pickFrom_58 rfl ?_
      refine z_iconst dX4_pickFrom_59 ⟨by decide, by decide⟩ ?_
      refine z_cVF [ziv (-1)] (zk_RX4_72 _ rfl) dX4_pickFrom_60 o1 (by decide) rfl rfl (Nat.le_of_ble_eq_true rfl) (by show 0 + 1 ≤ d; omega) (by show 8 + (2 + 11) + 64 * 0 ≤ 64 * d; omega) (Nat.le_of_ble_eq_true rfl) (Nat.le_of_ble_eq_true rfl) h (fun x9 h => ?_)
      refine z_icmp_ge dX4_pickFrom_63 (tgt := 75) (by decide) (fun c11 => ?_) (fun c11 => ?_)
      · have h := h.1 c11
        refine z_iconst dX4_pickFrom_75 ⟨by decide, by decide⟩ ?_
        refine z_istore dX4_pickFrom_76 (by decide) (L' := [(0, zrv a0), (1, ziv a1), (2, ziv a2), (3, ziv x7), (4, ziv 0)]) [1, 2, 3, 4, 0] rfl ?_
        refine z_iconst dX4_pickFrom_78 ⟨by decide, by decide⟩ ?_
        refine z_istore dX4_pickFrom_79 (by decide) (L' := [(0, zrv a0), (1, ziv a1), (2, ziv a2), (3, ziv x7), (4, ziv 0), (5, ziv 0)]) [1, 2, 3, 4, 5, 0] rfl ?_
        exact h
      · have h := h.2 c11
        refine z_aload_n 0 dX4_pickFrom_66 rfl ?_
        refine zgf_4_5 dX4_pickFrom_67 (zf_RX4_17 _ rfl) o1 ?_
        refine z_iload_n 1 dX4_pickFrom_70 rfl ?_
        obtain ⟨o12, h⟩ := h
        obtain ⟨o13, h⟩ := h
        refine z_iald dX4_pickFrom_71 o12 o13 ?_
        refine z_goto (tgt := 76) dX4_pickFrom_72 (by decide) ?_
        refine z_nameI (fun x14 e15 => ?_)
        have h := h x14 e15
        refine z_istore dX4_pickFrom_76 (by decide) (L' := [(0, zrv a0), (1, ziv a1), (2, ziv a2), (3, ziv x7), (4, ziv x14)]) [1, 2, 3, 4, 0] rfl ?_
        refine z_iconst dX4_pickFrom_78 ⟨by decide, by decide⟩ ?_
        refine z_istore dX4_pickFrom_79 (by decide) (L' := [(0, zrv a0), (1, ziv a1), (2, ziv a2), (3, ziv x7), (4, ziv x14), (5, ziv 0)]) [1, 2, 3, 4, 5, 0] rfl ?_
        exact h
    · have h := h.2 c6
      refine z_aload_n 0 dX4_pickFrom_37 rfl ?_
      refine zgf_4_0 dX4_pickFrom_38 (zf_RX4_32 _ rfl) o1 ?_
      refine zgf_1_0 dX4_pickFrom_41 (zf_RX4_98 _ rfl) o2 ?_
      refine z_goto (tgt := 56) dX4_pickFrom_44 (by decide) ?_
      refine z_nameI (fun x16 e17 => ?_)
      have h := h x16 e17
      refine z_istore_n dX4_pickFrom_56 (by decide) (L' := [(0, zrv a0), (1, ziv a1), (2, ziv a2), (3, ziv x16)]) [1, 2, 3, 0] rfl ?_
      refine z_iload_n 1 dX4_pickFrom_57 rfl ?_
      refine z_aload_n 0 dX4_pickFrom_58 rfl ?_
      refine z_iconst dX4_pickFrom_59 ⟨by decide, by decide⟩ ?_
      refine z_cVF [ziv (-1)] (zk_RX4_72 _ rfl) dX4_pickFrom_60 o1 (by decide) rfl rfl (Nat.le_of_ble_eq_true rfl) (by show 0 + 1 ≤ d; omega) (by show 8 + (2 + 11) + 64 * 0 ≤ 64 * d; omega) (Nat.le_of_ble_eq_true rfl) (Nat.le_of_ble_eq_true rfl) h (fun x18 h => ?_)
      refine z_icmp_ge dX4_pickFrom_63 (tgt := 75) (by decide) (fun c20 => ?_) (fun c20 => ?_)
      · have h := h.1 c20
        refine z_iconst dX4_pickFrom_75 ⟨by decide, by decide⟩ ?_
        refine z_istore dX4_pickFrom_76 (by decide) (L' := [(0, zrv a0), (1, ziv a1), (2, ziv a2), (3, ziv x16), (4, ziv 0)]) [1, 2, 3, 4, 0] rfl ?_
        refine z_iconst dX4_pickFrom_78 ⟨by decide, by decide⟩ ?_
        refine z_istore dX4_pickFrom_79 (by decide) (L' := [(0, zrv a0), (1, ziv a1), (2, ziv a2), (3, ziv x16), (4, ziv 0), (5, ziv 0)]) [1, 2, 3, 4, 5, 0] rfl ?_
        exact h
      · have h := h.2 c20
        refine z_aload_n 0 dX4_pickFrom_66 rfl ?_
        refine zgf_4_5 dX4_pickFrom_67 (zf_RX4_17 _ rfl) o1 ?_
        refine z_iload_n 1 dX4_pickFrom_70 rfl ?_
        obtain ⟨o21, h⟩ := h
        obtain ⟨o22, h⟩ := h
        refine z_iald dX4_pickFrom_71 o21 o22 ?_
        refine z_goto (tgt := 76) dX4_pickFrom_72 (by decide) ?_
        refine z_nameI (fun x23 e24 => ?_)
        have h := h x23 e24
        refine z_istore dX4_pickFrom_76 (by decide) (L' := [(0, zrv a0), (1, ziv a1), (2, ziv a2), (3, ziv x16), (4, ziv x23)]) [1, 2, 3, 4, 0] rfl ?_
        refine z_iconst dX4_pickFrom_78 ⟨by decide, by decide⟩ ?_
        refine z_istore dX4_pickFrom_79 (by decide) (L' := [(0, zrv a0), (1, ziv a1), (2, ziv a2), (3, ziv x16), (4, ziv x23), (5, ziv 0)]) [1, 2, 3, 4, 5, 0] rfl ?_
        exact h
  · have h := h.2 c3
    refine z_aload_n 0 dX4_pickFrom_11 rfl ?_
    refine z_aload_n 0 dX4_pickFrom_12 rfl ?_
    refine z_aload_n 0 dX4_pickFrom_13 rfl ?_
    refine zgf_4_9 dX4_pickFrom_14 (zf_RX4_26 _ rfl) o1 ?_
    refine z_iload_n 2 dX4_pickFrom_17 rfl ?_
    refine z_cVI [zrv (V a0 9), ziv a2] (zk_RX4_80 _ rfl) dX4_pickFrom_18 o1 (by decide) rfl rfl (Nat.le_of_ble_eq_true rfl) (by show 23 + 1 ≤ d; omega) (by show 8 + (3 + 11) + 64 * 23 ≤ 64 * d; omega) (Nat.le_of_ble_eq_true rfl) (Nat.le_of_ble_eq_true rfl) h (fun x25 V26 h => ?_)
    refine z_cVV [ziv x25] (zk_RX4_108 _ rfl) dX4_pickFrom_21 o1 (by decide) rfl rfl (Nat.le_of_ble_eq_true rfl) (by show 2 + 1 ≤ d; omega) (by show 8 + (3 + 11) + 64 * 2 ≤ 64 * d; omega) (Nat.le_of_ble_eq_true rfl) (Nat.le_of_ble_eq_true rfl) h (fun V28 h => ?_)
    exact z_retV dX4_pickFrom_24 rfl h
def zl_X4_takePicked_30 (E : zE) (X : zX) (F : zH → Prop) (S : zS) (a0 a2 : Int) (V : zH) : Prop := Zr E X (zRoom 2 0 0) zm_X4_takePicked (zQm E X (zpV S F) 0 0) 0 0 30 [(0, zrv a0), (2, ziv a2)] [] S V
set_option maxRecDepth 100000 in
set_option maxHeartbeats 4000000 in
theorem wp_X4_takePicked_30 {E : zE} {X : zX} {F : zH → Prop} {S : zS} {a0 a2 : Int} {V : zH}
    (h : ((S a0).1 = 7) ∧ ((V a0 2 ≤ a2) → (F V)) ∧ ((a2 < V a0 2) → (SpF E 0 zm_X4_pickedAt [zrv a0, ziv a2] S V (fun x3 => ((S (V a0 11)).1 = 1) ∧ ((0 : Int) ≤ a2 ∧ a2 < (S (V a0 11)).2) ∧ ∀ V7 : zH, V7 = zput V (V a0 11) a2 x3 → (z32 (a2 + 1)) ∧ zl_X4_takePicked_30 E X F S a0 (a2 + 1) V7)))) :
    zl_X4_takePicked_30 E X F S a0 a2 V := by
  unfold zl_X4_takePicked_30
  refine z_iload_n 1 dX4_takePicked_30 rfl ?_
  refine z_aload_n 0 dX4_takePicked_31 rfl ?_
  obtain ⟨o1, h⟩ := h
  refine zgf_4_2 dX4_takePicked_32 (zf_RX4_39 _ rfl) o1 ?_
  refine z_icmp_ge dX4_takePicked_35 (tgt := 55) (by decide) (fun c2 => ?_) (fun c2 => ?_)
  · have h := h.1 c2
    exact z_retV dX4_takePicked_55 rfl h
  · have h := h.2 c2
    refine z_aload_n 0 dX4_takePicked_38 rfl ?_
    refine zgf_4_11 dX4_takePicked_39 (zf_RX4_29 _ rfl) o1 ?_
    refine z_iload_n 1 dX4_takePicked_42 rfl ?_
    refine z_aload_n 0 dX4_takePicked_43 rfl ?_
    refine z_iload_n 1 dX4_takePicked_44 rfl ?_
    refine z_cVF [ziv a2] (zk_RX4_115 _ rfl) dX4_takePicked_45 o1 (by decide) rfl rfl (Nat.le_of_ble_eq_true rfl) (Nat.le_of_ble_eq_true rfl) (Nat.le_of_ble_eq_true rfl) (Nat.le_of_ble_eq_true rfl) (Nat.le_of_ble_eq_true rfl) h (fun x3 h => ?_)
    obtain ⟨o5, h⟩ := h
    obtain ⟨o6, h⟩ := h
    refine z_iast dX4_takePicked_48 o5 o6 ?_
    refine z_nameV (fun V7 e8 => ?_)
    have h := h V7 e8
    obtain ⟨o9, h⟩ := h
    refine z_iinc 1 dX4_takePicked_49 rfl (by decide) o9 (L' := [(0, zrv a0), (2, ziv (a2 + 1))]) [1, 0] rfl ?_
    refine z_goto (tgt := 30) dX4_takePicked_52 (by decide) ?_
    exact h
set_option maxRecDepth 100000 in
set_option maxHeartbeats 4000000 in
theorem en_X4_takePicked {E : zE} {F : zH → Prop} {S : zS} {a0 a1 : Int} {V : zH}
    (h : z32 a1 → ∀ X : zX, ((S a0).1 = 7) ∧ ((V a0 10 < a1) → (∀ V3 : zH, V3 = zput V a0 10 a1 → zl_X4_takePicked_30 E X F S a0 0 V3)) ∧ ((a1 ≤ V a0 10) → (((a1 ≠ V a0 10) → (F V)) ∧ ((a1 = V a0 10) → (SpF E 1 zm_X4_isPickedAhead [zrv a0] S V (fun x6 => ((x6 = 0) → (F V)) ∧ ((x6 ≠ 0) → (∀ V9 : zH, V9 = zput V a0 10 a1 → zl_X4_takePicked_30 E X F S a0 0 V9)))))))) :
    SpV E 2 zm_X4_takePicked [zrv a0, ziv a1] S V F := by
  refine Sp.of (plainFor_of_name (by decide +kernel)) (Nat.le_of_ble_eq_true rfl) (fun hok X => ?_)
  have h := h (hok _ (List.mem_cons_of_mem _ (List.mem_cons_self))) X
  show Zr E X (zRoom 2 0 0) zm_X4_takePicked (zQm E X (zpV S F) 0 0) 0 0 0 [(0, zrv a0), (1, ziv a1)] [] S V
  refine z_iload_n 1 dX4_takePicked_0 rfl ?_
  refine z_aload_n 0 dX4_takePicked_1 rfl ?_
  obtain ⟨o1, h⟩ := h
  refine zgf_4_10 dX4_takePicked_2 (zf_RX4_46 _ rfl) o1 ?_
  refine z_icmp_gt dX4_takePicked_5 (tgt := 23) (by decide) (fun c2 => ?_) (fun c2 => ?_)
  · have h := h.1 c2
    refine z_aload_n 0 dX4_takePicked_23 rfl ?_
    refine z_iload_n 1 dX4_takePicked_24 rfl ?_
    refine zpf_4_10 dX4_takePicked_25 (zf_RX4_46 _ rfl) o1 ?_
    refine z_nameV (fun V3 e4 => ?_)
    have h := h V3 e4
    refine z_iconst dX4_takePicked_28 ⟨by decide, by decide⟩ ?_
    refine z_istore_n dX4_takePicked_29 (by decide) (L' := [(0, zrv a0), (1, ziv a1), (2, ziv 0)]) [1, 2, 0] rfl ?_
    refine z_loc (L' := [(0, zrv a0), (2, ziv 0)]) [0, 2] rfl ?_
    exact h
  · have h := h.2 c2
    refine z_iload_n 1 dX4_takePicked_8 rfl ?_
    refine z_aload_n 0 dX4_takePicked_9 rfl ?_
    refine zgf_4_10 dX4_takePicked_10 (zf_RX4_46 _ rfl) o1 ?_
    refine z_icmp_ne dX4_takePicked_13 (tgt := 55) (by decide) (fun c5 => ?_) (fun c5 => ?_)
    · have h := h.1 c5
      exact z_retV dX4_takePicked_55 rfl h
    · have h := h.2 c5
      refine z_aload_n 0 dX4_takePicked_16 rfl ?_
      refine z_cVF [] (zk_RX4_111 _ rfl) dX4_takePicked_17 o1 (by decide) rfl rfl (Nat.le_of_ble_eq_true rfl) (Nat.le_of_ble_eq_true rfl) (Nat.le_of_ble_eq_true rfl) (Nat.le_of_ble_eq_true rfl) (Nat.le_of_ble_eq_true rfl) h (fun x6 h => ?_)
      refine z_if_eq dX4_takePicked_20 (tgt := 55) (by decide) (fun c8 => ?_) (fun c8 => ?_)
      · have h := h.1 c8
        exact z_retV dX4_takePicked_55 rfl h
      · have h := h.2 c8
        refine z_aload_n 0 dX4_takePicked_23 rfl ?_
        refine z_iload_n 1 dX4_takePicked_24 rfl ?_
        refine zpf_4_10 dX4_takePicked_25 (zf_RX4_46 _ rfl) o1 ?_
        refine z_nameV (fun V9 e10 => ?_)
        have h := h V9 e10
        refine z_iconst dX4_takePicked_28 ⟨by decide, by decide⟩ ?_
        refine z_istore_n dX4_takePicked_29 (by decide) (L' := [(0, zrv a0), (1, ziv a1), (2, ziv 0)]) [1, 2, 0] rfl ?_
        refine z_loc (L' := [(0, zrv a0), (2, ziv 0)]) [0, 2] rfl ?_
        exact h
def zl_X4_isPickedAhead_2 (E : zE) (X : zX) (F : Int → Prop) (S : zS) (a0 a1 : Int) (V : zH) : Prop := Zr E X (zRoom 1 0 0) zm_X4_isPickedAhead (zQm E X (zpF S V F) 0 0) 0 0 2 [(0, zrv a0), (1, ziv a1)] [] S V
set_option maxRecDepth 100000 in
set_option maxHeartbeats 4000000 in
theorem wp_X4_isPickedAhead_2 {E : zE} {X : zX} {F : Int → Prop} {S : zS} {a0 a1 : Int} {V : zH}
    (h : ((S a0).1 = 7) ∧ ((V a0 2 ≤ a1) → (F 0)) ∧ ((a1 < V a0 2) → (SpF E 0 zm_X4_pickedAt [zrv a0, ziv a1] S V (fun x3 => ((S (V a0 11)).1 = 1) ∧ ((0 : Int) ≤ a1 ∧ a1 < (S (V a0 11)).2) ∧ ((x3 = V (V a0 11) a1) → ((z32 (a1 + 1)) ∧ zl_X4_isPickedAhead_2 E X F S a0 (a1 + 1) V)) ∧ ((x3 ≠ V (V a0 11) a1) → (((V (V a0 11) a1 ≤ x3) → (F 0)) ∧ ((x3 < V (V a0 11) a1) → (F 1)))))))) :
    zl_X4_isPickedAhead_2 E X F S a0 a1 V := by
  unfold zl_X4_isPickedAhead_2
  refine z_iload_n 1 dX4_isPickedAhead_2 rfl ?_
  refine z_aload_n 0 dX4_isPickedAhead_3 rfl ?_
  obtain ⟨o1, h⟩ := h
  refine zgf_4_2 dX4_isPickedAhead_4 (zf_RX4_39 _ rfl) o1 ?_
  refine z_icmp_ge dX4_isPickedAhead_7 (tgt := 48) (by decide) (fun c2 => ?_) (fun c2 => ?_)
  · have h := h.1 c2
    refine z_iconst dX4_isPickedAhead_48 ⟨by decide, by decide⟩ ?_
    exact z_retFZ dX4_isPickedAhead_49 rfl (Or.inl rfl) h
  · have h := h.2 c2
    refine z_aload_n 0 dX4_isPickedAhead_10 rfl ?_
    refine z_iload_n 1 dX4_isPickedAhead_11 rfl ?_
    refine z_cVF [ziv a1] (zk_RX4_115 _ rfl) dX4_isPickedAhead_12 o1 (by decide) rfl rfl (Nat.le_of_ble_eq_true rfl) (Nat.le_of_ble_eq_true rfl) (Nat.le_of_ble_eq_true rfl) (Nat.le_of_ble_eq_true rfl) (Nat.le_of_ble_eq_true rfl) h (fun x3 h => ?_)
    refine z_istore_n dX4_isPickedAhead_15 (by decide) (L' := [(0, zrv a0), (1, ziv a1), (2, ziv x3)]) [1, 2, 0] rfl ?_
    refine z_iload_n 2 dX4_isPickedAhead_16 rfl ?_
    refine z_aload_n 0 dX4_isPickedAhead_17 rfl ?_
    refine zgf_4_11 dX4_isPickedAhead_18 (zf_RX4_29 _ rfl) o1 ?_
    refine z_iload_n 1 dX4_isPickedAhead_21 rfl ?_
    obtain ⟨o5, h⟩ := h
    obtain ⟨o6, h⟩ := h
    refine z_iald dX4_isPickedAhead_22 o5 o6 ?_
    refine z_icmp_eq dX4_isPickedAhead_23 (tgt := 42) (by decide) (fun c7 => ?_) (fun c7 => ?_)
    · have h := h.1 c7
      obtain ⟨o8, h⟩ := h
      refine z_iinc 1 dX4_isPickedAhead_42 rfl (by decide) o8 (L' := [(0, zrv a0), (1, ziv (a1 + 1)), (2, ziv x3)]) [1, 0, 2] rfl ?_
      refine z_goto (tgt := 2) dX4_isPickedAhead_45 (by decide) ?_
      refine z_loc (L' := [(0, zrv a0), (1, ziv (a1 + 1))]) [0, 1] rfl ?_
      exact h
    · have h := h.2 c7
      refine z_iload_n 2 dX4_isPickedAhead_26 rfl ?_
      refine z_aload_n 0 dX4_isPickedAhead_27 rfl ?_
      refine zgf_4_11 dX4_isPickedAhead_28 (zf_RX4_29 _ rfl) o1 ?_
      refine z_iload_n 1 dX4_isPickedAhead_31 rfl ?_
      refine z_iald dX4_isPickedAhead_32 o5 o6 ?_
      refine z_icmp_ge dX4_isPickedAhead_33 (tgt := 40) (by decide) (fun c9 => ?_) (fun c9 => ?_)
      · have h := h.1 c9
        refine z_iconst dX4_isPickedAhead_40 ⟨by decide, by decide⟩ ?_
        exact z_retFZ dX4_isPickedAhead_41 rfl (Or.inl rfl) h
      · have h := h.2 c9
        refine z_iconst dX4_isPickedAhead_36 ⟨by decide, by decide⟩ ?_
        refine z_goto (tgt := 41) dX4_isPickedAhead_37 (by decide) ?_
        exact z_retFZ dX4_isPickedAhead_41 rfl (Or.inr rfl) h
set_option maxRecDepth 100000 in
set_option maxHeartbeats 4000000 in
theorem en_X4_isPickedAhead {E : zE} {F : Int → Prop} {S : zS} {a0 : Int} {V : zH}
    (h : ∀ X : zX, zl_X4_isPickedAhead_2 E X F S a0 0 V) :
    SpF E 1 zm_X4_isPickedAhead [zrv a0] S V F := by
  refine Sp.of (plainFor_of_name (by decide +kernel)) (Nat.le_of_ble_eq_true rfl) (fun hok X => ?_)
  have h := h X
  show Zr E X (zRoom 1 0 0) zm_X4_isPickedAhead (zQm E X (zpF S V F) 0 0) 0 0 0 [(0, zrv a0)] [] S V
  refine z_iconst dX4_isPickedAhead_0 ⟨by decide, by decide⟩ ?_
  refine z_istore_n dX4_isPickedAhead_1 (by decide) (L' := [(0, zrv a0), (1, ziv 0)]) [1, 0] rfl ?_
  exact h
def zl_X4_pickedAt_10 (E : zE) (X : zX) (F : Int → Prop) (S : zS) (a0 a1 a2 a3 : Int) (V : zH) : Prop := Zr E X (zRoom 0 0 0) zm_X4_pickedAt (zQm E X (zpF S V F) 0 0) 0 0 10 [(0, zrv a0), (1, ziv a1), (2, ziv a2), (3, ziv a3)] [] S V
set_option maxRecDepth 100000 in
set_option maxHeartbeats 4000000 in
theorem wp_X4_pickedAt_10 {E : zE} {X : zX} {F : Int → Prop} {S : zS} {a0 a1 a2 a3 : Int} {V : zH}
    (h : ((S a0).1 = 7) ∧ ((S (V a0 0)).1 = 4) ∧ ((V (V a0 0) 2 ≤ a3) → (((0 : Int) ≤ a2) ∧ ((0 : Int) < V (V a0 0) 0) ∧ F (a2 % (V (V a0 0) 0)))) ∧ ((a3 < V (V a0 0) 2) → (((S (V a0 9)).1 = 1) ∧ ((0 : Int) ≤ a3 ∧ a3 < (S (V a0 9)).2) ∧ (z32 (a3 - (V (V a0 0) 1))) ∧ (z32 ((a3 - (V (V a0 0) 1)) * 36)) ∧ (z32 (((a3 - (V (V a0 0) 1)) * 36) + a1)) ∧ ((S (V a0 1)).1 = 1) ∧ ((0 : Int) ≤ ((a3 - (V (V a0 0) 1)) * 36) + a1 ∧ ((a3 - (V (V a0 0) 1)) * 36) + a1 < (S (V a0 1)).2) ∧ (z32 ((V (V a0 9) a3) * (V (V a0 1) (((a3 - (V (V a0 0) 1)) * 36) + a1)))) ∧ (z32 (a2 + ((V (V a0 9) a3) * (V (V a0 1) (((a3 - (V (V a0 0) 1)) * 36) + a1))))) ∧ ∀ x15 : Int, x15 = a2 + ((V (V a0 9) a3) * (V (V a0 1) (((a3 - (V (V a0 0) 1)) * 36) + a1))) → (z32 (a3 + 1)) ∧ zl_X4_pickedAt_10 E X F S a0 a1 x15 (a3 + 1) V))) :
    zl_X4_pickedAt_10 E X F S a0 a1 a2 a3 V := by
  unfold zl_X4_pickedAt_10
  refine z_iload_n 3 dX4_pickedAt_10 rfl ?_
  refine z_aload_n 0 dX4_pickedAt_11 rfl ?_
  obtain ⟨o1, h⟩ := h
  refine zgf_4_0 dX4_pickedAt_12 (zf_RX4_32 _ rfl) o1 ?_
  obtain ⟨o2, h⟩ := h
  refine zgf_1_2 dX4_pickedAt_15 (zf_RX4_52 _ rfl) o2 ?_
  refine z_icmp_ge dX4_pickedAt_18 (tgt := 56) (by decide) (fun c3 => ?_) (fun c3 => ?_)
  · have h := h.1 c3
    refine z_iload_n 2 dX4_pickedAt_56 rfl ?_
    refine z_aload_n 0 dX4_pickedAt_57 rfl ?_
    refine zgf_4_0 dX4_pickedAt_58 (zf_RX4_32 _ rfl) o1 ?_
    refine zgf_1_0 dX4_pickedAt_61 (zf_RX4_98 _ rfl) o2 ?_
    obtain ⟨o4, h⟩ := h
    obtain ⟨o5, h⟩ := h
    refine z_irem dX4_pickedAt_64 o4 o5 ?_
    exact z_retFI dX4_pickedAt_65 rfl h
  · have h := h.2 c3
    refine z_iload_n 2 dX4_pickedAt_21 rfl ?_
    refine z_aload_n 0 dX4_pickedAt_22 rfl ?_
    refine zgf_4_9 dX4_pickedAt_23 (zf_RX4_26 _ rfl) o1 ?_
    refine z_iload_n 3 dX4_pickedAt_26 rfl ?_
    obtain ⟨o6, h⟩ := h
    obtain ⟨o7, h⟩ := h
    refine z_iald dX4_pickedAt_27 o6 o7 ?_
    refine z_aload_n 0 dX4_pickedAt_28 rfl ?_
    refine zgf_4_1 dX4_pickedAt_29 (zf_RX4_36 _ rfl) o1 ?_
    refine z_iload_n 3 dX4_pickedAt_32 rfl ?_
    refine z_aload_n 0 dX4_pickedAt_33 rfl ?_
    refine zgf_4_0 dX4_pickedAt_34 (zf_RX4_32 _ rfl) o1 ?_
    refine zgf_1_1 dX4_pickedAt_37 (zf_RX4_49 _ rfl) o2 ?_
    obtain ⟨o8, h⟩ := h
    refine z_isub dX4_pickedAt_40 o8 ?_
    refine z_bipush dX4_pickedAt_41 ⟨by decide, by decide⟩ (by decide) ?_
    obtain ⟨o9, h⟩ := h
    refine z_imul dX4_pickedAt_43 o9 ?_
    refine z_iload_n 1 dX4_pickedAt_44 rfl ?_
    obtain ⟨o10, h⟩ := h
    refine z_iadd dX4_pickedAt_45 o10 ?_
    obtain ⟨o11, h⟩ := h
    obtain ⟨o12, h⟩ := h
    refine z_iald dX4_pickedAt_46 o11 o12 ?_
    obtain ⟨o13, h⟩ := h
    refine z_imul dX4_pickedAt_47 o13 ?_
    obtain ⟨o14, h⟩ := h
    refine z_iadd dX4_pickedAt_48 o14 ?_
    refine z_nameI (fun x15 e16 => ?_)
    have h := h x15 e16
    refine z_istore_n dX4_pickedAt_49 (by decide) (L' := [(0, zrv a0), (1, ziv a1), (2, ziv x15), (3, ziv a3)]) [1, 2, 0, 3] rfl ?_
    obtain ⟨o17, h⟩ := h
    refine z_iinc 3 dX4_pickedAt_50 rfl (by decide) o17 (L' := [(0, zrv a0), (1, ziv a1), (2, ziv x15), (3, ziv (a3 + 1))]) [1, 2, 3, 0] rfl ?_
    refine z_goto (tgt := 10) dX4_pickedAt_53 (by decide) ?_
    exact h
set_option maxRecDepth 100000 in
set_option maxHeartbeats 4000000 in
theorem en_X4_pickedAt {E : zE} {F : Int → Prop} {S : zS} {a0 a1 : Int} {V : zH}
    (h : z32 a1 → ∀ X : zX, ((S a0).1 = 7) ∧ ((S (V a0 0)).1 = 4) ∧ ∀ x3 : Int, x3 = V (V a0 0) 1 → zl_X4_pickedAt_10 E X F S a0 a1 0 x3 V) :
    SpF E 0 zm_X4_pickedAt [zrv a0, ziv a1] S V F := by
  refine Sp.of (plainFor_of_name (by decide +kernel)) (Nat.le_of_ble_eq_true rfl) (fun hok X => ?_)
  have h := h (hok _ (List.mem_cons_of_mem _ (List.mem_cons_self))) X
  show Zr E X (zRoom 0 0 0) zm_X4_pickedAt (zQm E X (zpF S V F) 0 0) 0 0 0 [(0, zrv a0), (1, ziv a1)] [] S V
  refine z_iconst dX4_pickedAt_0 ⟨by decide, by decide⟩ ?_
  refine z_istore_n dX4_pickedAt_1 (by decide) (L' := [(0, zrv a0), (1, ziv a1), (2, ziv 0)]) [1, 2, 0] rfl ?_
  refine z_aload_n 0 dX4_pickedAt_2 rfl ?_
  obtain ⟨o1, h⟩ := h
  refine zgf_4_0 dX4_pickedAt_3 (zf_RX4_32 _ rfl) o1 ?_
  obtain ⟨o2, h⟩ := h
  refine zgf_1_1 dX4_pickedAt_6 (zf_RX4_49 _ rfl) o2 ?_
  refine z_nameI (fun x3 e4 => ?_)
  have h := h x3 e4
  refine z_istore_n dX4_pickedAt_9 (by decide) (L' := [(0, zrv a0), (1, ziv a1), (2, ziv 0), (3, ziv x3)]) [1, 2, 3, 0] rfl ?_
  exact h
