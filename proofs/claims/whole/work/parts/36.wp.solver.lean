set_option maxRecDepth 100000 in
set_option maxHeartbeats 4000000 in
theorem en_X5_init {E : zE} {F : zS → zH → Prop} {mc ms : Nat} {S : zS} {a0 a1 : Int} {V : zH}
    (h : ((S a0).1 = 8) ∧ (0 < a0) ∧ ∀ V3 : zH, V3 = zput V a0 1 (-1) → ∀ V5 : zH, V5 = zput V3 a0 2 (-1) → (0 + 1 ≤ mc ∧ 0 + 36 ≤ ms) ∧ ∀ r8 : Int, 0 < r8 → ((S r8).1 = 0 ∧ ∀ q : Int, (S q).1 ≠ 0 → q < r8 ∧ (S (r8 - 1)).1 ≠ 0) → ∀ (S11 : zS) (V12 : zH), S11 = zSn S r8 (1, 36) → V12 = zVn V5 r8 → ∀ V17 : zH, V17 = zput V12 a0 7 r8 → (0 + 1 + 1 ≤ mc ∧ 0 + 36 + 1296 ≤ ms) ∧ ∀ r20 : Int, 0 < r20 → ((S11 r20).1 = 0 ∧ ∀ q : Int, (S11 q).1 ≠ 0 → q < r20 ∧ (S11 (r20 - 1)).1 ≠ 0) → ∀ (S23 : zS) (V24 : zH), S23 = zSn S11 r20 (1, 1296) → V24 = zVn V17 r20 → ∀ V30 : zH, V30 = zput V24 a0 8 r20 → (0 + 1 + 1 + 1 ≤ mc ∧ 0 + 36 + 1296 + 72 ≤ ms) ∧ ∀ r33 : Int, 0 < r33 → ((S23 r33).1 = 0 ∧ ∀ q : Int, (S23 q).1 ≠ 0 → q < r33 ∧ (S23 (r33 - 1)).1 ≠ 0) → ∀ (S36 : zS) (V37 : zH), S36 = zSn S23 r33 (1, 72) → V37 = zVn V30 r33 → ∀ V44 : zH, V44 = zput V37 a0 9 r33 → ∀ V46 : zH, V46 = zput V44 a0 0 a1 → (0 + 1 + 1 + 1 + 1 ≤ mc ∧ 0 + 36 + 1296 + 72 + 8 ≤ ms) ∧ ∀ r49 : Int, 0 < r49 → ((S36 r49).1 = 0 ∧ ∀ q : Int, (S36 q).1 ≠ 0 → q < r49 ∧ (S36 (r49 - 1)).1 ≠ 0) → ∀ (S52 : zS) (V53 : zH), S52 = zSn S36 r49 (4, 8) → V53 = zVn V46 r49 → (0 + 1 + 1 + 1 + 1 + 1 ≤ mc ∧ 0 + 36 + 1296 + 72 + 8 + 2592 ≤ ms) ∧ ∀ r62 : Int, 0 < r62 → ((S52 r62).1 = 0 ∧ ∀ q : Int, (S52 q).1 ≠ 0 → q < r62 ∧ (S52 (r62 - 1)).1 ≠ 0) → ∀ (S65 : zS) (V66 : zH), S65 = zSn S52 r62 (1, 2592) → V66 = zVn V53 r62 → ∃ m77 m78 : Nat, (0 + 1 + 1 + 1 + 1 + 1 + m77 ≤ mc ∧ 0 + 36 + 1296 + 72 + 8 + 2592 + m78 ≤ ms) ∧ SaV E 1 m77 m78 zm_X1_init [zrv r49, zrv r62] S65 V66 (fun S80 V76 => ((S80 a0).1 = 8) ∧ ∀ V82 : zH, V82 = zput V76 a0 3 r49 → (0 + 1 + 1 + 1 + 1 + 1 + m77 ≤ mc ∧ 0 + 36 + 1296 + 72 + 8 + 2592 + m78 ≤ ms) ∧ F S80 V82)) :
    SaV E 2 mc ms zm_X5_init [zrv a0, zrv a1] S V F := by
  refine Sp.of (plainFor_of_name (by decide +kernel)) (Nat.le_of_ble_eq_true rfl) (fun hok X => ?_)
  have h := h
  show Zr E X (zRoom 2 mc ms) zm_X5_init (zQm E X (zaV F) mc ms) 0 0 0 [(0, zrv a0), (1, zrv a1)] [] S V
  refine z_aload_n 0 dX5_init_0 rfl ?_
  obtain ⟨o1, h⟩ := h
  obtain ⟨o2, h⟩ := h
  refine z_objInit dX5_init_1 (zk_RX5_3 _ rfl) zw_oi1 zw_oi2 o2 (Nat.le_of_ble_eq_true rfl) (Nat.le_of_ble_eq_true rfl) (Nat.le_of_ble_eq_true rfl) ?_
  refine z_aload_n 0 dX5_init_4 rfl ?_
  refine z_iconst dX5_init_5 ⟨by decide, by decide⟩ ?_
  refine zpf_5_1 dX5_init_6 (zf_RX5_9 _ rfl) o1 ?_
  refine z_nameV (fun V3 e4 => ?_)
  have h := h V3 e4
  refine z_aload_n 0 dX5_init_9 rfl ?_
  refine z_iconst dX5_init_10 ⟨by decide, by decide⟩ ?_
  refine zpf_5_2 dX5_init_11 (zf_RX5_15 _ rfl) o1 ?_
  refine z_nameV (fun V5 e6 => ?_)
  have h := h V5 e6
  refine z_aload_n 0 dX5_init_14 rfl ?_
  refine z_bipush dX5_init_15 ⟨by decide, by decide⟩ (by decide) ?_
  obtain ⟨o7, h⟩ := h
  refine z_newi dX5_init_17 zw_arri (by decide) (by decide) o7.1 o7.2 (fun r8 q9 f10 => ?_)
  refine z_nameS (fun S11 V12 e13 e14 => ?_)
  have h := h r8 q9 f10 S11 V12 e13 e14
  have o15 : (S11 a0).1 = 8 := zSn_k e13 o1 f10.1 (by decide)
  have o16 : (S11 r8).1 = 1 := zSn_r e13
  refine zpf_5_7 rfl rfl dX5_init_19 (zf_RX5_18 _ rfl) o15 ?_
  refine z_nameV (fun V17 e18 => ?_)
  have h := h V17 e18
  refine z_aload_n 0 dX5_init_22 rfl ?_
  refine z_sipush dX5_init_23 ⟨by decide, by decide⟩ (by decide) ?_
  obtain ⟨o19, h⟩ := h
  refine z_newi dX5_init_26 zw_arri (by decide) (by decide) o19.1 o19.2 (fun r20 q21 f22 => ?_)
  refine z_nameS (fun S23 V24 e25 e26 => ?_)
  have h := h r20 q21 f22 S23 V24 e25 e26
  have o27 : (S23 a0).1 = 8 := zSn_k e25 o15 f22.1 (by decide)
  have o28 : (S23 r8).1 = 1 := zSn_k e25 o16 f22.1 (by decide)
  have o29 : (S23 r20).1 = 1 := zSn_r e25
  refine zpf_5_8 rfl rfl dX5_init_28 (zf_RX5_22 _ rfl) o27 ?_
  refine z_nameV (fun V30 e31 => ?_)
  have h := h V30 e31
  refine z_aload_n 0 dX5_init_31 rfl ?_
  refine z_bipush dX5_init_32 ⟨by decide, by decide⟩ (by decide) ?_
  obtain ⟨o32, h⟩ := h
  refine z_newi dX5_init_34 zw_arri (by decide) (by decide) o32.1 o32.2 (fun r33 q34 f35 => ?_)
  refine z_nameS (fun S36 V37 e38 e39 => ?_)
  have h := h r33 q34 f35 S36 V37 e38 e39
  have o40 : (S36 a0).1 = 8 := zSn_k e38 o27 f35.1 (by decide)
  have o41 : (S36 r8).1 = 1 := zSn_k e38 o28 f35.1 (by decide)
  have o42 : (S36 r20).1 = 1 := zSn_k e38 o29 f35.1 (by decide)
  have o43 : (S36 r33).1 = 1 := zSn_r e38
  refine zpf_5_9 rfl rfl dX5_init_36 (zf_RX5_27 _ rfl) o40 ?_
  refine z_nameV (fun V44 e45 => ?_)
  have h := h V44 e45
  refine z_aload_n 0 dX5_init_39 rfl ?_
  refine z_aload_n 1 dX5_init_40 rfl ?_
  refine zpf_5_0 rfl rfl dX5_init_41 (zf_RX5_30 _ rfl) o40 ?_
  refine z_nameV (fun V46 e47 => ?_)
  have h := h V46 e47
  refine z_aload_n 0 dX5_init_44 rfl ?_
  obtain ⟨o48, h⟩ := h
  refine znw_1 dX5_init_45 (zn_RX5_25 _ rfl) o48 (fun r49 q50 f51 => ?_)
  refine z_nameS (fun S52 V53 e54 e55 => ?_)
  have h := h r49 q50 f51 S52 V53 e54 e55
  have o56 : (S52 a0).1 = 8 := zSn_k e54 o40 f51.1 (by decide)
  have o57 : (S52 r8).1 = 1 := zSn_k e54 o41 f51.1 (by decide)
  have o58 : (S52 r20).1 = 1 := zSn_k e54 o42 f51.1 (by decide)
  have o59 : (S52 r33).1 = 1 := zSn_k e54 o43 f51.1 (by decide)
  have o60 : (S52 r49).1 = 4 := zSn_r e54
  refine z_dup (zref_cat _) dX5_init_48 ?_
  refine z_sipush dX5_init_49 ⟨by decide, by decide⟩ (by decide) ?_
  obtain ⟨o61, h⟩ := h
  refine z_newi dX5_init_52 zw_arri (by decide) (by decide) o61.1 o61.2 (fun r62 q63 f64 => ?_)
  refine z_nameS (fun S65 V66 e67 e68 => ?_)
  have h := h r62 q63 f64 S65 V66 e67 e68
  have o69 : (S65 a0).1 = 8 := zSn_k e67 o56 f64.1 (by decide)
  have o70 : (S65 r8).1 = 1 := zSn_k e67 o57 f64.1 (by decide)
  have o71 : (S65 r20).1 = 1 := zSn_k e67 o58 f64.1 (by decide)
  have o72 : (S65 r33).1 = 1 := zSn_k e67 o59 f64.1 (by decide)
  have o73 : (S65 r49).1 = 4 := zSn_k e67 o60 f64.1 (by decide)
  have o74 : (S65 r62).1 = 1 := zSn_r e67
  obtain ⟨m77, m78, o79, h⟩ := h
  refine z_aI [zrv r62] (zk_RX5_34 _ rfl) dX5_init_54 q50 rfl rfl (Nat.le_of_ble_eq_true rfl) (Nat.le_of_ble_eq_true rfl) (Nat.le_of_ble_eq_true rfl) o79.1 o79.2 h (fun S80 V76 h => ?_)
  obtain ⟨o81, h⟩ := h
  refine zpf_5_3 rfl rfl dX5_init_57 (zf_RX5_37 _ rfl) o81 ?_
  refine z_nameV (fun V82 e83 => ?_)
  have h := h V82 e83
  obtain ⟨o84, h⟩ := h
  exact z_retaV dX5_init_60 rfl o84.1 o84.2 h
def zl_X5_refresh_41 (E : zE) (X : zX) (F : zH → Prop) (S : zS) (a0 a1 : Int) (V : zH) : Prop := Zr E X (zRoom 4 0 0) zm_X5_refresh (zQm E X (zpV S F) 0 0) 0 0 41 [(0, zrv a0), (1, ziv a1)] [] S V
def zl_X5_refresh_111 (E : zE) (X : zX) (F : zH → Prop) (S : zS) (a0 a1 : Int) (V : zH) : Prop := Zr E X (zRoom 4 0 0) zm_X5_refresh (zQm E X (zpV S F) 0 0) 0 0 111 [(0, zrv a0), (1, ziv a1)] [] S V
def zl_X5_refresh_121 (E : zE) (X : zX) (F : zH → Prop) (S : zS) (a0 a1 a2 : Int) (V : zH) : Prop := Zr E X (zRoom 4 0 0) zm_X5_refresh (zQm E X (zpV S F) 0 0) 0 0 121 [(0, zrv a0), (1, ziv a1), (2, ziv a2)] [] S V
set_option maxRecDepth 100000 in
set_option maxHeartbeats 4000000 in
theorem wp_X5_refresh_41 {E : zE} {X : zX} {F : zH → Prop} {S : zS} {a0 a1 : Int} {V : zH}
    (h : ((a1 < 0) → (((S a0).1 = 8) ∧ ((S (V a0 0)).1 = 6) ∧ ((S (V a0 3)).1 = 4) ∧ SpV E 2 zm_X1_begin [zrv (V a0 3), ziv (V (V a0 0) 1), ziv (V (V a0 0) 0), ziv (V a0 6)] S V (fun V6 => zl_X5_refresh_111 E X F S a0 0 V6))) ∧ ((0 ≤ a1) → (((S a0).1 = 8) ∧ ((S (V a0 0)).1 = 6) ∧ ((S (V (V a0 0) 6)).1 = 1) ∧ ((0 : Int) ≤ a1 ∧ a1 < (S (V (V a0 0) 6)).2) ∧ ((V (V (V a0 0) 6) a1 = 3) → ((z32 (a1 + (-1))) ∧ zl_X5_refresh_41 E X F S a0 (a1 + (-1)) V)) ∧ ((V (V (V a0 0) 6) a1 ≠ 3) → (((S (V a0 7)).1 = 1) ∧ ((0 : Int) ≤ V a0 6 ∧ V a0 6 < (S (V a0 7)).2) ∧ ∀ V15 : zH, V15 = zput V (V a0 7) (V a0 6) a1 → (z32 ((V a0 6) + 1)) ∧ ∀ V18 : zH, V18 = zput V15 a0 6 ((V a0 6) + 1) → (z32 (a1 + (-1))) ∧ zl_X5_refresh_41 E X F S a0 (a1 + (-1)) V18))))) :
    zl_X5_refresh_41 E X F S a0 a1 V := by
  unfold zl_X5_refresh_41
  refine z_iload_n 1 dX5_refresh_41 rfl ?_
  refine z_if_lt dX5_refresh_42 (tgt := 84) (by decide) (fun c1 => ?_) (fun c1 => ?_)
  · have h := h.1 c1
    refine z_aload_n 0 dX5_refresh_84 rfl ?_
    obtain ⟨o2, h⟩ := h
    refine zgf_5_3 dX5_refresh_85 (zf_RX5_37 _ rfl) o2 ?_
    refine z_aload_n 0 dX5_refresh_88 rfl ?_
    refine zgf_5_0 dX5_refresh_89 (zf_RX5_30 _ rfl) o2 ?_
    obtain ⟨o3, h⟩ := h
    refine zgf_3_1 dX5_refresh_92 (zf_RX5_55 _ rfl) o3 ?_
    refine z_aload_n 0 dX5_refresh_95 rfl ?_
    refine zgf_5_0 dX5_refresh_96 (zf_RX5_30 _ rfl) o2 ?_
    refine zgf_3_0 dX5_refresh_99 (zf_RX5_58 _ rfl) o3 ?_
    refine z_aload_n 0 dX5_refresh_102 rfl ?_
    refine zgf_5_6 dX5_refresh_103 (zf_RX5_46 _ rfl) o2 ?_
    obtain ⟨o4, h⟩ := h
    refine z_cVV [ziv (V (V a0 0) 1), ziv (V (V a0 0) 0), ziv (V a0 6)] (zk_RX5_61 _ rfl) dX5_refresh_106 o4 (by decide) rfl rfl (Nat.le_of_ble_eq_true rfl) (Nat.le_of_ble_eq_true rfl) (Nat.le_of_ble_eq_true rfl) (Nat.le_of_ble_eq_true rfl) (Nat.le_of_ble_eq_true rfl) h (fun V6 h => ?_)
    refine z_iconst dX5_refresh_109 ⟨by decide, by decide⟩ ?_
    refine z_istore_n dX5_refresh_110 (by decide) (L' := [(0, zrv a0), (1, ziv 0)]) [1, 0] rfl ?_
    exact h
  · have h := h.2 c1
    refine z_aload_n 0 dX5_refresh_45 rfl ?_
    obtain ⟨o7, h⟩ := h
    refine zgf_5_0 dX5_refresh_46 (zf_RX5_30 _ rfl) o7 ?_
    obtain ⟨o8, h⟩ := h
    refine zgf_3_6 dX5_refresh_49 (zf_RX5_52 _ rfl) o8 ?_
    refine z_iload_n 1 dX5_refresh_52 rfl ?_
    obtain ⟨o9, h⟩ := h
    obtain ⟨o10, h⟩ := h
    refine z_iald dX5_refresh_53 o9 o10 ?_
    refine z_iconst dX5_refresh_54 ⟨by decide, by decide⟩ ?_
    refine z_icmp_eq dX5_refresh_55 (tgt := 78) (by decide) (fun c11 => ?_) (fun c11 => ?_)
    · have h := h.1 c11
      obtain ⟨o12, h⟩ := h
      refine z_iinc 1 dX5_refresh_78 rfl (by decide) o12 (L' := [(0, zrv a0), (1, ziv (a1 + (-1)))]) [1, 0] rfl ?_
      refine z_goto (tgt := 41) dX5_refresh_81 (by decide) ?_
      exact h
    · have h := h.2 c11
      refine z_aload_n 0 dX5_refresh_58 rfl ?_
      refine zgf_5_7 dX5_refresh_59 (zf_RX5_18 _ rfl) o7 ?_
      refine z_aload_n 0 dX5_refresh_62 rfl ?_
      refine zgf_5_6 dX5_refresh_63 (zf_RX5_46 _ rfl) o7 ?_
      refine z_iload_n 1 dX5_refresh_66 rfl ?_
      obtain ⟨o13, h⟩ := h
      obtain ⟨o14, h⟩ := h
      refine z_iast dX5_refresh_67 o13 o14 ?_
      refine z_nameV (fun V15 e16 => ?_)
      have h := h V15 e16
      refine z_aload_n 0 dX5_refresh_68 rfl ?_
      refine z_dup (zref_cat _) dX5_refresh_69 ?_
      refine zgf_5_6 dX5_refresh_70 (zf_RX5_46 _ rfl) o7 ?_
      refine z_topI (zfr_k e16 o13 o7 (by decide)) ?_
      refine z_iconst dX5_refresh_73 ⟨by decide, by decide⟩ ?_
      obtain ⟨o17, h⟩ := h
      refine z_iadd dX5_refresh_74 o17 ?_
      refine zpf_5_6 dX5_refresh_75 (zf_RX5_46 _ rfl) o7 ?_
      refine z_nameV (fun V18 e19 => ?_)
      have h := h V18 e19
      obtain ⟨o20, h⟩ := h
      refine z_iinc 1 dX5_refresh_78 rfl (by decide) o20 (L' := [(0, zrv a0), (1, ziv (a1 + (-1)))]) [1, 0] rfl ?_
      refine z_goto (tgt := 41) dX5_refresh_81 (by decide) ?_
      exact h
set_option maxRecDepth 100000 in
set_option maxHeartbeats 4000000 in
theorem wp_X5_refresh_111 {E : zE} {X : zX} {F : zH → Prop} {S : zS} {a0 a1 : Int} {V : zH}
    (h : ((S a0).1 = 8) ∧ ((V a0 6 ≤ a1) → (((S (V a0 3)).1 = 4) ∧ SpV E 3 zm_X1_build [zrv (V a0 3)] S V (fun V5 => F V5))) ∧ ((a1 < V a0 6) → (zl_X5_refresh_121 E X F S a0 a1 0 V))) :
    zl_X5_refresh_111 E X F S a0 a1 V := by
  unfold zl_X5_refresh_111
  refine z_iload_n 1 dX5_refresh_111 rfl ?_
  refine z_aload_n 0 dX5_refresh_112 rfl ?_
  obtain ⟨o1, h⟩ := h
  refine zgf_5_6 dX5_refresh_113 (zf_RX5_46 _ rfl) o1 ?_
  refine z_icmp_ge dX5_refresh_116 (tgt := 181) (by decide) (fun c2 => ?_) (fun c2 => ?_)
  · have h := h.1 c2
    refine z_aload_n 0 dX5_refresh_181 rfl ?_
    refine zgf_5_3 dX5_refresh_182 (zf_RX5_37 _ rfl) o1 ?_
    obtain ⟨o3, h⟩ := h
    refine z_cVV [] (zk_RX5_72 _ rfl) dX5_refresh_185 o3 (by decide) rfl rfl (Nat.le_of_ble_eq_true rfl) (Nat.le_of_ble_eq_true rfl) (Nat.le_of_ble_eq_true rfl) (Nat.le_of_ble_eq_true rfl) (Nat.le_of_ble_eq_true rfl) h (fun V5 h => ?_)
    exact z_retV dX5_refresh_188 rfl h
  · have h := h.2 c2
    refine z_iconst dX5_refresh_119 ⟨by decide, by decide⟩ ?_
    refine z_istore_n dX5_refresh_120 (by decide) (L' := [(0, zrv a0), (1, ziv a1), (2, ziv 0)]) [1, 2, 0] rfl ?_
    exact h
set_option maxRecDepth 100000 in
set_option maxHeartbeats 4000000 in
theorem wp_X5_refresh_121 {E : zE} {X : zX} {F : zH → Prop} {S : zS} {a0 a1 a2 : Int} {V : zH}
    (h : ((S a0).1 = 8) ∧ ((S (V a0 0)).1 = 6) ∧ ((V (V a0 0) 0 ≤ a2) → ((z32 (a1 + 1)) ∧ zl_X5_refresh_111 E X F S a0 (a1 + 1) V)) ∧ ((a2 < V (V a0 0) 0) → (((S (V a0 7)).1 = 1) ∧ ((0 : Int) ≤ a1 ∧ a1 < (S (V a0 7)).2) ∧ SpF E 3 zm_X3_stepAt [zrv (V a0 0), ziv (V (V a0 7) a1), ziv a2] S V (fun x7 => (z32 (a1 * 36)) ∧ (z32 ((a1 * 36) + a2)) ∧ ((S (V a0 8)).1 = 1) ∧ ((0 : Int) ≤ (a1 * 36) + a2 ∧ (a1 * 36) + a2 < (S (V a0 8)).2) ∧ ∀ V13 : zH, V13 = zput V (V a0 8) ((a1 * 36) + a2) x7 → ((S (V a0 3)).1 = 4) ∧ SpV E 0 zm_X1_putHead [zrv (V a0 3), ziv a1, ziv a2, ziv x7] S V13 (fun V17 => (z32 (a2 + 1)) ∧ zl_X5_refresh_121 E X F S a0 a1 (a2 + 1) V17))))) :
    zl_X5_refresh_121 E X F S a0 a1 a2 V := by
  unfold zl_X5_refresh_121
  refine z_iload_n 2 dX5_refresh_121 rfl ?_
  refine z_aload_n 0 dX5_refresh_122 rfl ?_
  obtain ⟨o1, h⟩ := h
  refine zgf_5_0 dX5_refresh_123 (zf_RX5_30 _ rfl) o1 ?_
  obtain ⟨o2, h⟩ := h
  refine zgf_3_0 dX5_refresh_126 (zf_RX5_58 _ rfl) o2 ?_
  refine z_icmp_ge dX5_refresh_129 (tgt := 175) (by decide) (fun c3 => ?_) (fun c3 => ?_)
  · have h := h.1 c3
    obtain ⟨o4, h⟩ := h
    refine z_iinc 1 dX5_refresh_175 rfl (by decide) o4 (L' := [(0, zrv a0), (1, ziv (a1 + 1)), (2, ziv a2)]) [1, 0, 2] rfl ?_
    refine z_goto (tgt := 111) dX5_refresh_178 (by decide) ?_
    refine z_loc (L' := [(0, zrv a0), (1, ziv (a1 + 1))]) [0, 1] rfl ?_
    exact h
  · have h := h.2 c3
    refine z_aload_n 0 dX5_refresh_132 rfl ?_
    refine zgf_5_0 dX5_refresh_133 (zf_RX5_30 _ rfl) o1 ?_
    refine z_aload_n 0 dX5_refresh_136 rfl ?_
    refine zgf_5_7 dX5_refresh_137 (zf_RX5_18 _ rfl) o1 ?_
    refine z_iload_n 1 dX5_refresh_140 rfl ?_
    obtain ⟨o5, h⟩ := h
    obtain ⟨o6, h⟩ := h
    refine z_iald dX5_refresh_141 o5 o6 ?_
    refine z_iload_n 2 dX5_refresh_142 rfl ?_
    refine z_cVF [ziv (V (V a0 7) a1), ziv a2] (zk_RX5_65 _ rfl) dX5_refresh_143 o2 (by decide) rfl rfl (Nat.le_of_ble_eq_true rfl) (Nat.le_of_ble_eq_true rfl) (Nat.le_of_ble_eq_true rfl) (Nat.le_of_ble_eq_true rfl) (Nat.le_of_ble_eq_true rfl) h (fun x7 h => ?_)
    refine z_istore_n dX5_refresh_146 (by decide) (L' := [(0, zrv a0), (1, ziv a1), (2, ziv a2), (3, ziv x7)]) [1, 2, 3, 0] rfl ?_
    refine z_aload_n 0 dX5_refresh_147 rfl ?_
    refine zgf_5_8 dX5_refresh_148 (zf_RX5_22 _ rfl) o1 ?_
    refine z_iload_n 1 dX5_refresh_151 rfl ?_
    refine z_bipush dX5_refresh_152 ⟨by decide, by decide⟩ (by decide) ?_
    obtain ⟨o9, h⟩ := h
    refine z_imul dX5_refresh_154 o9 ?_
    refine z_iload_n 2 dX5_refresh_155 rfl ?_
    obtain ⟨o10, h⟩ := h
    refine z_iadd dX5_refresh_156 o10 ?_
    refine z_iload_n 3 dX5_refresh_157 rfl ?_
    obtain ⟨o11, h⟩ := h
    obtain ⟨o12, h⟩ := h
    refine z_iast dX5_refresh_158 o11 o12 ?_
    refine z_nameV (fun V13 e14 => ?_)
    have h := h V13 e14
    refine z_aload_n 0 dX5_refresh_159 rfl ?_
    refine zgf_5_3 dX5_refresh_160 (zf_RX5_37 _ rfl) o1 ?_
    refine z_topR (zfr_k e14 o11 o1 (by decide)) ?_
    refine z_iload_n 1 dX5_refresh_163 rfl ?_
    refine z_iload_n 2 dX5_refresh_164 rfl ?_
    refine z_iload_n 3 dX5_refresh_165 rfl ?_
    obtain ⟨o15, h⟩ := h
    refine z_cVV [ziv a1, ziv a2, ziv x7] (zk_RX5_69 _ rfl) dX5_refresh_166 o15 (by decide) rfl rfl (Nat.le_of_ble_eq_true rfl) (Nat.le_of_ble_eq_true rfl) (Nat.le_of_ble_eq_true rfl) (Nat.le_of_ble_eq_true rfl) (Nat.le_of_ble_eq_true rfl) h (fun V17 h => ?_)
    obtain ⟨o18, h⟩ := h
    refine z_iinc 2 dX5_refresh_169 rfl (by decide) o18 (L' := [(0, zrv a0), (1, ziv a1), (2, ziv (a2 + 1)), (3, ziv x7)]) [1, 2, 0, 3] rfl ?_
    refine z_goto (tgt := 121) dX5_refresh_172 (by decide) ?_
    refine z_loc (L' := [(0, zrv a0), (1, ziv a1), (2, ziv (a2 + 1))]) [0, 1, 2] rfl ?_
    exact h
set_option maxRecDepth 100000 in
set_option maxHeartbeats 4000000 in
theorem en_X5_refresh {E : zE} {F : zH → Prop} {S : zS} {a0 : Int} {V : zH}
    (h : ∀ X : zX, ((S a0).1 = 8) ∧ ((S (V a0 0)).1 = 6) ∧ ((V a0 1 ≠ V (V a0 0) 4) → (∀ V4 : zH, V4 = zput V a0 1 (V (V a0 0) 4) → ∀ V6 : zH, V6 = zput V4 a0 6 0 → (z32 ((V (V a0 0) 3) - 1)) ∧ ∀ x9 : Int, x9 = (V (V a0 0) 3) - 1 → zl_X5_refresh_41 E X F S a0 x9 V6)) ∧ ((V a0 1 = V (V a0 0) 4) → (F V))) :
    SpV E 4 zm_X5_refresh [zrv a0] S V F := by
  refine Sp.of (plainFor_of_name (by decide +kernel)) (Nat.le_of_ble_eq_true rfl) (fun hok X => ?_)
  have h := h X
  show Zr E X (zRoom 4 0 0) zm_X5_refresh (zQm E X (zpV S F) 0 0) 0 0 0 [(0, zrv a0)] [] S V
  refine z_aload_n 0 dX5_refresh_0 rfl ?_
  obtain ⟨o1, h⟩ := h
  refine zgf_5_1 dX5_refresh_1 (zf_RX5_9 _ rfl) o1 ?_
  refine z_aload_n 0 dX5_refresh_4 rfl ?_
  refine zgf_5_0 dX5_refresh_5 (zf_RX5_30 _ rfl) o1 ?_
  obtain ⟨o2, h⟩ := h
  refine zgf_3_4 dX5_refresh_8 (zf_RX5_41 _ rfl) o2 ?_
  refine z_icmp_ne dX5_refresh_11 (tgt := 15) (by decide) (fun c3 => ?_) (fun c3 => ?_)
  · have h := h.1 c3
    refine z_aload_n 0 dX5_refresh_15 rfl ?_
    refine z_aload_n 0 dX5_refresh_16 rfl ?_
    refine zgf_5_0 dX5_refresh_17 (zf_RX5_30 _ rfl) o1 ?_
    refine zgf_3_4 dX5_refresh_20 (zf_RX5_41 _ rfl) o2 ?_
    refine zpf_5_1 dX5_refresh_23 (zf_RX5_9 _ rfl) o1 ?_
    refine z_nameV (fun V4 e5 => ?_)
    have h := h V4 e5
    refine z_aload_n 0 dX5_refresh_26 rfl ?_
    refine z_iconst dX5_refresh_27 ⟨by decide, by decide⟩ ?_
    refine zpf_5_6 dX5_refresh_28 (zf_RX5_46 _ rfl) o1 ?_
    refine z_nameV (fun V6 e7 => ?_)
    have h := h V6 e7
    refine z_aload_n 0 dX5_refresh_31 rfl ?_
    refine zgf_5_0 dX5_refresh_32 (zf_RX5_30 _ rfl) o1 ?_
    refine z_topR ((zfr_j e7 (by decide)).trans (zfr_j e5 (by decide))) ?_
    refine zgf_3_3 dX5_refresh_35 (zf_RX5_49 _ rfl) o2 ?_
    refine z_topI ((zfr_k e7 o1 o2 (by decide)).trans (zfr_k e5 o1 o2 (by decide))) ?_
    refine z_iconst dX5_refresh_38 ⟨by decide, by decide⟩ ?_
    obtain ⟨o8, h⟩ := h
    refine z_isub dX5_refresh_39 o8 ?_
    refine z_nameI (fun x9 e10 => ?_)
    have h := h x9 e10
    refine z_istore_n dX5_refresh_40 (by decide) (L' := [(0, zrv a0), (1, ziv x9)]) [1, 0] rfl ?_
    exact h
  · have h := h.2 c3
    exact z_retV dX5_refresh_14 rfl h
def zl_X5_freshWeights_25 (E : zE) (X : zX) (F : Int → zS → zH → Prop) (mc ms k n : Nat) (S : zS) (a0 : Int) (V : zH) : Prop := Zr E X (zRoom 4 mc ms) zm_X5_freshWeights (zQm E X (zaR F) mc ms) k n 25 [(0, zrv a0)] [] S V
def zl_X5_freshWeights_71 (E : zE) (X : zX) (F : Int → zS → zH → Prop) (mc ms k n : Nat) (S : zS) (a0 a1 : Int) (V : zH) : Prop := Zr E X (zRoom 4 mc ms) zm_X5_freshWeights (zQm E X (zaR F) mc ms) k n 71 [(0, zrv a0), (1, ziv a1)] [] S V
def zl_X5_freshWeights_84 (E : zE) (X : zX) (F : Int → zS → zH → Prop) (mc ms k n : Nat) (S : zS) (a0 a1 a2 : Int) (V : zH) : Prop := Zr E X (zRoom 4 mc ms) zm_X5_freshWeights (zQm E X (zaR F) mc ms) k n 84 [(0, zrv a0), (1, ziv a1), (2, ziv a2)] [] S V
set_option maxRecDepth 100000 in
set_option maxHeartbeats 4000000 in
theorem wp_X5_freshWeights_25 {E : zE} {X : zX} {F : Int → zS → zH → Prop} {mc ms k n : Nat} {S : zS} {a0 : Int} {V : zH}
    (h : ((S a0).1 = 8) ∧ ((V a0 2 = V a0 1) → ((k ≤ mc ∧ n ≤ ms) ∧ F (V a0 4) S V)) ∧ ((V a0 2 ≠ V a0 1) → (∀ V4 : zH, V4 = zput V a0 2 (V a0 1) → ((S (V a0 0)).1 = 6) ∧ ((S (V a0 4)).1 = 4) ∧ (k ≤ mc ∧ n ≤ ms) ∧ SpV E 2 zm_X1_begin [zrv (V a0 4), ziv (V (V a0 0) 1), ziv (V a0 6), ziv (V (V a0 0) 0)] S V4 (fun V9 => zl_X5_freshWeights_71 E X F mc ms k n S a0 0 V9)))) :
    zl_X5_freshWeights_25 E X F mc ms k n S a0 V := by
  unfold zl_X5_freshWeights_25
  refine z_aload_n 0 dX5_freshWeights_25 rfl ?_
  obtain ⟨o1, h⟩ := h
  refine zgf_5_2 dX5_freshWeights_26 (zf_RX5_15 _ rfl) o1 ?_
  refine z_aload_n 0 dX5_freshWeights_29 rfl ?_
  refine zgf_5_1 dX5_freshWeights_30 (zf_RX5_9 _ rfl) o1 ?_
  refine z_icmp_eq dX5_freshWeights_33 (tgt := 131) (by decide) (fun c2 => ?_) (fun c2 => ?_)
  · have h := h.1 c2
    refine z_aload_n 0 dX5_freshWeights_131 rfl ?_
    refine zgf_5_4 dX5_freshWeights_132 (zf_RX5_75 _ rfl) o1 ?_
    obtain ⟨o3, h⟩ := h
    exact z_retaR dX5_freshWeights_135 rfl o3.1 o3.2 h
  · have h := h.2 c2
    refine z_aload_n 0 dX5_freshWeights_36 rfl ?_
    refine z_aload_n 0 dX5_freshWeights_37 rfl ?_
    refine zgf_5_1 dX5_freshWeights_38 (zf_RX5_9 _ rfl) o1 ?_
    refine zpf_5_2 dX5_freshWeights_41 (zf_RX5_15 _ rfl) o1 ?_
    refine z_nameV (fun V4 e5 => ?_)
    have h := h V4 e5
    refine z_aload_n 0 dX5_freshWeights_44 rfl ?_
    refine zgf_5_4 dX5_freshWeights_45 (zf_RX5_75 _ rfl) o1 ?_
    refine z_topR (zfr_j e5 (by decide)) ?_
    refine z_aload_n 0 dX5_freshWeights_48 rfl ?_
    refine zgf_5_0 dX5_freshWeights_49 (zf_RX5_30 _ rfl) o1 ?_
    refine z_topR (zfr_j e5 (by decide)) ?_
    obtain ⟨o6, h⟩ := h
    refine zgf_3_1 dX5_freshWeights_52 (zf_RX5_55 _ rfl) o6 ?_
    refine z_topI (zfr_k e5 o1 o6 (by decide)) ?_
    refine z_aload_n 0 dX5_freshWeights_55 rfl ?_
    refine zgf_5_6 dX5_freshWeights_56 (zf_RX5_46 _ rfl) o1 ?_
    refine z_topI (zfr_j e5 (by decide)) ?_
    refine z_aload_n 0 dX5_freshWeights_59 rfl ?_
    refine zgf_5_0 dX5_freshWeights_60 (zf_RX5_30 _ rfl) o1 ?_
    refine z_topR (zfr_j e5 (by decide)) ?_
    refine zgf_3_0 dX5_freshWeights_63 (zf_RX5_58 _ rfl) o6 ?_
    refine z_topI (zfr_k e5 o1 o6 (by decide)) ?_
    obtain ⟨o7, h⟩ := h
    obtain ⟨o10, h⟩ := h
    refine z_cVV [ziv (V (V a0 0) 1), ziv (V a0 6), ziv (V (V a0 0) 0)] (zk_RX5_61 _ rfl) dX5_freshWeights_66 o7 (by decide) rfl rfl (Nat.le_of_ble_eq_true rfl) (Nat.le_of_ble_eq_true rfl) (Nat.le_of_ble_eq_true rfl) o10.1 o10.2 h (fun V9 h => ?_)
    refine z_iconst dX5_freshWeights_69 ⟨by decide, by decide⟩ ?_
    refine z_istore_n dX5_freshWeights_70 (by decide) (L' := [(0, zrv a0), (1, ziv 0)]) [1, 0] rfl ?_
    exact h
set_option maxRecDepth 100000 in
set_option maxHeartbeats 4000000 in
theorem wp_X5_freshWeights_71 {E : zE} {X : zX} {F : Int → zS → zH → Prop} {mc ms k n : Nat} {S : zS} {a0 a1 : Int} {V : zH}
    (h : ((S a0).1 = 8) ∧ ((S (V a0 0)).1 = 6) ∧ ((V (V a0 0) 0 ≤ a1) → (((S (V a0 4)).1 = 4) ∧ (k ≤ mc ∧ n ≤ ms) ∧ SpV E 3 zm_X1_build [zrv (V a0 4)] S V (fun V6 => F (V6 a0 4) S V6))) ∧ ((a1 < V (V a0 0) 0) → (zl_X5_freshWeights_84 E X F mc ms k n S a0 a1 0 V))) :
    zl_X5_freshWeights_71 E X F mc ms k n S a0 a1 V := by
  unfold zl_X5_freshWeights_71
  refine z_iload_n 1 dX5_freshWeights_71 rfl ?_
  refine z_aload_n 0 dX5_freshWeights_72 rfl ?_
  obtain ⟨o1, h⟩ := h
  refine zgf_5_0 dX5_freshWeights_73 (zf_RX5_30 _ rfl) o1 ?_
  obtain ⟨o2, h⟩ := h
  refine zgf_3_0 dX5_freshWeights_76 (zf_RX5_58 _ rfl) o2 ?_
  refine z_icmp_ge dX5_freshWeights_79 (tgt := 124) (by decide) (fun c3 => ?_) (fun c3 => ?_)
  · have h := h.1 c3
    refine z_aload_n 0 dX5_freshWeights_124 rfl ?_
    refine zgf_5_4 dX5_freshWeights_125 (zf_RX5_75 _ rfl) o1 ?_
    obtain ⟨o4, h⟩ := h
    obtain ⟨o7, h⟩ := h
    refine z_cVV [] (zk_RX5_72 _ rfl) dX5_freshWeights_128 o4 (by decide) rfl rfl (Nat.le_of_ble_eq_true rfl) (Nat.le_of_ble_eq_true rfl) (Nat.le_of_ble_eq_true rfl) o7.1 o7.2 h (fun V6 h => ?_)
    refine z_aload_n 0 dX5_freshWeights_131 rfl ?_
    refine zgf_5_4 dX5_freshWeights_132 (zf_RX5_75 _ rfl) o1 ?_
    exact z_retaR dX5_freshWeights_135 rfl o7.1 o7.2 h
  · have h := h.2 c3
    refine z_iconst dX5_freshWeights_82 ⟨by decide, by decide⟩ ?_
    refine z_istore_n dX5_freshWeights_83 (by decide) (L' := [(0, zrv a0), (1, ziv a1), (2, ziv 0)]) [1, 2, 0] rfl ?_
    exact h
set_option maxRecDepth 100000 in
set_option maxHeartbeats 4000000 in
theorem wp_X5_freshWeights_84 {E : zE} {X : zX} {F : Int → zS → zH → Prop} {mc ms k n : Nat} {S : zS} {a0 a1 a2 : Int} {V : zH}
    (h : ((S a0).1 = 8) ∧ ((V a0 6 ≤ a2) → ((z32 (a1 + 1)) ∧ zl_X5_freshWeights_71 E X F mc ms k n S a0 (a1 + 1) V)) ∧ ((a2 < V a0 6) → ((z32 (a2 * 36)) ∧ (z32 ((a2 * 36) + a1)) ∧ ((S (V a0 8)).1 = 1) ∧ ((0 : Int) ≤ (a2 * 36) + a1 ∧ (a2 * 36) + a1 < (S (V a0 8)).2) ∧ ((S (V a0 4)).1 = 4) ∧ (k ≤ mc ∧ n ≤ ms) ∧ SpV E 0 zm_X1_putHead [zrv (V a0 4), ziv a1, ziv a2, ziv (V (V a0 8) ((a2 * 36) + a1))] S V (fun V10 => (z32 (a2 + 1)) ∧ zl_X5_freshWeights_84 E X F mc ms k n S a0 a1 (a2 + 1) V10)))) :
    zl_X5_freshWeights_84 E X F mc ms k n S a0 a1 a2 V := by
  unfold zl_X5_freshWeights_84
  refine z_iload_n 2 dX5_freshWeights_84 rfl ?_
  refine z_aload_n 0 dX5_freshWeights_85 rfl ?_
  obtain ⟨o1, h⟩ := h
  refine zgf_5_6 dX5_freshWeights_86 (zf_RX5_46 _ rfl) o1 ?_
  refine z_icmp_ge dX5_freshWeights_89 (tgt := 118) (by decide) (fun c2 => ?_) (fun c2 => ?_)
  · have h := h.1 c2
    obtain ⟨o3, h⟩ := h
    refine z_iinc 1 dX5_freshWeights_118 rfl (by decide) o3 (L' := [(0, zrv a0), (1, ziv (a1 + 1)), (2, ziv a2)]) [1, 0, 2] rfl ?_
    refine z_goto (tgt := 71) dX5_freshWeights_121 (by decide) ?_
    refine z_loc (L' := [(0, zrv a0), (1, ziv (a1 + 1))]) [0, 1] rfl ?_
    exact h
  · have h := h.2 c2
    refine z_aload_n 0 dX5_freshWeights_92 rfl ?_
    refine zgf_5_4 dX5_freshWeights_93 (zf_RX5_75 _ rfl) o1 ?_
    refine z_iload_n 1 dX5_freshWeights_96 rfl ?_
    refine z_iload_n 2 dX5_freshWeights_97 rfl ?_
    refine z_aload_n 0 dX5_freshWeights_98 rfl ?_
    refine zgf_5_8 dX5_freshWeights_99 (zf_RX5_22 _ rfl) o1 ?_
    refine z_iload_n 2 dX5_freshWeights_102 rfl ?_
    refine z_bipush dX5_freshWeights_103 ⟨by decide, by decide⟩ (by decide) ?_
    obtain ⟨o4, h⟩ := h
    refine z_imul dX5_freshWeights_105 o4 ?_
    refine z_iload_n 1 dX5_freshWeights_106 rfl ?_
    obtain ⟨o5, h⟩ := h
    refine z_iadd dX5_freshWeights_107 o5 ?_
    obtain ⟨o6, h⟩ := h
    obtain ⟨o7, h⟩ := h
    refine z_iald dX5_freshWeights_108 o6 o7 ?_
    obtain ⟨o8, h⟩ := h
    obtain ⟨o11, h⟩ := h
    refine z_cVV [ziv a1, ziv a2, ziv (V (V a0 8) ((a2 * 36) + a1))] (zk_RX5_69 _ rfl) dX5_freshWeights_109 o8 (by decide) rfl rfl (Nat.le_of_ble_eq_true rfl) (Nat.le_of_ble_eq_true rfl) (Nat.le_of_ble_eq_true rfl) o11.1 o11.2 h (fun V10 h => ?_)
    obtain ⟨o12, h⟩ := h
    refine z_iinc 2 dX5_freshWeights_112 rfl (by decide) o12 (L' := [(0, zrv a0), (1, ziv a1), (2, ziv (a2 + 1))]) [1, 2, 0] rfl ?_
    refine z_goto (tgt := 84) dX5_freshWeights_115 (by decide) ?_
    exact h
set_option maxRecDepth 100000 in
set_option maxHeartbeats 4000000 in
theorem en_X5_freshWeights {E : zE} {F : Int → zS → zH → Prop} {mc ms : Nat} {S : zS} {a0 : Int} {V : zH}
    (h : ∀ X : zX, ((S a0).1 = 8) ∧ ((0 < V a0 4) → (zl_X5_freshWeights_25 E X F mc ms 0 0 S a0 V)) ∧ ((V a0 4 = 0) → ((0 + 1 ≤ mc ∧ 0 + 8 ≤ ms) ∧ ∀ r4 : Int, 0 < r4 → ((S r4).1 = 0 ∧ ∀ q : Int, (S q).1 ≠ 0 → q < r4 ∧ (S (r4 - 1)).1 ≠ 0) → ∀ (S7 : zS) (V8 : zH), S7 = zSn S r4 (4, 8) → V8 = zVn V r4 → ((S7 (V8 a0 3)).1 = 4) ∧ ∃ m16 m17 : Nat, (0 + 1 + m16 ≤ mc ∧ 0 + 8 + m17 ≤ ms) ∧ SaV E 1 m16 m17 zm_X1_init [zrv r4, zrv (V8 (V8 a0 3) 6)] S7 V8 (fun S19 V15 => ((S19 a0).1 = 8) ∧ ∀ V21 : zH, V21 = zput V15 a0 4 r4 → zl_X5_freshWeights_25 E X F mc ms (0 + 1 + m16) (0 + 8 + m17) S19 a0 V21)))) :
    SaR E 4 mc ms zm_X5_freshWeights [zrv a0] S V F := by
  refine Sp.of (plainFor_of_name (by decide +kernel)) (Nat.le_of_ble_eq_true rfl) (fun hok X => ?_)
  have h := h X
  show Zr E X (zRoom 4 mc ms) zm_X5_freshWeights (zQm E X (zaR F) mc ms) 0 0 0 [(0, zrv a0)] [] S V
  refine z_aload_n 0 dX5_freshWeights_0 rfl ?_
  obtain ⟨o1, h⟩ := h
  refine zgf_5_4 dX5_freshWeights_1 (zf_RX5_75 _ rfl) o1 ?_
  refine z_ifnonnull dX5_freshWeights_4 (tgt := 25) (by decide) (fun c2 => ?_) (fun c2 => ?_)
  · have h := h.1 c2
    exact h
  · have h := h.2 c2
    refine z_aload_n 0 dX5_freshWeights_7 rfl ?_
    obtain ⟨o3, h⟩ := h
    refine znw_1 dX5_freshWeights_8 (zn_RX5_25 _ rfl) o3 (fun r4 q5 f6 => ?_)
    refine z_nameS (fun S7 V8 e9 e10 => ?_)
    have h := h r4 q5 f6 S7 V8 e9 e10
    have o11 : (S7 a0).1 = 8 := zSn_k e9 o1 f6.1 (by decide)
    have o12 : (S7 r4).1 = 4 := zSn_r e9
    refine z_dup (zref_cat _) dX5_freshWeights_11 ?_
    refine z_aload_n 0 dX5_freshWeights_12 rfl ?_
    refine zgf_5_3 dX5_freshWeights_13 (zf_RX5_37 _ rfl) o11 ?_
    obtain ⟨o13, h⟩ := h
    refine zgf_1_6 dX5_freshWeights_16 (zf_RX5_78 _ rfl) o13 ?_
    obtain ⟨m16, m17, o18, h⟩ := h
    refine z_aI [zrv (V8 (V8 a0 3) 6)] (zk_RX5_34 _ rfl) dX5_freshWeights_19 q5 rfl rfl (Nat.le_of_ble_eq_true rfl) (Nat.le_of_ble_eq_true rfl) (Nat.le_of_ble_eq_true rfl) o18.1 o18.2 h (fun S19 V15 h => ?_)
    obtain ⟨o20, h⟩ := h
    refine zpf_5_4 dX5_freshWeights_22 (zf_RX5_75 _ rfl) o20 ?_
    refine z_nameV (fun V21 e22 => ?_)
    have h := h V21 e22
    exact h
set_option maxRecDepth 100000 in
set_option maxHeartbeats 4000000 in
theorem en_X5_countQuiet {E : zE} {F : Int → Prop} {S : zS} {a0 : Int} {V : zH}
    (h : ((S a0).1 = 8) ∧ ((S (V a0 3)).1 = 4) ∧ SpF E 0 zm_X1_countElements [zrv (V a0 3)] S V (fun x3 => F x3)) :
    SpF E 1 zm_X5_countQuiet [zrv a0] S V F := by
  refine Sp.of (plainFor_of_name (by decide +kernel)) (Nat.le_of_ble_eq_true rfl) (fun hok X => ?_)
  have h := h
  show Zr E X (zRoom 1 0 0) zm_X5_countQuiet (zQm E X (zpF S V F) 0 0) 0 0 0 [(0, zrv a0)] [] S V
  refine z_aload_n 0 dX5_countQuiet_0 rfl ?_
  obtain ⟨o1, h⟩ := h
  refine zgf_5_3 dX5_countQuiet_1 (zf_RX5_37 _ rfl) o1 ?_
  obtain ⟨o2, h⟩ := h
  refine z_cVF [] (zk_RX5_81 _ rfl) dX5_countQuiet_4 o2 (by decide) rfl rfl (Nat.le_of_ble_eq_true rfl) (Nat.le_of_ble_eq_true rfl) (Nat.le_of_ble_eq_true rfl) (Nat.le_of_ble_eq_true rfl) (Nat.le_of_ble_eq_true rfl) h (fun x3 h => ?_)
  exact z_retFI dX5_countQuiet_7 rfl h
set_option maxRecDepth 100000 in
set_option maxHeartbeats 4000000 in
theorem en_X5_countWeights {E : zE} {F : Int → zS → zH → Prop} {mc ms : Nat} {S : zS} {a0 : Int} {V : zH}
    (h : ((S a0).1 = 8) ∧ ∃ m4 m5 : Nat, (0 + m4 ≤ mc ∧ 0 + m5 ≤ ms) ∧ SaR E 4 m4 m5 zm_X5_freshWeights [zrv a0] S V (fun x2 S7 V3 => ((S7 x2).1 = 4) ∧ (0 + m4 ≤ mc ∧ 0 + m5 ≤ ms) ∧ SpF E 0 zm_X1_countElements [zrv x2] S7 V3 (fun x9 => F x9 S7 V3))) :
    SaI E 5 mc ms zm_X5_countWeights [zrv a0] S V F := by
  refine Sp.of (plainFor_of_name (by decide +kernel)) (Nat.le_of_ble_eq_true rfl) (fun hok X => ?_)
  have h := h
  show Zr E X (zRoom 5 mc ms) zm_X5_countWeights (zQm E X (zaI F) mc ms) 0 0 0 [(0, zrv a0)] [] S V
  refine z_aload_n 0 dX5_countWeights_0 rfl ?_
  obtain ⟨o1, h⟩ := h
  obtain ⟨m4, m5, o6, h⟩ := h
  refine z_aVR [] (zk_RX5_85 _ rfl) dX5_countWeights_1 o1 (by decide) rfl rfl (Nat.le_of_ble_eq_true rfl) (Nat.le_of_ble_eq_true rfl) (Nat.le_of_ble_eq_true rfl) o6.1 o6.2 h (fun x2 S7 V3 h => ?_)
  obtain ⟨o8, h⟩ := h
  obtain ⟨o11, h⟩ := h
  refine z_cVF [] (zk_RX5_81 _ rfl) dX5_countWeights_4 o8 (by decide) rfl rfl (Nat.le_of_ble_eq_true rfl) (Nat.le_of_ble_eq_true rfl) (Nat.le_of_ble_eq_true rfl) o11.1 o11.2 h (fun x9 h => ?_)
  exact z_retaI dX5_countWeights_7 rfl o11.1 o11.2 h
def zl_X5_solve_10 (E : zE) (X : zX) (F : Int → zH → Prop) (S : zS) (a0 a1 : Int) (V : zH) : Prop := Zr E X (zRoom 3 0 0) zm_X5_solve (zQm E X (zpI S F) 0 0) 0 0 10 [(0, zrv a0), (1, ziv a1)] [] S V
set_option maxRecDepth 100000 in
set_option maxHeartbeats 4000000 in
theorem wp_X5_solve_10 {E : zE} {X : zX} {F : Int → zH → Prop} {S : zS} {a0 a1 : Int} {V : zH}
    (h : ((S a0).1 = 8) ∧ ((S (V a0 0)).1 = 6) ∧ ((V (V a0 0) 0 ≤ a1) → (((S (V a0 3)).1 = 4) ∧ SpI E 2 zm_X1_reduceHead [zrv (V a0 3), zrv (V a0 9)] S V (fun x5 V6 => ((x5 ≠ 0) → (((S (V6 a0 3)).1 = 4) ∧ SpV E 1 zm_X1_reduce [zrv (V6 a0 3), zrv (V6 a0 9), ziv 0, ziv (V6 (V6 a0 3) 1), ziv (V6 (V6 a0 3) 2)] S V6 (fun V10 => F 1 V10))) ∧ ((x5 = 0) → (F 0 V6))))) ∧ ((a1 < V (V a0 0) 0) → (((S (V (V a0 0) 5)).1 = 1) ∧ ((0 : Int) ≤ a1 ∧ a1 < (S (V (V a0 0) 5)).2) ∧ (z32 ((V (V a0 0) 1) - (V (V (V a0 0) 5) a1))) ∧ ((0 : Int) ≤ (V (V a0 0) 1) - (V (V (V a0 0) 5) a1)) ∧ ((0 : Int) < V (V a0 0) 1) ∧ ((S (V a0 9)).1 = 1) ∧ ((0 : Int) ≤ a1 ∧ a1 < (S (V a0 9)).2) ∧ ∀ V18 : zH, V18 = zput V (V a0 9) a1 (((V (V a0 0) 1) - (V (V (V a0 0) 5) a1)) % (V (V a0 0) 1)) → (z32 (a1 + 1)) ∧ zl_X5_solve_10 E X F S a0 (a1 + 1) V18))) :
    zl_X5_solve_10 E X F S a0 a1 V := by
  unfold zl_X5_solve_10
  refine z_iload_n 1 dX5_solve_10 rfl ?_
  refine z_aload_n 0 dX5_solve_11 rfl ?_
  obtain ⟨o1, h⟩ := h
  refine zgf_5_0 dX5_solve_12 (zf_RX5_30 _ rfl) o1 ?_
  obtain ⟨o2, h⟩ := h
  refine zgf_3_0 dX5_solve_15 (zf_RX5_58 _ rfl) o2 ?_
  refine z_icmp_ge dX5_solve_18 (tgt := 58) (by decide) (fun c3 => ?_) (fun c3 => ?_)
  · have h := h.1 c3
    refine z_aload_n 0 dX5_solve_58 rfl ?_
    refine zgf_5_3 dX5_solve_59 (zf_RX5_37 _ rfl) o1 ?_
    refine z_aload_n 0 dX5_solve_62 rfl ?_
    refine zgf_5_9 dX5_solve_63 (zf_RX5_27 _ rfl) o1 ?_
    obtain ⟨o4, h⟩ := h
    refine z_cVI [zrv (V a0 9)] (zk_RX5_98 _ rfl) dX5_solve_66 o4 (by decide) rfl rfl (Nat.le_of_ble_eq_true rfl) (Nat.le_of_ble_eq_true rfl) (Nat.le_of_ble_eq_true rfl) (Nat.le_of_ble_eq_true rfl) (Nat.le_of_ble_eq_true rfl) h (fun x5 V6 h => ?_)
    refine z_if_ne dX5_solve_69 (tgt := 74) (by decide) (fun c7 => ?_) (fun c7 => ?_)
    · have h := h.1 c7
      refine z_aload_n 0 dX5_solve_74 rfl ?_
      refine zgf_5_3 dX5_solve_75 (zf_RX5_37 _ rfl) o1 ?_
      refine z_aload_n 0 dX5_solve_78 rfl ?_
      refine zgf_5_9 dX5_solve_79 (zf_RX5_27 _ rfl) o1 ?_
      refine z_iconst dX5_solve_82 ⟨by decide, by decide⟩ ?_
      refine z_aload_n 0 dX5_solve_83 rfl ?_
      refine zgf_5_3 dX5_solve_84 (zf_RX5_37 _ rfl) o1 ?_
      obtain ⟨o8, h⟩ := h
      refine zgf_1_1 dX5_solve_87 (zf_RX5_102 _ rfl) o8 ?_
      refine z_aload_n 0 dX5_solve_90 rfl ?_
      refine zgf_5_3 dX5_solve_91 (zf_RX5_37 _ rfl) o1 ?_
      refine zgf_1_2 dX5_solve_94 (zf_RX5_105 _ rfl) o8 ?_
      refine z_cVV [zrv (V6 a0 9), ziv 0, ziv (V6 (V6 a0 3) 1), ziv (V6 (V6 a0 3) 2)] (zk_RX5_108 _ rfl) dX5_solve_97 o8 (by decide) rfl rfl (Nat.le_of_ble_eq_true rfl) (Nat.le_of_ble_eq_true rfl) (Nat.le_of_ble_eq_true rfl) (Nat.le_of_ble_eq_true rfl) (Nat.le_of_ble_eq_true rfl) h (fun V10 h => ?_)
      refine z_iconst dX5_solve_100 ⟨by decide, by decide⟩ ?_
      exact z_retZ dX5_solve_101 rfl (Or.inr rfl) h
    · have h := h.2 c7
      refine z_iconst dX5_solve_72 ⟨by decide, by decide⟩ ?_
      exact z_retZ dX5_solve_73 rfl (Or.inl rfl) h
  · have h := h.2 c3
    refine z_aload_n 0 dX5_solve_21 rfl ?_
    refine zgf_5_9 dX5_solve_22 (zf_RX5_27 _ rfl) o1 ?_
    refine z_iload_n 1 dX5_solve_25 rfl ?_
    refine z_aload_n 0 dX5_solve_26 rfl ?_
    refine zgf_5_0 dX5_solve_27 (zf_RX5_30 _ rfl) o1 ?_
    refine zgf_3_1 dX5_solve_30 (zf_RX5_55 _ rfl) o2 ?_
    refine z_aload_n 0 dX5_solve_33 rfl ?_
    refine zgf_5_0 dX5_solve_34 (zf_RX5_30 _ rfl) o1 ?_
    refine zgf_3_5 dX5_solve_37 (zf_RX5_95 _ rfl) o2 ?_
    refine z_iload_n 1 dX5_solve_40 rfl ?_
    obtain ⟨o11, h⟩ := h
    obtain ⟨o12, h⟩ := h
    refine z_iald dX5_solve_41 o11 o12 ?_
    obtain ⟨o13, h⟩ := h
    refine z_isub dX5_solve_42 o13 ?_
    refine z_aload_n 0 dX5_solve_43 rfl ?_
    refine zgf_5_0 dX5_solve_44 (zf_RX5_30 _ rfl) o1 ?_
    refine zgf_3_1 dX5_solve_47 (zf_RX5_55 _ rfl) o2 ?_
    obtain ⟨o14, h⟩ := h
    obtain ⟨o15, h⟩ := h
    refine z_irem dX5_solve_50 o14 o15 ?_
    obtain ⟨o16, h⟩ := h
    obtain ⟨o17, h⟩ := h
    refine z_iast dX5_solve_51 o16 o17 ?_
    refine z_nameV (fun V18 e19 => ?_)
    have h := h V18 e19
    obtain ⟨o20, h⟩ := h
    refine z_iinc 1 dX5_solve_52 rfl (by decide) o20 (L' := [(0, zrv a0), (1, ziv (a1 + 1))]) [1, 0] rfl ?_
    refine z_goto (tgt := 10) dX5_solve_55 (by decide) ?_
    exact h
set_option maxRecDepth 100000 in
set_option maxHeartbeats 4000000 in
theorem en_X5_solve {E : zE} {F : Int → zH → Prop} {S : zS} {a0 : Int} {V : zH}
    (h : ∀ X : zX, ((S a0).1 = 8) ∧ SpV E 0 zm_J7_fill_53178 [zrv (V a0 9), ziv 0] S V (fun V3 => zl_X5_solve_10 E X F S a0 0 V3)) :
    SpI E 3 zm_X5_solve [zrv a0] S V F := by
  refine Sp.of (plainFor_of_name (by decide +kernel)) (Nat.le_of_ble_eq_true rfl) (fun hok X => ?_)
  have h := h X
  show Zr E X (zRoom 3 0 0) zm_X5_solve (zQm E X (zpI S F) 0 0) 0 0 0 [(0, zrv a0)] [] S V
  refine z_aload_n 0 dX5_solve_0 rfl ?_
  obtain ⟨o1, h⟩ := h
  refine zgf_5_9 dX5_solve_1 (zf_RX5_27 _ rfl) o1 ?_
  refine z_iconst dX5_solve_4 ⟨by decide, by decide⟩ ?_
  refine z_cSV [zrv (V a0 9), ziv 0] (zk_RX5_89 _ rfl) dX5_solve_5 rfl rfl (Nat.le_of_ble_eq_true rfl) (Nat.le_of_ble_eq_true rfl) (Nat.le_of_ble_eq_true rfl) (Nat.le_of_ble_eq_true rfl) (Nat.le_of_ble_eq_true rfl) h (fun V3 h => ?_)
  refine z_iconst dX5_solve_8 ⟨by decide, by decide⟩ ?_
  refine z_istore_n dX5_solve_9 (by decide) (L' := [(0, zrv a0), (1, ziv 0)]) [1, 0] rfl ?_
  exact h
set_option maxRecDepth 100000 in
set_option maxHeartbeats 4000000 in
theorem en_X5_tellPushing {E : zE} {F : zH → Prop} {S : zS} {a0 a1 : Int} {V : zH}
    (h : ((S a0).1 = 8) ∧ SpV E 2 zm_X5_tellTail [zrv a0, zrv (V a0 9), zrv a1] S V (fun V3 => F V3)) :
    SpV E 3 zm_X5_tellPushing [zrv a0, zrv a1] S V F := by
  refine Sp.of (plainFor_of_name (by decide +kernel)) (Nat.le_of_ble_eq_true rfl) (fun hok X => ?_)
  have h := h
  show Zr E X (zRoom 3 0 0) zm_X5_tellPushing (zQm E X (zpV S F) 0 0) 0 0 0 [(0, zrv a0), (1, zrv a1)] [] S V
  refine z_aload_n 0 dX5_tellPushing_0 rfl ?_
  refine z_aload_n 0 dX5_tellPushing_1 rfl ?_
  obtain ⟨o1, h⟩ := h
  refine zgf_5_9 dX5_tellPushing_2 (zf_RX5_27 _ rfl) o1 ?_
  refine z_aload_n 1 dX5_tellPushing_5 rfl ?_
  refine z_cVV [zrv (V a0 9), zrv a1] (zk_RX5_112 _ rfl) dX5_tellPushing_6 o1 (by decide) rfl rfl (Nat.le_of_ble_eq_true rfl) (Nat.le_of_ble_eq_true rfl) (Nat.le_of_ble_eq_true rfl) (Nat.le_of_ble_eq_true rfl) (Nat.le_of_ble_eq_true rfl) h (fun V3 h => ?_)
  exact z_retV dX5_tellPushing_9 rfl h
def zl_X5_tellTail_14 (E : zE) (X : zX) (F : zH → Prop) (S : zS) (a0 a1 a2 a3 : Int) (V : zH) : Prop := Zr E X (zRoom 2 0 0) zm_X5_tellTail (zQm E X (zpV S F) 0 0) 0 0 14 [(0, zrv a0), (1, zrv a1), (2, zrv a2), (3, ziv a3)] [] S V
set_option maxRecDepth 100000 in
set_option maxHeartbeats 4000000 in
theorem wp_X5_tellTail_14 {E : zE} {X : zX} {F : zH → Prop} {S : zS} {a0 a1 a2 a3 : Int} {V : zH}
    (h : ((S a0).1 = 8) ∧ ((V a0 6 ≤ a3) → (F V)) ∧ ((a3 < V a0 6) → (((S a2).1 = 9) ∧ ((S (V a0 7)).1 = 1) ∧ ((0 : Int) ≤ a3 ∧ a3 < (S (V a0 7)).2) ∧ ((S (V a0 0)).1 = 6) ∧ (z32 ((V (V a0 0) 0) + a3)) ∧ ((S a1).1 = 1) ∧ ((0 : Int) ≤ (V (V a0 0) 0) + a3 ∧ (V (V a0 0) 0) + a3 < (S a1).2) ∧ ((S (V a2 3)).1 = 1) ∧ ((0 : Int) ≤ V (V a0 7) a3 ∧ V (V a0 7) a3 < (S (V a2 3)).2) ∧ ∀ V12 : zH, V12 = zput V (V a2 3) (V (V a0 7) a3) (V a1 ((V (V a0 0) 0) + a3)) → (z32 (a3 + 1)) ∧ zl_X5_tellTail_14 E X F S a0 a1 a2 (a3 + 1) V12))) :
    zl_X5_tellTail_14 E X F S a0 a1 a2 a3 V := by
  unfold zl_X5_tellTail_14
  refine z_iload_n 3 dX5_tellTail_14 rfl ?_
  refine z_aload_n 0 dX5_tellTail_15 rfl ?_
  obtain ⟨o1, h⟩ := h
  refine zgf_5_6 dX5_tellTail_16 (zf_RX5_46 _ rfl) o1 ?_
  refine z_icmp_ge dX5_tellTail_19 (tgt := 50) (by decide) (fun c2 => ?_) (fun c2 => ?_)
  · have h := h.1 c2
    exact z_retV dX5_tellTail_50 rfl h
  · have h := h.2 c2
    refine z_aload_n 2 dX5_tellTail_22 rfl ?_
    obtain ⟨o3, h⟩ := h
    refine zgf_6_3 dX5_tellTail_23 (zf_RX5_121 _ rfl) o3 ?_
    refine z_aload_n 0 dX5_tellTail_26 rfl ?_
    refine zgf_5_7 dX5_tellTail_27 (zf_RX5_18 _ rfl) o1 ?_
    refine z_iload_n 3 dX5_tellTail_30 rfl ?_
    obtain ⟨o4, h⟩ := h
    obtain ⟨o5, h⟩ := h
    refine z_iald dX5_tellTail_31 o4 o5 ?_
    refine z_aload_n 1 dX5_tellTail_32 rfl ?_
    refine z_aload_n 0 dX5_tellTail_33 rfl ?_
    refine zgf_5_0 dX5_tellTail_34 (zf_RX5_30 _ rfl) o1 ?_
    obtain ⟨o6, h⟩ := h
    refine zgf_3_0 dX5_tellTail_37 (zf_RX5_58 _ rfl) o6 ?_
    refine z_iload_n 3 dX5_tellTail_40 rfl ?_
    obtain ⟨o7, h⟩ := h
    refine z_iadd dX5_tellTail_41 o7 ?_
    obtain ⟨o8, h⟩ := h
    obtain ⟨o9, h⟩ := h
    refine z_iald dX5_tellTail_42 o8 o9 ?_
    obtain ⟨o10, h⟩ := h
    obtain ⟨o11, h⟩ := h
    refine z_iast dX5_tellTail_43 o10 o11 ?_
    refine z_nameV (fun V12 e13 => ?_)
    have h := h V12 e13
    obtain ⟨o14, h⟩ := h
    refine z_iinc 3 dX5_tellTail_44 rfl (by decide) o14 (L' := [(0, zrv a0), (1, zrv a1), (2, zrv a2), (3, ziv (a3 + 1))]) [1, 2, 3, 0] rfl ?_
    refine z_goto (tgt := 14) dX5_tellTail_47 (by decide) ?_
    exact h
set_option maxRecDepth 100000 in
set_option maxHeartbeats 4000000 in
theorem en_X5_tellTail {E : zE} {F : zH → Prop} {S : zS} {a0 a1 a2 : Int} {V : zH}
    (h : ∀ X : zX, ((S a0).1 = 8) ∧ ((S (V a0 0)).1 = 6) ∧ ((S a2).1 = 9) ∧ SpV E 1 zm_X6_begin [zrv a2, ziv 1, ziv (V (V a0 0) 3)] S V (fun V5 => zl_X5_tellTail_14 E X F S a0 a1 a2 0 V5)) :
    SpV E 2 zm_X5_tellTail [zrv a0, zrv a1, zrv a2] S V F := by
  refine Sp.of (plainFor_of_name (by decide +kernel)) (Nat.le_of_ble_eq_true rfl) (fun hok X => ?_)
  have h := h X
  show Zr E X (zRoom 2 0 0) zm_X5_tellTail (zQm E X (zpV S F) 0 0) 0 0 0 [(0, zrv a0), (1, zrv a1), (2, zrv a2)] [] S V
  refine z_aload_n 2 dX5_tellTail_0 rfl ?_
  refine z_iconst dX5_tellTail_1 ⟨by decide, by decide⟩ ?_
  refine z_aload_n 0 dX5_tellTail_2 rfl ?_
  obtain ⟨o1, h⟩ := h
  refine zgf_5_0 dX5_tellTail_3 (zf_RX5_30 _ rfl) o1 ?_
  obtain ⟨o2, h⟩ := h
  refine zgf_3_3 dX5_tellTail_6 (zf_RX5_49 _ rfl) o2 ?_
  obtain ⟨o3, h⟩ := h
  refine z_cVV [ziv 1, ziv (V (V a0 0) 3)] (zk_RX5_118 _ rfl) dX5_tellTail_9 o3 (by decide) rfl rfl (Nat.le_of_ble_eq_true rfl) (Nat.le_of_ble_eq_true rfl) (Nat.le_of_ble_eq_true rfl) (Nat.le_of_ble_eq_true rfl) (Nat.le_of_ble_eq_true rfl) h (fun V5 h => ?_)
  refine z_iconst dX5_tellTail_12 ⟨by decide, by decide⟩ ?_
  refine z_istore_n dX5_tellTail_13 (by decide) (L' := [(0, zrv a0), (1, zrv a1), (2, zrv a2), (3, ziv 0)]) [1, 2, 3, 0] rfl ?_
  exact h
def zl_X5_goOn_2 (E : zE) (X : zX) (F : Int → zH → Prop) (S : zS) (a0 a1 a2 : Int) (V : zH) : Prop := Zr E X (zRoom 4 0 0) zm_X5_goOn (zQm E X (zpI S F) 0 0) 0 0 2 [(0, zrv a0), (1, zrv a1), (2, ziv a2)] [] S V
set_option maxRecDepth 100000 in
set_option maxHeartbeats 4000000 in
theorem wp_X5_goOn_2 {E : zE} {X : zX} {F : Int → zH → Prop} {S : zS} {a0 a1 a2 : Int} {V : zH}
    (h : ((S a0).1 = 8) ∧ ((V a0 6 ≤ a2) → (((S (V a0 3)).1 = 4) ∧ SpI E 2 zm_X1_stepTail [zrv (V a0 3), zrv (V a0 9)] S V (fun x4 V5 => ((x4 ≠ 0) → (SpV E 3 zm_X5_tellPushing [zrv a0, zrv a1] S V5 (fun V8 => ((S a1).1 = 9) ∧ ∀ V10 : zH, V10 = zput V8 a1 2 1 → F 1 V10))) ∧ ((x4 = 0) → (F 0 V5))))) ∧ ((a2 < V a0 6) → (((S (V a0 3)).1 = 4) ∧ (z32 ((V (V a0 3) 1) + a2)) ∧ ((S a1).1 = 9) ∧ ((S (V a0 7)).1 = 1) ∧ ((0 : Int) ≤ a2 ∧ a2 < (S (V a0 7)).2) ∧ ((S (V a1 3)).1 = 1) ∧ ((0 : Int) ≤ V (V a0 7) a2 ∧ V (V a0 7) a2 < (S (V a1 3)).2) ∧ ((S (V a0 9)).1 = 1) ∧ ((0 : Int) ≤ (V (V a0 3) 1) + a2 ∧ (V (V a0 3) 1) + a2 < (S (V a0 9)).2) ∧ ∀ V21 : zH, V21 = zput V (V a0 9) ((V (V a0 3) 1) + a2) (V (V a1 3) (V (V a0 7) a2)) → (z32 (a2 + 1)) ∧ zl_X5_goOn_2 E X F S a0 a1 (a2 + 1) V21))) :
    zl_X5_goOn_2 E X F S a0 a1 a2 V := by
  unfold zl_X5_goOn_2
  refine z_iload_n 2 dX5_goOn_2 rfl ?_
  refine z_aload_n 0 dX5_goOn_3 rfl ?_
  obtain ⟨o1, h⟩ := h
  refine zgf_5_6 dX5_goOn_4 (zf_RX5_46 _ rfl) o1 ?_
  refine z_icmp_ge dX5_goOn_7 (tgt := 41) (by decide) (fun c2 => ?_) (fun c2 => ?_)
  · have h := h.1 c2
    refine z_aload_n 0 dX5_goOn_41 rfl ?_
    refine zgf_5_3 dX5_goOn_42 (zf_RX5_37 _ rfl) o1 ?_
    refine z_aload_n 0 dX5_goOn_45 rfl ?_
    refine zgf_5_9 dX5_goOn_46 (zf_RX5_27 _ rfl) o1 ?_
    obtain ⟨o3, h⟩ := h
    refine z_cVI [zrv (V a0 9)] (zk_RX5_124 _ rfl) dX5_goOn_49 o3 (by decide) rfl rfl (Nat.le_of_ble_eq_true rfl) (Nat.le_of_ble_eq_true rfl) (Nat.le_of_ble_eq_true rfl) (Nat.le_of_ble_eq_true rfl) (Nat.le_of_ble_eq_true rfl) h (fun x4 V5 h => ?_)
    refine z_if_ne dX5_goOn_52 (tgt := 57) (by decide) (fun c6 => ?_) (fun c6 => ?_)
    · have h := h.1 c6
      refine z_aload_n 0 dX5_goOn_57 rfl ?_
      refine z_aload_n 1 dX5_goOn_58 rfl ?_
      refine z_cVV [zrv a1] (zk_RX5_127 _ rfl) dX5_goOn_59 o1 (by decide) rfl rfl (Nat.le_of_ble_eq_true rfl) (Nat.le_of_ble_eq_true rfl) (Nat.le_of_ble_eq_true rfl) (Nat.le_of_ble_eq_true rfl) (Nat.le_of_ble_eq_true rfl) h (fun V8 h => ?_)
      refine z_aload_n 1 dX5_goOn_62 rfl ?_
      refine z_iconst dX5_goOn_63 ⟨by decide, by decide⟩ ?_
      obtain ⟨o9, h⟩ := h
      refine zpf_6_2 dX5_goOn_64 (zf_RX5_131 _ rfl) o9 (Or.inr rfl) ?_
      refine z_nameV (fun V10 e11 => ?_)
      have h := h V10 e11
      refine z_iconst dX5_goOn_67 ⟨by decide, by decide⟩ ?_
      exact z_retZ dX5_goOn_68 rfl (Or.inr rfl) h
    · have h := h.2 c6
      refine z_iconst dX5_goOn_55 ⟨by decide, by decide⟩ ?_
      exact z_retZ dX5_goOn_56 rfl (Or.inl rfl) h
  · have h := h.2 c2
    refine z_aload_n 0 dX5_goOn_10 rfl ?_
    refine zgf_5_9 dX5_goOn_11 (zf_RX5_27 _ rfl) o1 ?_
    refine z_aload_n 0 dX5_goOn_14 rfl ?_
    refine zgf_5_3 dX5_goOn_15 (zf_RX5_37 _ rfl) o1 ?_
    obtain ⟨o12, h⟩ := h
    refine zgf_1_1 dX5_goOn_18 (zf_RX5_102 _ rfl) o12 ?_
    refine z_iload_n 2 dX5_goOn_21 rfl ?_
    obtain ⟨o13, h⟩ := h
    refine z_iadd dX5_goOn_22 o13 ?_
    refine z_aload_n 1 dX5_goOn_23 rfl ?_
    obtain ⟨o14, h⟩ := h
    refine zgf_6_3 dX5_goOn_24 (zf_RX5_121 _ rfl) o14 ?_
    refine z_aload_n 0 dX5_goOn_27 rfl ?_
    refine zgf_5_7 dX5_goOn_28 (zf_RX5_18 _ rfl) o1 ?_
    refine z_iload_n 2 dX5_goOn_31 rfl ?_
    obtain ⟨o15, h⟩ := h
    obtain ⟨o16, h⟩ := h
    refine z_iald dX5_goOn_32 o15 o16 ?_
    obtain ⟨o17, h⟩ := h
    obtain ⟨o18, h⟩ := h
    refine z_iald dX5_goOn_33 o17 o18 ?_
    obtain ⟨o19, h⟩ := h
    obtain ⟨o20, h⟩ := h
    refine z_iast dX5_goOn_34 o19 o20 ?_
    refine z_nameV (fun V21 e22 => ?_)
    have h := h V21 e22
    obtain ⟨o23, h⟩ := h
    refine z_iinc 2 dX5_goOn_35 rfl (by decide) o23 (L' := [(0, zrv a0), (1, zrv a1), (2, ziv (a2 + 1))]) [1, 2, 0] rfl ?_
    refine z_goto (tgt := 2) dX5_goOn_38 (by decide) ?_
    exact h
set_option maxRecDepth 100000 in
set_option maxHeartbeats 4000000 in
theorem en_X5_goOn {E : zE} {F : Int → zH → Prop} {S : zS} {a0 a1 : Int} {V : zH}
    (h : ∀ X : zX, zl_X5_goOn_2 E X F S a0 a1 0 V) :
    SpI E 4 zm_X5_goOn [zrv a0, zrv a1] S V F := by
  refine Sp.of (plainFor_of_name (by decide +kernel)) (Nat.le_of_ble_eq_true rfl) (fun hok X => ?_)
  have h := h X
  show Zr E X (zRoom 4 0 0) zm_X5_goOn (zQm E X (zpI S F) 0 0) 0 0 0 [(0, zrv a0), (1, zrv a1)] [] S V
  refine z_iconst dX5_goOn_0 ⟨by decide, by decide⟩ ?_
  refine z_istore_n dX5_goOn_1 (by decide) (L' := [(0, zrv a0), (1, zrv a1), (2, ziv 0)]) [1, 2, 0] rfl ?_
  exact h
def zl_X5_tellWhy_10 (E : zE) (X : zX) (F : zS → zH → Prop) (mc ms k n : Nat) (S : zS) (a0 a1 a2 a3 : Int) (V : zH) : Prop := Zr E X (zRoom 5 mc ms) zm_X5_tellWhy (zQm E X (zaV F) mc ms) k n 10 [(0, zrv a0), (1, zrv a1), (2, zrv a2), (3, ziv a3)] [] S V
set_option maxRecDepth 100000 in
set_option maxHeartbeats 4000000 in
theorem wp_X5_tellWhy_10 {E : zE} {X : zX} {F : zS → zH → Prop} {mc ms k n : Nat} {S : zS} {a0 a1 a2 a3 : Int} {V : zH}
    (h : ((S a2).1 = 4) ∧ ((V a2 2 ≤ a3) → ((k ≤ mc ∧ n ≤ ms) ∧ F S V)) ∧ ((a3 < V a2 2) → ((k ≤ mc ∧ n ≤ ms) ∧ SpF E 0 zm_X1_tailOf [zrv a2, ziv a3] S V (fun x4 => ((S (V a2 4)).1 = 1) ∧ ((0 : Int) ≤ a3 ∧ a3 < (S (V a2 4)).2) ∧ ((V (V a2 4) a3 = 0) → ((z32 (a3 + 1)) ∧ zl_X5_tellWhy_10 E X F mc ms k n S a0 a1 a2 (a3 + 1) V)) ∧ ((V (V a2 4) a3 ≠ 0) → (((S a0).1 = 8) ∧ ((S (V a0 0)).1 = 6) ∧ SpF E 0 zm_X3_weighShown [zrv (V a0 0), zrv (V a2 5), ziv x4] S V (fun x13 => ((x13 = 0) → ((z32 (a3 + 1)) ∧ zl_X5_tellWhy_10 E X F mc ms k n S a0 a1 a2 (a3 + 1) V)) ∧ ((x13 ≠ 0) → (SpV E 2 zm_X5_tellByLamps [zrv a0, zrv (V a2 5), ziv x4, zrv a1] S V (fun V18 => F S V18)))))))))) :
    zl_X5_tellWhy_10 E X F mc ms k n S a0 a1 a2 a3 V := by
  unfold zl_X5_tellWhy_10
  refine z_iload_n 3 dX5_tellWhy_10 rfl ?_
  refine z_aload_n 2 dX5_tellWhy_11 rfl ?_
  obtain ⟨o1, h⟩ := h
  refine zgf_1_2 dX5_tellWhy_12 (zf_RX5_105 _ rfl) o1 ?_
  refine z_icmp_ge dX5_tellWhy_15 (tgt := 68) (by decide) (fun c2 => ?_) (fun c2 => ?_)
  · have h := h.1 c2
    obtain ⟨o3, h⟩ := h
    exact z_retaV dX5_tellWhy_68 rfl o3.1 o3.2 h
  · have h := h.2 c2
    refine z_aload_n 2 dX5_tellWhy_18 rfl ?_
    refine z_iload_n 3 dX5_tellWhy_19 rfl ?_
    obtain ⟨o6, h⟩ := h
    refine z_cVF [ziv a3] (zk_RX5_135 _ rfl) dX5_tellWhy_20 o1 (by decide) rfl rfl (Nat.le_of_ble_eq_true rfl) (Nat.le_of_ble_eq_true rfl) (Nat.le_of_ble_eq_true rfl) o6.1 o6.2 h (fun x4 h => ?_)
    refine z_istore dX5_tellWhy_23 (by decide) (L' := [(0, zrv a0), (1, zrv a1), (2, zrv a2), (3, ziv a3), (4, ziv x4)]) [1, 2, 3, 4, 0] rfl ?_
    refine z_aload_n 2 dX5_tellWhy_25 rfl ?_
    refine zgf_1_4 dX5_tellWhy_26 (zf_RX5_139 _ rfl) o1 ?_
    refine z_iload_n 3 dX5_tellWhy_29 rfl ?_
    obtain ⟨o7, h⟩ := h
    obtain ⟨o8, h⟩ := h
    refine z_iald dX5_tellWhy_30 o7 o8 ?_
    refine z_if_eq dX5_tellWhy_31 (tgt := 62) (by decide) (fun c9 => ?_) (fun c9 => ?_)
    · have h := h.1 c9
      obtain ⟨o10, h⟩ := h
      refine z_iinc 3 dX5_tellWhy_62 rfl (by decide) o10 (L' := [(0, zrv a0), (1, zrv a1), (2, zrv a2), (3, ziv (a3 + 1)), (4, ziv x4)]) [1, 2, 3, 0, 4] rfl ?_
      refine z_goto (tgt := 10) dX5_tellWhy_65 (by decide) ?_
      refine z_loc (L' := [(0, zrv a0), (1, zrv a1), (2, zrv a2), (3, ziv (a3 + 1))]) [0, 1, 2, 3] rfl ?_
      exact h
    · have h := h.2 c9
      refine z_aload_n 0 dX5_tellWhy_34 rfl ?_
      obtain ⟨o11, h⟩ := h
      refine zgf_5_0 dX5_tellWhy_35 (zf_RX5_30 _ rfl) o11 ?_
      refine z_aload_n 2 dX5_tellWhy_38 rfl ?_
      refine zgf_1_5 dX5_tellWhy_39 (zf_RX5_142 _ rfl) o1 ?_
      refine z_iload 4 dX5_tellWhy_42 rfl ?_
      obtain ⟨o12, h⟩ := h
      refine z_cVF [zrv (V a2 5), ziv x4] (zk_RX5_145 _ rfl) dX5_tellWhy_44 o12 (by decide) rfl rfl (Nat.le_of_ble_eq_true rfl) (Nat.le_of_ble_eq_true rfl) (Nat.le_of_ble_eq_true rfl) o6.1 o6.2 h (fun x13 h => ?_)
      refine z_if_eq dX5_tellWhy_47 (tgt := 62) (by decide) (fun c15 => ?_) (fun c15 => ?_)
      · have h := h.1 c15
        obtain ⟨o16, h⟩ := h
        refine z_iinc 3 dX5_tellWhy_62 rfl (by decide) o16 (L' := [(0, zrv a0), (1, zrv a1), (2, zrv a2), (3, ziv (a3 + 1)), (4, ziv x4)]) [1, 2, 3, 0, 4] rfl ?_
        refine z_goto (tgt := 10) dX5_tellWhy_65 (by decide) ?_
        refine z_loc (L' := [(0, zrv a0), (1, zrv a1), (2, zrv a2), (3, ziv (a3 + 1))]) [0, 1, 2, 3] rfl ?_
        exact h
      · have h := h.2 c15
        refine z_aload_n 0 dX5_tellWhy_50 rfl ?_
        refine z_aload_n 2 dX5_tellWhy_51 rfl ?_
        refine zgf_1_5 dX5_tellWhy_52 (zf_RX5_142 _ rfl) o1 ?_
        refine z_iload 4 dX5_tellWhy_55 rfl ?_
        refine z_aload_n 1 dX5_tellWhy_57 rfl ?_
        refine z_cVV [zrv (V a2 5), ziv x4, zrv a1] (zk_RX5_149 _ rfl) dX5_tellWhy_58 o11 (by decide) rfl rfl (Nat.le_of_ble_eq_true rfl) (Nat.le_of_ble_eq_true rfl) (Nat.le_of_ble_eq_true rfl) o6.1 o6.2 h (fun V18 h => ?_)
        exact z_retaV dX5_tellWhy_61 rfl o6.1 o6.2 h
set_option maxRecDepth 100000 in
set_option maxHeartbeats 4000000 in
theorem en_X5_tellWhy {E : zE} {F : zS → zH → Prop} {mc ms : Nat} {S : zS} {a0 a1 : Int} {V : zH}
    (h : ∀ X : zX, ((S a0).1 = 8) ∧ ∃ m4 m5 : Nat, (0 + m4 ≤ mc ∧ 0 + m5 ≤ ms) ∧ SaR E 4 m4 m5 zm_X5_freshWeights [zrv a0] S V (fun x2 S7 V3 => ((S7 x2).1 = 4) ∧ ∀ x9 : Int, x9 = V3 x2 1 → zl_X5_tellWhy_10 E X F mc ms (0 + m4) (0 + m5) S7 a0 a1 x2 x9 V3)) :
    SaV E 5 mc ms zm_X5_tellWhy [zrv a0, zrv a1] S V F := by
  refine Sp.of (plainFor_of_name (by decide +kernel)) (Nat.le_of_ble_eq_true rfl) (fun hok X => ?_)
  have h := h X
  show Zr E X (zRoom 5 mc ms) zm_X5_tellWhy (zQm E X (zaV F) mc ms) 0 0 0 [(0, zrv a0), (1, zrv a1)] [] S V
  refine z_aload_n 0 dX5_tellWhy_0 rfl ?_
  obtain ⟨o1, h⟩ := h
  obtain ⟨m4, m5, o6, h⟩ := h
  refine z_aVR [] (zk_RX5_85 _ rfl) dX5_tellWhy_1 o1 (by decide) rfl rfl (Nat.le_of_ble_eq_true rfl) (Nat.le_of_ble_eq_true rfl) (Nat.le_of_ble_eq_true rfl) o6.1 o6.2 h (fun x2 S7 V3 h => ?_)
  refine z_astore_n dX5_tellWhy_4 (by decide) (L' := [(0, zrv a0), (1, zrv a1), (2, zrv x2)]) [1, 2, 0] rfl ?_
  refine z_aload_n 2 dX5_tellWhy_5 rfl ?_
  obtain ⟨o8, h⟩ := h
  refine zgf_1_1 dX5_tellWhy_6 (zf_RX5_102 _ rfl) o8 ?_
  refine z_nameI (fun x9 e10 => ?_)
  have h := h x9 e10
  refine z_istore_n dX5_tellWhy_9 (by decide) (L' := [(0, zrv a0), (1, zrv a1), (2, zrv x2), (3, ziv x9)]) [1, 2, 3, 0] rfl ?_
  exact h
set_option maxRecDepth 100000 in
set_option maxHeartbeats 4000000 in
theorem en_X5_tellByLamps {E : zE} {F : zH → Prop} {S : zS} {a0 a1 a2 a3 : Int} {V : zH}
    (h : z32 a2 → ((S a0).1 = 8) ∧ ((S (V a0 0)).1 = 6) ∧ ((S a3).1 = 9) ∧ SpV E 1 zm_X6_begin [zrv a3, ziv 2, ziv (V (V a0 0) 0)] S V (fun V5 => ((S (V5 a0 0)).1 = 6) ∧ ((S a1).1 = 1) ∧ ((S (V5 a3 3)).1 = 1) ∧ ((0 : Int) ≤ a2 ∧ (0 : Int) ≤ 0 ∧ (0 : Int) ≤ V5 (V5 a0 0) 0 ∧ a2 + (V5 (V5 a0 0) 0) ≤ (S a1).2 ∧ 0 + (V5 (V5 a0 0) 0) ≤ (S (V5 a3 3)).2) ∧ ∀ V10 : zH, V10 = zcpy V5 a1 a2 (V5 a3 3) 0 (V5 (V5 a0 0) 0) → F V10)) :
    SpV E 2 zm_X5_tellByLamps [zrv a0, zrv a1, ziv a2, zrv a3] S V F := by
  refine Sp.of (plainFor_of_name (by decide +kernel)) (Nat.le_of_ble_eq_true rfl) (fun hok X => ?_)
  have h := h (hok _ (List.mem_cons_of_mem _ (List.mem_cons_of_mem _ (List.mem_cons_self))))
  show Zr E X (zRoom 2 0 0) zm_X5_tellByLamps (zQm E X (zpV S F) 0 0) 0 0 0 [(0, zrv a0), (1, zrv a1), (2, ziv a2), (3, zrv a3)] [] S V
  refine z_aload_n 3 dX5_tellByLamps_0 rfl ?_
  refine z_iconst dX5_tellByLamps_1 ⟨by decide, by decide⟩ ?_
  refine z_aload_n 0 dX5_tellByLamps_2 rfl ?_
  obtain ⟨o1, h⟩ := h
  refine zgf_5_0 dX5_tellByLamps_3 (zf_RX5_30 _ rfl) o1 ?_
  obtain ⟨o2, h⟩ := h
  refine zgf_3_0 dX5_tellByLamps_6 (zf_RX5_58 _ rfl) o2 ?_
  obtain ⟨o3, h⟩ := h
  refine z_cVV [ziv 2, ziv (V (V a0 0) 0)] (zk_RX5_118 _ rfl) dX5_tellByLamps_9 o3 (by decide) rfl rfl (Nat.le_of_ble_eq_true rfl) (Nat.le_of_ble_eq_true rfl) (Nat.le_of_ble_eq_true rfl) (Nat.le_of_ble_eq_true rfl) (Nat.le_of_ble_eq_true rfl) h (fun V5 h => ?_)
  refine z_aload_n 1 dX5_tellByLamps_12 rfl ?_
  refine z_iload_n 2 dX5_tellByLamps_13 rfl ?_
  refine z_aload_n 3 dX5_tellByLamps_14 rfl ?_
  refine zgf_6_3 dX5_tellByLamps_15 (zf_RX5_121 _ rfl) o3 ?_
  refine z_iconst dX5_tellByLamps_18 ⟨by decide, by decide⟩ ?_
  refine z_aload_n 0 dX5_tellByLamps_19 rfl ?_
  refine zgf_5_0 dX5_tellByLamps_20 (zf_RX5_30 _ rfl) o1 ?_
  obtain ⟨o6, h⟩ := h
  refine zgf_3_0 dX5_tellByLamps_23 (zf_RX5_58 _ rfl) o6 ?_
  obtain ⟨o7, h⟩ := h
  obtain ⟨o8, h⟩ := h
  obtain ⟨o9, h⟩ := h
  refine z_copy dX5_tellByLamps_26 (zk_RX5_153 _ rfl) zw_copy o7 o8 o9 (Nat.le_of_ble_eq_true rfl) (Nat.le_of_ble_eq_true rfl) (Nat.le_of_ble_eq_true rfl) ?_
  refine z_nameV (fun V10 e11 => ?_)
  have h := h V10 e11
  exact z_retV dX5_tellByLamps_29 rfl h
set_option maxRecDepth 100000 in
set_option maxHeartbeats 4000000 in
theorem en_X5_tellQuiet {E : zE} {F : Int → zH → Prop} {S : zS} {a0 a1 a2 : Int} {V : zH}
    (h : z32 a1 → ((S a0).1 = 8) ∧ ((S (V a0 3)).1 = 4) ∧ SpF E 0 zm_X1_columnOfElement [zrv (V a0 3), ziv a1] S V (fun x3 => ((x3 ≠ (-1)) → (SpF E 0 zm_X1_tailOf [zrv (V a0 3), ziv x3] S V (fun x6 => ((S (V (V a0 3) 5)).1 = 1) ∧ ((S (V a0 9)).1 = 1) ∧ ((0 : Int) ≤ x6 ∧ (0 : Int) ≤ V (V a0 3) 1 ∧ (0 : Int) ≤ V a0 6 ∧ x6 + (V a0 6) ≤ (S (V (V a0 3) 5)).2 ∧ (V (V a0 3) 1) + (V a0 6) ≤ (S (V a0 9)).2) ∧ ∀ V11 : zH, V11 = zcpy V (V (V a0 3) 5) x6 (V a0 9) (V (V a0 3) 1) (V a0 6) → SpV E 3 zm_X5_tellPushing [zrv a0, zrv a2] S V11 (fun V14 => F 1 V14)))) ∧ ((x3 = (-1)) → (F 0 V)))) :
    SpI E 4 zm_X5_tellQuiet [zrv a0, ziv a1, zrv a2] S V F := by
  refine Sp.of (plainFor_of_name (by decide +kernel)) (Nat.le_of_ble_eq_true rfl) (fun hok X => ?_)
  have h := h (hok _ (List.mem_cons_of_mem _ (List.mem_cons_self)))
  show Zr E X (zRoom 4 0 0) zm_X5_tellQuiet (zQm E X (zpI S F) 0 0) 0 0 0 [(0, zrv a0), (1, ziv a1), (2, zrv a2)] [] S V
  refine z_aload_n 0 dX5_tellQuiet_0 rfl ?_
  obtain ⟨o1, h⟩ := h
  refine zgf_5_3 dX5_tellQuiet_1 (zf_RX5_37 _ rfl) o1 ?_
  refine z_iload_n 1 dX5_tellQuiet_4 rfl ?_
  obtain ⟨o2, h⟩ := h
  refine z_cVF [ziv a1] (zk_RX5_159 _ rfl) dX5_tellQuiet_5 o2 (by decide) rfl rfl (Nat.le_of_ble_eq_true rfl) (Nat.le_of_ble_eq_true rfl) (Nat.le_of_ble_eq_true rfl) (Nat.le_of_ble_eq_true rfl) (Nat.le_of_ble_eq_true rfl) h (fun x3 h => ?_)
  refine z_istore_n dX5_tellQuiet_8 (by decide) (L' := [(0, zrv a0), (1, ziv a1), (2, zrv a2), (3, ziv x3)]) [1, 2, 3, 0] rfl ?_
  refine z_iload_n 3 dX5_tellQuiet_9 rfl ?_
  refine z_iconst dX5_tellQuiet_10 ⟨by decide, by decide⟩ ?_
  refine z_icmp_ne dX5_tellQuiet_11 (tgt := 16) (by decide) (fun c5 => ?_) (fun c5 => ?_)
  · have h := h.1 c5
    refine z_aload_n 0 dX5_tellQuiet_16 rfl ?_
    refine zgf_5_3 dX5_tellQuiet_17 (zf_RX5_37 _ rfl) o1 ?_
    refine zgf_1_5 dX5_tellQuiet_20 (zf_RX5_142 _ rfl) o2 ?_
    refine z_aload_n 0 dX5_tellQuiet_23 rfl ?_
    refine zgf_5_3 dX5_tellQuiet_24 (zf_RX5_37 _ rfl) o1 ?_
    refine z_iload_n 3 dX5_tellQuiet_27 rfl ?_
    refine z_cVF [ziv x3] (zk_RX5_135 _ rfl) dX5_tellQuiet_28 o2 (by decide) rfl rfl (Nat.le_of_ble_eq_true rfl) (Nat.le_of_ble_eq_true rfl) (Nat.le_of_ble_eq_true rfl) (Nat.le_of_ble_eq_true rfl) (Nat.le_of_ble_eq_true rfl) h (fun x6 h => ?_)
    refine z_aload_n 0 dX5_tellQuiet_31 rfl ?_
    refine zgf_5_9 dX5_tellQuiet_32 (zf_RX5_27 _ rfl) o1 ?_
    refine z_aload_n 0 dX5_tellQuiet_35 rfl ?_
    refine zgf_5_3 dX5_tellQuiet_36 (zf_RX5_37 _ rfl) o1 ?_
    refine zgf_1_1 dX5_tellQuiet_39 (zf_RX5_102 _ rfl) o2 ?_
    refine z_aload_n 0 dX5_tellQuiet_42 rfl ?_
    refine zgf_5_6 dX5_tellQuiet_43 (zf_RX5_46 _ rfl) o1 ?_
    obtain ⟨o8, h⟩ := h
    obtain ⟨o9, h⟩ := h
    obtain ⟨o10, h⟩ := h
    refine z_copy dX5_tellQuiet_46 (zk_RX5_153 _ rfl) zw_copy o8 o9 o10 (Nat.le_of_ble_eq_true rfl) (Nat.le_of_ble_eq_true rfl) (Nat.le_of_ble_eq_true rfl) ?_
    refine z_nameV (fun V11 e12 => ?_)
    have h := h V11 e12
    refine z_aload_n 0 dX5_tellQuiet_49 rfl ?_
    refine z_aload_n 2 dX5_tellQuiet_50 rfl ?_
    refine z_cVV [zrv a2] (zk_RX5_127 _ rfl) dX5_tellQuiet_51 o1 (by decide) rfl rfl (Nat.le_of_ble_eq_true rfl) (Nat.le_of_ble_eq_true rfl) (Nat.le_of_ble_eq_true rfl) (Nat.le_of_ble_eq_true rfl) (Nat.le_of_ble_eq_true rfl) h (fun V14 h => ?_)
    refine z_iconst dX5_tellQuiet_54 ⟨by decide, by decide⟩ ?_
    exact z_retZ dX5_tellQuiet_55 rfl (Or.inr rfl) h
  · have h := h.2 c5
    refine z_iconst dX5_tellQuiet_14 ⟨by decide, by decide⟩ ?_
    exact z_retZ dX5_tellQuiet_15 rfl (Or.inl rfl) h
set_option maxRecDepth 100000 in
set_option maxHeartbeats 4000000 in
theorem en_X5_tellWeights {E : zE} {F : Int → zS → zH → Prop} {mc ms : Nat} {S : zS} {a0 a1 a2 : Int} {V : zH}
    (h : z32 a1 → ((S a0).1 = 8) ∧ ∃ m4 m5 : Nat, (0 + m4 ≤ mc ∧ 0 + m5 ≤ ms) ∧ SaR E 4 m4 m5 zm_X5_freshWeights [zrv a0] S V (fun x2 S7 V3 => ((S7 x2).1 = 4) ∧ (0 + m4 ≤ mc ∧ 0 + m5 ≤ ms) ∧ SpF E 0 zm_X1_columnOfElement [zrv x2, ziv a1] S7 V3 (fun x9 => ((x9 ≠ (-1)) → (SpF E 0 zm_X1_tailOf [zrv x2, ziv x9] S7 V3 (fun x13 => ((S7 a0).1 = 8) ∧ SpV E 2 zm_X5_tellByLamps [zrv a0, zrv (V3 x2 5), ziv x13, zrv a2] S7 V3 (fun V17 => F 1 S7 V17)))) ∧ ((x9 = (-1)) → (F 0 S7 V3))))) :
    SaI E 5 mc ms zm_X5_tellWeights [zrv a0, ziv a1, zrv a2] S V F := by
  refine Sp.of (plainFor_of_name (by decide +kernel)) (Nat.le_of_ble_eq_true rfl) (fun hok X => ?_)
  have h := h (hok _ (List.mem_cons_of_mem _ (List.mem_cons_self)))
  show Zr E X (zRoom 5 mc ms) zm_X5_tellWeights (zQm E X (zaI F) mc ms) 0 0 0 [(0, zrv a0), (1, ziv a1), (2, zrv a2)] [] S V
  refine z_aload_n 0 dX5_tellWeights_0 rfl ?_
  obtain ⟨o1, h⟩ := h
  obtain ⟨m4, m5, o6, h⟩ := h
  refine z_aVR [] (zk_RX5_85 _ rfl) dX5_tellWeights_1 o1 (by decide) rfl rfl (Nat.le_of_ble_eq_true rfl) (Nat.le_of_ble_eq_true rfl) (Nat.le_of_ble_eq_true rfl) o6.1 o6.2 h (fun x2 S7 V3 h => ?_)
  refine z_astore_n dX5_tellWeights_4 (by decide) (L' := [(0, zrv a0), (1, ziv a1), (2, zrv a2), (3, zrv x2)]) [1, 2, 3, 0] rfl ?_
  refine z_aload_n 3 dX5_tellWeights_5 rfl ?_
  refine z_iload_n 1 dX5_tellWeights_6 rfl ?_
  obtain ⟨o8, h⟩ := h
  obtain ⟨o11, h⟩ := h
  refine z_cVF [ziv a1] (zk_RX5_159 _ rfl) dX5_tellWeights_7 o8 (by decide) rfl rfl (Nat.le_of_ble_eq_true rfl) (Nat.le_of_ble_eq_true rfl) (Nat.le_of_ble_eq_true rfl) o11.1 o11.2 h (fun x9 h => ?_)
  refine z_istore dX5_tellWeights_10 (by decide) (L' := [(0, zrv a0), (1, ziv a1), (2, zrv a2), (3, zrv x2), (4, ziv x9)]) [1, 2, 3, 4, 0] rfl ?_
  refine z_iload 4 dX5_tellWeights_12 rfl ?_
  refine z_iconst dX5_tellWeights_14 ⟨by decide, by decide⟩ ?_
  refine z_icmp_ne dX5_tellWeights_15 (tgt := 20) (by decide) (fun c12 => ?_) (fun c12 => ?_)
  · have h := h.1 c12
    refine z_aload_n 0 dX5_tellWeights_20 rfl ?_
    refine z_aload_n 3 dX5_tellWeights_21 rfl ?_
    refine zgf_1_5 dX5_tellWeights_22 (zf_RX5_142 _ rfl) o8 ?_
    refine z_aload_n 3 dX5_tellWeights_25 rfl ?_
    refine z_iload 4 dX5_tellWeights_26 rfl ?_
    refine z_cVF [ziv x9] (zk_RX5_135 _ rfl) dX5_tellWeights_28 o8 (by decide) rfl rfl (Nat.le_of_ble_eq_true rfl) (Nat.le_of_ble_eq_true rfl) (Nat.le_of_ble_eq_true rfl) o11.1 o11.2 h (fun x13 h => ?_)
    refine z_aload_n 2 dX5_tellWeights_31 rfl ?_
    obtain ⟨o15, h⟩ := h
    refine z_cVV [zrv (V3 x2 5), ziv x13, zrv a2] (zk_RX5_149 _ rfl) dX5_tellWeights_32 o15 (by decide) rfl rfl (Nat.le_of_ble_eq_true rfl) (Nat.le_of_ble_eq_true rfl) (Nat.le_of_ble_eq_true rfl) o11.1 o11.2 h (fun V17 h => ?_)
    refine z_iconst dX5_tellWeights_35 ⟨by decide, by decide⟩ ?_
    exact z_retaZ dX5_tellWeights_36 rfl o11.1 o11.2 (Or.inr rfl) h
  · have h := h.2 c12
    refine z_iconst dX5_tellWeights_18 ⟨by decide, by decide⟩ ?_
    exact z_retaZ dX5_tellWeights_19 rfl o11.1 o11.2 (Or.inl rfl) h
set_option maxRecDepth 100000 in
set_option maxHeartbeats 4000000 in
theorem en_X5_primesOfAll {E : zE} {F : Int → Prop} {S : zS} {a0 a1 : Int} {V : zH}
    (h : z32 a1 → ((S a0).1 = 8) ∧ ((S (V a0 0)).1 = 6) ∧ SpF E 0 zm_X5_howOften [ziv a1, ziv (V (V a0 0) 1)] S V (fun x3 => (z32 ((V a0 6) * x3)) ∧ F ((V a0 6) * x3))) :
    SpF E 1 zm_X5_primesOfAll [zrv a0, ziv a1] S V F := by
  refine Sp.of (plainFor_of_name (by decide +kernel)) (Nat.le_of_ble_eq_true rfl) (fun hok X => ?_)
  have h := h (hok _ (List.mem_cons_of_mem _ (List.mem_cons_self)))
  show Zr E X (zRoom 1 0 0) zm_X5_primesOfAll (zQm E X (zpF S V F) 0 0) 0 0 0 [(0, zrv a0), (1, ziv a1)] [] S V
  refine z_aload_n 0 dX5_primesOfAll_0 rfl ?_
  obtain ⟨o1, h⟩ := h
  refine zgf_5_6 dX5_primesOfAll_1 (zf_RX5_46 _ rfl) o1 ?_
  refine z_iload_n 1 dX5_primesOfAll_4 rfl ?_
  refine z_aload_n 0 dX5_primesOfAll_5 rfl ?_
  refine zgf_5_0 dX5_primesOfAll_6 (zf_RX5_30 _ rfl) o1 ?_
  obtain ⟨o2, h⟩ := h
  refine zgf_3_1 dX5_primesOfAll_9 (zf_RX5_55 _ rfl) o2 ?_
  refine z_cSF [ziv a1, ziv (V (V a0 0) 1)] (zk_RX5_162 _ rfl) dX5_primesOfAll_12 rfl rfl (Nat.le_of_ble_eq_true rfl) (Nat.le_of_ble_eq_true rfl) (Nat.le_of_ble_eq_true rfl) (Nat.le_of_ble_eq_true rfl) (Nat.le_of_ble_eq_true rfl) h (fun x3 h => ?_)
  obtain ⟨o5, h⟩ := h
  refine z_imul dX5_primesOfAll_15 o5 ?_
  exact z_retFI dX5_primesOfAll_16 rfl h
def zl_X5_primesOfQuiet_10 (E : zE) (X : zX) (F : Int → Prop) (S : zS) (a0 a1 a2 a3 : Int) (V : zH) : Prop := Zr E X (zRoom 1 0 0) zm_X5_primesOfQuiet (zQm E X (zpF S V F) 0 0) 0 0 10 [(0, zrv a0), (1, ziv a1), (2, ziv a2), (3, ziv a3)] [] S V
set_option maxRecDepth 100000 in
set_option maxHeartbeats 4000000 in
theorem wp_X5_primesOfQuiet_10 {E : zE} {X : zX} {F : Int → Prop} {S : zS} {a0 a1 a2 a3 : Int} {V : zH}
    (h : ((S a0).1 = 8) ∧ ((S (V a0 3)).1 = 4) ∧ ((V (V a0 3) 2 ≤ a3) → (F a2)) ∧ ((a3 < V (V a0 3) 2) → (SpF E 0 zm_X1_orderAt [zrv (V a0 3), ziv a3] S V (fun x4 => SpF E 0 zm_X5_howOften [ziv a1, ziv x4] S V (fun x6 => (z32 (a2 + x6)) ∧ ∀ x9 : Int, x9 = a2 + x6 → (z32 (a3 + 1)) ∧ zl_X5_primesOfQuiet_10 E X F S a0 a1 x9 (a3 + 1) V))))) :
    zl_X5_primesOfQuiet_10 E X F S a0 a1 a2 a3 V := by
  unfold zl_X5_primesOfQuiet_10
  refine z_iload_n 3 dX5_primesOfQuiet_10 rfl ?_
  refine z_aload_n 0 dX5_primesOfQuiet_11 rfl ?_
  obtain ⟨o1, h⟩ := h
  refine zgf_5_3 dX5_primesOfQuiet_12 (zf_RX5_37 _ rfl) o1 ?_
  obtain ⟨o2, h⟩ := h
  refine zgf_1_2 dX5_primesOfQuiet_15 (zf_RX5_105 _ rfl) o2 ?_
  refine z_icmp_ge dX5_primesOfQuiet_18 (tgt := 42) (by decide) (fun c3 => ?_) (fun c3 => ?_)
  · have h := h.1 c3
    refine z_iload_n 2 dX5_primesOfQuiet_42 rfl ?_
    exact z_retFI dX5_primesOfQuiet_43 rfl h
  · have h := h.2 c3
    refine z_iload_n 2 dX5_primesOfQuiet_21 rfl ?_
    refine z_iload_n 1 dX5_primesOfQuiet_22 rfl ?_
    refine z_aload_n 0 dX5_primesOfQuiet_23 rfl ?_
    refine zgf_5_3 dX5_primesOfQuiet_24 (zf_RX5_37 _ rfl) o1 ?_
    refine z_iload_n 3 dX5_primesOfQuiet_27 rfl ?_
    refine z_cVF [ziv a3] (zk_RX5_165 _ rfl) dX5_primesOfQuiet_28 o2 (by decide) rfl rfl (Nat.le_of_ble_eq_true rfl) (Nat.le_of_ble_eq_true rfl) (Nat.le_of_ble_eq_true rfl) (Nat.le_of_ble_eq_true rfl) (Nat.le_of_ble_eq_true rfl) h (fun x4 h => ?_)
    refine z_cSF [ziv a1, ziv x4] (zk_RX5_162 _ rfl) dX5_primesOfQuiet_31 rfl rfl (Nat.le_of_ble_eq_true rfl) (Nat.le_of_ble_eq_true rfl) (Nat.le_of_ble_eq_true rfl) (Nat.le_of_ble_eq_true rfl) (Nat.le_of_ble_eq_true rfl) h (fun x6 h => ?_)
    obtain ⟨o8, h⟩ := h
    refine z_iadd dX5_primesOfQuiet_34 o8 ?_
    refine z_nameI (fun x9 e10 => ?_)
    have h := h x9 e10
    refine z_istore_n dX5_primesOfQuiet_35 (by decide) (L' := [(0, zrv a0), (1, ziv a1), (2, ziv x9), (3, ziv a3)]) [1, 2, 0, 3] rfl ?_
    obtain ⟨o11, h⟩ := h
    refine z_iinc 3 dX5_primesOfQuiet_36 rfl (by decide) o11 (L' := [(0, zrv a0), (1, ziv a1), (2, ziv x9), (3, ziv (a3 + 1))]) [1, 2, 3, 0] rfl ?_
    refine z_goto (tgt := 10) dX5_primesOfQuiet_39 (by decide) ?_
    exact h
set_option maxRecDepth 100000 in
set_option maxHeartbeats 4000000 in
theorem en_X5_primesOfQuiet {E : zE} {F : Int → Prop} {S : zS} {a0 a1 : Int} {V : zH}
    (h : z32 a1 → ∀ X : zX, ((S a0).1 = 8) ∧ ((S (V a0 3)).1 = 4) ∧ ∀ x3 : Int, x3 = V (V a0 3) 1 → zl_X5_primesOfQuiet_10 E X F S a0 a1 0 x3 V) :
    SpF E 1 zm_X5_primesOfQuiet [zrv a0, ziv a1] S V F := by
  refine Sp.of (plainFor_of_name (by decide +kernel)) (Nat.le_of_ble_eq_true rfl) (fun hok X => ?_)
  have h := h (hok _ (List.mem_cons_of_mem _ (List.mem_cons_self))) X
  show Zr E X (zRoom 1 0 0) zm_X5_primesOfQuiet (zQm E X (zpF S V F) 0 0) 0 0 0 [(0, zrv a0), (1, ziv a1)] [] S V
  refine z_iconst dX5_primesOfQuiet_0 ⟨by decide, by decide⟩ ?_
  refine z_istore_n dX5_primesOfQuiet_1 (by decide) (L' := [(0, zrv a0), (1, ziv a1), (2, ziv 0)]) [1, 2, 0] rfl ?_
  refine z_aload_n 0 dX5_primesOfQuiet_2 rfl ?_
  obtain ⟨o1, h⟩ := h
  refine zgf_5_3 dX5_primesOfQuiet_3 (zf_RX5_37 _ rfl) o1 ?_
  obtain ⟨o2, h⟩ := h
  refine zgf_1_1 dX5_primesOfQuiet_6 (zf_RX5_102 _ rfl) o2 ?_
  refine z_nameI (fun x3 e4 => ?_)
  have h := h x3 e4
  refine z_istore_n dX5_primesOfQuiet_9 (by decide) (L' := [(0, zrv a0), (1, ziv a1), (2, ziv 0), (3, ziv x3)]) [1, 2, 3, 0] rfl ?_
  exact h
set_option maxRecDepth 100000 in
set_option maxHeartbeats 4000000 in
theorem en_X5_primesOfPatterns {E : zE} {F : Int → Prop} {S : zS} {a0 a1 : Int} {V : zH}
    (h : z32 a1 → ((S a0).1 = 8) ∧ SpF E 1 zm_X5_primesOfAll [zrv a0, ziv a1] S V (fun x2 => SpF E 1 zm_X5_primesOfQuiet [zrv a0, ziv a1] S V (fun x4 => (z32 (x2 - x4)) ∧ F (x2 - x4)))) :
    SpF E 2 zm_X5_primesOfPatterns [zrv a0, ziv a1] S V F := by
  refine Sp.of (plainFor_of_name (by decide +kernel)) (Nat.le_of_ble_eq_true rfl) (fun hok X => ?_)
  have h := h (hok _ (List.mem_cons_of_mem _ (List.mem_cons_self)))
  show Zr E X (zRoom 2 0 0) zm_X5_primesOfPatterns (zQm E X (zpF S V F) 0 0) 0 0 0 [(0, zrv a0), (1, ziv a1)] [] S V
  refine z_aload_n 0 dX5_primesOfPatterns_0 rfl ?_
  refine z_iload_n 1 dX5_primesOfPatterns_1 rfl ?_
  obtain ⟨o1, h⟩ := h
  refine z_cVF [ziv a1] (zk_RX5_168 _ rfl) dX5_primesOfPatterns_2 o1 (by decide) rfl rfl (Nat.le_of_ble_eq_true rfl) (Nat.le_of_ble_eq_true rfl) (Nat.le_of_ble_eq_true rfl) (Nat.le_of_ble_eq_true rfl) (Nat.le_of_ble_eq_true rfl) h (fun x2 h => ?_)
  refine z_aload_n 0 dX5_primesOfPatterns_5 rfl ?_
  refine z_iload_n 1 dX5_primesOfPatterns_6 rfl ?_
  refine z_cVF [ziv a1] (zk_RX5_171 _ rfl) dX5_primesOfPatterns_7 o1 (by decide) rfl rfl (Nat.le_of_ble_eq_true rfl) (Nat.le_of_ble_eq_true rfl) (Nat.le_of_ble_eq_true rfl) (Nat.le_of_ble_eq_true rfl) (Nat.le_of_ble_eq_true rfl) h (fun x4 h => ?_)
  obtain ⟨o6, h⟩ := h
  refine z_isub dX5_primesOfPatterns_10 o6 ?_
  exact z_retFI dX5_primesOfPatterns_11 rfl h
set_option maxRecDepth 100000 in
set_option maxHeartbeats 4000000 in
theorem en_X5_primesOfWeights {E : zE} {F : Int → Prop} {S : zS} {a0 a1 : Int} {V : zH}
    (h : z32 a1 → ((S a0).1 = 8) ∧ ((S (V a0 0)).1 = 6) ∧ SpF E 0 zm_X5_howOften [ziv a1, ziv (V (V a0 0) 1)] S V (fun x3 => (z32 ((V (V a0 0) 0) * x3)) ∧ SpF E 2 zm_X5_primesOfPatterns [zrv a0, ziv a1] S V (fun x6 => (z32 (((V (V a0 0) 0) * x3) - x6)) ∧ F (((V (V a0 0) 0) * x3) - x6)))) :
    SpF E 3 zm_X5_primesOfWeights [zrv a0, ziv a1] S V F := by
  refine Sp.of (plainFor_of_name (by decide +kernel)) (Nat.le_of_ble_eq_true rfl) (fun hok X => ?_)
  have h := h (hok _ (List.mem_cons_of_mem _ (List.mem_cons_self)))
  show Zr E X (zRoom 3 0 0) zm_X5_primesOfWeights (zQm E X (zpF S V F) 0 0) 0 0 0 [(0, zrv a0), (1, ziv a1)] [] S V
  refine z_aload_n 0 dX5_primesOfWeights_0 rfl ?_
  obtain ⟨o1, h⟩ := h
  refine zgf_5_0 dX5_primesOfWeights_1 (zf_RX5_30 _ rfl) o1 ?_
  obtain ⟨o2, h⟩ := h
  refine zgf_3_0 dX5_primesOfWeights_4 (zf_RX5_58 _ rfl) o2 ?_
  refine z_iload_n 1 dX5_primesOfWeights_7 rfl ?_
  refine z_aload_n 0 dX5_primesOfWeights_8 rfl ?_
  refine zgf_5_0 dX5_primesOfWeights_9 (zf_RX5_30 _ rfl) o1 ?_
  refine zgf_3_1 dX5_primesOfWeights_12 (zf_RX5_55 _ rfl) o2 ?_
  refine z_cSF [ziv a1, ziv (V (V a0 0) 1)] (zk_RX5_162 _ rfl) dX5_primesOfWeights_15 rfl rfl (Nat.le_of_ble_eq_true rfl) (Nat.le_of_ble_eq_true rfl) (Nat.le_of_ble_eq_true rfl) (Nat.le_of_ble_eq_true rfl) (Nat.le_of_ble_eq_true rfl) h (fun x3 h => ?_)
  obtain ⟨o5, h⟩ := h
  refine z_imul dX5_primesOfWeights_18 o5 ?_
  refine z_aload_n 0 dX5_primesOfWeights_19 rfl ?_
  refine z_iload_n 1 dX5_primesOfWeights_20 rfl ?_
  refine z_cVF [ziv a1] (zk_RX5_174 _ rfl) dX5_primesOfWeights_21 o1 (by decide) rfl rfl (Nat.le_of_ble_eq_true rfl) (Nat.le_of_ble_eq_true rfl) (Nat.le_of_ble_eq_true rfl) (Nat.le_of_ble_eq_true rfl) (Nat.le_of_ble_eq_true rfl) h (fun x6 h => ?_)
  obtain ⟨o8, h⟩ := h
  refine z_isub dX5_primesOfWeights_24 o8 ?_
  exact z_retFI dX5_primesOfWeights_25 rfl h
def zl_X5_howOften_4 (E : zE) (X : zX) (F : Int → Prop) (S : zS) (a0 a2 a3 : Int) (V : zH) : Prop := Zr E X (zRoom 0 0 0) zm_X5_howOften (zQm E X (zpF S V F) 0 0) 0 0 4 [(0, ziv a0), (2, ziv a2), (3, ziv a3)] [] S V
set_option maxRecDepth 100000 in
set_option maxHeartbeats 4000000 in
theorem wp_X5_howOften_4 {E : zE} {X : zX} {F : Int → Prop} {S : zS} {a0 a2 a3 : Int} {V : zH}
    (h : ((3 ≤ a3) → (F a3)) ∧ ((a3 < 3) → (((0 : Int) ≤ a2) ∧ ((0 : Int) < a0) ∧ ((a2 % a0 ≠ 0) → (F a3)) ∧ ((a2 % a0 = 0) → (∀ x5 : Int, x5 = a2 / a0 → (z32 (a3 + 1)) ∧ zl_X5_howOften_4 E X F S a0 x5 (a3 + 1) V))))) :
    zl_X5_howOften_4 E X F S a0 a2 a3 V := by
  unfold zl_X5_howOften_4
  refine z_iload_n 2 dX5_howOften_4 rfl ?_
  refine z_iconst dX5_howOften_5 ⟨by decide, by decide⟩ ?_
  refine z_icmp_ge dX5_howOften_6 (tgt := 25) (by decide) (fun c1 => ?_) (fun c1 => ?_)
  · have h := h.1 c1
    refine z_iload_n 2 dX5_howOften_25 rfl ?_
    exact z_retFI dX5_howOften_26 rfl h
  · have h := h.2 c1
    refine z_iload_n 1 dX5_howOften_9 rfl ?_
    refine z_iload_n 0 dX5_howOften_10 rfl ?_
    obtain ⟨o2, h⟩ := h
    obtain ⟨o3, h⟩ := h
    refine z_irem dX5_howOften_11 o2 o3 ?_
    refine z_if_ne dX5_howOften_12 (tgt := 25) (by decide) (fun c4 => ?_) (fun c4 => ?_)
    · have h := h.1 c4
      refine z_iload_n 2 dX5_howOften_25 rfl ?_
      exact z_retFI dX5_howOften_26 rfl h
    · have h := h.2 c4
      refine z_iload_n 1 dX5_howOften_15 rfl ?_
      refine z_iload_n 0 dX5_howOften_16 rfl ?_
      refine z_idiv dX5_howOften_17 o2 o3 ?_
      refine z_nameI (fun x5 e6 => ?_)
      have h := h x5 e6
      refine z_istore_n dX5_howOften_18 (by decide) (L' := [(0, ziv a0), (2, ziv x5), (3, ziv a3)]) [1, 0, 2] rfl ?_
      obtain ⟨o7, h⟩ := h
      refine z_iinc 2 dX5_howOften_19 rfl (by decide) o7 (L' := [(0, ziv a0), (2, ziv x5), (3, ziv (a3 + 1))]) [1, 2, 0] rfl ?_
      refine z_goto (tgt := 4) dX5_howOften_22 (by decide) ?_
      exact h
set_option maxRecDepth 100000 in
set_option maxHeartbeats 4000000 in
theorem en_X5_howOften {E : zE} {F : Int → Prop} {S : zS} {a0 a1 : Int} {V : zH}
    (h : z32 a0 → z32 a1 → ∀ X : zX, zl_X5_howOften_4 E X F S a0 a1 0 V) :
    SpF E 0 zm_X5_howOften [ziv a0, ziv a1] S V F := by
  refine Sp.of (plainFor_of_name (by decide +kernel)) (Nat.le_of_ble_eq_true rfl) (fun hok X => ?_)
  have h := h (hok _ (List.mem_cons_self)) (hok _ (List.mem_cons_of_mem _ (List.mem_cons_self))) X
  show Zr E X (zRoom 0 0 0) zm_X5_howOften (zQm E X (zpF S V F) 0 0) 0 0 0 [(0, ziv a0), (1, ziv a1)] [] S V
  refine z_iload_n 1 dX5_howOften_0 rfl ?_
  refine z_istore_n dX5_howOften_1 (by decide) (L' := [(0, ziv a0), (1, ziv a1), (2, ziv a1)]) [1, 2, 0] rfl ?_
  refine z_iconst dX5_howOften_2 ⟨by decide, by decide⟩ ?_
  refine z_istore_n dX5_howOften_3 (by decide) (L' := [(0, ziv a0), (1, ziv a1), (2, ziv a1), (3, ziv 0)]) [1, 2, 3, 0] rfl ?_
  refine z_loc (L' := [(0, ziv a0), (2, ziv a1), (3, ziv 0)]) [0, 2, 3] rfl ?_
  exact h
def zl_X5_hasManyQuiet_10 (E : zE) (X : zX) (F : Int → Prop) (S : zS) (a0 a1 a2 : Int) (V : zH) : Prop := Zr E X (zRoom 1 0 0) zm_X5_hasManyQuiet (zQm E X (zpF S V F) 0 0) 0 0 10 [(0, zrv a0), (1, ziv a1), (2, ziv a2)] [] S V
set_option maxRecDepth 100000 in
set_option maxHeartbeats 4000000 in
theorem wp_X5_hasManyQuiet_10 {E : zE} {X : zX} {F : Int → Prop} {S : zS} {a0 a1 a2 : Int} {V : zH}
    (h : ((S a0).1 = 8) ∧ ((S (V a0 3)).1 = 4) ∧ ((V (V a0 3) 2 ≤ a2) → (((a1 ≤ 65536) → (F 0)) ∧ ((65536 < a1) → (F 1)))) ∧ ((a2 < V (V a0 3) 2) → (((65536 < a1) → (((a1 ≤ 65536) → (F 0)) ∧ ((65536 < a1) → (F 1)))) ∧ ((a1 ≤ 65536) → (SpF E 0 zm_X1_orderAt [zrv (V a0 3), ziv a2] S V (fun x7 => (z32 (a1 * x7)) ∧ ∀ x10 : Int, x10 = a1 * x7 → (z32 (a2 + 1)) ∧ zl_X5_hasManyQuiet_10 E X F S a0 x10 (a2 + 1) V)))))) :
    zl_X5_hasManyQuiet_10 E X F S a0 a1 a2 V := by
  unfold zl_X5_hasManyQuiet_10
  refine z_iload_n 2 dX5_hasManyQuiet_10 rfl ?_
  refine z_aload_n 0 dX5_hasManyQuiet_11 rfl ?_
  obtain ⟨o1, h⟩ := h
  refine zgf_5_3 dX5_hasManyQuiet_12 (zf_RX5_37 _ rfl) o1 ?_
  obtain ⟨o2, h⟩ := h
  refine zgf_1_2 dX5_hasManyQuiet_15 (zf_RX5_105 _ rfl) o2 ?_
  refine z_icmp_ge dX5_hasManyQuiet_18 (tgt := 44) (by decide) (fun c3 => ?_) (fun c3 => ?_)
  · have h := h.1 c3
    refine z_iload_n 1 dX5_hasManyQuiet_44 rfl ?_
    refine z_ldc (c := 65536) (zd_RX5_177 _ rfl) (by decide) ⟨by decide, by decide⟩ dX5_hasManyQuiet_45 ?_
    refine z_icmp_le dX5_hasManyQuiet_47 (tgt := 54) (by decide) (fun c4 => ?_) (fun c4 => ?_)
    · have h := h.1 c4
      refine z_iconst dX5_hasManyQuiet_54 ⟨by decide, by decide⟩ ?_
      exact z_retFZ dX5_hasManyQuiet_55 rfl (Or.inl rfl) h
    · have h := h.2 c4
      refine z_iconst dX5_hasManyQuiet_50 ⟨by decide, by decide⟩ ?_
      refine z_goto (tgt := 55) dX5_hasManyQuiet_51 (by decide) ?_
      exact z_retFZ dX5_hasManyQuiet_55 rfl (Or.inr rfl) h
  · have h := h.2 c3
    refine z_iload_n 1 dX5_hasManyQuiet_21 rfl ?_
    refine z_ldc (c := 65536) (zd_RX5_177 _ rfl) (by decide) ⟨by decide, by decide⟩ dX5_hasManyQuiet_22 ?_
    refine z_icmp_gt dX5_hasManyQuiet_24 (tgt := 44) (by decide) (fun c5 => ?_) (fun c5 => ?_)
    · have h := h.1 c5
      refine z_iload_n 1 dX5_hasManyQuiet_44 rfl ?_
      refine z_ldc (c := 65536) (zd_RX5_177 _ rfl) (by decide) ⟨by decide, by decide⟩ dX5_hasManyQuiet_45 ?_
      refine z_icmp_le dX5_hasManyQuiet_47 (tgt := 54) (by decide) (fun c6 => ?_) (fun c6 => ?_)
      · have h := h.1 c6
        refine z_iconst dX5_hasManyQuiet_54 ⟨by decide, by decide⟩ ?_
        exact z_retFZ dX5_hasManyQuiet_55 rfl (Or.inl rfl) h
      · have h := h.2 c6
        refine z_iconst dX5_hasManyQuiet_50 ⟨by decide, by decide⟩ ?_
        refine z_goto (tgt := 55) dX5_hasManyQuiet_51 (by decide) ?_
        exact z_retFZ dX5_hasManyQuiet_55 rfl (Or.inr rfl) h
    · have h := h.2 c5
      refine z_iload_n 1 dX5_hasManyQuiet_27 rfl ?_
      refine z_aload_n 0 dX5_hasManyQuiet_28 rfl ?_
      refine zgf_5_3 dX5_hasManyQuiet_29 (zf_RX5_37 _ rfl) o1 ?_
      refine z_iload_n 2 dX5_hasManyQuiet_32 rfl ?_
      refine z_cVF [ziv a2] (zk_RX5_165 _ rfl) dX5_hasManyQuiet_33 o2 (by decide) rfl rfl (Nat.le_of_ble_eq_true rfl) (Nat.le_of_ble_eq_true rfl) (Nat.le_of_ble_eq_true rfl) (Nat.le_of_ble_eq_true rfl) (Nat.le_of_ble_eq_true rfl) h (fun x7 h => ?_)
      obtain ⟨o9, h⟩ := h
      refine z_imul dX5_hasManyQuiet_36 o9 ?_
      refine z_nameI (fun x10 e11 => ?_)
      have h := h x10 e11
      refine z_istore_n dX5_hasManyQuiet_37 (by decide) (L' := [(0, zrv a0), (1, ziv x10), (2, ziv a2)]) [1, 0, 2] rfl ?_
      obtain ⟨o12, h⟩ := h
      refine z_iinc 2 dX5_hasManyQuiet_38 rfl (by decide) o12 (L' := [(0, zrv a0), (1, ziv x10), (2, ziv (a2 + 1))]) [1, 2, 0] rfl ?_
      refine z_goto (tgt := 10) dX5_hasManyQuiet_41 (by decide) ?_
      exact h
set_option maxRecDepth 100000 in
set_option maxHeartbeats 4000000 in
theorem en_X5_hasManyQuiet {E : zE} {F : Int → Prop} {S : zS} {a0 : Int} {V : zH}
    (h : ∀ X : zX, ((S a0).1 = 8) ∧ ((S (V a0 3)).1 = 4) ∧ ∀ x3 : Int, x3 = V (V a0 3) 1 → zl_X5_hasManyQuiet_10 E X F S a0 1 x3 V) :
    SpF E 1 zm_X5_hasManyQuiet [zrv a0] S V F := by
  refine Sp.of (plainFor_of_name (by decide +kernel)) (Nat.le_of_ble_eq_true rfl) (fun hok X => ?_)
  have h := h X
  show Zr E X (zRoom 1 0 0) zm_X5_hasManyQuiet (zQm E X (zpF S V F) 0 0) 0 0 0 [(0, zrv a0)] [] S V
  refine z_iconst dX5_hasManyQuiet_0 ⟨by decide, by decide⟩ ?_
  refine z_istore_n dX5_hasManyQuiet_1 (by decide) (L' := [(0, zrv a0), (1, ziv 1)]) [1, 0] rfl ?_
  refine z_aload_n 0 dX5_hasManyQuiet_2 rfl ?_
  obtain ⟨o1, h⟩ := h
  refine zgf_5_3 dX5_hasManyQuiet_3 (zf_RX5_37 _ rfl) o1 ?_
  obtain ⟨o2, h⟩ := h
  refine zgf_1_1 dX5_hasManyQuiet_6 (zf_RX5_102 _ rfl) o2 ?_
  refine z_nameI (fun x3 e4 => ?_)
  have h := h x3 e4
  refine z_istore_n dX5_hasManyQuiet_9 (by decide) (L' := [(0, zrv a0), (1, ziv 1), (2, ziv x3)]) [1, 2, 0] rfl ?_
  exact h
def zl_X5_hasManyPushings_4 (E : zE) (X : zX) (F : Int → Prop) (S : zS) (a0 a1 a2 : Int) (V : zH) : Prop := Zr E X (zRoom 0 0 0) zm_X5_hasManyPushings (zQm E X (zpF S V F) 0 0) 0 0 4 [(0, zrv a0), (1, ziv a1), (2, ziv a2)] [] S V
set_option maxRecDepth 100000 in
set_option maxHeartbeats 4000000 in
theorem wp_X5_hasManyPushings_4 {E : zE} {X : zX} {F : Int → Prop} {S : zS} {a0 a1 a2 : Int} {V : zH}
    (h : ((S a0).1 = 8) ∧ ((V a0 6 ≤ a2) → (((a1 ≤ 65536) → (F 0)) ∧ ((65536 < a1) → (F 1)))) ∧ ((a2 < V a0 6) → (((65536 < a1) → (((a1 ≤ 65536) → (F 0)) ∧ ((65536 < a1) → (F 1)))) ∧ ((a1 ≤ 65536) → (((S (V a0 0)).1 = 6) ∧ (z32 (a1 * (V (V a0 0) 1))) ∧ ∀ x8 : Int, x8 = a1 * (V (V a0 0) 1) → (z32 (a2 + 1)) ∧ zl_X5_hasManyPushings_4 E X F S a0 x8 (a2 + 1) V))))) :
    zl_X5_hasManyPushings_4 E X F S a0 a1 a2 V := by
  unfold zl_X5_hasManyPushings_4
  refine z_iload_n 2 dX5_hasManyPushings_4 rfl ?_
  refine z_aload_n 0 dX5_hasManyPushings_5 rfl ?_
  obtain ⟨o1, h⟩ := h
  refine zgf_5_6 dX5_hasManyPushings_6 (zf_RX5_46 _ rfl) o1 ?_
  refine z_icmp_ge dX5_hasManyPushings_9 (tgt := 34) (by decide) (fun c2 => ?_) (fun c2 => ?_)
  · have h := h.1 c2
    refine z_iload_n 1 dX5_hasManyPushings_34 rfl ?_
    refine z_ldc (c := 65536) (zd_RX5_177 _ rfl) (by decide) ⟨by decide, by decide⟩ dX5_hasManyPushings_35 ?_
    refine z_icmp_le dX5_hasManyPushings_37 (tgt := 44) (by decide) (fun c3 => ?_) (fun c3 => ?_)
    · have h := h.1 c3
      refine z_iconst dX5_hasManyPushings_44 ⟨by decide, by decide⟩ ?_
      exact z_retFZ dX5_hasManyPushings_45 rfl (Or.inl rfl) h
    · have h := h.2 c3
      refine z_iconst dX5_hasManyPushings_40 ⟨by decide, by decide⟩ ?_
      refine z_goto (tgt := 45) dX5_hasManyPushings_41 (by decide) ?_
      exact z_retFZ dX5_hasManyPushings_45 rfl (Or.inr rfl) h
  · have h := h.2 c2
    refine z_iload_n 1 dX5_hasManyPushings_12 rfl ?_
    refine z_ldc (c := 65536) (zd_RX5_177 _ rfl) (by decide) ⟨by decide, by decide⟩ dX5_hasManyPushings_13 ?_
    refine z_icmp_gt dX5_hasManyPushings_15 (tgt := 34) (by decide) (fun c4 => ?_) (fun c4 => ?_)
    · have h := h.1 c4
      refine z_iload_n 1 dX5_hasManyPushings_34 rfl ?_
      refine z_ldc (c := 65536) (zd_RX5_177 _ rfl) (by decide) ⟨by decide, by decide⟩ dX5_hasManyPushings_35 ?_
      refine z_icmp_le dX5_hasManyPushings_37 (tgt := 44) (by decide) (fun c5 => ?_) (fun c5 => ?_)
      · have h := h.1 c5
        refine z_iconst dX5_hasManyPushings_44 ⟨by decide, by decide⟩ ?_
        exact z_retFZ dX5_hasManyPushings_45 rfl (Or.inl rfl) h
      · have h := h.2 c5
        refine z_iconst dX5_hasManyPushings_40 ⟨by decide, by decide⟩ ?_
        refine z_goto (tgt := 45) dX5_hasManyPushings_41 (by decide) ?_
        exact z_retFZ dX5_hasManyPushings_45 rfl (Or.inr rfl) h
    · have h := h.2 c4
      refine z_iload_n 1 dX5_hasManyPushings_18 rfl ?_
      refine z_aload_n 0 dX5_hasManyPushings_19 rfl ?_
      refine zgf_5_0 dX5_hasManyPushings_20 (zf_RX5_30 _ rfl) o1 ?_
      obtain ⟨o6, h⟩ := h
      refine zgf_3_1 dX5_hasManyPushings_23 (zf_RX5_55 _ rfl) o6 ?_
      obtain ⟨o7, h⟩ := h
      refine z_imul dX5_hasManyPushings_26 o7 ?_
      refine z_nameI (fun x8 e9 => ?_)
      have h := h x8 e9
      refine z_istore_n dX5_hasManyPushings_27 (by decide) (L' := [(0, zrv a0), (1, ziv x8), (2, ziv a2)]) [1, 0, 2] rfl ?_
      obtain ⟨o10, h⟩ := h
      refine z_iinc 2 dX5_hasManyPushings_28 rfl (by decide) o10 (L' := [(0, zrv a0), (1, ziv x8), (2, ziv (a2 + 1))]) [1, 2, 0] rfl ?_
      refine z_goto (tgt := 4) dX5_hasManyPushings_31 (by decide) ?_
      exact h
set_option maxRecDepth 100000 in
set_option maxHeartbeats 4000000 in
theorem en_X5_hasManyPushings {E : zE} {F : Int → Prop} {S : zS} {a0 : Int} {V : zH}
    (h : ∀ X : zX, zl_X5_hasManyPushings_4 E X F S a0 1 0 V) :
    SpF E 0 zm_X5_hasManyPushings [zrv a0] S V F := by
  refine Sp.of (plainFor_of_name (by decide +kernel)) (Nat.le_of_ble_eq_true rfl) (fun hok X => ?_)
  have h := h X
  show Zr E X (zRoom 0 0 0) zm_X5_hasManyPushings (zQm E X (zpF S V F) 0 0) 0 0 0 [(0, zrv a0)] [] S V
  refine z_iconst dX5_hasManyPushings_0 ⟨by decide, by decide⟩ ?_
  refine z_istore_n dX5_hasManyPushings_1 (by decide) (L' := [(0, zrv a0), (1, ziv 1)]) [1, 0] rfl ?_
  refine z_iconst dX5_hasManyPushings_2 ⟨by decide, by decide⟩ ?_
  refine z_istore_n dX5_hasManyPushings_3 (by decide) (L' := [(0, zrv a0), (1, ziv 1), (2, ziv 0)]) [1, 2, 0] rfl ?_
  exact h
def zl_X5_freshSearch_42 (E : zE) (X : zX) (F : Int → zS → zH → Prop) (mc ms k n : Nat) (S : zS) (a0 a1 : Int) (V : zH) : Prop := Zr E X (zRoom 2 mc ms) zm_X5_freshSearch (zQm E X (zaR F) mc ms) k n 42 [(0, zrv a0), (1, ziv a1)] [] S V
set_option maxRecDepth 100000 in
set_option maxHeartbeats 4000000 in
theorem wp_X5_freshSearch_42 {E : zE} {X : zX} {F : Int → zS → zH → Prop} {mc ms k n : Nat} {S : zS} {a0 a1 : Int} {V : zH}
    (h : ((S a0).1 = 8) ∧ ((V a0 6 ≤ a1) → ((k ≤ mc ∧ n ≤ ms) ∧ F (V a0 5) S V)) ∧ ((a1 < V a0 6) → (((S (V a0 0)).1 = 6) ∧ ((S (V a0 7)).1 = 1) ∧ ((0 : Int) ≤ a1 ∧ a1 < (S (V a0 7)).2) ∧ ((S (V (V a0 0) 10)).1 = 1) ∧ ((0 : Int) ≤ V (V a0 7) a1 ∧ V (V a0 7) a1 < (S (V (V a0 0) 10)).2) ∧ ((S (V a0 5)).1 = 7) ∧ (k ≤ mc ∧ n ≤ ms) ∧ SpV E 0 zm_X4_putPrice [zrv (V a0 5), ziv a1, ziv (V (V (V a0 0) 10) (V (V a0 7) a1))] S V (fun V11 => (z32 (a1 + 1)) ∧ zl_X5_freshSearch_42 E X F mc ms k n S a0 (a1 + 1) V11)))) :
    zl_X5_freshSearch_42 E X F mc ms k n S a0 a1 V := by
  unfold zl_X5_freshSearch_42
  refine z_iload_n 1 dX5_freshSearch_42 rfl ?_
  refine z_aload_n 0 dX5_freshSearch_43 rfl ?_
  obtain ⟨o1, h⟩ := h
  refine zgf_5_6 dX5_freshSearch_44 (zf_RX5_46 _ rfl) o1 ?_
  refine z_icmp_ge dX5_freshSearch_47 (tgt := 78) (by decide) (fun c2 => ?_) (fun c2 => ?_)
  · have h := h.1 c2
    refine z_aload_n 0 dX5_freshSearch_78 rfl ?_
    refine zgf_5_5 dX5_freshSearch_79 (zf_RX5_178 _ rfl) o1 ?_
    obtain ⟨o3, h⟩ := h
    exact z_retaR dX5_freshSearch_82 rfl o3.1 o3.2 h
  · have h := h.2 c2
    refine z_aload_n 0 dX5_freshSearch_50 rfl ?_
    refine zgf_5_5 dX5_freshSearch_51 (zf_RX5_178 _ rfl) o1 ?_
    refine z_iload_n 1 dX5_freshSearch_54 rfl ?_
    refine z_aload_n 0 dX5_freshSearch_55 rfl ?_
    refine zgf_5_0 dX5_freshSearch_56 (zf_RX5_30 _ rfl) o1 ?_
    obtain ⟨o4, h⟩ := h
    refine zgf_3_10 dX5_freshSearch_59 (zf_RX5_190 _ rfl) o4 ?_
    refine z_aload_n 0 dX5_freshSearch_62 rfl ?_
    refine zgf_5_7 dX5_freshSearch_63 (zf_RX5_18 _ rfl) o1 ?_
    refine z_iload_n 1 dX5_freshSearch_66 rfl ?_
    obtain ⟨o5, h⟩ := h
    obtain ⟨o6, h⟩ := h
    refine z_iald dX5_freshSearch_67 o5 o6 ?_
    obtain ⟨o7, h⟩ := h
    obtain ⟨o8, h⟩ := h
    refine z_iald dX5_freshSearch_68 o7 o8 ?_
    obtain ⟨o9, h⟩ := h
    obtain ⟨o12, h⟩ := h
    refine z_cVV [ziv a1, ziv (V (V (V a0 0) 10) (V (V a0 7) a1))] (zk_RX5_193 _ rfl) dX5_freshSearch_69 o9 (by decide) rfl rfl (Nat.le_of_ble_eq_true rfl) (Nat.le_of_ble_eq_true rfl) (Nat.le_of_ble_eq_true rfl) o12.1 o12.2 h (fun V11 h => ?_)
    obtain ⟨o13, h⟩ := h
    refine z_iinc 1 dX5_freshSearch_72 rfl (by decide) o13 (L' := [(0, zrv a0), (1, ziv (a1 + 1))]) [1, 0] rfl ?_
    refine z_goto (tgt := 42) dX5_freshSearch_75 (by decide) ?_
    exact h
set_option maxRecDepth 100000 in
set_option maxHeartbeats 4000000 in
theorem en_X5_freshSearch {E : zE} {F : Int → zS → zH → Prop} {mc ms : Nat} {S : zS} {a0 : Int} {V : zH}
    (h : ∀ X : zX, ((S a0).1 = 8) ∧ ((0 < V a0 5) → (((S (V a0 0)).1 = 6) ∧ ((S (V a0 5)).1 = 7) ∧ SpV E 0 zm_X4_begin [zrv (V a0 5), ziv (V (V a0 0) 0)] S V (fun V6 => zl_X5_freshSearch_42 E X F mc ms 0 0 S a0 0 V6))) ∧ ((V a0 5 = 0) → ((0 + 1 ≤ mc ∧ 0 + 12 ≤ ms) ∧ ∀ r8 : Int, 0 < r8 → ((S r8).1 = 0 ∧ ∀ q : Int, (S q).1 ≠ 0 → q < r8 ∧ (S (r8 - 1)).1 ≠ 0) → ∀ (S11 : zS) (V12 : zH), S11 = zSn S r8 (7, 12) → V12 = zVn V r8 → ∃ m19 m20 : Nat, (0 + 1 + m19 ≤ mc ∧ 0 + 12 + m20 ≤ ms) ∧ SaV E 1 m19 m20 zm_X4_init [zrv r8, zrv (V12 a0 3), zrv (V12 a0 8)] S11 V12 (fun S22 V18 => ((S22 a0).1 = 8) ∧ ∀ V24 : zH, V24 = zput V18 a0 5 r8 → ((S22 (V18 a0 0)).1 = 6) ∧ ((S22 r8).1 = 7) ∧ (0 + 1 + m19 ≤ mc ∧ 0 + 12 + m20 ≤ ms) ∧ SpV E 0 zm_X4_begin [zrv r8, ziv (V18 (V18 a0 0) 0)] S22 V24 (fun V29 => zl_X5_freshSearch_42 E X F mc ms (0 + 1 + m19) (0 + 12 + m20) S22 a0 0 V29))))) :
    SaR E 2 mc ms zm_X5_freshSearch [zrv a0] S V F := by
  refine Sp.of (plainFor_of_name (by decide +kernel)) (Nat.le_of_ble_eq_true rfl) (fun hok X => ?_)
  have h := h X
  show Zr E X (zRoom 2 mc ms) zm_X5_freshSearch (zQm E X (zaR F) mc ms) 0 0 0 [(0, zrv a0)] [] S V
  refine z_aload_n 0 dX5_freshSearch_0 rfl ?_
  obtain ⟨o1, h⟩ := h
  refine zgf_5_5 dX5_freshSearch_1 (zf_RX5_178 _ rfl) o1 ?_
  refine z_ifnonnull dX5_freshSearch_4 (tgt := 26) (by decide) (fun c2 => ?_) (fun c2 => ?_)
  · have h := h.1 c2
    refine z_aload_n 0 dX5_freshSearch_26 rfl ?_
    refine zgf_5_5 dX5_freshSearch_27 (zf_RX5_178 _ rfl) o1 ?_
    refine z_aload_n 0 dX5_freshSearch_30 rfl ?_
    refine zgf_5_0 dX5_freshSearch_31 (zf_RX5_30 _ rfl) o1 ?_
    obtain ⟨o3, h⟩ := h
    refine zgf_3_0 dX5_freshSearch_34 (zf_RX5_58 _ rfl) o3 ?_
    obtain ⟨o4, h⟩ := h
    refine z_cVV [ziv (V (V a0 0) 0)] (zk_RX5_187 _ rfl) dX5_freshSearch_37 o4 (by decide) rfl rfl (Nat.le_of_ble_eq_true rfl) (Nat.le_of_ble_eq_true rfl) (Nat.le_of_ble_eq_true rfl) (Nat.zero_le _) (Nat.zero_le _) h (fun V6 h => ?_)
    refine z_iconst dX5_freshSearch_40 ⟨by decide, by decide⟩ ?_
    refine z_istore_n dX5_freshSearch_41 (by decide) (L' := [(0, zrv a0), (1, ziv 0)]) [1, 0] rfl ?_
    exact h
  · have h := h.2 c2
    refine z_aload_n 0 dX5_freshSearch_7 rfl ?_
    obtain ⟨o7, h⟩ := h
    refine znw_4 dX5_freshSearch_8 (zn_RX5_182 _ rfl) o7 (fun r8 q9 f10 => ?_)
    refine z_nameS (fun S11 V12 e13 e14 => ?_)
    have h := h r8 q9 f10 S11 V12 e13 e14
    have o15 : (S11 a0).1 = 8 := zSn_k e13 o1 f10.1 (by decide)
    have o16 : (S11 r8).1 = 7 := zSn_r e13
    refine z_dup (zref_cat _) dX5_freshSearch_11 ?_
    refine z_aload_n 0 dX5_freshSearch_12 rfl ?_
    refine zgf_5_3 dX5_freshSearch_13 (zf_RX5_37 _ rfl) o15 ?_
    refine z_aload_n 0 dX5_freshSearch_16 rfl ?_
    refine zgf_5_8 dX5_freshSearch_17 (zf_RX5_22 _ rfl) o15 ?_
    obtain ⟨m19, m20, o21, h⟩ := h
    refine z_aI [zrv (V12 a0 3), zrv (V12 a0 8)] (zk_RX5_184 _ rfl) dX5_freshSearch_20 q9 rfl rfl (Nat.le_of_ble_eq_true rfl) (Nat.le_of_ble_eq_true rfl) (Nat.le_of_ble_eq_true rfl) o21.1 o21.2 h (fun S22 V18 h => ?_)
    obtain ⟨o23, h⟩ := h
    refine zpf_5_5 dX5_freshSearch_23 (zf_RX5_178 _ rfl) o23 ?_
    refine z_nameV (fun V24 e25 => ?_)
    have h := h V24 e25
    refine z_aload_n 0 dX5_freshSearch_26 rfl ?_
    refine zgf_5_5 dX5_freshSearch_27 (zf_RX5_178 _ rfl) o23 ?_
    refine z_topR (zfr_s e25) ?_
    refine z_aload_n 0 dX5_freshSearch_30 rfl ?_
    refine zgf_5_0 dX5_freshSearch_31 (zf_RX5_30 _ rfl) o23 ?_
    refine z_topR (zfr_j e25 (by decide)) ?_
    obtain ⟨o26, h⟩ := h
    refine zgf_3_0 dX5_freshSearch_34 (zf_RX5_58 _ rfl) o26 ?_
    refine z_topI (zfr_k e25 o23 o26 (by decide)) ?_
    obtain ⟨o27, h⟩ := h
    obtain ⟨o30, h⟩ := h
    refine z_cVV [ziv (V18 (V18 a0 0) 0)] (zk_RX5_187 _ rfl) dX5_freshSearch_37 o27 (by decide) rfl rfl (Nat.le_of_ble_eq_true rfl) (Nat.le_of_ble_eq_true rfl) (Nat.le_of_ble_eq_true rfl) o30.1 o30.2 h (fun V29 h => ?_)
    refine z_iconst dX5_freshSearch_40 ⟨by decide, by decide⟩ ?_
    refine z_istore_n dX5_freshSearch_41 (by decide) (L' := [(0, zrv a0), (1, ziv 0)]) [1, 0] rfl ?_
    exact h
set_option maxRecDepth 100000 in
set_option maxHeartbeats 4000000 in
theorem en_X5_tellLeast {E : zE} {F : Int → zS → zH → Prop} {mc ms : Nat} {S : zS} {a0 a1 : Int} {V : zH}
    (h : ((S a0).1 = 8) ∧ ∃ m4 m5 : Nat, (0 + m4 ≤ mc ∧ 0 + m5 ≤ ms) ∧ SaR E 2 m4 m5 zm_X5_freshSearch [zrv a0] S V (fun x2 S7 V3 => ((S7 a0).1 = 8) ∧ ((S7 x2).1 = 7) ∧ (0 + m4 ≤ mc ∧ 0 + m5 ≤ ms) ∧ SpI E 24 zm_X4_findCheapestFor [zrv x2, zrv (V3 a0 9)] S7 V3 (fun x10 V11 => SpV E 2 zm_X5_tellTail [zrv a0, zrv (V11 x2 8), zrv a1] S7 V11 (fun V14 => F x10 S7 V14)))) :
    SaI E 25 mc ms zm_X5_tellLeast [zrv a0, zrv a1] S V F := by
  refine Sp.of (plainFor_of_name (by decide +kernel)) (Nat.le_of_ble_eq_true rfl) (fun hok X => ?_)
  have h := h
  show Zr E X (zRoom 25 mc ms) zm_X5_tellLeast (zQm E X (zaI F) mc ms) 0 0 0 [(0, zrv a0), (1, zrv a1)] [] S V
  refine z_aload_n 0 dX5_tellLeast_0 rfl ?_
  obtain ⟨o1, h⟩ := h
  obtain ⟨m4, m5, o6, h⟩ := h
  refine z_aVR [] (zk_RX5_196 _ rfl) dX5_tellLeast_1 o1 (by decide) rfl rfl (Nat.le_of_ble_eq_true rfl) (Nat.le_of_ble_eq_true rfl) (Nat.le_of_ble_eq_true rfl) o6.1 o6.2 h (fun x2 S7 V3 h => ?_)
  refine z_astore_n dX5_tellLeast_4 (by decide) (L' := [(0, zrv a0), (1, zrv a1), (2, zrv x2)]) [1, 2, 0] rfl ?_
  refine z_aload_n 2 dX5_tellLeast_5 rfl ?_
  refine z_aload_n 0 dX5_tellLeast_6 rfl ?_
  obtain ⟨o8, h⟩ := h
  refine zgf_5_9 dX5_tellLeast_7 (zf_RX5_27 _ rfl) o8 ?_
  obtain ⟨o9, h⟩ := h
  obtain ⟨o12, h⟩ := h
  refine z_cVI [zrv (V3 a0 9)] (zk_RX5_200 _ rfl) dX5_tellLeast_10 o9 (by decide) rfl rfl (Nat.le_of_ble_eq_true rfl) (Nat.le_of_ble_eq_true rfl) (Nat.le_of_ble_eq_true rfl) o12.1 o12.2 h (fun x10 V11 h => ?_)
  refine z_istore_n dX5_tellLeast_13 (by decide) (L' := [(0, zrv a0), (1, zrv a1), (2, zrv x2), (3, ziv x10)]) [1, 2, 3, 0] rfl ?_
  refine z_aload_n 0 dX5_tellLeast_14 rfl ?_
  refine z_aload_n 2 dX5_tellLeast_15 rfl ?_
  refine zgf_4_8 dX5_tellLeast_16 (zf_RX5_204 _ rfl) o9 ?_
  refine z_aload_n 1 dX5_tellLeast_19 rfl ?_
  refine z_cVV [zrv (V11 x2 8), zrv a1] (zk_RX5_112 _ rfl) dX5_tellLeast_20 o8 (by decide) rfl rfl (Nat.le_of_ble_eq_true rfl) (Nat.le_of_ble_eq_true rfl) (Nat.le_of_ble_eq_true rfl) o12.1 o12.2 h (fun V14 h => ?_)
  refine z_iload_n 3 dX5_tellLeast_23 rfl ?_
  exact z_retaI dX5_tellLeast_24 rfl o12.1 o12.2 h
set_option maxRecDepth 100000 in
set_option maxHeartbeats 4000000 in
theorem en_X5_tellWorst {E : zE} {F : Int → zS → zH → Prop} {mc ms : Nat} {S : zS} {a0 a1 : Int} {V : zH}
    (h : ((S a0).1 = 8) ∧ ∃ m4 m5 : Nat, (0 + m4 ≤ mc ∧ 0 + m5 ≤ ms) ∧ SaR E 2 m4 m5 zm_X5_freshSearch [zrv a0] S V (fun x2 S7 V3 => ((S7 x2).1 = 7) ∧ (0 + m4 ≤ mc ∧ 0 + m5 ≤ ms) ∧ SpV E 45 zm_X4_findHardest [zrv x2] S7 V3 (fun V10 => ((S7 a0).1 = 8) ∧ SpV E 2 zm_X5_tellByLamps [zrv a0, zrv (V10 x2 11), ziv 0, zrv a1] S7 V10 (fun V14 => F (V14 x2 10) S7 V14)))) :
    SaI E 46 mc ms zm_X5_tellWorst [zrv a0, zrv a1] S V F := by
  refine Sp.of (plainFor_of_name (by decide +kernel)) (Nat.le_of_ble_eq_true rfl) (fun hok X => ?_)
  have h := h
  show Zr E X (zRoom 46 mc ms) zm_X5_tellWorst (zQm E X (zaI F) mc ms) 0 0 0 [(0, zrv a0), (1, zrv a1)] [] S V
  refine z_aload_n 0 dX5_tellWorst_0 rfl ?_
  obtain ⟨o1, h⟩ := h
  obtain ⟨m4, m5, o6, h⟩ := h
  refine z_aVR [] (zk_RX5_196 _ rfl) dX5_tellWorst_1 o1 (by decide) rfl rfl (Nat.le_of_ble_eq_true rfl) (Nat.le_of_ble_eq_true rfl) (Nat.le_of_ble_eq_true rfl) o6.1 o6.2 h (fun x2 S7 V3 h => ?_)
  refine z_astore_n dX5_tellWorst_4 (by decide) (L' := [(0, zrv a0), (1, zrv a1), (2, zrv x2)]) [1, 2, 0] rfl ?_
  refine z_aload_n 2 dX5_tellWorst_5 rfl ?_
  obtain ⟨o8, h⟩ := h
  obtain ⟨o11, h⟩ := h
  refine z_cVV [] (zk_RX5_207 _ rfl) dX5_tellWorst_6 o8 (by decide) rfl rfl (Nat.le_of_ble_eq_true rfl) (Nat.le_of_ble_eq_true rfl) (Nat.le_of_ble_eq_true rfl) o11.1 o11.2 h (fun V10 h => ?_)
  refine z_aload_n 0 dX5_tellWorst_9 rfl ?_
  refine z_aload_n 2 dX5_tellWorst_10 rfl ?_
  refine zgf_4_11 dX5_tellWorst_11 (zf_RX5_210 _ rfl) o8 ?_
  refine z_iconst dX5_tellWorst_14 ⟨by decide, by decide⟩ ?_
  refine z_aload_n 1 dX5_tellWorst_15 rfl ?_
  obtain ⟨o12, h⟩ := h
  refine z_cVV [zrv (V10 x2 11), ziv 0, zrv a1] (zk_RX5_149 _ rfl) dX5_tellWorst_16 o12 (by decide) rfl rfl (Nat.le_of_ble_eq_true rfl) (Nat.le_of_ble_eq_true rfl) (Nat.le_of_ble_eq_true rfl) o11.1 o11.2 h (fun V14 h => ?_)
  refine z_aload_n 2 dX5_tellWorst_19 rfl ?_
  refine zgf_4_10 dX5_tellWorst_20 (zf_RX5_213 _ rfl) o8 ?_
  exact z_retaI dX5_tellWorst_23 rfl o11.1 o11.2 h
