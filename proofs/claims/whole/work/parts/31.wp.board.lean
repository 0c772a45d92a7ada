set_option maxRecDepth 100000 in
set_option maxHeartbeats 4000000 in
theorem en_X0_init {E : zE} {F : zS → zH → Prop} {mc ms : Nat} {S : zS} {a0 : Int} {V : zH}
    (h : ((S a0).1 = 3) ∧ (0 < a0) ∧ ∀ V3 : zH, V3 = zput V a0 0 (-1) → (0 + 1 ≤ mc ∧ 0 + 80 ≤ ms) ∧ ∀ r6 : Int, 0 < r6 → ((S r6).1 = 0 ∧ ∀ q : Int, (S q).1 ≠ 0 → q < r6 ∧ (S (r6 - 1)).1 ≠ 0) → ∀ (S9 : zS) (V10 : zH), S9 = zSn S r6 (2, 80) → V10 = zVn V3 r6 → ∀ V15 : zH, V15 = zput V10 a0 2 r6 → (0 + 1 ≤ mc ∧ 0 + 80 ≤ ms) ∧ F S9 V15) :
    SaV E 1 mc ms zm_X0_init [zrv a0] S V F := by
  refine Sp.of (plainFor_of_name (by decide +kernel)) (Nat.le_of_ble_eq_true rfl) (fun hok X => ?_)
  have h := h
  show Zr E X (zRoom 1 mc ms) zm_X0_init (zQm E X (zaV F) mc ms) 0 0 0 [(0, zrv a0)] [] S V
  refine z_aload_n 0 dX0_init_0 rfl ?_
  obtain ⟨o1, h⟩ := h
  obtain ⟨o2, h⟩ := h
  refine z_objInit dX0_init_1 (zk_RX0_1 _ rfl) zw_oi1 zw_oi2 o2 (Nat.le_of_ble_eq_true rfl) (Nat.le_of_ble_eq_true rfl) (Nat.le_of_ble_eq_true rfl) ?_
  refine z_aload_n 0 dX0_init_4 rfl ?_
  refine z_iconst dX0_init_5 ⟨by decide, by decide⟩ ?_
  refine zpf_0_0 dX0_init_6 (zf_RX0_9 _ rfl) o1 ?_
  refine z_nameV (fun V3 e4 => ?_)
  have h := h V3 e4
  refine z_aload_n 0 dX0_init_9 rfl ?_
  refine z_bipush dX0_init_10 ⟨by decide, by decide⟩ (by decide) ?_
  obtain ⟨o5, h⟩ := h
  refine z_newl dX0_init_12 zw_arrj (by decide) (by decide) o5.1 o5.2 (fun r6 q7 f8 => ?_)
  refine z_nameS (fun S9 V10 e11 e12 => ?_)
  have h := h r6 q7 f8 S9 V10 e11 e12
  have o13 : (S9 a0).1 = 3 := zSn_k e11 o1 f8.1 (by decide)
  have o14 : (S9 r6).1 = 2 := zSn_r e11
  refine zpf_0_2 rfl rfl dX0_init_14 (zf_RX0_13 _ rfl) o13 ?_
  refine z_nameV (fun V15 e16 => ?_)
  have h := h V15 e16
  obtain ⟨o17, h⟩ := h
  exact z_retaV dX0_init_17 rfl o17.1 o17.2 h
set_option maxRecDepth 100000 in
set_option maxHeartbeats 4000000 in
theorem en_X0_lay {E : zE} {F : zH → Prop} {S : zS} {a0 a1 a2 : Int} {V : zH}
    (h : z32 a1 → z32 a2 → ((S a0).1 = 3) ∧ ∀ V2 : zH, V2 = zput V a0 0 a1 → ∀ V4 : zH, V4 = zput V2 a0 1 a2 → SpV E 0 zm_J7_fill_d0a16 [zrv (V a0 2), zjv 0] S V4 (fun V7 => F V7)) :
    SpV E 1 zm_X0_lay [zrv a0, ziv a1, ziv a2] S V F := by
  refine Sp.of (plainFor_of_name (by decide +kernel)) (Nat.le_of_ble_eq_true rfl) (fun hok X => ?_)
  have h := h (hok _ (List.mem_cons_of_mem _ (List.mem_cons_self))) (hok _ (List.mem_cons_of_mem _ (List.mem_cons_of_mem _ (List.mem_cons_self))))
  show Zr E X (zRoom 1 0 0) zm_X0_lay (zQm E X (zpV S F) 0 0) 0 0 0 [(0, zrv a0), (1, ziv a1), (2, ziv a2)] [] S V
  refine z_aload_n 0 dX0_lay_0 rfl ?_
  refine z_iload_n 1 dX0_lay_1 rfl ?_
  obtain ⟨o1, h⟩ := h
  refine zpf_0_0 dX0_lay_2 (zf_RX0_9 _ rfl) o1 ?_
  refine z_nameV (fun V2 e3 => ?_)
  have h := h V2 e3
  refine z_aload_n 0 dX0_lay_5 rfl ?_
  refine z_iload_n 2 dX0_lay_6 rfl ?_
  refine zpf_0_1 dX0_lay_7 (zf_RX0_17 _ rfl) o1 ?_
  refine z_nameV (fun V4 e5 => ?_)
  have h := h V4 e5
  refine z_aload_n 0 dX0_lay_10 rfl ?_
  refine zgf_0_2 dX0_lay_11 (zf_RX0_13 _ rfl) o1 ?_
  refine z_topR ((zfr_j e5 (by decide)).trans (zfr_j e3 (by decide))) ?_
  refine z_lconst (v := 0) dX0_lay_14 (by decide) ⟨by decide, by decide⟩ ?_
  refine z_cSV [zrv (V a0 2), zjv 0] (zk_RX0_20 _ rfl) dX0_lay_15 rfl rfl (Nat.le_of_ble_eq_true rfl) (Nat.le_of_ble_eq_true rfl) (Nat.le_of_ble_eq_true rfl) (Nat.le_of_ble_eq_true rfl) (Nat.le_of_ble_eq_true rfl) h (fun V7 h => ?_)
  exact z_retV dX0_lay_18 rfl h
set_option maxRecDepth 100000 in
set_option maxHeartbeats 4000000 in
theorem en_X0_write {E : zE} {F : zH → Prop} {S : zS} {a0 a1 a2 : Int} {V : zH}
    (h : z32 a1 → z64 a2 → ((S a0).1 = 3) ∧ ((V a0 0 = 0) → (((S (V a0 2)).1 = 2) ∧ ((0 : Int) ≤ a1 ∧ a1 < (S (V a0 2)).2) ∧ ∀ V5 : zH, V5 = zput V (V a0 2) a1 (zi2b (zl2i a2)) → F V5)) ∧ ((V a0 0 = 1) → (((S (V a0 2)).1 = 2) ∧ ((0 : Int) ≤ a1 ∧ a1 < (S (V a0 2)).2) ∧ ∀ V10 : zH, V10 = zput V (V a0 2) a1 (zi2s (zl2i a2)) → F V10)) ∧ ((V a0 0 = 2) → (((S (V a0 2)).1 = 2) ∧ ((0 : Int) ≤ a1 ∧ a1 < (S (V a0 2)).2) ∧ ∀ V15 : zH, V15 = zput V (V a0 2) a1 (zl2i a2) → F V15)) ∧ ((V a0 0 < 0 ∨ 2 < V a0 0) → (((S (V a0 2)).1 = 2) ∧ ((0 : Int) ≤ a1 ∧ a1 < (S (V a0 2)).2) ∧ ∀ V19 : zH, V19 = zput V (V a0 2) a1 a2 → F V19))) :
    SpV E 0 zm_X0_write [zrv a0, ziv a1, zjv a2] S V F := by
  refine Sp.of (plainFor_of_name (by decide +kernel)) (Nat.le_of_ble_eq_true rfl) (fun hok X => ?_)
  have h := h (hok _ (List.mem_cons_of_mem _ (List.mem_cons_self))) (hok _ (List.mem_cons_of_mem _ (List.mem_cons_of_mem _ (List.mem_cons_self))))
  show Zr E X (zRoom 0 0 0) zm_X0_write (zQm E X (zpV S F) 0 0) 0 0 0 [(0, zrv a0), (1, ziv a1), (2, zjv a2)] [] S V
  refine z_aload_n 0 dX0_write_0 rfl ?_
  obtain ⟨o1, h⟩ := h
  refine zgf_0_0 dX0_write_1 (zf_RX0_9 _ rfl) o1 ?_
  by_cases c2 : V a0 0 = 0
  · have h := h.1 c2
    refine z_tableIn dX0_write_4 (by omega) (off := 28) (by rw [c2]; rfl) (tgt := 32) (by decide) ?_
    refine z_aload_n 0 dX0_write_32 rfl ?_
    refine zgf_0_2 dX0_write_33 (zf_RX0_13 _ rfl) o1 ?_
    refine z_iload_n 1 dX0_write_36 rfl ?_
    refine z_lload_n 2 dX0_write_37 rfl ?_
    refine z_l2i dX0_write_38 ?_
    refine z_i2b dX0_write_39 ?_
    refine z_i2l dX0_write_40 ?_
    obtain ⟨o3, h⟩ := h
    obtain ⟨o4, h⟩ := h
    refine z_last dX0_write_41 o3 o4 ?_
    refine z_nameV (fun V5 e6 => ?_)
    have h := h V5 e6
    refine z_goto (tgt := 77) dX0_write_42 (by decide) ?_
    exact z_retV dX0_write_77 rfl h
  by_cases c7 : V a0 0 = 1
  · have h := h.2.1 c7
    refine z_tableIn dX0_write_4 (by omega) (off := 41) (by rw [c7]; rfl) (tgt := 45) (by decide) ?_
    refine z_aload_n 0 dX0_write_45 rfl ?_
    refine zgf_0_2 dX0_write_46 (zf_RX0_13 _ rfl) o1 ?_
    refine z_iload_n 1 dX0_write_49 rfl ?_
    refine z_lload_n 2 dX0_write_50 rfl ?_
    refine z_l2i dX0_write_51 ?_
    refine z_i2s dX0_write_52 ?_
    refine z_i2l dX0_write_53 ?_
    obtain ⟨o8, h⟩ := h
    obtain ⟨o9, h⟩ := h
    refine z_last dX0_write_54 o8 o9 ?_
    refine z_nameV (fun V10 e11 => ?_)
    have h := h V10 e11
    refine z_goto (tgt := 77) dX0_write_55 (by decide) ?_
    exact z_retV dX0_write_77 rfl h
  by_cases c12 : V a0 0 = 2
  · have h := h.2.2.1 c12
    refine z_tableIn dX0_write_4 (by omega) (off := 54) (by rw [c12]; rfl) (tgt := 58) (by decide) ?_
    refine z_aload_n 0 dX0_write_58 rfl ?_
    refine zgf_0_2 dX0_write_59 (zf_RX0_13 _ rfl) o1 ?_
    refine z_iload_n 1 dX0_write_62 rfl ?_
    refine z_lload_n 2 dX0_write_63 rfl ?_
    refine z_l2i dX0_write_64 ?_
    refine z_i2l dX0_write_65 ?_
    obtain ⟨o13, h⟩ := h
    obtain ⟨o14, h⟩ := h
    refine z_last dX0_write_66 o13 o14 ?_
    refine z_nameV (fun V15 e16 => ?_)
    have h := h V15 e16
    refine z_goto (tgt := 77) dX0_write_67 (by decide) ?_
    exact z_retV dX0_write_77 rfl h
  have h := h.2.2.2 (by omega)
  refine z_tableOut dX0_write_4 (by omega) (tgt := 70) (by decide) ?_
  refine z_aload_n 0 dX0_write_70 rfl ?_
  refine zgf_0_2 dX0_write_71 (zf_RX0_13 _ rfl) o1 ?_
  refine z_iload_n 1 dX0_write_74 rfl ?_
  refine z_lload_n 2 dX0_write_75 rfl ?_
  obtain ⟨o17, h⟩ := h
  obtain ⟨o18, h⟩ := h
  refine z_last dX0_write_76 o17 o18 ?_
  refine z_nameV (fun V19 e20 => ?_)
  have h := h V19 e20
  exact z_retV dX0_write_77 rfl h
def zl_X0_stepsFor_36 (E : zE) (X : zX) (F : Int → Prop) (S : zS) (a0 a1 a2 : Int) (V : zH) : Prop := Zr E X (zRoom 1 0 0) zm_X0_stepsFor (zQm E X (zpF S V F) 0 0) 0 0 36 [(0, zrv a0), (1, ziv a1), (2, ziv a2)] [] S V
set_option maxRecDepth 100000 in
set_option maxHeartbeats 4000000 in
theorem wp_X0_stepsFor_36 {E : zE} {X : zX} {F : Int → Prop} {S : zS} {a0 a1 a2 : Int} {V : zH}
    (h : ((S a0).1 = 3) ∧ ((V a0 1 ≤ a1) → (F 0)) ∧ ((a1 < V a0 1) → (((S (V a0 2)).1 = 2) ∧ ((0 : Int) ≤ a1 ∧ a1 < (S (V a0 2)).2) ∧ SpF E 0 zm_J9_floorMod_7cf53 [ziv (zl2i (V (V a0 2) a1)), ziv a2] S V (fun x5 => F x5)))) :
    zl_X0_stepsFor_36 E X F S a0 a1 a2 V := by
  unfold zl_X0_stepsFor_36
  refine z_iload_n 1 dX0_stepsFor_36 rfl ?_
  refine z_aload_n 0 dX0_stepsFor_37 rfl ?_
  obtain ⟨o1, h⟩ := h
  refine zgf_0_1 dX0_stepsFor_38 (zf_RX0_17 _ rfl) o1 ?_
  refine z_icmp_ge dX0_stepsFor_41 (tgt := 58) (by decide) (fun c2 => ?_) (fun c2 => ?_)
  · have h := h.1 c2
    refine z_iconst dX0_stepsFor_58 ⟨by decide, by decide⟩ ?_
    exact z_retFI dX0_stepsFor_59 rfl h
  · have h := h.2 c2
    refine z_aload_n 0 dX0_stepsFor_44 rfl ?_
    refine zgf_0_2 dX0_stepsFor_45 (zf_RX0_13 _ rfl) o1 ?_
    refine z_iload_n 1 dX0_stepsFor_48 rfl ?_
    obtain ⟨o3, h⟩ := h
    obtain ⟨o4, h⟩ := h
    refine z_lald dX0_stepsFor_49 o3 o4 ?_
    refine z_l2i dX0_stepsFor_50 ?_
    refine z_iload_n 2 dX0_stepsFor_51 rfl ?_
    refine z_cSF [ziv (zl2i (V (V a0 2) a1)), ziv a2] (zk_RX0_26 _ rfl) dX0_stepsFor_52 rfl rfl (Nat.le_of_ble_eq_true rfl) (Nat.le_of_ble_eq_true rfl) (Nat.le_of_ble_eq_true rfl) (Nat.le_of_ble_eq_true rfl) (Nat.le_of_ble_eq_true rfl) h (fun x5 h => ?_)
    refine z_goto (tgt := 59) dX0_stepsFor_55 (by decide) ?_
    exact z_retFI dX0_stepsFor_59 rfl h
set_option maxRecDepth 100000 in
set_option maxHeartbeats 4000000 in
theorem en_X0_stepsFor {E : zE} {F : Int → Prop} {S : zS} {a0 a1 a2 : Int} {V : zH}
    (h : z32 a1 → z32 a2 → ∀ X : zX, ((S a0).1 = 3) ∧ ((V a0 0 = 0) → (zl_X0_stepsFor_36 E X F S a0 a1 a2 V)) ∧ ((V a0 0 = 1) → (zl_X0_stepsFor_36 E X F S a0 a1 a2 V)) ∧ ((V a0 0 = 2) → (SpF E 0 zm_X0_bitFor [zrv a0, ziv a1, ziv 32] S V (fun x5 => F x5))) ∧ ((V a0 0 = 3) → (SpF E 0 zm_X0_bitFor [zrv a0, ziv a1, ziv 64] S V (fun x8 => F x8))) ∧ ((V a0 0 < 0 ∨ 3 < V a0 0) → (F 0))) :
    SpF E 1 zm_X0_stepsFor [zrv a0, ziv a1, ziv a2] S V F := by
  refine Sp.of (plainFor_of_name (by decide +kernel)) (Nat.le_of_ble_eq_true rfl) (fun hok X => ?_)
  have h := h (hok _ (List.mem_cons_of_mem _ (List.mem_cons_self))) (hok _ (List.mem_cons_of_mem _ (List.mem_cons_of_mem _ (List.mem_cons_self)))) X
  show Zr E X (zRoom 1 0 0) zm_X0_stepsFor (zQm E X (zpF S V F) 0 0) 0 0 0 [(0, zrv a0), (1, ziv a1), (2, ziv a2)] [] S V
  refine z_aload_n 0 dX0_stepsFor_0 rfl ?_
  obtain ⟨o1, h⟩ := h
  refine zgf_0_0 dX0_stepsFor_1 (zf_RX0_9 _ rfl) o1 ?_
  by_cases c2 : V a0 0 = 0
  · have h := h.1 c2
    refine z_tableIn dX0_stepsFor_4 (by omega) (off := 32) (by rw [c2]; rfl) (tgt := 36) (by decide) ?_
    exact h
  by_cases c3 : V a0 0 = 1
  · have h := h.2.1 c3
    refine z_tableIn dX0_stepsFor_4 (by omega) (off := 32) (by rw [c3]; rfl) (tgt := 36) (by decide) ?_
    exact h
  by_cases c4 : V a0 0 = 2
  · have h := h.2.2.1 c4
    refine z_tableIn dX0_stepsFor_4 (by omega) (off := 56) (by rw [c4]; rfl) (tgt := 60) (by decide) ?_
    refine z_aload_n 0 dX0_stepsFor_60 rfl ?_
    refine z_iload_n 1 dX0_stepsFor_61 rfl ?_
    refine z_bipush dX0_stepsFor_62 ⟨by decide, by decide⟩ (by decide) ?_
    refine z_cVF [ziv a1, ziv 32] (zk_RX0_32 _ rfl) dX0_stepsFor_64 o1 (by decide) rfl rfl (Nat.le_of_ble_eq_true rfl) (Nat.le_of_ble_eq_true rfl) (Nat.le_of_ble_eq_true rfl) (Nat.le_of_ble_eq_true rfl) (Nat.le_of_ble_eq_true rfl) h (fun x5 h => ?_)
    exact z_retFI dX0_stepsFor_67 rfl h
  by_cases c7 : V a0 0 = 3
  · have h := h.2.2.2.1 c7
    refine z_tableIn dX0_stepsFor_4 (by omega) (off := 64) (by rw [c7]; rfl) (tgt := 68) (by decide) ?_
    refine z_aload_n 0 dX0_stepsFor_68 rfl ?_
    refine z_iload_n 1 dX0_stepsFor_69 rfl ?_
    refine z_bipush dX0_stepsFor_70 ⟨by decide, by decide⟩ (by decide) ?_
    refine z_cVF [ziv a1, ziv 64] (zk_RX0_32 _ rfl) dX0_stepsFor_72 o1 (by decide) rfl rfl (Nat.le_of_ble_eq_true rfl) (Nat.le_of_ble_eq_true rfl) (Nat.le_of_ble_eq_true rfl) (Nat.le_of_ble_eq_true rfl) (Nat.le_of_ble_eq_true rfl) h (fun x8 h => ?_)
    exact z_retFI dX0_stepsFor_75 rfl h
  have h := h.2.2.2.2 (by omega)
  refine z_tableOut dX0_stepsFor_4 (by omega) (tgt := 76) (by decide) ?_
  refine z_iconst dX0_stepsFor_76 ⟨by decide, by decide⟩ ?_
  exact z_retFI dX0_stepsFor_77 rfl h
set_option maxRecDepth 100000 in
set_option maxHeartbeats 4000000 in
theorem en_X0_bitFor {E : zE} {F : Int → Prop} {S : zS} {a0 a1 a2 : Int} {V : zH}
    (h : z32 a1 → z32 a2 → ((0 : Int) ≤ a1) ∧ ((0 : Int) < a2) ∧ ∀ x3 : Int, x3 = a1 / a2 → ((S a0).1 = 3) ∧ ((V a0 1 ≤ x3) → (F 0)) ∧ ((x3 < V a0 1) → (((S (V a0 2)).1 = 2) ∧ ((0 : Int) ≤ x3 ∧ x3 < (S (V a0 2)).2) ∧ F (zand (zl2i (zlushr (V (V a0 2) x3) (a1 % a2))) 1)))) :
    SpF E 0 zm_X0_bitFor [zrv a0, ziv a1, ziv a2] S V F := by
  refine Sp.of (plainFor_of_name (by decide +kernel)) (Nat.le_of_ble_eq_true rfl) (fun hok X => ?_)
  have h := h (hok _ (List.mem_cons_of_mem _ (List.mem_cons_self))) (hok _ (List.mem_cons_of_mem _ (List.mem_cons_of_mem _ (List.mem_cons_self))))
  show Zr E X (zRoom 0 0 0) zm_X0_bitFor (zQm E X (zpF S V F) 0 0) 0 0 0 [(0, zrv a0), (1, ziv a1), (2, ziv a2)] [] S V
  refine z_iload_n 1 dX0_bitFor_0 rfl ?_
  refine z_iload_n 2 dX0_bitFor_1 rfl ?_
  obtain ⟨o1, h⟩ := h
  obtain ⟨o2, h⟩ := h
  refine z_idiv dX0_bitFor_2 o1 o2 ?_
  refine z_nameI (fun x3 e4 => ?_)
  have h := h x3 e4
  refine z_istore_n dX0_bitFor_3 (by decide) (L' := [(0, zrv a0), (1, ziv a1), (2, ziv a2), (3, ziv x3)]) [1, 2, 3, 0] rfl ?_
  refine z_iload_n 3 dX0_bitFor_4 rfl ?_
  refine z_aload_n 0 dX0_bitFor_5 rfl ?_
  obtain ⟨o5, h⟩ := h
  refine zgf_0_1 dX0_bitFor_6 (zf_RX0_17 _ rfl) o5 ?_
  refine z_icmp_ge dX0_bitFor_9 (tgt := 28) (by decide) (fun c6 => ?_) (fun c6 => ?_)
  · have h := h.1 c6
    refine z_iconst dX0_bitFor_28 ⟨by decide, by decide⟩ ?_
    exact z_retFI dX0_bitFor_29 rfl h
  · have h := h.2 c6
    refine z_aload_n 0 dX0_bitFor_12 rfl ?_
    refine zgf_0_2 dX0_bitFor_13 (zf_RX0_13 _ rfl) o5 ?_
    refine z_iload_n 3 dX0_bitFor_16 rfl ?_
    obtain ⟨o7, h⟩ := h
    obtain ⟨o8, h⟩ := h
    refine z_lald dX0_bitFor_17 o7 o8 ?_
    refine z_iload_n 1 dX0_bitFor_18 rfl ?_
    refine z_iload_n 2 dX0_bitFor_19 rfl ?_
    refine z_irem dX0_bitFor_20 o1 o2 ?_
    refine z_lushr dX0_bitFor_21 ?_
    refine z_l2i dX0_bitFor_22 ?_
    refine z_iconst dX0_bitFor_23 ⟨by decide, by decide⟩ ?_
    refine z_iand dX0_bitFor_24 ?_
    refine z_goto (tgt := 29) dX0_bitFor_25 (by decide) ?_
    exact z_retFI dX0_bitFor_29 rfl h
