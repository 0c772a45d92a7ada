set_option maxRecDepth 100000 in
set_option maxHeartbeats 4000000 in
theorem en_X7_init {E : zE} {F : zS → zH → Prop} {mc ms : Nat} {S : zS} {a0 : Int} {V : zH}
    (h : ((S a0).1 = 10) ∧ (0 < a0) ∧ (0 + 1 ≤ mc ∧ 0 + 12 ≤ ms) ∧ ∀ r4 : Int, 0 < r4 → ((S r4).1 = 0 ∧ ∀ q : Int, (S q).1 ≠ 0 → q < r4 ∧ (S (r4 - 1)).1 ≠ 0) → ∀ (S7 : zS) (V8 : zH), S7 = zSn S r4 (6, 12) → V8 = zVn V r4 → ∃ m15 m16 : Nat, (0 + 1 + m15 ≤ mc ∧ 0 + 12 + m16 ≤ ms) ∧ SaV E 1 m15 m16 zm_X3_init [zrv r4] S7 V8 (fun S18 V14 => ((S18 a0).1 = 10) ∧ ∀ V20 : zH, V20 = zput V14 a0 0 r4 → (0 + 1 + m15 + 1 ≤ mc ∧ 0 + 12 + m16 + 3 ≤ ms) ∧ ∀ r23 : Int, 0 < r23 → ((S18 r23).1 = 0 ∧ ∀ q : Int, (S18 q).1 ≠ 0 → q < r23 ∧ (S18 (r23 - 1)).1 ≠ 0) → ∀ (S26 : zS) (V27 : zH), S26 = zSn S18 r23 (3, 3) → V27 = zVn V20 r23 → ∃ m34 m35 : Nat, (0 + 1 + m15 + 1 + m34 ≤ mc ∧ 0 + 12 + m16 + 3 + m35 ≤ ms) ∧ SaV E 1 m34 m35 zm_X0_init [zrv r23] S26 V27 (fun S37 V33 => ((S37 a0).1 = 10) ∧ ∀ V39 : zH, V39 = zput V33 a0 1 r23 → (0 + 1 + m15 + 1 + m34 + 1 ≤ mc ∧ 0 + 12 + m16 + 3 + m35 + 5 ≤ ms) ∧ ∀ r42 : Int, 0 < r42 → ((S37 r42).1 = 0 ∧ ∀ q : Int, (S37 q).1 ≠ 0 → q < r42 ∧ (S37 (r42 - 1)).1 ≠ 0) → ∀ (S45 : zS) (V46 : zH), S45 = zSn S37 r42 (5, 5) → V46 = zVn V39 r42 → ∃ m53 m54 : Nat, (0 + 1 + m15 + 1 + m34 + 1 + m53 ≤ mc ∧ 0 + 12 + m16 + 3 + m35 + 5 + m54 ≤ ms) ∧ SaV E 1 m53 m54 zm_X2_init [zrv r42] S45 V46 (fun S56 V52 => ((S56 a0).1 = 10) ∧ ∀ V58 : zH, V58 = zput V52 a0 2 r42 → (0 + 1 + m15 + 1 + m34 + 1 + m53 + 1 ≤ mc ∧ 0 + 12 + m16 + 3 + m35 + 5 + m54 + 4 ≤ ms) ∧ ∀ r61 : Int, 0 < r61 → ((S56 r61).1 = 0 ∧ ∀ q : Int, (S56 q).1 ≠ 0 → q < r61 ∧ (S56 (r61 - 1)).1 ≠ 0) → ∀ (S64 : zS) (V65 : zH), S64 = zSn S56 r61 (9, 4) → V65 = zVn V58 r61 → ∃ m72 m73 : Nat, (0 + 1 + m15 + 1 + m34 + 1 + m53 + 1 + m72 ≤ mc ∧ 0 + 12 + m16 + 3 + m35 + 5 + m54 + 4 + m73 ≤ ms) ∧ SaV E 1 m72 m73 zm_X6_init [zrv r61] S64 V65 (fun S75 V71 => ((S75 a0).1 = 10) ∧ ∀ V77 : zH, V77 = zput V71 a0 3 r61 → (0 + 1 + m15 + 1 + m34 + 1 + m53 + 1 + m72 + 1 ≤ mc ∧ 0 + 12 + m16 + 3 + m35 + 5 + m54 + 4 + m73 + 36 ≤ ms) ∧ ∀ r80 : Int, 0 < r80 → ((S75 r80).1 = 0 ∧ ∀ q : Int, (S75 q).1 ≠ 0 → q < r80 ∧ (S75 (r80 - 1)).1 ≠ 0) → ∀ (S83 : zS) (V84 : zH), S83 = zSn S75 r80 (1, 36) → V84 = zVn V77 r80 → ∀ V89 : zH, V89 = zput V84 a0 4 r80 → (0 + 1 + m15 + 1 + m34 + 1 + m53 + 1 + m72 + 1 ≤ mc ∧ 0 + 12 + m16 + 3 + m35 + 5 + m54 + 4 + m73 + 36 ≤ ms) ∧ F S83 V89))))) :
    SaV E 2 mc ms zm_X7_init [zrv a0] S V F := by
  refine Sp.of (plainFor_of_name (by decide +kernel)) (Nat.le_of_ble_eq_true rfl) (fun hok X => ?_)
  have h := h
  show Zr E X (zRoom 2 mc ms) zm_X7_init (zQm E X (zaV F) mc ms) 0 0 0 [(0, zrv a0)] [] S V
  refine z_aload_n 0 dX7_init_0 rfl ?_
  obtain ⟨o1, h⟩ := h
  obtain ⟨o2, h⟩ := h
  refine z_objInit dX7_init_1 (zk_RX7_3 _ rfl) zw_oi1 zw_oi2 o2 (Nat.le_of_ble_eq_true rfl) (Nat.le_of_ble_eq_true rfl) (Nat.le_of_ble_eq_true rfl) ?_
  refine z_aload_n 0 dX7_init_4 rfl ?_
  obtain ⟨o3, h⟩ := h
  refine znw_3 dX7_init_5 (zn_RX7_9 _ rfl) o3 (fun r4 q5 f6 => ?_)
  refine z_nameS (fun S7 V8 e9 e10 => ?_)
  have h := h r4 q5 f6 S7 V8 e9 e10
  have o11 : (S7 a0).1 = 10 := zSn_k e9 o1 f6.1 (by decide)
  have o12 : (S7 r4).1 = 6 := zSn_r e9
  refine z_dup (zref_cat _) dX7_init_8 ?_
  obtain ⟨m15, m16, o17, h⟩ := h
  refine z_aI [] (zk_RX7_11 _ rfl) dX7_init_9 q5 rfl rfl (Nat.le_of_ble_eq_true rfl) (Nat.le_of_ble_eq_true rfl) (Nat.le_of_ble_eq_true rfl) o17.1 o17.2 h (fun S18 V14 h => ?_)
  obtain ⟨o19, h⟩ := h
  refine zpf_7_0 rfl rfl dX7_init_12 (zf_RX7_12 _ rfl) o19 ?_
  refine z_nameV (fun V20 e21 => ?_)
  have h := h V20 e21
  refine z_aload_n 0 dX7_init_15 rfl ?_
  obtain ⟨o22, h⟩ := h
  refine znw_0 dX7_init_16 (zn_RX7_16 _ rfl) o22 (fun r23 q24 f25 => ?_)
  refine z_nameS (fun S26 V27 e28 e29 => ?_)
  have h := h r23 q24 f25 S26 V27 e28 e29
  have o30 : (S26 a0).1 = 10 := zSn_k e28 o19 f25.1 (by decide)
  have o31 : (S26 r23).1 = 3 := zSn_r e28
  refine z_dup (zref_cat _) dX7_init_19 ?_
  obtain ⟨m34, m35, o36, h⟩ := h
  refine z_aI [] (zk_RX7_18 _ rfl) dX7_init_20 q24 rfl rfl (Nat.le_of_ble_eq_true rfl) (Nat.le_of_ble_eq_true rfl) (Nat.le_of_ble_eq_true rfl) o36.1 o36.2 h (fun S37 V33 h => ?_)
  obtain ⟨o38, h⟩ := h
  refine zpf_7_1 rfl rfl dX7_init_23 (zf_RX7_19 _ rfl) o38 ?_
  refine z_nameV (fun V39 e40 => ?_)
  have h := h V39 e40
  refine z_aload_n 0 dX7_init_26 rfl ?_
  obtain ⟨o41, h⟩ := h
  refine znw_2 dX7_init_27 (zn_RX7_23 _ rfl) o41 (fun r42 q43 f44 => ?_)
  refine z_nameS (fun S45 V46 e47 e48 => ?_)
  have h := h r42 q43 f44 S45 V46 e47 e48
  have o49 : (S45 a0).1 = 10 := zSn_k e47 o38 f44.1 (by decide)
  have o50 : (S45 r42).1 = 5 := zSn_r e47
  refine z_dup (zref_cat _) dX7_init_30 ?_
  obtain ⟨m53, m54, o55, h⟩ := h
  refine z_aI [] (zk_RX7_25 _ rfl) dX7_init_31 q43 rfl rfl (Nat.le_of_ble_eq_true rfl) (Nat.le_of_ble_eq_true rfl) (Nat.le_of_ble_eq_true rfl) o55.1 o55.2 h (fun S56 V52 h => ?_)
  obtain ⟨o57, h⟩ := h
  refine zpf_7_2 rfl rfl dX7_init_34 (zf_RX7_26 _ rfl) o57 ?_
  refine z_nameV (fun V58 e59 => ?_)
  have h := h V58 e59
  refine z_aload_n 0 dX7_init_37 rfl ?_
  obtain ⟨o60, h⟩ := h
  refine znw_6 dX7_init_38 (zn_RX7_30 _ rfl) o60 (fun r61 q62 f63 => ?_)
  refine z_nameS (fun S64 V65 e66 e67 => ?_)
  have h := h r61 q62 f63 S64 V65 e66 e67
  have o68 : (S64 a0).1 = 10 := zSn_k e66 o57 f63.1 (by decide)
  have o69 : (S64 r61).1 = 9 := zSn_r e66
  refine z_dup (zref_cat _) dX7_init_41 ?_
  obtain ⟨m72, m73, o74, h⟩ := h
  refine z_aI [] (zk_RX7_32 _ rfl) dX7_init_42 q62 rfl rfl (Nat.le_of_ble_eq_true rfl) (Nat.le_of_ble_eq_true rfl) (Nat.le_of_ble_eq_true rfl) o74.1 o74.2 h (fun S75 V71 h => ?_)
  obtain ⟨o76, h⟩ := h
  refine zpf_7_3 rfl rfl dX7_init_45 (zf_RX7_33 _ rfl) o76 ?_
  refine z_nameV (fun V77 e78 => ?_)
  have h := h V77 e78
  refine z_aload_n 0 dX7_init_48 rfl ?_
  refine z_bipush dX7_init_49 ⟨by decide, by decide⟩ (by decide) ?_
  obtain ⟨o79, h⟩ := h
  refine z_newi dX7_init_51 zw_arri (by decide) (by decide) o79.1 o79.2 (fun r80 q81 f82 => ?_)
  refine z_nameS (fun S83 V84 e85 e86 => ?_)
  have h := h r80 q81 f82 S83 V84 e85 e86
  have o87 : (S83 a0).1 = 10 := zSn_k e85 o76 f82.1 (by decide)
  have o88 : (S83 r80).1 = 1 := zSn_r e85
  refine zpf_7_4 rfl rfl dX7_init_53 (zf_RX7_37 _ rfl) o87 ?_
  refine z_nameV (fun V89 e90 => ?_)
  have h := h V89 e90
  obtain ⟨o91, h⟩ := h
  exact z_retaV dX7_init_56 rfl o91.1 o91.2 h
set_option maxRecDepth 100000 in
set_option maxHeartbeats 4000000 in
theorem en_X7_plate {E : zE} {F : Int → zH → Prop} {S : zS} {a0 a1 a2 a3 : Int} {V : zH}
    (h : z32 a1 → z32 a2 → z32 a3 → ((a1 < 1) → (F 0 V)) ∧ ((1 ≤ a1) → (((36 < a1) → (F 0 V)) ∧ ((a1 ≤ 36) → (((a2 < 2) → (F 0 V)) ∧ ((2 ≤ a2) → (((12 < a2) → (F 0 V)) ∧ ((a2 ≤ 12) → (((a3 < 1) → (F 0 V)) ∧ ((1 ≤ a3) → (((a3 ≤ a1) → (((S a0).1 = 10) ∧ ((S (V a0 0)).1 = 6) ∧ SpV E 1 zm_X3_makeNew [zrv (V a0 0), ziv a1, ziv a2, ziv a3] S V (fun V10 => SpV E 0 zm_X7_forgetActs [zrv a0] S V10 (fun V12 => F 1 V12)))) ∧ ((a1 < a3) → (F 0 V))))))))))))) :
    SpI E 2 zm_X7_plate [zrv a0, ziv a1, ziv a2, ziv a3] S V F := by
  refine Sp.of (plainFor_of_name (by decide +kernel)) (Nat.le_of_ble_eq_true rfl) (fun hok X => ?_)
  have h := h (hok _ (List.mem_cons_of_mem _ (List.mem_cons_self))) (hok _ (List.mem_cons_of_mem _ (List.mem_cons_of_mem _ (List.mem_cons_self)))) (hok _ (List.mem_cons_of_mem _ (List.mem_cons_of_mem _ (List.mem_cons_of_mem _ (List.mem_cons_self)))))
  show Zr E X (zRoom 2 0 0) zm_X7_plate (zQm E X (zpI S F) 0 0) 0 0 0 [(0, zrv a0), (1, ziv a1), (2, ziv a2), (3, ziv a3)] [] S V
  refine z_iload_n 1 dX7_plate_0 rfl ?_
  refine z_iconst dX7_plate_1 ⟨by decide, by decide⟩ ?_
  refine z_icmp_lt dX7_plate_2 (tgt := 32) (by decide) (fun c1 => ?_) (fun c1 => ?_)
  · have h := h.1 c1
    refine z_iconst dX7_plate_32 ⟨by decide, by decide⟩ ?_
    exact z_retZ dX7_plate_33 rfl (Or.inl rfl) h
  · have h := h.2 c1
    refine z_iload_n 1 dX7_plate_5 rfl ?_
    refine z_bipush dX7_plate_6 ⟨by decide, by decide⟩ (by decide) ?_
    refine z_icmp_gt dX7_plate_8 (tgt := 32) (by decide) (fun c2 => ?_) (fun c2 => ?_)
    · have h := h.1 c2
      refine z_iconst dX7_plate_32 ⟨by decide, by decide⟩ ?_
      exact z_retZ dX7_plate_33 rfl (Or.inl rfl) h
    · have h := h.2 c2
      refine z_iload_n 2 dX7_plate_11 rfl ?_
      refine z_iconst dX7_plate_12 ⟨by decide, by decide⟩ ?_
      refine z_icmp_lt dX7_plate_13 (tgt := 32) (by decide) (fun c3 => ?_) (fun c3 => ?_)
      · have h := h.1 c3
        refine z_iconst dX7_plate_32 ⟨by decide, by decide⟩ ?_
        exact z_retZ dX7_plate_33 rfl (Or.inl rfl) h
      · have h := h.2 c3
        refine z_iload_n 2 dX7_plate_16 rfl ?_
        refine z_bipush dX7_plate_17 ⟨by decide, by decide⟩ (by decide) ?_
        refine z_icmp_gt dX7_plate_19 (tgt := 32) (by decide) (fun c4 => ?_) (fun c4 => ?_)
        · have h := h.1 c4
          refine z_iconst dX7_plate_32 ⟨by decide, by decide⟩ ?_
          exact z_retZ dX7_plate_33 rfl (Or.inl rfl) h
        · have h := h.2 c4
          refine z_iload_n 3 dX7_plate_22 rfl ?_
          refine z_iconst dX7_plate_23 ⟨by decide, by decide⟩ ?_
          refine z_icmp_lt dX7_plate_24 (tgt := 32) (by decide) (fun c5 => ?_) (fun c5 => ?_)
          · have h := h.1 c5
            refine z_iconst dX7_plate_32 ⟨by decide, by decide⟩ ?_
            exact z_retZ dX7_plate_33 rfl (Or.inl rfl) h
          · have h := h.2 c5
            refine z_iload_n 3 dX7_plate_27 rfl ?_
            refine z_iload_n 1 dX7_plate_28 rfl ?_
            refine z_icmp_le dX7_plate_29 (tgt := 34) (by decide) (fun c6 => ?_) (fun c6 => ?_)
            · have h := h.1 c6
              refine z_aload_n 0 dX7_plate_34 rfl ?_
              obtain ⟨o7, h⟩ := h
              refine zgf_7_0 dX7_plate_35 (zf_RX7_12 _ rfl) o7 ?_
              refine z_iload_n 1 dX7_plate_38 rfl ?_
              refine z_iload_n 2 dX7_plate_39 rfl ?_
              refine z_iload_n 3 dX7_plate_40 rfl ?_
              obtain ⟨o8, h⟩ := h
              refine z_cVV [ziv a1, ziv a2, ziv a3] (zk_RX7_41 _ rfl) dX7_plate_41 o8 (by decide) rfl rfl (Nat.le_of_ble_eq_true rfl) (Nat.le_of_ble_eq_true rfl) (Nat.le_of_ble_eq_true rfl) (Nat.le_of_ble_eq_true rfl) (Nat.le_of_ble_eq_true rfl) h (fun V10 h => ?_)
              refine z_aload_n 0 dX7_plate_44 rfl ?_
              refine z_cVV [] (zk_RX7_45 _ rfl) dX7_plate_45 o7 (by decide) rfl rfl (Nat.le_of_ble_eq_true rfl) (Nat.le_of_ble_eq_true rfl) (Nat.le_of_ble_eq_true rfl) (Nat.le_of_ble_eq_true rfl) (Nat.le_of_ble_eq_true rfl) h (fun V12 h => ?_)
              refine z_iconst dX7_plate_48 ⟨by decide, by decide⟩ ?_
              exact z_retZ dX7_plate_49 rfl (Or.inr rfl) h
            · have h := h.2 c6
              refine z_iconst dX7_plate_32 ⟨by decide, by decide⟩ ?_
              exact z_retZ dX7_plate_33 rfl (Or.inl rfl) h
set_option maxRecDepth 100000 in
set_option maxHeartbeats 4000000 in
theorem en_X7_button {E : zE} {F : Int → zH → Prop} {S : zS} {a0 a1 a2 a3 a4 : Int} {V : zH}
    (h : z32 a1 → z32 a2 → z32 a3 → z32 a4 → ((S a0).1 = 10) ∧ ((S (V a0 0)).1 = 6) ∧ ((36 ≤ V (V a0 0) 3) → (F (-1) V)) ∧ ((V (V a0 0) 3 < 36) → (SpF E 1 zm_X3_takesButton [zrv (V a0 0), ziv a1, ziv a2, ziv a3, ziv a4] S V (fun x4 => ((x4 ≠ 0) → (SpV E 2 zm_X7_beginAct [zrv a0, ziv 0, ziv 0] S V (fun V8 => ((S (V8 a0 0)).1 = 6) ∧ SpI E 0 zm_X3_addButton [zrv (V8 a0 0), ziv a1, ziv a2, ziv a3, ziv a4] S V8 (fun x10 V11 => F x10 V11)))) ∧ ((x4 = 0) → (F (-1) V)))))) :
    SpI E 3 zm_X7_button [zrv a0, ziv a1, ziv a2, ziv a3, ziv a4] S V F := by
  refine Sp.of (plainFor_of_name (by decide +kernel)) (Nat.le_of_ble_eq_true rfl) (fun hok X => ?_)
  have h := h (hok _ (List.mem_cons_of_mem _ (List.mem_cons_self))) (hok _ (List.mem_cons_of_mem _ (List.mem_cons_of_mem _ (List.mem_cons_self)))) (hok _ (List.mem_cons_of_mem _ (List.mem_cons_of_mem _ (List.mem_cons_of_mem _ (List.mem_cons_self))))) (hok _ (List.mem_cons_of_mem _ (List.mem_cons_of_mem _ (List.mem_cons_of_mem _ (List.mem_cons_of_mem _ (List.mem_cons_self))))))
  show Zr E X (zRoom 3 0 0) zm_X7_button (zQm E X (zpI S F) 0 0) 0 0 0 [(0, zrv a0), (1, ziv a1), (2, ziv a2), (3, ziv a3), (4, ziv a4)] [] S V
  refine z_aload_n 0 dX7_button_0 rfl ?_
  obtain ⟨o1, h⟩ := h
  refine zgf_7_0 dX7_button_1 (zf_RX7_12 _ rfl) o1 ?_
  obtain ⟨o2, h⟩ := h
  refine zgf_3_3 dX7_button_4 (zf_RX7_48 _ rfl) o2 ?_
  refine z_bipush dX7_button_7 ⟨by decide, by decide⟩ (by decide) ?_
  refine z_icmp_ge dX7_button_9 (tgt := 27) (by decide) (fun c3 => ?_) (fun c3 => ?_)
  · have h := h.1 c3
    refine z_iconst dX7_button_27 ⟨by decide, by decide⟩ ?_
    exact z_retI dX7_button_28 rfl h
  · have h := h.2 c3
    refine z_aload_n 0 dX7_button_12 rfl ?_
    refine zgf_7_0 dX7_button_13 (zf_RX7_12 _ rfl) o1 ?_
    refine z_iload_n 1 dX7_button_16 rfl ?_
    refine z_iload_n 2 dX7_button_17 rfl ?_
    refine z_iload_n 3 dX7_button_18 rfl ?_
    refine z_iload 4 dX7_button_19 rfl ?_
    refine z_cVF [ziv a1, ziv a2, ziv a3, ziv a4] (zk_RX7_52 _ rfl) dX7_button_21 o2 (by decide) rfl rfl (Nat.le_of_ble_eq_true rfl) (Nat.le_of_ble_eq_true rfl) (Nat.le_of_ble_eq_true rfl) (Nat.le_of_ble_eq_true rfl) (Nat.le_of_ble_eq_true rfl) h (fun x4 h => ?_)
    refine z_if_ne dX7_button_24 (tgt := 29) (by decide) (fun c6 => ?_) (fun c6 => ?_)
    · have h := h.1 c6
      refine z_aload_n 0 dX7_button_29 rfl ?_
      refine z_iconst dX7_button_30 ⟨by decide, by decide⟩ ?_
      refine z_iconst dX7_button_31 ⟨by decide, by decide⟩ ?_
      refine z_cVV [ziv 0, ziv 0] (zk_RX7_56 _ rfl) dX7_button_32 o1 (by decide) rfl rfl (Nat.le_of_ble_eq_true rfl) (Nat.le_of_ble_eq_true rfl) (Nat.le_of_ble_eq_true rfl) (Nat.le_of_ble_eq_true rfl) (Nat.le_of_ble_eq_true rfl) h (fun V8 h => ?_)
      refine z_aload_n 0 dX7_button_35 rfl ?_
      refine zgf_7_0 dX7_button_36 (zf_RX7_12 _ rfl) o1 ?_
      refine z_iload_n 1 dX7_button_39 rfl ?_
      refine z_iload_n 2 dX7_button_40 rfl ?_
      refine z_iload_n 3 dX7_button_41 rfl ?_
      refine z_iload 4 dX7_button_42 rfl ?_
      obtain ⟨o9, h⟩ := h
      refine z_cVI [ziv a1, ziv a2, ziv a3, ziv a4] (zk_RX7_60 _ rfl) dX7_button_44 o9 (by decide) rfl rfl (Nat.le_of_ble_eq_true rfl) (Nat.le_of_ble_eq_true rfl) (Nat.le_of_ble_eq_true rfl) (Nat.le_of_ble_eq_true rfl) (Nat.le_of_ble_eq_true rfl) h (fun x10 V11 h => ?_)
      exact z_retI dX7_button_47 rfl h
    · have h := h.2 c6
      refine z_iconst dX7_button_27 ⟨by decide, by decide⟩ ?_
      exact z_retI dX7_button_28 rfl h
set_option maxRecDepth 100000 in
set_option maxHeartbeats 4000000 in
theorem en_X7_board {E : zE} {F : Int → zH → Prop} {S : zS} {a0 a1 a2 : Int} {V : zH}
    (h : z32 a1 → z32 a2 → ((a1 ≠ 4) → (((a1 < 0) → (F 0 V)) ∧ ((0 ≤ a1) → (((3 < a1) → (F 0 V)) ∧ ((a1 ≤ 3) → (((a2 < 0) → (F 0 V)) ∧ ((0 ≤ a2) → (((a2 ≤ 80) → (((S a0).1 = 10) ∧ ((S (V a0 1)).1 = 3) ∧ SpV E 1 zm_X0_lay [zrv (V a0 1), ziv a1, ziv a2] S V (fun V9 => F 1 V9))) ∧ ((80 < a2) → (F 0 V)))))))))) ∧ ((a1 = 4) → (((S a0).1 = 10) ∧ ((S (V a0 1)).1 = 3) ∧ SpV E 1 zm_X0_lay [zrv (V a0 1), ziv a1, ziv 0] S V (fun V13 => F 1 V13)))) :
    SpI E 2 zm_X7_board [zrv a0, ziv a1, ziv a2] S V F := by
  refine Sp.of (plainFor_of_name (by decide +kernel)) (Nat.le_of_ble_eq_true rfl) (fun hok X => ?_)
  have h := h (hok _ (List.mem_cons_of_mem _ (List.mem_cons_self))) (hok _ (List.mem_cons_of_mem _ (List.mem_cons_of_mem _ (List.mem_cons_self))))
  show Zr E X (zRoom 2 0 0) zm_X7_board (zQm E X (zpI S F) 0 0) 0 0 0 [(0, zrv a0), (1, ziv a1), (2, ziv a2)] [] S V
  refine z_iload_n 1 dX7_board_0 rfl ?_
  refine z_iconst dX7_board_1 ⟨by decide, by decide⟩ ?_
  refine z_icmp_ne dX7_board_2 (tgt := 16) (by decide) (fun c1 => ?_) (fun c1 => ?_)
  · have h := h.1 c1
    refine z_iload_n 1 dX7_board_16 rfl ?_
    refine z_if_lt dX7_board_17 (tgt := 35) (by decide) (fun c2 => ?_) (fun c2 => ?_)
    · have h := h.1 c2
      refine z_iconst dX7_board_35 ⟨by decide, by decide⟩ ?_
      exact z_retZ dX7_board_36 rfl (Or.inl rfl) h
    · have h := h.2 c2
      refine z_iload_n 1 dX7_board_20 rfl ?_
      refine z_iconst dX7_board_21 ⟨by decide, by decide⟩ ?_
      refine z_icmp_gt dX7_board_22 (tgt := 35) (by decide) (fun c3 => ?_) (fun c3 => ?_)
      · have h := h.1 c3
        refine z_iconst dX7_board_35 ⟨by decide, by decide⟩ ?_
        exact z_retZ dX7_board_36 rfl (Or.inl rfl) h
      · have h := h.2 c3
        refine z_iload_n 2 dX7_board_25 rfl ?_
        refine z_if_lt dX7_board_26 (tgt := 35) (by decide) (fun c4 => ?_) (fun c4 => ?_)
        · have h := h.1 c4
          refine z_iconst dX7_board_35 ⟨by decide, by decide⟩ ?_
          exact z_retZ dX7_board_36 rfl (Or.inl rfl) h
        · have h := h.2 c4
          refine z_iload_n 2 dX7_board_29 rfl ?_
          refine z_bipush dX7_board_30 ⟨by decide, by decide⟩ (by decide) ?_
          refine z_icmp_le dX7_board_32 (tgt := 37) (by decide) (fun c5 => ?_) (fun c5 => ?_)
          · have h := h.1 c5
            refine z_aload_n 0 dX7_board_37 rfl ?_
            obtain ⟨o6, h⟩ := h
            refine zgf_7_1 dX7_board_38 (zf_RX7_19 _ rfl) o6 ?_
            refine z_iload_n 1 dX7_board_41 rfl ?_
            refine z_iload_n 2 dX7_board_42 rfl ?_
            obtain ⟨o7, h⟩ := h
            refine z_cVV [ziv a1, ziv a2] (zk_RX7_64 _ rfl) dX7_board_43 o7 (by decide) rfl rfl (Nat.le_of_ble_eq_true rfl) (Nat.le_of_ble_eq_true rfl) (Nat.le_of_ble_eq_true rfl) (Nat.le_of_ble_eq_true rfl) (Nat.le_of_ble_eq_true rfl) h (fun V9 h => ?_)
            refine z_iconst dX7_board_46 ⟨by decide, by decide⟩ ?_
            exact z_retZ dX7_board_47 rfl (Or.inr rfl) h
          · have h := h.2 c5
            refine z_iconst dX7_board_35 ⟨by decide, by decide⟩ ?_
            exact z_retZ dX7_board_36 rfl (Or.inl rfl) h
  · have h := h.2 c1
    refine z_aload_n 0 dX7_board_5 rfl ?_
    obtain ⟨o10, h⟩ := h
    refine zgf_7_1 dX7_board_6 (zf_RX7_19 _ rfl) o10 ?_
    refine z_iload_n 1 dX7_board_9 rfl ?_
    refine z_iconst dX7_board_10 ⟨by decide, by decide⟩ ?_
    obtain ⟨o11, h⟩ := h
    refine z_cVV [ziv a1, ziv 0] (zk_RX7_64 _ rfl) dX7_board_11 o11 (by decide) rfl rfl (Nat.le_of_ble_eq_true rfl) (Nat.le_of_ble_eq_true rfl) (Nat.le_of_ble_eq_true rfl) (Nat.le_of_ble_eq_true rfl) (Nat.le_of_ble_eq_true rfl) h (fun V13 h => ?_)
    refine z_iconst dX7_board_14 ⟨by decide, by decide⟩ ?_
    exact z_retZ dX7_board_15 rfl (Or.inr rfl) h
set_option maxRecDepth 100000 in
set_option maxHeartbeats 4000000 in
theorem en_X7_entry {E : zE} {F : Int → zH → Prop} {S : zS} {a0 a1 a2 : Int} {V : zH}
    (h : z32 a1 → z64 a2 → ((a1 < 0) → (F 0 V)) ∧ ((0 ≤ a1) → (((S a0).1 = 10) ∧ ((S (V a0 1)).1 = 3) ∧ ((a1 < V (V a0 1) 1) → (SpV E 0 zm_X0_write [zrv (V a0 1), ziv a1, zjv a2] S V (fun V6 => F 1 V6))) ∧ ((V (V a0 1) 1 ≤ a1) → (F 0 V))))) :
    SpI E 1 zm_X7_entry [zrv a0, ziv a1, zjv a2] S V F := by
  refine Sp.of (plainFor_of_name (by decide +kernel)) (Nat.le_of_ble_eq_true rfl) (fun hok X => ?_)
  have h := h (hok _ (List.mem_cons_of_mem _ (List.mem_cons_self))) (hok _ (List.mem_cons_of_mem _ (List.mem_cons_of_mem _ (List.mem_cons_self))))
  show Zr E X (zRoom 1 0 0) zm_X7_entry (zQm E X (zpI S F) 0 0) 0 0 0 [(0, zrv a0), (1, ziv a1), (2, zjv a2)] [] S V
  refine z_iload_n 1 dX7_entry_0 rfl ?_
  refine z_if_lt dX7_entry_1 (tgt := 15) (by decide) (fun c1 => ?_) (fun c1 => ?_)
  · have h := h.1 c1
    refine z_iconst dX7_entry_15 ⟨by decide, by decide⟩ ?_
    exact z_retZ dX7_entry_16 rfl (Or.inl rfl) h
  · have h := h.2 c1
    refine z_iload_n 1 dX7_entry_4 rfl ?_
    refine z_aload_n 0 dX7_entry_5 rfl ?_
    obtain ⟨o2, h⟩ := h
    refine zgf_7_1 dX7_entry_6 (zf_RX7_19 _ rfl) o2 ?_
    obtain ⟨o3, h⟩ := h
    refine zgf_0_1 dX7_entry_9 (zf_RX7_67 _ rfl) o3 ?_
    refine z_icmp_lt dX7_entry_12 (tgt := 17) (by decide) (fun c4 => ?_) (fun c4 => ?_)
    · have h := h.1 c4
      refine z_aload_n 0 dX7_entry_17 rfl ?_
      refine zgf_7_1 dX7_entry_18 (zf_RX7_19 _ rfl) o2 ?_
      refine z_iload_n 1 dX7_entry_21 rfl ?_
      refine z_lload_n 2 dX7_entry_22 rfl ?_
      refine z_cVV [ziv a1, zjv a2] (zk_RX7_70 _ rfl) dX7_entry_23 o3 (by decide) rfl rfl (Nat.le_of_ble_eq_true rfl) (Nat.le_of_ble_eq_true rfl) (Nat.le_of_ble_eq_true rfl) (Nat.le_of_ble_eq_true rfl) (Nat.le_of_ble_eq_true rfl) h (fun V6 h => ?_)
      refine z_iconst dX7_entry_26 ⟨by decide, by decide⟩ ?_
      exact z_retZ dX7_entry_27 rfl (Or.inr rfl) h
    · have h := h.2 c4
      refine z_iconst dX7_entry_15 ⟨by decide, by decide⟩ ?_
      exact z_retZ dX7_entry_16 rfl (Or.inl rfl) h
set_option maxRecDepth 100000 in
set_option maxHeartbeats 4000000 in
theorem en_X7_wire {E : zE} {F : Int → zH → Prop} {S : zS} {a0 a1 : Int} {V : zH}
    (h : z32 a1 → ((S a0).1 = 10) ∧ ((S (V a0 1)).1 = 3) ∧ ((V (V a0 1) 0 = (-1)) → (F (-1) V)) ∧ ((V (V a0 1) 0 ≠ (-1)) → (((S (V a0 0)).1 = 6) ∧ SpF E 0 zm_X3_hasButton [zrv (V a0 0), ziv a1] S V (fun x5 => ((x5 = 0) → (F (-1) V)) ∧ ((x5 ≠ 0) → (((S (V (V a0 0) 6)).1 = 1) ∧ ((0 : Int) ≤ a1 ∧ a1 < (S (V (V a0 0) 6)).2) ∧ ((V (V (V a0 0) 6) a1 = 0) → (SpV E 2 zm_X7_beginAct [zrv a0, ziv 1, ziv a1] S V (fun V12 => ((S (V12 a0 0)).1 = 6) ∧ SpI E 2 zm_X3_wireTo [zrv (V12 a0 0), ziv a1, zrv (V12 a0 1)] S V12 (fun x14 V15 => ((S (V15 a0 1)).1 = 3) ∧ SpV E 1 zm_X0_lay [zrv (V15 a0 1), ziv (-1), ziv 0] S V15 (fun V18 => F x14 V18))))) ∧ ((V (V (V a0 0) 6) a1 ≠ 0) → (F (-1) V)))))))) :
    SpI E 3 zm_X7_wire [zrv a0, ziv a1] S V F := by
  refine Sp.of (plainFor_of_name (by decide +kernel)) (Nat.le_of_ble_eq_true rfl) (fun hok X => ?_)
  have h := h (hok _ (List.mem_cons_of_mem _ (List.mem_cons_self)))
  show Zr E X (zRoom 3 0 0) zm_X7_wire (zQm E X (zpI S F) 0 0) 0 0 0 [(0, zrv a0), (1, ziv a1)] [] S V
  refine z_aload_n 0 dX7_wire_0 rfl ?_
  obtain ⟨o1, h⟩ := h
  refine zgf_7_1 dX7_wire_1 (zf_RX7_19 _ rfl) o1 ?_
  obtain ⟨o2, h⟩ := h
  refine zgf_0_0 dX7_wire_4 (zf_RX7_74 _ rfl) o2 ?_
  refine z_iconst dX7_wire_7 ⟨by decide, by decide⟩ ?_
  refine z_icmp_eq dX7_wire_8 (tgt := 34) (by decide) (fun c3 => ?_) (fun c3 => ?_)
  · have h := h.1 c3
    refine z_iconst dX7_wire_34 ⟨by decide, by decide⟩ ?_
    exact z_retI dX7_wire_35 rfl h
  · have h := h.2 c3
    refine z_aload_n 0 dX7_wire_11 rfl ?_
    refine zgf_7_0 dX7_wire_12 (zf_RX7_12 _ rfl) o1 ?_
    refine z_iload_n 1 dX7_wire_15 rfl ?_
    obtain ⟨o4, h⟩ := h
    refine z_cVF [ziv a1] (zk_RX7_77 _ rfl) dX7_wire_16 o4 (by decide) rfl rfl (Nat.le_of_ble_eq_true rfl) (Nat.le_of_ble_eq_true rfl) (Nat.le_of_ble_eq_true rfl) (Nat.le_of_ble_eq_true rfl) (Nat.le_of_ble_eq_true rfl) h (fun x5 h => ?_)
    refine z_if_eq dX7_wire_19 (tgt := 34) (by decide) (fun c7 => ?_) (fun c7 => ?_)
    · have h := h.1 c7
      refine z_iconst dX7_wire_34 ⟨by decide, by decide⟩ ?_
      exact z_retI dX7_wire_35 rfl h
    · have h := h.2 c7
      refine z_aload_n 0 dX7_wire_22 rfl ?_
      refine zgf_7_0 dX7_wire_23 (zf_RX7_12 _ rfl) o1 ?_
      refine zgf_3_6 dX7_wire_26 (zf_RX7_81 _ rfl) o4 ?_
      refine z_iload_n 1 dX7_wire_29 rfl ?_
      obtain ⟨o8, h⟩ := h
      obtain ⟨o9, h⟩ := h
      refine z_iald dX7_wire_30 o8 o9 ?_
      refine z_if_eq dX7_wire_31 (tgt := 36) (by decide) (fun c10 => ?_) (fun c10 => ?_)
      · have h := h.1 c10
        refine z_aload_n 0 dX7_wire_36 rfl ?_
        refine z_iconst dX7_wire_37 ⟨by decide, by decide⟩ ?_
        refine z_iload_n 1 dX7_wire_38 rfl ?_
        refine z_cVV [ziv 1, ziv a1] (zk_RX7_56 _ rfl) dX7_wire_39 o1 (by decide) rfl rfl (Nat.le_of_ble_eq_true rfl) (Nat.le_of_ble_eq_true rfl) (Nat.le_of_ble_eq_true rfl) (Nat.le_of_ble_eq_true rfl) (Nat.le_of_ble_eq_true rfl) h (fun V12 h => ?_)
        refine z_aload_n 0 dX7_wire_42 rfl ?_
        refine zgf_7_0 dX7_wire_43 (zf_RX7_12 _ rfl) o1 ?_
        refine z_iload_n 1 dX7_wire_46 rfl ?_
        refine z_aload_n 0 dX7_wire_47 rfl ?_
        refine zgf_7_1 dX7_wire_48 (zf_RX7_19 _ rfl) o1 ?_
        obtain ⟨o13, h⟩ := h
        refine z_cVI [ziv a1, zrv (V12 a0 1)] (zk_RX7_83 _ rfl) dX7_wire_51 o13 (by decide) rfl rfl (Nat.le_of_ble_eq_true rfl) (Nat.le_of_ble_eq_true rfl) (Nat.le_of_ble_eq_true rfl) (Nat.le_of_ble_eq_true rfl) (Nat.le_of_ble_eq_true rfl) h (fun x14 V15 h => ?_)
        refine z_istore_n dX7_wire_54 (by decide) (L' := [(0, zrv a0), (1, ziv a1), (2, ziv x14)]) [1, 2, 0] rfl ?_
        refine z_aload_n 0 dX7_wire_55 rfl ?_
        refine zgf_7_1 dX7_wire_56 (zf_RX7_19 _ rfl) o1 ?_
        refine z_iconst dX7_wire_59 ⟨by decide, by decide⟩ ?_
        refine z_iconst dX7_wire_60 ⟨by decide, by decide⟩ ?_
        obtain ⟨o16, h⟩ := h
        refine z_cVV [ziv (-1), ziv 0] (zk_RX7_64 _ rfl) dX7_wire_61 o16 (by decide) rfl rfl (Nat.le_of_ble_eq_true rfl) (Nat.le_of_ble_eq_true rfl) (Nat.le_of_ble_eq_true rfl) (Nat.le_of_ble_eq_true rfl) (Nat.le_of_ble_eq_true rfl) h (fun V18 h => ?_)
        refine z_iload_n 2 dX7_wire_64 rfl ?_
        exact z_retI dX7_wire_65 rfl h
      · have h := h.2 c10
        refine z_iconst dX7_wire_34 ⟨by decide, by decide⟩ ?_
        exact z_retI dX7_wire_35 rfl h
set_option maxRecDepth 100000 in
set_option maxHeartbeats 4000000 in
theorem en_X7_cost {E : zE} {F : Int → zH → Prop} {S : zS} {a0 a1 a2 : Int} {V : zH}
    (h : z32 a1 → z32 a2 → ((S a0).1 = 10) ∧ ((S (V a0 0)).1 = 6) ∧ SpF E 0 zm_X3_hasButton [zrv (V a0 0), ziv a1] S V (fun x3 => ((x3 = 0) → (F (-1) V)) ∧ ((x3 ≠ 0) → (((a2 < 0) → (F (-1) V)) ∧ ((0 ≤ a2) → (((a2 ≤ 1000) → (SpV E 2 zm_X7_beginAct [zrv a0, ziv 2, ziv a1] S V (fun V9 => ((S (V9 a0 0)).1 = 6) ∧ ((S (V9 (V9 a0 0) 10)).1 = 1) ∧ ((0 : Int) ≤ a1 ∧ a1 < (S (V9 (V9 a0 0) 10)).2) ∧ ∀ x13 : Int, x13 = V9 (V9 (V9 a0 0) 10) a1 → ∀ V15 : zH, V15 = zput V9 (V9 (V9 a0 0) 10) a1 a2 → F x13 V15))) ∧ ((1000 < a2) → (F (-1) V)))))))) :
    SpI E 3 zm_X7_cost [zrv a0, ziv a1, ziv a2] S V F := by
  refine Sp.of (plainFor_of_name (by decide +kernel)) (Nat.le_of_ble_eq_true rfl) (fun hok X => ?_)
  have h := h (hok _ (List.mem_cons_of_mem _ (List.mem_cons_self))) (hok _ (List.mem_cons_of_mem _ (List.mem_cons_of_mem _ (List.mem_cons_self))))
  show Zr E X (zRoom 3 0 0) zm_X7_cost (zQm E X (zpI S F) 0 0) 0 0 0 [(0, zrv a0), (1, ziv a1), (2, ziv a2)] [] S V
  refine z_aload_n 0 dX7_cost_0 rfl ?_
  obtain ⟨o1, h⟩ := h
  refine zgf_7_0 dX7_cost_1 (zf_RX7_12 _ rfl) o1 ?_
  refine z_iload_n 1 dX7_cost_4 rfl ?_
  obtain ⟨o2, h⟩ := h
  refine z_cVF [ziv a1] (zk_RX7_77 _ rfl) dX7_cost_5 o2 (by decide) rfl rfl (Nat.le_of_ble_eq_true rfl) (Nat.le_of_ble_eq_true rfl) (Nat.le_of_ble_eq_true rfl) (Nat.le_of_ble_eq_true rfl) (Nat.le_of_ble_eq_true rfl) h (fun x3 h => ?_)
  refine z_if_eq dX7_cost_8 (tgt := 22) (by decide) (fun c5 => ?_) (fun c5 => ?_)
  · have h := h.1 c5
    refine z_iconst dX7_cost_22 ⟨by decide, by decide⟩ ?_
    exact z_retI dX7_cost_23 rfl h
  · have h := h.2 c5
    refine z_iload_n 2 dX7_cost_11 rfl ?_
    refine z_if_lt dX7_cost_12 (tgt := 22) (by decide) (fun c6 => ?_) (fun c6 => ?_)
    · have h := h.1 c6
      refine z_iconst dX7_cost_22 ⟨by decide, by decide⟩ ?_
      exact z_retI dX7_cost_23 rfl h
    · have h := h.2 c6
      refine z_iload_n 2 dX7_cost_15 rfl ?_
      refine z_sipush dX7_cost_16 ⟨by decide, by decide⟩ (by decide) ?_
      refine z_icmp_le dX7_cost_19 (tgt := 24) (by decide) (fun c7 => ?_) (fun c7 => ?_)
      · have h := h.1 c7
        refine z_aload_n 0 dX7_cost_24 rfl ?_
        refine z_iconst dX7_cost_25 ⟨by decide, by decide⟩ ?_
        refine z_iload_n 1 dX7_cost_26 rfl ?_
        refine z_cVV [ziv 2, ziv a1] (zk_RX7_56 _ rfl) dX7_cost_27 o1 (by decide) rfl rfl (Nat.le_of_ble_eq_true rfl) (Nat.le_of_ble_eq_true rfl) (Nat.le_of_ble_eq_true rfl) (Nat.le_of_ble_eq_true rfl) (Nat.le_of_ble_eq_true rfl) h (fun V9 h => ?_)
        refine z_aload_n 0 dX7_cost_30 rfl ?_
        refine zgf_7_0 dX7_cost_31 (zf_RX7_12 _ rfl) o1 ?_
        obtain ⟨o10, h⟩ := h
        refine zgf_3_10 dX7_cost_34 (zf_RX7_87 _ rfl) o10 ?_
        refine z_iload_n 1 dX7_cost_37 rfl ?_
        obtain ⟨o11, h⟩ := h
        obtain ⟨o12, h⟩ := h
        refine z_iald dX7_cost_38 o11 o12 ?_
        refine z_nameI (fun x13 e14 => ?_)
        have h := h x13 e14
        refine z_istore_n dX7_cost_39 (by decide) (L' := [(0, zrv a0), (1, ziv a1), (2, ziv a2), (3, ziv x13)]) [1, 2, 3, 0] rfl ?_
        refine z_aload_n 0 dX7_cost_40 rfl ?_
        refine zgf_7_0 dX7_cost_41 (zf_RX7_12 _ rfl) o1 ?_
        refine zgf_3_10 dX7_cost_44 (zf_RX7_87 _ rfl) o10 ?_
        refine z_iload_n 1 dX7_cost_47 rfl ?_
        refine z_iload_n 2 dX7_cost_48 rfl ?_
        refine z_iast dX7_cost_49 o11 o12 ?_
        refine z_nameV (fun V15 e16 => ?_)
        have h := h V15 e16
        refine z_iload_n 3 dX7_cost_50 rfl ?_
        exact z_retI dX7_cost_51 rfl h
      · have h := h.2 c7
        refine z_iconst dX7_cost_22 ⟨by decide, by decide⟩ ?_
        exact z_retI dX7_cost_23 rfl h
set_option maxRecDepth 100000 in
set_option maxHeartbeats 4000000 in
theorem en_X7_light {E : zE} {F : Int → zH → Prop} {S : zS} {a0 a1 a2 : Int} {V : zH}
    (h : z32 a1 → z32 a2 → ((S a0).1 = 10) ∧ ((S (V a0 0)).1 = 6) ∧ SpF E 0 zm_X3_hasLamp [zrv (V a0 0), ziv a1] S V (fun x3 => ((x3 = 0) → (F (-1) V)) ∧ ((x3 ≠ 0) → (((a2 < 0) → (F (-1) V)) ∧ ((0 ≤ a2) → (((a2 < V (V a0 0) 1) → (SpV E 2 zm_X7_beginAct [zrv a0, ziv 3, ziv 0] S V (fun V9 => ((S (V9 a0 0)).1 = 6) ∧ ((S (V9 (V9 a0 0) 5)).1 = 1) ∧ ((0 : Int) ≤ a1 ∧ a1 < (S (V9 (V9 a0 0) 5)).2) ∧ ∀ x13 : Int, x13 = V9 (V9 (V9 a0 0) 5) a1 → ∀ V15 : zH, V15 = zput V9 (V9 (V9 a0 0) 5) a1 a2 → F x13 V15))) ∧ ((V (V a0 0) 1 ≤ a2) → (F (-1) V)))))))) :
    SpI E 3 zm_X7_light [zrv a0, ziv a1, ziv a2] S V F := by
  refine Sp.of (plainFor_of_name (by decide +kernel)) (Nat.le_of_ble_eq_true rfl) (fun hok X => ?_)
  have h := h (hok _ (List.mem_cons_of_mem _ (List.mem_cons_self))) (hok _ (List.mem_cons_of_mem _ (List.mem_cons_of_mem _ (List.mem_cons_self))))
  show Zr E X (zRoom 3 0 0) zm_X7_light (zQm E X (zpI S F) 0 0) 0 0 0 [(0, zrv a0), (1, ziv a1), (2, ziv a2)] [] S V
  refine z_aload_n 0 dX7_light_0 rfl ?_
  obtain ⟨o1, h⟩ := h
  refine zgf_7_0 dX7_light_1 (zf_RX7_12 _ rfl) o1 ?_
  refine z_iload_n 1 dX7_light_4 rfl ?_
  obtain ⟨o2, h⟩ := h
  refine z_cVF [ziv a1] (zk_RX7_90 _ rfl) dX7_light_5 o2 (by decide) rfl rfl (Nat.le_of_ble_eq_true rfl) (Nat.le_of_ble_eq_true rfl) (Nat.le_of_ble_eq_true rfl) (Nat.le_of_ble_eq_true rfl) (Nat.le_of_ble_eq_true rfl) h (fun x3 h => ?_)
  refine z_if_eq dX7_light_8 (tgt := 26) (by decide) (fun c5 => ?_) (fun c5 => ?_)
  · have h := h.1 c5
    refine z_iconst dX7_light_26 ⟨by decide, by decide⟩ ?_
    exact z_retI dX7_light_27 rfl h
  · have h := h.2 c5
    refine z_iload_n 2 dX7_light_11 rfl ?_
    refine z_if_lt dX7_light_12 (tgt := 26) (by decide) (fun c6 => ?_) (fun c6 => ?_)
    · have h := h.1 c6
      refine z_iconst dX7_light_26 ⟨by decide, by decide⟩ ?_
      exact z_retI dX7_light_27 rfl h
    · have h := h.2 c6
      refine z_iload_n 2 dX7_light_15 rfl ?_
      refine z_aload_n 0 dX7_light_16 rfl ?_
      refine zgf_7_0 dX7_light_17 (zf_RX7_12 _ rfl) o1 ?_
      refine zgf_3_1 dX7_light_20 (zf_RX7_93 _ rfl) o2 ?_
      refine z_icmp_lt dX7_light_23 (tgt := 28) (by decide) (fun c7 => ?_) (fun c7 => ?_)
      · have h := h.1 c7
        refine z_aload_n 0 dX7_light_28 rfl ?_
        refine z_iconst dX7_light_29 ⟨by decide, by decide⟩ ?_
        refine z_iconst dX7_light_30 ⟨by decide, by decide⟩ ?_
        refine z_cVV [ziv 3, ziv 0] (zk_RX7_56 _ rfl) dX7_light_31 o1 (by decide) rfl rfl (Nat.le_of_ble_eq_true rfl) (Nat.le_of_ble_eq_true rfl) (Nat.le_of_ble_eq_true rfl) (Nat.le_of_ble_eq_true rfl) (Nat.le_of_ble_eq_true rfl) h (fun V9 h => ?_)
        refine z_aload_n 0 dX7_light_34 rfl ?_
        refine zgf_7_0 dX7_light_35 (zf_RX7_12 _ rfl) o1 ?_
        obtain ⟨o10, h⟩ := h
        refine zgf_3_5 dX7_light_38 (zf_RX7_96 _ rfl) o10 ?_
        refine z_iload_n 1 dX7_light_41 rfl ?_
        obtain ⟨o11, h⟩ := h
        obtain ⟨o12, h⟩ := h
        refine z_iald dX7_light_42 o11 o12 ?_
        refine z_nameI (fun x13 e14 => ?_)
        have h := h x13 e14
        refine z_istore_n dX7_light_43 (by decide) (L' := [(0, zrv a0), (1, ziv a1), (2, ziv a2), (3, ziv x13)]) [1, 2, 3, 0] rfl ?_
        refine z_aload_n 0 dX7_light_44 rfl ?_
        refine zgf_7_0 dX7_light_45 (zf_RX7_12 _ rfl) o1 ?_
        refine zgf_3_5 dX7_light_48 (zf_RX7_96 _ rfl) o10 ?_
        refine z_iload_n 1 dX7_light_51 rfl ?_
        refine z_iload_n 2 dX7_light_52 rfl ?_
        refine z_iast dX7_light_53 o11 o12 ?_
        refine z_nameV (fun V15 e16 => ?_)
        have h := h V15 e16
        refine z_iload_n 3 dX7_light_54 rfl ?_
        exact z_retI dX7_light_55 rfl h
      · have h := h.2 c7
        refine z_iconst dX7_light_26 ⟨by decide, by decide⟩ ?_
        exact z_retI dX7_light_27 rfl h
set_option maxRecDepth 100000 in
set_option maxHeartbeats 4000000 in
theorem en_X7_push {E : zE} {F : Int → zH → Prop} {S : zS} {a0 a1 a2 : Int} {V : zH}
    (h : z32 a1 → z32 a2 → ((S a0).1 = 10) ∧ ((S (V a0 0)).1 = 6) ∧ SpF E 0 zm_X3_hasButton [zrv (V a0 0), ziv a1] S V (fun x3 => ((x3 = 0) → (F (-1) V)) ∧ ((x3 ≠ 0) → (((S (V (V a0 0) 6)).1 = 1) ∧ ((0 : Int) ≤ a1 ∧ a1 < (S (V (V a0 0) 6)).2) ∧ ((V (V (V a0 0) 6) a1 = 3) → (F (-1) V)) ∧ ((V (V (V a0 0) 6) a1 ≠ 3) → (((a2 < 0) → (F (-1) V)) ∧ ((0 ≤ a2) → (((a2 ≤ 1000000) → (SpV E 2 zm_X7_beginAct [zrv a0, ziv 3, ziv 0] S V (fun V12 => ((S (V12 a0 0)).1 = 6) ∧ SpI E 4 zm_X3_pushOne [zrv (V12 a0 0), ziv a1, ziv a2] S V12 (fun x14 V15 => F x14 V15)))) ∧ ((1000000 < a2) → (F (-1) V)))))))))) :
    SpI E 5 zm_X7_push [zrv a0, ziv a1, ziv a2] S V F := by
  refine Sp.of (plainFor_of_name (by decide +kernel)) (Nat.le_of_ble_eq_true rfl) (fun hok X => ?_)
  have h := h (hok _ (List.mem_cons_of_mem _ (List.mem_cons_self))) (hok _ (List.mem_cons_of_mem _ (List.mem_cons_of_mem _ (List.mem_cons_self))))
  show Zr E X (zRoom 5 0 0) zm_X7_push (zQm E X (zpI S F) 0 0) 0 0 0 [(0, zrv a0), (1, ziv a1), (2, ziv a2)] [] S V
  refine z_aload_n 0 dX7_push_0 rfl ?_
  obtain ⟨o1, h⟩ := h
  refine zgf_7_0 dX7_push_1 (zf_RX7_12 _ rfl) o1 ?_
  refine z_iload_n 1 dX7_push_4 rfl ?_
  obtain ⟨o2, h⟩ := h
  refine z_cVF [ziv a1] (zk_RX7_77 _ rfl) dX7_push_5 o2 (by decide) rfl rfl (Nat.le_of_ble_eq_true rfl) (Nat.le_of_ble_eq_true rfl) (Nat.le_of_ble_eq_true rfl) (Nat.le_of_ble_eq_true rfl) (Nat.le_of_ble_eq_true rfl) h (fun x3 h => ?_)
  refine z_if_eq dX7_push_8 (tgt := 34) (by decide) (fun c5 => ?_) (fun c5 => ?_)
  · have h := h.1 c5
    refine z_iconst dX7_push_34 ⟨by decide, by decide⟩ ?_
    exact z_retI dX7_push_35 rfl h
  · have h := h.2 c5
    refine z_aload_n 0 dX7_push_11 rfl ?_
    refine zgf_7_0 dX7_push_12 (zf_RX7_12 _ rfl) o1 ?_
    refine zgf_3_6 dX7_push_15 (zf_RX7_81 _ rfl) o2 ?_
    refine z_iload_n 1 dX7_push_18 rfl ?_
    obtain ⟨o6, h⟩ := h
    obtain ⟨o7, h⟩ := h
    refine z_iald dX7_push_19 o6 o7 ?_
    refine z_iconst dX7_push_20 ⟨by decide, by decide⟩ ?_
    refine z_icmp_eq dX7_push_21 (tgt := 34) (by decide) (fun c8 => ?_) (fun c8 => ?_)
    · have h := h.1 c8
      refine z_iconst dX7_push_34 ⟨by decide, by decide⟩ ?_
      exact z_retI dX7_push_35 rfl h
    · have h := h.2 c8
      refine z_iload_n 2 dX7_push_24 rfl ?_
      refine z_if_lt dX7_push_25 (tgt := 34) (by decide) (fun c9 => ?_) (fun c9 => ?_)
      · have h := h.1 c9
        refine z_iconst dX7_push_34 ⟨by decide, by decide⟩ ?_
        exact z_retI dX7_push_35 rfl h
      · have h := h.2 c9
        refine z_iload_n 2 dX7_push_28 rfl ?_
        refine z_ldc (c := 1000000) (zd_RX7_99 _ rfl) (by decide) ⟨by decide, by decide⟩ dX7_push_29 ?_
        refine z_icmp_le dX7_push_31 (tgt := 36) (by decide) (fun c10 => ?_) (fun c10 => ?_)
        · have h := h.1 c10
          refine z_aload_n 0 dX7_push_36 rfl ?_
          refine z_iconst dX7_push_37 ⟨by decide, by decide⟩ ?_
          refine z_iconst dX7_push_38 ⟨by decide, by decide⟩ ?_
          refine z_cVV [ziv 3, ziv 0] (zk_RX7_56 _ rfl) dX7_push_39 o1 (by decide) rfl rfl (Nat.le_of_ble_eq_true rfl) (Nat.le_of_ble_eq_true rfl) (Nat.le_of_ble_eq_true rfl) (Nat.le_of_ble_eq_true rfl) (Nat.le_of_ble_eq_true rfl) h (fun V12 h => ?_)
          refine z_aload_n 0 dX7_push_42 rfl ?_
          refine zgf_7_0 dX7_push_43 (zf_RX7_12 _ rfl) o1 ?_
          refine z_iload_n 1 dX7_push_46 rfl ?_
          refine z_iload_n 2 dX7_push_47 rfl ?_
          obtain ⟨o13, h⟩ := h
          refine z_cVI [ziv a1, ziv a2] (zk_RX7_100 _ rfl) dX7_push_48 o13 (by decide) rfl rfl (Nat.le_of_ble_eq_true rfl) (Nat.le_of_ble_eq_true rfl) (Nat.le_of_ble_eq_true rfl) (Nat.le_of_ble_eq_true rfl) (Nat.le_of_ble_eq_true rfl) h (fun x14 V15 h => ?_)
          exact z_retI dX7_push_51 rfl h
        · have h := h.2 c10
          refine z_iconst dX7_push_34 ⟨by decide, by decide⟩ ?_
          exact z_retI dX7_push_35 rfl h
set_option maxRecDepth 100000 in
set_option maxHeartbeats 4000000 in
theorem en_X7_chase {E : zE} {F : Int → zH → Prop} {S : zS} {a0 : Int} {V : zH}
    (h : ((S a0).1 = 10) ∧ ((S (V a0 0)).1 = 6) ∧ SpF E 0 zm_X3_isAllCrosses [zrv (V a0 0)] S V (fun x3 => ((x3 ≠ 0) → (SpV E 2 zm_X7_beginAct [zrv a0, ziv 3, ziv 0] S V (fun V7 => ((S (V7 a0 0)).1 = 6) ∧ SpI E 5 zm_X3_chaseDown [zrv (V7 a0 0)] S V7 (fun x9 V10 => F x9 V10)))) ∧ ((x3 = 0) → (F (-1) V)))) :
    SpI E 6 zm_X7_chase [zrv a0] S V F := by
  refine Sp.of (plainFor_of_name (by decide +kernel)) (Nat.le_of_ble_eq_true rfl) (fun hok X => ?_)
  have h := h
  show Zr E X (zRoom 6 0 0) zm_X7_chase (zQm E X (zpI S F) 0 0) 0 0 0 [(0, zrv a0)] [] S V
  refine z_aload_n 0 dX7_chase_0 rfl ?_
  obtain ⟨o1, h⟩ := h
  refine zgf_7_0 dX7_chase_1 (zf_RX7_12 _ rfl) o1 ?_
  obtain ⟨o2, h⟩ := h
  refine z_cVF [] (zk_RX7_104 _ rfl) dX7_chase_4 o2 (by decide) rfl rfl (Nat.le_of_ble_eq_true rfl) (Nat.le_of_ble_eq_true rfl) (Nat.le_of_ble_eq_true rfl) (Nat.le_of_ble_eq_true rfl) (Nat.le_of_ble_eq_true rfl) h (fun x3 h => ?_)
  refine z_if_ne dX7_chase_7 (tgt := 12) (by decide) (fun c5 => ?_) (fun c5 => ?_)
  · have h := h.1 c5
    refine z_aload_n 0 dX7_chase_12 rfl ?_
    refine z_iconst dX7_chase_13 ⟨by decide, by decide⟩ ?_
    refine z_iconst dX7_chase_14 ⟨by decide, by decide⟩ ?_
    refine z_cVV [ziv 3, ziv 0] (zk_RX7_56 _ rfl) dX7_chase_15 o1 (by decide) rfl rfl (Nat.le_of_ble_eq_true rfl) (Nat.le_of_ble_eq_true rfl) (Nat.le_of_ble_eq_true rfl) (Nat.le_of_ble_eq_true rfl) (Nat.le_of_ble_eq_true rfl) h (fun V7 h => ?_)
    refine z_aload_n 0 dX7_chase_18 rfl ?_
    refine zgf_7_0 dX7_chase_19 (zf_RX7_12 _ rfl) o1 ?_
    obtain ⟨o8, h⟩ := h
    refine z_cVI [] (zk_RX7_108 _ rfl) dX7_chase_22 o8 (by decide) rfl rfl (Nat.le_of_ble_eq_true rfl) (Nat.le_of_ble_eq_true rfl) (Nat.le_of_ble_eq_true rfl) (Nat.le_of_ble_eq_true rfl) (Nat.le_of_ble_eq_true rfl) h (fun x9 V10 h => ?_)
    exact z_retI dX7_chase_25 rfl h
  · have h := h.2 c5
    refine z_iconst dX7_chase_10 ⟨by decide, by decide⟩ ?_
    exact z_retI dX7_chase_11 rfl h
set_option maxRecDepth 100000 in
set_option maxHeartbeats 4000000 in
theorem en_X7_undo {E : zE} {F : Int → zH → Prop} {S : zS} {a0 : Int} {V : zH}
    (h : ((S a0).1 = 10) ∧ ((S (V a0 2)).1 = 5) ∧ ((V (V a0 2) 0 ≠ 0) → (SpV E 1 zm_X2_takeBack [zrv (V a0 2), zrv (V a0 0)] S V (fun V5 => ((S (V5 a0 3)).1 = 9) ∧ ∀ V7 : zH, V7 = zput V5 (V5 a0 3) 2 0 → ((S (V5 a0 2)).1 = 5) ∧ F (V5 (V5 a0 2) 0) V7))) ∧ ((V (V a0 2) 0 = 0) → (F (-1) V))) :
    SpI E 2 zm_X7_undo [zrv a0] S V F := by
  refine Sp.of (plainFor_of_name (by decide +kernel)) (Nat.le_of_ble_eq_true rfl) (fun hok X => ?_)
  have h := h
  show Zr E X (zRoom 2 0 0) zm_X7_undo (zQm E X (zpI S F) 0 0) 0 0 0 [(0, zrv a0)] [] S V
  refine z_aload_n 0 dX7_undo_0 rfl ?_
  obtain ⟨o1, h⟩ := h
  refine zgf_7_2 dX7_undo_1 (zf_RX7_26 _ rfl) o1 ?_
  obtain ⟨o2, h⟩ := h
  refine zgf_2_0 dX7_undo_4 (zf_RX7_112 _ rfl) o2 ?_
  refine z_if_ne dX7_undo_7 (tgt := 12) (by decide) (fun c3 => ?_) (fun c3 => ?_)
  · have h := h.1 c3
    refine z_aload_n 0 dX7_undo_12 rfl ?_
    refine zgf_7_2 dX7_undo_13 (zf_RX7_26 _ rfl) o1 ?_
    refine z_aload_n 0 dX7_undo_16 rfl ?_
    refine zgf_7_0 dX7_undo_17 (zf_RX7_12 _ rfl) o1 ?_
    refine z_cVV [zrv (V a0 0)] (zk_RX7_113 _ rfl) dX7_undo_20 o2 (by decide) rfl rfl (Nat.le_of_ble_eq_true rfl) (Nat.le_of_ble_eq_true rfl) (Nat.le_of_ble_eq_true rfl) (Nat.le_of_ble_eq_true rfl) (Nat.le_of_ble_eq_true rfl) h (fun V5 h => ?_)
    refine z_aload_n 0 dX7_undo_23 rfl ?_
    refine zgf_7_3 dX7_undo_24 (zf_RX7_33 _ rfl) o1 ?_
    refine z_iconst dX7_undo_27 ⟨by decide, by decide⟩ ?_
    obtain ⟨o6, h⟩ := h
    refine zpf_6_2 dX7_undo_28 (zf_RX7_117 _ rfl) o6 (Or.inl rfl) ?_
    refine z_nameV (fun V7 e8 => ?_)
    have h := h V7 e8
    refine z_aload_n 0 dX7_undo_31 rfl ?_
    refine zgf_7_2 dX7_undo_32 (zf_RX7_26 _ rfl) o1 ?_
    refine z_topR (zfr_k e8 o6 o1 (by decide)) ?_
    obtain ⟨o9, h⟩ := h
    refine zgf_2_0 dX7_undo_35 (zf_RX7_112 _ rfl) o9 ?_
    refine z_topI (zfr_k e8 o6 o9 (by decide)) ?_
    exact z_retI dX7_undo_38 rfl h
  · have h := h.2 c3
    refine z_iconst dX7_undo_10 ⟨by decide, by decide⟩ ?_
    exact z_retI dX7_undo_11 rfl h
set_option maxRecDepth 100000 in
set_option maxHeartbeats 4000000 in
theorem en_X7_keep {E : zE} {F : Int → zS → zH → Prop} {mc ms : Nat} {S : zS} {a0 : Int} {V : zH}
    (h : ((S a0).1 = 10) ∧ ((0 < V a0 6) → (((S (V a0 6)).1 = 6) ∧ SpV E 1 zm_X3_copyFrom [zrv (V a0 6), zrv (V a0 0)] S V (fun V5 => (0 ≤ mc ∧ 0 ≤ ms) ∧ F 1 S V5))) ∧ ((V a0 6 = 0) → ((0 + 1 ≤ mc ∧ 0 + 12 ≤ ms) ∧ ∀ r8 : Int, 0 < r8 → ((S r8).1 = 0 ∧ ∀ q : Int, (S q).1 ≠ 0 → q < r8 ∧ (S (r8 - 1)).1 ≠ 0) → ∀ (S11 : zS) (V12 : zH), S11 = zSn S r8 (6, 12) → V12 = zVn V r8 → ∃ m19 m20 : Nat, (0 + 1 + m19 ≤ mc ∧ 0 + 12 + m20 ≤ ms) ∧ SaV E 1 m19 m20 zm_X3_init [zrv r8] S11 V12 (fun S22 V18 => ((S22 a0).1 = 10) ∧ ∀ V24 : zH, V24 = zput V18 a0 6 r8 → ((S22 r8).1 = 6) ∧ (0 + 1 + m19 ≤ mc ∧ 0 + 12 + m20 ≤ ms) ∧ SpV E 1 zm_X3_copyFrom [zrv r8, zrv (V18 a0 0)] S22 V24 (fun V28 => F 1 S22 V28))))) :
    SaI E 2 mc ms zm_X7_keep [zrv a0] S V F := by
  refine Sp.of (plainFor_of_name (by decide +kernel)) (Nat.le_of_ble_eq_true rfl) (fun hok X => ?_)
  have h := h
  show Zr E X (zRoom 2 mc ms) zm_X7_keep (zQm E X (zaI F) mc ms) 0 0 0 [(0, zrv a0)] [] S V
  refine z_aload_n 0 dX7_keep_0 rfl ?_
  obtain ⟨o1, h⟩ := h
  refine zgf_7_6 dX7_keep_1 (zf_RX7_121 _ rfl) o1 ?_
  refine z_ifnonnull dX7_keep_4 (tgt := 18) (by decide) (fun c2 => ?_) (fun c2 => ?_)
  · have h := h.1 c2
    refine z_aload_n 0 dX7_keep_18 rfl ?_
    refine zgf_7_6 dX7_keep_19 (zf_RX7_121 _ rfl) o1 ?_
    refine z_aload_n 0 dX7_keep_22 rfl ?_
    refine zgf_7_0 dX7_keep_23 (zf_RX7_12 _ rfl) o1 ?_
    obtain ⟨o3, h⟩ := h
    refine z_cVV [zrv (V a0 0)] (zk_RX7_124 _ rfl) dX7_keep_26 o3 (by decide) rfl rfl (Nat.le_of_ble_eq_true rfl) (Nat.le_of_ble_eq_true rfl) (Nat.le_of_ble_eq_true rfl) (Nat.zero_le _) (Nat.zero_le _) h (fun V5 h => ?_)
    refine z_iconst dX7_keep_29 ⟨by decide, by decide⟩ ?_
    obtain ⟨o6, h⟩ := h
    exact z_retaZ dX7_keep_30 rfl o6.1 o6.2 (Or.inr rfl) h
  · have h := h.2 c2
    refine z_aload_n 0 dX7_keep_7 rfl ?_
    obtain ⟨o7, h⟩ := h
    refine znw_3 dX7_keep_8 (zn_RX7_9 _ rfl) o7 (fun r8 q9 f10 => ?_)
    refine z_nameS (fun S11 V12 e13 e14 => ?_)
    have h := h r8 q9 f10 S11 V12 e13 e14
    have o15 : (S11 a0).1 = 10 := zSn_k e13 o1 f10.1 (by decide)
    have o16 : (S11 r8).1 = 6 := zSn_r e13
    refine z_dup (zref_cat _) dX7_keep_11 ?_
    obtain ⟨m19, m20, o21, h⟩ := h
    refine z_aI [] (zk_RX7_11 _ rfl) dX7_keep_12 q9 rfl rfl (Nat.le_of_ble_eq_true rfl) (Nat.le_of_ble_eq_true rfl) (Nat.le_of_ble_eq_true rfl) o21.1 o21.2 h (fun S22 V18 h => ?_)
    obtain ⟨o23, h⟩ := h
    refine zpf_7_6 dX7_keep_15 (zf_RX7_121 _ rfl) o23 ?_
    refine z_nameV (fun V24 e25 => ?_)
    have h := h V24 e25
    refine z_aload_n 0 dX7_keep_18 rfl ?_
    refine zgf_7_6 dX7_keep_19 (zf_RX7_121 _ rfl) o23 ?_
    refine z_topR (zfr_s e25) ?_
    refine z_aload_n 0 dX7_keep_22 rfl ?_
    refine zgf_7_0 dX7_keep_23 (zf_RX7_12 _ rfl) o23 ?_
    refine z_topR (zfr_j e25 (by decide)) ?_
    obtain ⟨o26, h⟩ := h
    obtain ⟨o29, h⟩ := h
    refine z_cVV [zrv (V18 a0 0)] (zk_RX7_124 _ rfl) dX7_keep_26 o26 (by decide) rfl rfl (Nat.le_of_ble_eq_true rfl) (Nat.le_of_ble_eq_true rfl) (Nat.le_of_ble_eq_true rfl) o29.1 o29.2 h (fun V28 h => ?_)
    refine z_iconst dX7_keep_29 ⟨by decide, by decide⟩ ?_
    exact z_retaZ dX7_keep_30 rfl o29.1 o29.2 (Or.inr rfl) h
set_option maxRecDepth 100000 in
set_option maxHeartbeats 4000000 in
theorem en_X7_back {E : zE} {F : Int → zH → Prop} {S : zS} {a0 : Int} {V : zH}
    (h : ((S a0).1 = 10) ∧ ((0 < V a0 6) → (((S (V a0 0)).1 = 6) ∧ SpV E 1 zm_X3_copyFrom [zrv (V a0 0), zrv (V a0 6)] S V (fun V5 => SpV E 0 zm_X7_forgetActs [zrv a0] S V5 (fun V7 => F 1 V7)))) ∧ ((V a0 6 = 0) → (F 0 V))) :
    SpI E 2 zm_X7_back [zrv a0] S V F := by
  refine Sp.of (plainFor_of_name (by decide +kernel)) (Nat.le_of_ble_eq_true rfl) (fun hok X => ?_)
  have h := h
  show Zr E X (zRoom 2 0 0) zm_X7_back (zQm E X (zpI S F) 0 0) 0 0 0 [(0, zrv a0)] [] S V
  refine z_aload_n 0 dX7_back_0 rfl ?_
  obtain ⟨o1, h⟩ := h
  refine zgf_7_6 dX7_back_1 (zf_RX7_121 _ rfl) o1 ?_
  refine z_ifnonnull dX7_back_4 (tgt := 9) (by decide) (fun c2 => ?_) (fun c2 => ?_)
  · have h := h.1 c2
    refine z_aload_n 0 dX7_back_9 rfl ?_
    refine zgf_7_0 dX7_back_10 (zf_RX7_12 _ rfl) o1 ?_
    refine z_aload_n 0 dX7_back_13 rfl ?_
    refine zgf_7_6 dX7_back_14 (zf_RX7_121 _ rfl) o1 ?_
    obtain ⟨o3, h⟩ := h
    refine z_cVV [zrv (V a0 6)] (zk_RX7_124 _ rfl) dX7_back_17 o3 (by decide) rfl rfl (Nat.le_of_ble_eq_true rfl) (Nat.le_of_ble_eq_true rfl) (Nat.le_of_ble_eq_true rfl) (Nat.le_of_ble_eq_true rfl) (Nat.le_of_ble_eq_true rfl) h (fun V5 h => ?_)
    refine z_aload_n 0 dX7_back_20 rfl ?_
    refine z_cVV [] (zk_RX7_45 _ rfl) dX7_back_21 o1 (by decide) rfl rfl (Nat.le_of_ble_eq_true rfl) (Nat.le_of_ble_eq_true rfl) (Nat.le_of_ble_eq_true rfl) (Nat.le_of_ble_eq_true rfl) (Nat.le_of_ble_eq_true rfl) h (fun V7 h => ?_)
    refine z_iconst dX7_back_24 ⟨by decide, by decide⟩ ?_
    exact z_retZ dX7_back_25 rfl (Or.inr rfl) h
  · have h := h.2 c2
    refine z_iconst dX7_back_7 ⟨by decide, by decide⟩ ?_
    exact z_retZ dX7_back_8 rfl (Or.inl rfl) h
set_option maxRecDepth 100000 in
set_option maxHeartbeats 4000000 in
theorem en_X7_count {E : zE} {F : Int → Prop} {S : zS} {a0 a1 : Int} {V : zH}
    (h : z32 a1 → ((a1 = 0) → (((S a0).1 = 10) ∧ ((S (V a0 0)).1 = 6) ∧ F (V (V a0 0) 0))) ∧ ((a1 = 1) → (((S a0).1 = 10) ∧ ((S (V a0 0)).1 = 6) ∧ F (V (V a0 0) 1))) ∧ ((a1 = 2) → (((S a0).1 = 10) ∧ ((S (V a0 0)).1 = 6) ∧ F (V (V a0 0) 2))) ∧ ((a1 = 3) → (((S a0).1 = 10) ∧ ((S (V a0 0)).1 = 6) ∧ F (V (V a0 0) 3))) ∧ ((a1 = 4) → (((S a0).1 = 10) ∧ ((S (V a0 2)).1 = 5) ∧ F (V (V a0 2) 0))) ∧ ((a1 = 5) → (((S a0).1 = 10) ∧ ((S (V a0 0)).1 = 6) ∧ SpF E 0 zm_X3_countLit [zrv (V a0 0)] S V (fun x19 => F x19))) ∧ ((a1 = 6) → (((S a0).1 = 10) ∧ ((S (V a0 0)).1 = 6) ∧ SpF E 0 zm_X3_sumShown [zrv (V a0 0)] S V (fun x24 => F x24))) ∧ ((a1 = 7) → (((S a0).1 = 10) ∧ ((S (V a0 1)).1 = 3) ∧ ((V (V a0 1) 0 ≠ (-1)) → (F (V (V a0 1) 1))) ∧ ((V (V a0 1) 0 = (-1)) → (F (-1))))) ∧ ((a1 < 0 ∨ 7 < a1) → (F (-1)))) :
    SpF E 1 zm_X7_count [zrv a0, ziv a1] S V F := by
  refine Sp.of (plainFor_of_name (by decide +kernel)) (Nat.le_of_ble_eq_true rfl) (fun hok X => ?_)
  have h := h (hok _ (List.mem_cons_of_mem _ (List.mem_cons_self)))
  show Zr E X (zRoom 1 0 0) zm_X7_count (zQm E X (zpF S V F) 0 0) 0 0 0 [(0, zrv a0), (1, ziv a1)] [] S V
  refine z_iload_n 1 dX7_count_0 rfl ?_
  by_cases c1 : a1 = 0
  · have h := h.1 c1
    refine z_tableIn dX7_count_1 (by omega) (off := 47) (by rw [c1]; rfl) (tgt := 48) (by decide) ?_
    refine z_aload_n 0 dX7_count_48 rfl ?_
    obtain ⟨o2, h⟩ := h
    refine zgf_7_0 dX7_count_49 (zf_RX7_12 _ rfl) o2 ?_
    obtain ⟨o3, h⟩ := h
    refine zgf_3_0 dX7_count_52 (zf_RX7_127 _ rfl) o3 ?_
    exact z_retFI dX7_count_55 rfl h
  by_cases c4 : a1 = 1
  · have h := h.2.1 c4
    refine z_tableIn dX7_count_1 (by omega) (off := 55) (by rw [c4]; rfl) (tgt := 56) (by decide) ?_
    refine z_aload_n 0 dX7_count_56 rfl ?_
    obtain ⟨o5, h⟩ := h
    refine zgf_7_0 dX7_count_57 (zf_RX7_12 _ rfl) o5 ?_
    obtain ⟨o6, h⟩ := h
    refine zgf_3_1 dX7_count_60 (zf_RX7_93 _ rfl) o6 ?_
    exact z_retFI dX7_count_63 rfl h
  by_cases c7 : a1 = 2
  · have h := h.2.2.1 c7
    refine z_tableIn dX7_count_1 (by omega) (off := 63) (by rw [c7]; rfl) (tgt := 64) (by decide) ?_
    refine z_aload_n 0 dX7_count_64 rfl ?_
    obtain ⟨o8, h⟩ := h
    refine zgf_7_0 dX7_count_65 (zf_RX7_12 _ rfl) o8 ?_
    obtain ⟨o9, h⟩ := h
    refine zgf_3_2 dX7_count_68 (zf_RX7_130 _ rfl) o9 ?_
    exact z_retFI dX7_count_71 rfl h
  by_cases c10 : a1 = 3
  · have h := h.2.2.2.1 c10
    refine z_tableIn dX7_count_1 (by omega) (off := 71) (by rw [c10]; rfl) (tgt := 72) (by decide) ?_
    refine z_aload_n 0 dX7_count_72 rfl ?_
    obtain ⟨o11, h⟩ := h
    refine zgf_7_0 dX7_count_73 (zf_RX7_12 _ rfl) o11 ?_
    obtain ⟨o12, h⟩ := h
    refine zgf_3_3 dX7_count_76 (zf_RX7_48 _ rfl) o12 ?_
    exact z_retFI dX7_count_79 rfl h
  by_cases c13 : a1 = 4
  · have h := h.2.2.2.2.1 c13
    refine z_tableIn dX7_count_1 (by omega) (off := 79) (by rw [c13]; rfl) (tgt := 80) (by decide) ?_
    refine z_aload_n 0 dX7_count_80 rfl ?_
    obtain ⟨o14, h⟩ := h
    refine zgf_7_2 dX7_count_81 (zf_RX7_26 _ rfl) o14 ?_
    obtain ⟨o15, h⟩ := h
    refine zgf_2_0 dX7_count_84 (zf_RX7_112 _ rfl) o15 ?_
    exact z_retFI dX7_count_87 rfl h
  by_cases c16 : a1 = 5
  · have h := h.2.2.2.2.2.1 c16
    refine z_tableIn dX7_count_1 (by omega) (off := 87) (by rw [c16]; rfl) (tgt := 88) (by decide) ?_
    refine z_aload_n 0 dX7_count_88 rfl ?_
    obtain ⟨o17, h⟩ := h
    refine zgf_7_0 dX7_count_89 (zf_RX7_12 _ rfl) o17 ?_
    obtain ⟨o18, h⟩ := h
    refine z_cVF [] (zk_RX7_133 _ rfl) dX7_count_92 o18 (by decide) rfl rfl (Nat.le_of_ble_eq_true rfl) (Nat.le_of_ble_eq_true rfl) (Nat.le_of_ble_eq_true rfl) (Nat.le_of_ble_eq_true rfl) (Nat.le_of_ble_eq_true rfl) h (fun x19 h => ?_)
    exact z_retFI dX7_count_95 rfl h
  by_cases c21 : a1 = 6
  · have h := h.2.2.2.2.2.2.1 c21
    refine z_tableIn dX7_count_1 (by omega) (off := 95) (by rw [c21]; rfl) (tgt := 96) (by decide) ?_
    refine z_aload_n 0 dX7_count_96 rfl ?_
    obtain ⟨o22, h⟩ := h
    refine zgf_7_0 dX7_count_97 (zf_RX7_12 _ rfl) o22 ?_
    obtain ⟨o23, h⟩ := h
    refine z_cVF [] (zk_RX7_136 _ rfl) dX7_count_100 o23 (by decide) rfl rfl (Nat.le_of_ble_eq_true rfl) (Nat.le_of_ble_eq_true rfl) (Nat.le_of_ble_eq_true rfl) (Nat.le_of_ble_eq_true rfl) (Nat.le_of_ble_eq_true rfl) h (fun x24 h => ?_)
    exact z_retFI dX7_count_103 rfl h
  by_cases c26 : a1 = 7
  · have h := h.2.2.2.2.2.2.2.1 c26
    refine z_tableIn dX7_count_1 (by omega) (off := 103) (by rw [c26]; rfl) (tgt := 104) (by decide) ?_
    refine z_aload_n 0 dX7_count_104 rfl ?_
    obtain ⟨o27, h⟩ := h
    refine zgf_7_1 dX7_count_105 (zf_RX7_19 _ rfl) o27 ?_
    obtain ⟨o28, h⟩ := h
    refine zgf_0_0 dX7_count_108 (zf_RX7_74 _ rfl) o28 ?_
    refine z_iconst dX7_count_111 ⟨by decide, by decide⟩ ?_
    refine z_icmp_ne dX7_count_112 (tgt := 119) (by decide) (fun c29 => ?_) (fun c29 => ?_)
    · have h := h.1 c29
      refine z_aload_n 0 dX7_count_119 rfl ?_
      refine zgf_7_1 dX7_count_120 (zf_RX7_19 _ rfl) o27 ?_
      refine zgf_0_1 dX7_count_123 (zf_RX7_67 _ rfl) o28 ?_
      exact z_retFI dX7_count_126 rfl h
    · have h := h.2 c29
      refine z_iconst dX7_count_115 ⟨by decide, by decide⟩ ?_
      refine z_goto (tgt := 126) dX7_count_116 (by decide) ?_
      exact z_retFI dX7_count_126 rfl h
  have h := h.2.2.2.2.2.2.2.2 (by omega)
  refine z_tableOut dX7_count_1 (by omega) (tgt := 127) (by decide) ?_
  refine z_iconst dX7_count_127 ⟨by decide, by decide⟩ ?_
  exact z_retFI dX7_count_128 rfl h
set_option maxRecDepth 100000 in
set_option maxHeartbeats 4000000 in
theorem en_X7_shown {E : zE} {F : Int → Prop} {S : zS} {a0 a1 : Int} {V : zH}
    (h : z32 a1 → ((S a0).1 = 10) ∧ ((S (V a0 0)).1 = 6) ∧ SpF E 0 zm_X3_hasLamp [zrv (V a0 0), ziv a1] S V (fun x3 => ((x3 = 0) → (F (-1))) ∧ ((x3 ≠ 0) → (((S (V (V a0 0) 5)).1 = 1) ∧ ((0 : Int) ≤ a1 ∧ a1 < (S (V (V a0 0) 5)).2) ∧ F (V (V (V a0 0) 5) a1))))) :
    SpF E 1 zm_X7_shown [zrv a0, ziv a1] S V F := by
  refine Sp.of (plainFor_of_name (by decide +kernel)) (Nat.le_of_ble_eq_true rfl) (fun hok X => ?_)
  have h := h (hok _ (List.mem_cons_of_mem _ (List.mem_cons_self)))
  show Zr E X (zRoom 1 0 0) zm_X7_shown (zQm E X (zpF S V F) 0 0) 0 0 0 [(0, zrv a0), (1, ziv a1)] [] S V
  refine z_aload_n 0 dX7_shown_0 rfl ?_
  obtain ⟨o1, h⟩ := h
  refine zgf_7_0 dX7_shown_1 (zf_RX7_12 _ rfl) o1 ?_
  refine z_iload_n 1 dX7_shown_4 rfl ?_
  obtain ⟨o2, h⟩ := h
  refine z_cVF [ziv a1] (zk_RX7_90 _ rfl) dX7_shown_5 o2 (by decide) rfl rfl (Nat.le_of_ble_eq_true rfl) (Nat.le_of_ble_eq_true rfl) (Nat.le_of_ble_eq_true rfl) (Nat.le_of_ble_eq_true rfl) (Nat.le_of_ble_eq_true rfl) h (fun x3 h => ?_)
  refine z_if_eq dX7_shown_8 (tgt := 23) (by decide) (fun c5 => ?_) (fun c5 => ?_)
  · have h := h.1 c5
    refine z_iconst dX7_shown_23 ⟨by decide, by decide⟩ ?_
    exact z_retFI dX7_shown_24 rfl h
  · have h := h.2 c5
    refine z_aload_n 0 dX7_shown_11 rfl ?_
    refine zgf_7_0 dX7_shown_12 (zf_RX7_12 _ rfl) o1 ?_
    refine zgf_3_5 dX7_shown_15 (zf_RX7_96 _ rfl) o2 ?_
    refine z_iload_n 1 dX7_shown_18 rfl ?_
    obtain ⟨o6, h⟩ := h
    obtain ⟨o7, h⟩ := h
    refine z_iald dX7_shown_19 o6 o7 ?_
    refine z_goto (tgt := 24) dX7_shown_20 (by decide) ?_
    exact z_retFI dX7_shown_24 rfl h
set_option maxRecDepth 100000 in
set_option maxHeartbeats 4000000 in
theorem en_X7_step {E : zE} {F : Int → Prop} {S : zS} {a0 a1 a2 : Int} {V : zH}
    (h : z32 a1 → z32 a2 → ((S a0).1 = 10) ∧ ((S (V a0 0)).1 = 6) ∧ SpF E 0 zm_X3_hasButton [zrv (V a0 0), ziv a1] S V (fun x3 => ((x3 = 0) → (F (-1))) ∧ ((x3 ≠ 0) → (SpF E 0 zm_X3_hasLamp [zrv (V a0 0), ziv a2] S V (fun x6 => ((x6 = 0) → (F (-1))) ∧ ((x6 ≠ 0) → (SpF E 3 zm_X3_stepAt [zrv (V a0 0), ziv a1, ziv a2] S V (fun x9 => F x9)))))))) :
    SpF E 4 zm_X7_step [zrv a0, ziv a1, ziv a2] S V F := by
  refine Sp.of (plainFor_of_name (by decide +kernel)) (Nat.le_of_ble_eq_true rfl) (fun hok X => ?_)
  have h := h (hok _ (List.mem_cons_of_mem _ (List.mem_cons_self))) (hok _ (List.mem_cons_of_mem _ (List.mem_cons_of_mem _ (List.mem_cons_self))))
  show Zr E X (zRoom 4 0 0) zm_X7_step (zQm E X (zpF S V F) 0 0) 0 0 0 [(0, zrv a0), (1, ziv a1), (2, ziv a2)] [] S V
  refine z_aload_n 0 dX7_step_0 rfl ?_
  obtain ⟨o1, h⟩ := h
  refine zgf_7_0 dX7_step_1 (zf_RX7_12 _ rfl) o1 ?_
  refine z_iload_n 1 dX7_step_4 rfl ?_
  obtain ⟨o2, h⟩ := h
  refine z_cVF [ziv a1] (zk_RX7_77 _ rfl) dX7_step_5 o2 (by decide) rfl rfl (Nat.le_of_ble_eq_true rfl) (Nat.le_of_ble_eq_true rfl) (Nat.le_of_ble_eq_true rfl) (Nat.le_of_ble_eq_true rfl) (Nat.le_of_ble_eq_true rfl) h (fun x3 h => ?_)
  refine z_if_eq dX7_step_8 (tgt := 34) (by decide) (fun c5 => ?_) (fun c5 => ?_)
  · have h := h.1 c5
    refine z_iconst dX7_step_34 ⟨by decide, by decide⟩ ?_
    exact z_retFI dX7_step_35 rfl h
  · have h := h.2 c5
    refine z_aload_n 0 dX7_step_11 rfl ?_
    refine zgf_7_0 dX7_step_12 (zf_RX7_12 _ rfl) o1 ?_
    refine z_iload_n 2 dX7_step_15 rfl ?_
    refine z_cVF [ziv a2] (zk_RX7_90 _ rfl) dX7_step_16 o2 (by decide) rfl rfl (Nat.le_of_ble_eq_true rfl) (Nat.le_of_ble_eq_true rfl) (Nat.le_of_ble_eq_true rfl) (Nat.le_of_ble_eq_true rfl) (Nat.le_of_ble_eq_true rfl) h (fun x6 h => ?_)
    refine z_if_eq dX7_step_19 (tgt := 34) (by decide) (fun c8 => ?_) (fun c8 => ?_)
    · have h := h.1 c8
      refine z_iconst dX7_step_34 ⟨by decide, by decide⟩ ?_
      exact z_retFI dX7_step_35 rfl h
    · have h := h.2 c8
      refine z_aload_n 0 dX7_step_22 rfl ?_
      refine zgf_7_0 dX7_step_23 (zf_RX7_12 _ rfl) o1 ?_
      refine z_iload_n 1 dX7_step_26 rfl ?_
      refine z_iload_n 2 dX7_step_27 rfl ?_
      refine z_cVF [ziv a1, ziv a2] (zk_RX7_139 _ rfl) dX7_step_28 o2 (by decide) rfl rfl (Nat.le_of_ble_eq_true rfl) (Nat.le_of_ble_eq_true rfl) (Nat.le_of_ble_eq_true rfl) (Nat.le_of_ble_eq_true rfl) (Nat.le_of_ble_eq_true rfl) h (fun x9 h => ?_)
      refine z_goto (tgt := 35) dX7_step_31 (by decide) ?_
      exact z_retFI dX7_step_35 rfl h
set_option maxRecDepth 100000 in
set_option maxHeartbeats 4000000 in
theorem en_X7_can {E : zE} {F : Int → zS → zH → Prop} {mc ms : Nat} {S : zS} {a0 : Int} {V : zH}
    (h : ((S a0).1 = 10) ∧ ∃ m4 m5 : Nat, (0 + m4 ≤ mc ∧ 0 + m5 ≤ ms) ∧ SaR E 5 m4 m5 zm_X7_freshSolver [zrv a0] S V (fun x2 S7 V3 => ((S7 x2).1 = 8) ∧ (0 + m4 ≤ mc ∧ 0 + m5 ≤ ms) ∧ SpI E 3 zm_X5_solve [zrv x2] S7 V3 (fun x9 V10 => ((x9 = 0) → (((S7 a0).1 = 10) ∧ ∃ m16 m17 : Nat, (0 + m4 + m16 ≤ mc ∧ 0 + m5 + m17 ≤ ms) ∧ SaV E 5 m16 m17 zm_X5_tellWhy [zrv x2, zrv (V10 a0 3)] S7 V10 (fun S19 V15 => (0 + m4 + m16 ≤ mc ∧ 0 + m5 + m17 ≤ ms) ∧ F 0 S19 V15))) ∧ ((x9 ≠ 0) → (((S7 a0).1 = 10) ∧ SpV E 3 zm_X5_tellPushing [zrv x2, zrv (V10 a0 3)] S7 V10 (fun V23 => ((S7 (V23 a0 3)).1 = 9) ∧ ∀ V25 : zH, V25 = zput V23 (V23 a0 3) 2 1 → F 1 S7 V25)))))) :
    SaI E 6 mc ms zm_X7_can [zrv a0] S V F := by
  refine Sp.of (plainFor_of_name (by decide +kernel)) (Nat.le_of_ble_eq_true rfl) (fun hok X => ?_)
  have h := h
  show Zr E X (zRoom 6 mc ms) zm_X7_can (zQm E X (zaI F) mc ms) 0 0 0 [(0, zrv a0)] [] S V
  refine z_aload_n 0 dX7_can_0 rfl ?_
  obtain ⟨o1, h⟩ := h
  obtain ⟨m4, m5, o6, h⟩ := h
  refine z_aVR [] (zk_RX7_142 _ rfl) dX7_can_1 o1 (by decide) rfl rfl (Nat.le_of_ble_eq_true rfl) (Nat.le_of_ble_eq_true rfl) (Nat.le_of_ble_eq_true rfl) o6.1 o6.2 h (fun x2 S7 V3 h => ?_)
  refine z_astore_n dX7_can_4 (by decide) (L' := [(0, zrv a0), (1, zrv x2)]) [1, 0] rfl ?_
  refine z_aload_n 1 dX7_can_5 rfl ?_
  obtain ⟨o8, h⟩ := h
  obtain ⟨o11, h⟩ := h
  refine z_cVI [] (zk_RX7_146 _ rfl) dX7_can_6 o8 (by decide) rfl rfl (Nat.le_of_ble_eq_true rfl) (Nat.le_of_ble_eq_true rfl) (Nat.le_of_ble_eq_true rfl) o11.1 o11.2 h (fun x9 V10 h => ?_)
  refine z_if_eq dX7_can_9 (tgt := 30) (by decide) (fun c12 => ?_) (fun c12 => ?_)
  · have h := h.1 c12
    refine z_aload_n 1 dX7_can_30 rfl ?_
    refine z_aload_n 0 dX7_can_31 rfl ?_
    obtain ⟨o13, h⟩ := h
    refine zgf_7_3 dX7_can_32 (zf_RX7_33 _ rfl) o13 ?_
    obtain ⟨m16, m17, o18, h⟩ := h
    refine z_aVV [zrv (V10 a0 3)] (zk_RX7_155 _ rfl) dX7_can_35 o8 (by decide) rfl rfl (Nat.le_of_ble_eq_true rfl) (Nat.le_of_ble_eq_true rfl) (Nat.le_of_ble_eq_true rfl) o18.1 o18.2 h (fun S19 V15 h => ?_)
    refine z_iconst dX7_can_38 ⟨by decide, by decide⟩ ?_
    obtain ⟨o20, h⟩ := h
    exact z_retaI dX7_can_39 rfl o20.1 o20.2 h
  · have h := h.2 c12
    refine z_aload_n 1 dX7_can_12 rfl ?_
    refine z_aload_n 0 dX7_can_13 rfl ?_
    obtain ⟨o21, h⟩ := h
    refine zgf_7_3 dX7_can_14 (zf_RX7_33 _ rfl) o21 ?_
    refine z_cVV [zrv (V10 a0 3)] (zk_RX7_151 _ rfl) dX7_can_17 o8 (by decide) rfl rfl (Nat.le_of_ble_eq_true rfl) (Nat.le_of_ble_eq_true rfl) (Nat.le_of_ble_eq_true rfl) o11.1 o11.2 h (fun V23 h => ?_)
    refine z_aload_n 0 dX7_can_20 rfl ?_
    refine zgf_7_3 dX7_can_21 (zf_RX7_33 _ rfl) o21 ?_
    refine z_iconst dX7_can_24 ⟨by decide, by decide⟩ ?_
    obtain ⟨o24, h⟩ := h
    refine zpf_6_2 dX7_can_25 (zf_RX7_117 _ rfl) o24 (Or.inr rfl) ?_
    refine z_nameV (fun V25 e26 => ?_)
    have h := h V25 e26
    refine z_iconst dX7_can_28 ⟨by decide, by decide⟩ ?_
    exact z_retaI dX7_can_29 rfl o11.1 o11.2 h
set_option maxRecDepth 100000 in
set_option maxHeartbeats 4000000 in
theorem en_X7_next {E : zE} {F : Int → zS → zH → Prop} {mc ms : Nat} {S : zS} {a0 : Int} {V : zH}
    (h : ((S a0).1 = 10) ∧ ((S (V a0 3)).1 = 9) ∧ ((V (V a0 3) 2 ≠ 0) → (∃ m6 m7 : Nat, (0 + m6 ≤ mc ∧ 0 + m7 ≤ ms) ∧ SaR E 5 m6 m7 zm_X7_freshSolver [zrv a0] S V (fun x4 S9 V5 => ((S9 a0).1 = 10) ∧ ((S9 x4).1 = 8) ∧ (0 + m6 ≤ mc ∧ 0 + m7 ≤ ms) ∧ SpI E 4 zm_X5_goOn [zrv x4, zrv (V5 a0 3)] S9 V5 (fun x12 V13 => ((x12 = 0) → (F 0 S9 V13)) ∧ ((x12 ≠ 0) → (F 1 S9 V13)))))) ∧ ((V (V a0 3) 2 = 0) → ((0 ≤ mc ∧ 0 ≤ ms) ∧ F (-1) S V))) :
    SaI E 6 mc ms zm_X7_next [zrv a0] S V F := by
  refine Sp.of (plainFor_of_name (by decide +kernel)) (Nat.le_of_ble_eq_true rfl) (fun hok X => ?_)
  have h := h
  show Zr E X (zRoom 6 mc ms) zm_X7_next (zQm E X (zaI F) mc ms) 0 0 0 [(0, zrv a0)] [] S V
  refine z_aload_n 0 dX7_next_0 rfl ?_
  obtain ⟨o1, h⟩ := h
  refine zgf_7_3 dX7_next_1 (zf_RX7_33 _ rfl) o1 ?_
  obtain ⟨o2, h⟩ := h
  refine zgf_6_2 dX7_next_4 (zf_RX7_117 _ rfl) o2 ?_
  refine z_if_ne dX7_next_7 (tgt := 12) (by decide) (fun c3 => ?_) (fun c3 => ?_)
  · have h := h.1 c3
    refine z_aload_n 0 dX7_next_12 rfl ?_
    obtain ⟨m6, m7, o8, h⟩ := h
    refine z_aVR [] (zk_RX7_142 _ rfl) dX7_next_13 o1 (by decide) rfl rfl (Nat.le_of_ble_eq_true rfl) (Nat.le_of_ble_eq_true rfl) (Nat.le_of_ble_eq_true rfl) o8.1 o8.2 h (fun x4 S9 V5 h => ?_)
    refine z_aload_n 0 dX7_next_16 rfl ?_
    obtain ⟨o10, h⟩ := h
    refine zgf_7_3 dX7_next_17 (zf_RX7_33 _ rfl) o10 ?_
    obtain ⟨o11, h⟩ := h
    obtain ⟨o14, h⟩ := h
    refine z_cVI [zrv (V5 a0 3)] (zk_RX7_158 _ rfl) dX7_next_20 o11 (by decide) rfl rfl (Nat.le_of_ble_eq_true rfl) (Nat.le_of_ble_eq_true rfl) (Nat.le_of_ble_eq_true rfl) o14.1 o14.2 h (fun x12 V13 h => ?_)
    refine z_if_eq dX7_next_23 (tgt := 30) (by decide) (fun c15 => ?_) (fun c15 => ?_)
    · have h := h.1 c15
      refine z_iconst dX7_next_30 ⟨by decide, by decide⟩ ?_
      exact z_retaI dX7_next_31 rfl o14.1 o14.2 h
    · have h := h.2 c15
      refine z_iconst dX7_next_26 ⟨by decide, by decide⟩ ?_
      refine z_goto (tgt := 31) dX7_next_27 (by decide) ?_
      exact z_retaI dX7_next_31 rfl o14.1 o14.2 h
  · have h := h.2 c3
    refine z_iconst dX7_next_10 ⟨by decide, by decide⟩ ?_
    obtain ⟨o16, h⟩ := h
    exact z_retaI dX7_next_11 rfl o16.1 o16.2 h
set_option maxRecDepth 100000 in
set_option maxHeartbeats 4000000 in
theorem en_X7_row {E : zE} {F : Int → Prop} {S : zS} {a0 a1 : Int} {V : zH}
    (h : z32 a1 → ((a1 < 0) → (F (-1))) ∧ ((0 ≤ a1) → (((S a0).1 = 10) ∧ ((S (V a0 3)).1 = 9) ∧ ((V (V a0 3) 1 ≤ a1) → (F (-1))) ∧ ((a1 < V (V a0 3) 1) → (((S (V (V a0 3) 3)).1 = 1) ∧ ((0 : Int) ≤ a1 ∧ a1 < (S (V (V a0 3) 3)).2) ∧ F (V (V (V a0 3) 3) a1)))))) :
    SpF E 0 zm_X7_row [zrv a0, ziv a1] S V F := by
  refine Sp.of (plainFor_of_name (by decide +kernel)) (Nat.le_of_ble_eq_true rfl) (fun hok X => ?_)
  have h := h (hok _ (List.mem_cons_of_mem _ (List.mem_cons_self)))
  show Zr E X (zRoom 0 0 0) zm_X7_row (zQm E X (zpF S V F) 0 0) 0 0 0 [(0, zrv a0), (1, ziv a1)] [] S V
  refine z_iload_n 1 dX7_row_0 rfl ?_
  refine z_if_lt dX7_row_1 (tgt := 27) (by decide) (fun c1 => ?_) (fun c1 => ?_)
  · have h := h.1 c1
    refine z_iconst dX7_row_27 ⟨by decide, by decide⟩ ?_
    exact z_retFI dX7_row_28 rfl h
  · have h := h.2 c1
    refine z_iload_n 1 dX7_row_4 rfl ?_
    refine z_aload_n 0 dX7_row_5 rfl ?_
    obtain ⟨o2, h⟩ := h
    refine zgf_7_3 dX7_row_6 (zf_RX7_33 _ rfl) o2 ?_
    obtain ⟨o3, h⟩ := h
    refine zgf_6_1 dX7_row_9 (zf_RX7_162 _ rfl) o3 ?_
    refine z_icmp_ge dX7_row_12 (tgt := 27) (by decide) (fun c4 => ?_) (fun c4 => ?_)
    · have h := h.1 c4
      refine z_iconst dX7_row_27 ⟨by decide, by decide⟩ ?_
      exact z_retFI dX7_row_28 rfl h
    · have h := h.2 c4
      refine z_aload_n 0 dX7_row_15 rfl ?_
      refine zgf_7_3 dX7_row_16 (zf_RX7_33 _ rfl) o2 ?_
      refine zgf_6_3 dX7_row_19 (zf_RX7_163 _ rfl) o3 ?_
      refine z_iload_n 1 dX7_row_22 rfl ?_
      obtain ⟨o5, h⟩ := h
      obtain ⟨o6, h⟩ := h
      refine z_iald dX7_row_23 o5 o6 ?_
      refine z_goto (tgt := 28) dX7_row_24 (by decide) ?_
      exact z_retFI dX7_row_28 rfl h
def zl_X7_primes_29 (E : zE) (X : zX) (F : Int → zS → zH → Prop) (mc ms k n : Nat) (S : zS) (a0 a1 a2 : Int) (V : zH) : Prop := Zr E X (zRoom 6 mc ms) zm_X7_primes (zQm E X (zaI F) mc ms) k n 29 [(0, zrv a0), (1, ziv a1), (2, ziv a2)] [] S V
set_option maxRecDepth 100000 in
set_option maxHeartbeats 4000000 in
theorem wp_X7_primes_29 {E : zE} {X : zX} {F : Int → zS → zH → Prop} {mc ms k n : Nat} {S : zS} {a0 a1 a2 : Int} {V : zH}
    (h : ((a1 = 0) → (((S a0).1 = 10) ∧ ∃ m5 m6 : Nat, (k + m5 ≤ mc ∧ n + m6 ≤ ms) ∧ SaR E 5 m5 m6 zm_X7_freshSolver [zrv a0] S V (fun x3 S8 V4 => ((S8 x3).1 = 8) ∧ (k + m5 ≤ mc ∧ n + m6 ≤ ms) ∧ SpF E 2 zm_X5_primesOfPatterns [zrv x3, ziv a2] S8 V4 (fun x10 => F x10 S8 V4)))) ∧ ((a1 = 1) → (((S a0).1 = 10) ∧ ∃ m17 m18 : Nat, (k + m17 ≤ mc ∧ n + m18 ≤ ms) ∧ SaR E 5 m17 m18 zm_X7_freshSolver [zrv a0] S V (fun x15 S20 V16 => ((S20 x15).1 = 8) ∧ (k + m17 ≤ mc ∧ n + m18 ≤ ms) ∧ SpF E 1 zm_X5_primesOfQuiet [zrv x15, ziv a2] S20 V16 (fun x22 => F x22 S20 V16)))) ∧ ((a1 = 2) → (((S a0).1 = 10) ∧ ∃ m29 m30 : Nat, (k + m29 ≤ mc ∧ n + m30 ≤ ms) ∧ SaR E 5 m29 m30 zm_X7_freshSolver [zrv a0] S V (fun x27 S32 V28 => ((S32 x27).1 = 8) ∧ (k + m29 ≤ mc ∧ n + m30 ≤ ms) ∧ SpF E 1 zm_X5_primesOfAll [zrv x27, ziv a2] S32 V28 (fun x34 => F x34 S32 V28)))) ∧ ((a1 = 3) → (((S a0).1 = 10) ∧ ∃ m41 m42 : Nat, (k + m41 ≤ mc ∧ n + m42 ≤ ms) ∧ SaR E 5 m41 m42 zm_X7_freshSolver [zrv a0] S V (fun x39 S44 V40 => ((S44 x39).1 = 8) ∧ (k + m41 ≤ mc ∧ n + m42 ≤ ms) ∧ SpF E 3 zm_X5_primesOfWeights [zrv x39, ziv a2] S44 V40 (fun x46 => F x46 S44 V40)))) ∧ ((a1 < 0 ∨ 3 < a1) → ((k ≤ mc ∧ n ≤ ms) ∧ F (-1) S V))) :
    zl_X7_primes_29 E X F mc ms k n S a0 a1 a2 V := by
  unfold zl_X7_primes_29
  refine z_iload_n 1 dX7_primes_29 rfl ?_
  by_cases c1 : a1 = 0
  · have h := h.1 c1
    refine z_tableIn dX7_primes_30 (by omega) (off := 30) (by rw [c1]; rfl) (tgt := 60) (by decide) ?_
    refine z_aload_n 0 dX7_primes_60 rfl ?_
    obtain ⟨o2, h⟩ := h
    obtain ⟨m5, m6, o7, h⟩ := h
    refine z_aVR [] (zk_RX7_142 _ rfl) dX7_primes_61 o2 (by decide) rfl rfl (Nat.le_of_ble_eq_true rfl) (Nat.le_of_ble_eq_true rfl) (Nat.le_of_ble_eq_true rfl) o7.1 o7.2 h (fun x3 S8 V4 h => ?_)
    refine z_iload_n 2 dX7_primes_64 rfl ?_
    obtain ⟨o9, h⟩ := h
    obtain ⟨o12, h⟩ := h
    refine z_cVF [ziv a2] (zk_RX7_166 _ rfl) dX7_primes_65 o9 (by decide) rfl rfl (Nat.le_of_ble_eq_true rfl) (Nat.le_of_ble_eq_true rfl) (Nat.le_of_ble_eq_true rfl) o12.1 o12.2 h (fun x10 h => ?_)
    exact z_retaI dX7_primes_68 rfl o12.1 o12.2 h
  by_cases c13 : a1 = 1
  · have h := h.2.1 c13
    refine z_tableIn dX7_primes_30 (by omega) (off := 39) (by rw [c13]; rfl) (tgt := 69) (by decide) ?_
    refine z_aload_n 0 dX7_primes_69 rfl ?_
    obtain ⟨o14, h⟩ := h
    obtain ⟨m17, m18, o19, h⟩ := h
    refine z_aVR [] (zk_RX7_142 _ rfl) dX7_primes_70 o14 (by decide) rfl rfl (Nat.le_of_ble_eq_true rfl) (Nat.le_of_ble_eq_true rfl) (Nat.le_of_ble_eq_true rfl) o19.1 o19.2 h (fun x15 S20 V16 h => ?_)
    refine z_iload_n 2 dX7_primes_73 rfl ?_
    obtain ⟨o21, h⟩ := h
    obtain ⟨o24, h⟩ := h
    refine z_cVF [ziv a2] (zk_RX7_170 _ rfl) dX7_primes_74 o21 (by decide) rfl rfl (Nat.le_of_ble_eq_true rfl) (Nat.le_of_ble_eq_true rfl) (Nat.le_of_ble_eq_true rfl) o24.1 o24.2 h (fun x22 h => ?_)
    exact z_retaI dX7_primes_77 rfl o24.1 o24.2 h
  by_cases c25 : a1 = 2
  · have h := h.2.2.1 c25
    refine z_tableIn dX7_primes_30 (by omega) (off := 48) (by rw [c25]; rfl) (tgt := 78) (by decide) ?_
    refine z_aload_n 0 dX7_primes_78 rfl ?_
    obtain ⟨o26, h⟩ := h
    obtain ⟨m29, m30, o31, h⟩ := h
    refine z_aVR [] (zk_RX7_142 _ rfl) dX7_primes_79 o26 (by decide) rfl rfl (Nat.le_of_ble_eq_true rfl) (Nat.le_of_ble_eq_true rfl) (Nat.le_of_ble_eq_true rfl) o31.1 o31.2 h (fun x27 S32 V28 h => ?_)
    refine z_iload_n 2 dX7_primes_82 rfl ?_
    obtain ⟨o33, h⟩ := h
    obtain ⟨o36, h⟩ := h
    refine z_cVF [ziv a2] (zk_RX7_173 _ rfl) dX7_primes_83 o33 (by decide) rfl rfl (Nat.le_of_ble_eq_true rfl) (Nat.le_of_ble_eq_true rfl) (Nat.le_of_ble_eq_true rfl) o36.1 o36.2 h (fun x34 h => ?_)
    exact z_retaI dX7_primes_86 rfl o36.1 o36.2 h
  by_cases c37 : a1 = 3
  · have h := h.2.2.2.1 c37
    refine z_tableIn dX7_primes_30 (by omega) (off := 57) (by rw [c37]; rfl) (tgt := 87) (by decide) ?_
    refine z_aload_n 0 dX7_primes_87 rfl ?_
    obtain ⟨o38, h⟩ := h
    obtain ⟨m41, m42, o43, h⟩ := h
    refine z_aVR [] (zk_RX7_142 _ rfl) dX7_primes_88 o38 (by decide) rfl rfl (Nat.le_of_ble_eq_true rfl) (Nat.le_of_ble_eq_true rfl) (Nat.le_of_ble_eq_true rfl) o43.1 o43.2 h (fun x39 S44 V40 h => ?_)
    refine z_iload_n 2 dX7_primes_91 rfl ?_
    obtain ⟨o45, h⟩ := h
    obtain ⟨o48, h⟩ := h
    refine z_cVF [ziv a2] (zk_RX7_176 _ rfl) dX7_primes_92 o45 (by decide) rfl rfl (Nat.le_of_ble_eq_true rfl) (Nat.le_of_ble_eq_true rfl) (Nat.le_of_ble_eq_true rfl) o48.1 o48.2 h (fun x46 h => ?_)
    exact z_retaI dX7_primes_95 rfl o48.1 o48.2 h
  have h := h.2.2.2.2 (by omega)
  refine z_tableOut dX7_primes_30 (by omega) (tgt := 96) (by decide) ?_
  refine z_iconst dX7_primes_96 ⟨by decide, by decide⟩ ?_
  obtain ⟨o49, h⟩ := h
  exact z_retaI dX7_primes_97 rfl o49.1 o49.2 h
set_option maxRecDepth 100000 in
set_option maxHeartbeats 4000000 in
theorem en_X7_primes {E : zE} {F : Int → zS → zH → Prop} {mc ms : Nat} {S : zS} {a0 a1 a2 : Int} {V : zH}
    (h : z32 a1 → z32 a2 → ∀ X : zX, ((a2 = 2) → (zl_X7_primes_29 E X F mc ms 0 0 S a0 a1 a2 V)) ∧ ((a2 ≠ 2) → (((a2 = 3) → (zl_X7_primes_29 E X F mc ms 0 0 S a0 a1 a2 V)) ∧ ((a2 ≠ 3) → (((a2 = 5) → (zl_X7_primes_29 E X F mc ms 0 0 S a0 a1 a2 V)) ∧ ((a2 ≠ 5) → (((a2 = 7) → (zl_X7_primes_29 E X F mc ms 0 0 S a0 a1 a2 V)) ∧ ((a2 ≠ 7) → (((a2 = 11) → (zl_X7_primes_29 E X F mc ms 0 0 S a0 a1 a2 V)) ∧ ((a2 ≠ 11) → ((0 ≤ mc ∧ 0 ≤ ms) ∧ F (-1) S V))))))))))) :
    SaI E 6 mc ms zm_X7_primes [zrv a0, ziv a1, ziv a2] S V F := by
  refine Sp.of (plainFor_of_name (by decide +kernel)) (Nat.le_of_ble_eq_true rfl) (fun hok X => ?_)
  have h := h (hok _ (List.mem_cons_of_mem _ (List.mem_cons_self))) (hok _ (List.mem_cons_of_mem _ (List.mem_cons_of_mem _ (List.mem_cons_self)))) X
  show Zr E X (zRoom 6 mc ms) zm_X7_primes (zQm E X (zaI F) mc ms) 0 0 0 [(0, zrv a0), (1, ziv a1), (2, ziv a2)] [] S V
  refine z_iload_n 2 dX7_primes_0 rfl ?_
  refine z_iconst dX7_primes_1 ⟨by decide, by decide⟩ ?_
  refine z_icmp_eq dX7_primes_2 (tgt := 29) (by decide) (fun c1 => ?_) (fun c1 => ?_)
  · have h := h.1 c1
    exact h
  · have h := h.2 c1
    refine z_iload_n 2 dX7_primes_5 rfl ?_
    refine z_iconst dX7_primes_6 ⟨by decide, by decide⟩ ?_
    refine z_icmp_eq dX7_primes_7 (tgt := 29) (by decide) (fun c2 => ?_) (fun c2 => ?_)
    · have h := h.1 c2
      exact h
    · have h := h.2 c2
      refine z_iload_n 2 dX7_primes_10 rfl ?_
      refine z_iconst dX7_primes_11 ⟨by decide, by decide⟩ ?_
      refine z_icmp_eq dX7_primes_12 (tgt := 29) (by decide) (fun c3 => ?_) (fun c3 => ?_)
      · have h := h.1 c3
        exact h
      · have h := h.2 c3
        refine z_iload_n 2 dX7_primes_15 rfl ?_
        refine z_bipush dX7_primes_16 ⟨by decide, by decide⟩ (by decide) ?_
        refine z_icmp_eq dX7_primes_18 (tgt := 29) (by decide) (fun c4 => ?_) (fun c4 => ?_)
        · have h := h.1 c4
          exact h
        · have h := h.2 c4
          refine z_iload_n 2 dX7_primes_21 rfl ?_
          refine z_bipush dX7_primes_22 ⟨by decide, by decide⟩ (by decide) ?_
          refine z_icmp_eq dX7_primes_24 (tgt := 29) (by decide) (fun c5 => ?_) (fun c5 => ?_)
          · have h := h.1 c5
            exact h
          · have h := h.2 c5
            refine z_iconst dX7_primes_27 ⟨by decide, by decide⟩ ?_
            obtain ⟨o6, h⟩ := h
            exact z_retaI dX7_primes_28 rfl o6.1 o6.2 h
set_option maxRecDepth 100000 in
set_option maxHeartbeats 4000000 in
theorem en_X7_base {E : zE} {F : Int → zS → zH → Prop} {mc ms : Nat} {S : zS} {a0 a1 : Int} {V : zH}
    (h : z32 a1 → ((a1 = 0) → (((S a0).1 = 10) ∧ ∃ m5 m6 : Nat, (0 + m5 ≤ mc ∧ 0 + m6 ≤ ms) ∧ SaR E 5 m5 m6 zm_X7_freshSolver [zrv a0] S V (fun x3 S8 V4 => ((S8 x3).1 = 8) ∧ (0 + m5 ≤ mc ∧ 0 + m6 ≤ ms) ∧ SpF E 1 zm_X5_countQuiet [zrv x3] S8 V4 (fun x10 => F x10 S8 V4)))) ∧ ((a1 = 1) → (((S a0).1 = 10) ∧ ∃ m17 m18 : Nat, (0 + m17 ≤ mc ∧ 0 + m18 ≤ ms) ∧ SaR E 5 m17 m18 zm_X7_freshSolver [zrv a0] S V (fun x15 S20 V16 => ((S20 x15).1 = 8) ∧ ∃ m24 m25 : Nat, (0 + m17 + m24 ≤ mc ∧ 0 + m18 + m25 ≤ ms) ∧ SaI E 5 m24 m25 zm_X5_countWeights [zrv x15] S20 V16 (fun x22 S27 V23 => (0 + m17 + m24 ≤ mc ∧ 0 + m18 + m25 ≤ ms) ∧ F x22 S27 V23)))) ∧ ((¬ a1 = 0 ∧ ¬ a1 = 1) → ((0 ≤ mc ∧ 0 ≤ ms) ∧ F (-1) S V))) :
    SaI E 6 mc ms zm_X7_base [zrv a0, ziv a1] S V F := by
  refine Sp.of (plainFor_of_name (by decide +kernel)) (Nat.le_of_ble_eq_true rfl) (fun hok X => ?_)
  have h := h (hok _ (List.mem_cons_of_mem _ (List.mem_cons_self)))
  show Zr E X (zRoom 6 mc ms) zm_X7_base (zQm E X (zaI F) mc ms) 0 0 0 [(0, zrv a0), (1, ziv a1)] [] S V
  refine z_iload_n 1 dX7_base_0 rfl ?_
  by_cases c1 : a1 = 0
  · have h := h.1 c1
    refine z_lookup dX7_base_1 (by decide) (off := 27) (by rw [c1]; rfl) (tgt := 28) (by decide) ?_
    refine z_aload_n 0 dX7_base_28 rfl ?_
    obtain ⟨o2, h⟩ := h
    obtain ⟨m5, m6, o7, h⟩ := h
    refine z_aVR [] (zk_RX7_142 _ rfl) dX7_base_29 o2 (by decide) rfl rfl (Nat.le_of_ble_eq_true rfl) (Nat.le_of_ble_eq_true rfl) (Nat.le_of_ble_eq_true rfl) o7.1 o7.2 h (fun x3 S8 V4 h => ?_)
    obtain ⟨o9, h⟩ := h
    obtain ⟨o12, h⟩ := h
    refine z_cVF [] (zk_RX7_179 _ rfl) dX7_base_32 o9 (by decide) rfl rfl (Nat.le_of_ble_eq_true rfl) (Nat.le_of_ble_eq_true rfl) (Nat.le_of_ble_eq_true rfl) o12.1 o12.2 h (fun x10 h => ?_)
    exact z_retaI dX7_base_35 rfl o12.1 o12.2 h
  by_cases c13 : a1 = 1
  · have h := h.2.1 c13
    refine z_lookup dX7_base_1 (by decide) (off := 35) (by rw [c13]; rfl) (tgt := 36) (by decide) ?_
    refine z_aload_n 0 dX7_base_36 rfl ?_
    obtain ⟨o14, h⟩ := h
    obtain ⟨m17, m18, o19, h⟩ := h
    refine z_aVR [] (zk_RX7_142 _ rfl) dX7_base_37 o14 (by decide) rfl rfl (Nat.le_of_ble_eq_true rfl) (Nat.le_of_ble_eq_true rfl) (Nat.le_of_ble_eq_true rfl) o19.1 o19.2 h (fun x15 S20 V16 h => ?_)
    obtain ⟨o21, h⟩ := h
    obtain ⟨m24, m25, o26, h⟩ := h
    refine z_aVI [] (zk_RX7_182 _ rfl) dX7_base_40 o21 (by decide) rfl rfl (Nat.le_of_ble_eq_true rfl) (Nat.le_of_ble_eq_true rfl) (Nat.le_of_ble_eq_true rfl) o26.1 o26.2 h (fun x22 S27 V23 h => ?_)
    obtain ⟨o28, h⟩ := h
    exact z_retaI dX7_base_43 rfl o28.1 o28.2 h
  have h := h.2.2 ⟨c1, c13⟩
  refine z_lookup dX7_base_1 (by decide) (off := 43) (by simp [Op.lookupswitch.offset_cons, Op.lookupswitch.offset, show ¬ _ = _ from fun z => c1 z.symm, c1, show ¬ _ = _ from fun z => c13 z.symm, c13]) (tgt := 44) (by decide) ?_
  refine z_iconst dX7_base_44 ⟨by decide, by decide⟩ ?_
  obtain ⟨o29, h⟩ := h
  exact z_retaI dX7_base_45 rfl o29.1 o29.2 h
def zl_X7_element_15 (E : zE) (X : zX) (F : Int → zS → zH → Prop) (mc ms k n : Nat) (S : zS) (a0 a1 a2 : Int) (V : zH) : Prop := Zr E X (zRoom 6 mc ms) zm_X7_element (zQm E X (zaI F) mc ms) k n 15 [(0, zrv a0), (1, ziv a1), (2, ziv a2)] [] S V
set_option maxRecDepth 100000 in
set_option maxHeartbeats 4000000 in
theorem wp_X7_element_15 {E : zE} {X : zX} {F : Int → zS → zH → Prop} {mc ms k n : Nat} {S : zS} {a0 a1 a2 : Int} {V : zH}
    (h : ((S a0).1 = 10) ∧ ∃ m4 m5 : Nat, (k + m4 ≤ mc ∧ n + m5 ≤ ms) ∧ SaR E 5 m4 m5 zm_X7_freshSolver [zrv a0] S V (fun x2 S7 V3 => ((a1 ≠ 0) → (((S7 a0).1 = 10) ∧ ((S7 x2).1 = 8) ∧ ∃ m13 m14 : Nat, (k + m4 + m13 ≤ mc ∧ n + m5 + m14 ≤ ms) ∧ SaI E 5 m13 m14 zm_X5_tellWeights [zrv x2, ziv a2, zrv (V3 a0 3)] S7 V3 (fun x11 S16 V12 => ((x11 = 0) → ((k + m4 + m13 ≤ mc ∧ n + m5 + m14 ≤ ms) ∧ F (-1) S16 V12)) ∧ ((x11 ≠ 0) → ((k + m4 + m13 ≤ mc ∧ n + m5 + m14 ≤ ms) ∧ F 1 S16 V12))))) ∧ ((a1 = 0) → (((S7 a0).1 = 10) ∧ ((S7 x2).1 = 8) ∧ (k + m4 ≤ mc ∧ n + m5 ≤ ms) ∧ SpI E 4 zm_X5_tellQuiet [zrv x2, ziv a2, zrv (V3 a0 3)] S7 V3 (fun x22 V23 => ((x22 = 0) → (F (-1) S7 V23)) ∧ ((x22 ≠ 0) → (F 1 S7 V23))))))) :
    zl_X7_element_15 E X F mc ms k n S a0 a1 a2 V := by
  unfold zl_X7_element_15
  refine z_aload_n 0 dX7_element_15 rfl ?_
  obtain ⟨o1, h⟩ := h
  obtain ⟨m4, m5, o6, h⟩ := h
  refine z_aVR [] (zk_RX7_142 _ rfl) dX7_element_16 o1 (by decide) rfl rfl (Nat.le_of_ble_eq_true rfl) (Nat.le_of_ble_eq_true rfl) (Nat.le_of_ble_eq_true rfl) o6.1 o6.2 h (fun x2 S7 V3 h => ?_)
  refine z_astore_n dX7_element_19 (by decide) (L' := [(0, zrv a0), (1, ziv a1), (2, ziv a2), (3, zrv x2)]) [1, 2, 3, 0] rfl ?_
  refine z_iload_n 1 dX7_element_20 rfl ?_
  refine z_if_ne dX7_element_21 (tgt := 36) (by decide) (fun c8 => ?_) (fun c8 => ?_)
  · have h := h.1 c8
    refine z_aload_n 3 dX7_element_36 rfl ?_
    refine z_iload_n 2 dX7_element_37 rfl ?_
    refine z_aload_n 0 dX7_element_38 rfl ?_
    obtain ⟨o9, h⟩ := h
    refine zgf_7_3 dX7_element_39 (zf_RX7_33 _ rfl) o9 ?_
    obtain ⟨o10, h⟩ := h
    obtain ⟨m13, m14, o15, h⟩ := h
    refine z_aVI [ziv a2, zrv (V3 a0 3)] (zk_RX7_189 _ rfl) dX7_element_42 o10 (by decide) rfl rfl (Nat.le_of_ble_eq_true rfl) (Nat.le_of_ble_eq_true rfl) (Nat.le_of_ble_eq_true rfl) o15.1 o15.2 h (fun x11 S16 V12 h => ?_)
    refine z_istore dX7_element_45 (by decide) (L' := [(0, zrv a0), (1, ziv a1), (2, ziv a2), (3, zrv x2), (4, ziv x11)]) [1, 2, 3, 4, 0] rfl ?_
    refine z_iload 4 dX7_element_47 rfl ?_
    refine z_if_eq dX7_element_49 (tgt := 56) (by decide) (fun c17 => ?_) (fun c17 => ?_)
    · have h := h.1 c17
      refine z_iconst dX7_element_56 ⟨by decide, by decide⟩ ?_
      obtain ⟨o18, h⟩ := h
      exact z_retaI dX7_element_57 rfl o18.1 o18.2 h
    · have h := h.2 c17
      refine z_iconst dX7_element_52 ⟨by decide, by decide⟩ ?_
      refine z_goto (tgt := 57) dX7_element_53 (by decide) ?_
      obtain ⟨o19, h⟩ := h
      exact z_retaI dX7_element_57 rfl o19.1 o19.2 h
  · have h := h.2 c8
    refine z_aload_n 3 dX7_element_24 rfl ?_
    refine z_iload_n 2 dX7_element_25 rfl ?_
    refine z_aload_n 0 dX7_element_26 rfl ?_
    obtain ⟨o20, h⟩ := h
    refine zgf_7_3 dX7_element_27 (zf_RX7_33 _ rfl) o20 ?_
    obtain ⟨o21, h⟩ := h
    obtain ⟨o24, h⟩ := h
    refine z_cVI [ziv a2, zrv (V3 a0 3)] (zk_RX7_185 _ rfl) dX7_element_30 o21 (by decide) rfl rfl (Nat.le_of_ble_eq_true rfl) (Nat.le_of_ble_eq_true rfl) (Nat.le_of_ble_eq_true rfl) o24.1 o24.2 h (fun x22 V23 h => ?_)
    refine z_goto (tgt := 45) dX7_element_33 (by decide) ?_
    refine z_istore dX7_element_45 (by decide) (L' := [(0, zrv a0), (1, ziv a1), (2, ziv a2), (3, zrv x2), (4, ziv x22)]) [1, 2, 3, 4, 0] rfl ?_
    refine z_iload 4 dX7_element_47 rfl ?_
    refine z_if_eq dX7_element_49 (tgt := 56) (by decide) (fun c25 => ?_) (fun c25 => ?_)
    · have h := h.1 c25
      refine z_iconst dX7_element_56 ⟨by decide, by decide⟩ ?_
      exact z_retaI dX7_element_57 rfl o24.1 o24.2 h
    · have h := h.2 c25
      refine z_iconst dX7_element_52 ⟨by decide, by decide⟩ ?_
      refine z_goto (tgt := 57) dX7_element_53 (by decide) ?_
      exact z_retaI dX7_element_57 rfl o24.1 o24.2 h
set_option maxRecDepth 100000 in
set_option maxHeartbeats 4000000 in
theorem en_X7_element {E : zE} {F : Int → zS → zH → Prop} {mc ms : Nat} {S : zS} {a0 a1 a2 : Int} {V : zH}
    (h : z32 a1 → z32 a2 → ∀ X : zX, ((a2 < 0) → ((0 ≤ mc ∧ 0 ≤ ms) ∧ F (-1) S V)) ∧ ((0 ≤ a2) → (((a1 = 0) → (zl_X7_element_15 E X F mc ms 0 0 S a0 a1 a2 V)) ∧ ((a1 ≠ 0) → (((a1 = 1) → (zl_X7_element_15 E X F mc ms 0 0 S a0 a1 a2 V)) ∧ ((a1 ≠ 1) → ((0 ≤ mc ∧ 0 ≤ ms) ∧ F (-1) S V))))))) :
    SaI E 6 mc ms zm_X7_element [zrv a0, ziv a1, ziv a2] S V F := by
  refine Sp.of (plainFor_of_name (by decide +kernel)) (Nat.le_of_ble_eq_true rfl) (fun hok X => ?_)
  have h := h (hok _ (List.mem_cons_of_mem _ (List.mem_cons_self))) (hok _ (List.mem_cons_of_mem _ (List.mem_cons_of_mem _ (List.mem_cons_self)))) X
  show Zr E X (zRoom 6 mc ms) zm_X7_element (zQm E X (zaI F) mc ms) 0 0 0 [(0, zrv a0), (1, ziv a1), (2, ziv a2)] [] S V
  refine z_iload_n 2 dX7_element_0 rfl ?_
  refine z_if_lt dX7_element_1 (tgt := 13) (by decide) (fun c1 => ?_) (fun c1 => ?_)
  · have h := h.1 c1
    refine z_iconst dX7_element_13 ⟨by decide, by decide⟩ ?_
    obtain ⟨o2, h⟩ := h
    exact z_retaI dX7_element_14 rfl o2.1 o2.2 h
  · have h := h.2 c1
    refine z_iload_n 1 dX7_element_4 rfl ?_
    refine z_if_eq dX7_element_5 (tgt := 15) (by decide) (fun c3 => ?_) (fun c3 => ?_)
    · have h := h.1 c3
      exact h
    · have h := h.2 c3
      refine z_iload_n 1 dX7_element_8 rfl ?_
      refine z_iconst dX7_element_9 ⟨by decide, by decide⟩ ?_
      refine z_icmp_eq dX7_element_10 (tgt := 15) (by decide) (fun c4 => ?_) (fun c4 => ?_)
      · have h := h.1 c4
        exact h
      · have h := h.2 c4
        refine z_iconst dX7_element_13 ⟨by decide, by decide⟩ ?_
        obtain ⟨o5, h⟩ := h
        exact z_retaI dX7_element_14 rfl o5.1 o5.2 h
set_option maxRecDepth 100000 in
set_option maxHeartbeats 4000000 in
theorem en_X7_least {E : zE} {F : Int → zS → zH → Prop} {mc ms : Nat} {S : zS} {a0 : Int} {V : zH}
    (h : ((S a0).1 = 10) ∧ ∃ m4 m5 : Nat, (0 + m4 ≤ mc ∧ 0 + m5 ≤ ms) ∧ SaR E 5 m4 m5 zm_X7_freshSolver [zrv a0] S V (fun x2 S7 V3 => ((S7 x2).1 = 8) ∧ (0 + m4 ≤ mc ∧ 0 + m5 ≤ ms) ∧ SpI E 3 zm_X5_solve [zrv x2] S7 V3 (fun x9 V10 => ((x9 ≠ 0) → (SpF E 1 zm_X5_hasManyQuiet [zrv x2] S7 V10 (fun x13 => ((x13 = 0) → (((S7 a0).1 = 10) ∧ ∃ m19 m20 : Nat, (0 + m4 + m19 ≤ mc ∧ 0 + m5 + m20 ≤ ms) ∧ SaI E 25 m19 m20 zm_X5_tellLeast [zrv x2, zrv (V10 a0 3)] S7 V10 (fun x17 S22 V18 => (0 + m4 + m19 ≤ mc ∧ 0 + m5 + m20 ≤ ms) ∧ F x17 S22 V18))) ∧ ((x13 ≠ 0) → (F (-2) S7 V10))))) ∧ ((x9 = 0) → (F (-1) S7 V10))))) :
    SaJ E 26 mc ms zm_X7_least [zrv a0] S V F := by
  refine Sp.of (plainFor_of_name (by decide +kernel)) (Nat.le_of_ble_eq_true rfl) (fun hok X => ?_)
  have h := h
  show Zr E X (zRoom 26 mc ms) zm_X7_least (zQm E X (zaJ F) mc ms) 0 0 0 [(0, zrv a0)] [] S V
  refine z_aload_n 0 dX7_least_0 rfl ?_
  obtain ⟨o1, h⟩ := h
  obtain ⟨m4, m5, o6, h⟩ := h
  refine z_aVR [] (zk_RX7_142 _ rfl) dX7_least_1 o1 (by decide) rfl rfl (Nat.le_of_ble_eq_true rfl) (Nat.le_of_ble_eq_true rfl) (Nat.le_of_ble_eq_true rfl) o6.1 o6.2 h (fun x2 S7 V3 h => ?_)
  refine z_astore_n dX7_least_4 (by decide) (L' := [(0, zrv a0), (1, zrv x2)]) [1, 0] rfl ?_
  refine z_aload_n 1 dX7_least_5 rfl ?_
  obtain ⟨o8, h⟩ := h
  obtain ⟨o11, h⟩ := h
  refine z_cVI [] (zk_RX7_146 _ rfl) dX7_least_6 o8 (by decide) rfl rfl (Nat.le_of_ble_eq_true rfl) (Nat.le_of_ble_eq_true rfl) (Nat.le_of_ble_eq_true rfl) o11.1 o11.2 h (fun x9 V10 h => ?_)
  refine z_if_ne dX7_least_9 (tgt := 16) (by decide) (fun c12 => ?_) (fun c12 => ?_)
  · have h := h.1 c12
    refine z_aload_n 1 dX7_least_16 rfl ?_
    refine z_cVF [] (zk_RX7_194 _ rfl) dX7_least_17 o8 (by decide) rfl rfl (Nat.le_of_ble_eq_true rfl) (Nat.le_of_ble_eq_true rfl) (Nat.le_of_ble_eq_true rfl) o11.1 o11.2 h (fun x13 h => ?_)
    refine z_if_eq dX7_least_20 (tgt := 29) (by decide) (fun c15 => ?_) (fun c15 => ?_)
    · have h := h.1 c15
      refine z_aload_n 1 dX7_least_29 rfl ?_
      refine z_aload_n 0 dX7_least_30 rfl ?_
      obtain ⟨o16, h⟩ := h
      refine zgf_7_3 dX7_least_31 (zf_RX7_33 _ rfl) o16 ?_
      obtain ⟨m19, m20, o21, h⟩ := h
      refine z_aVI [zrv (V10 a0 3)] (zk_RX7_199 _ rfl) dX7_least_34 o8 (by decide) rfl rfl (Nat.le_of_ble_eq_true rfl) (Nat.le_of_ble_eq_true rfl) (Nat.le_of_ble_eq_true rfl) o21.1 o21.2 h (fun x17 S22 V18 h => ?_)
      refine z_i2l dX7_least_37 ?_
      obtain ⟨o23, h⟩ := h
      exact z_retaJ dX7_least_38 rfl o23.1 o23.2 h
    · have h := h.2 c15
      refine z_ldc2 (c := (-2)) (zd_RX7_197 _ rfl) (by decide) ⟨by decide, by decide⟩ dX7_least_23 ?_
      refine z_goto (tgt := 38) dX7_least_26 (by decide) ?_
      exact z_retaJ dX7_least_38 rfl o11.1 o11.2 h
  · have h := h.2 c12
    refine z_ldc2 (c := (-1)) (zd_RX7_192 _ rfl) (by decide) ⟨by decide, by decide⟩ dX7_least_12 ?_
    exact z_retaJ dX7_least_15 rfl o11.1 o11.2 h
set_option maxRecDepth 100000 in
set_option maxHeartbeats 4000000 in
theorem en_X7_worst {E : zE} {F : Int → zS → zH → Prop} {mc ms : Nat} {S : zS} {a0 : Int} {V : zH}
    (h : ((S a0).1 = 10) ∧ ∃ m4 m5 : Nat, (0 + m4 ≤ mc ∧ 0 + m5 ≤ ms) ∧ SaR E 5 m4 m5 zm_X7_freshSolver [zrv a0] S V (fun x2 S7 V3 => ((S7 x2).1 = 8) ∧ (0 + m4 ≤ mc ∧ 0 + m5 ≤ ms) ∧ SpF E 0 zm_X5_hasManyPushings [zrv x2] S7 V3 (fun x9 => ((x9 = 0) → (((S7 a0).1 = 10) ∧ ∃ m16 m17 : Nat, (0 + m4 + m16 ≤ mc ∧ 0 + m5 + m17 ≤ ms) ∧ SaI E 46 m16 m17 zm_X5_tellWorst [zrv x2, zrv (V3 a0 3)] S7 V3 (fun x14 S19 V15 => (0 + m4 + m16 ≤ mc ∧ 0 + m5 + m17 ≤ ms) ∧ F x14 S19 V15))) ∧ ((x9 ≠ 0) → (F (-2) S7 V3))))) :
    SaJ E 47 mc ms zm_X7_worst [zrv a0] S V F := by
  refine Sp.of (plainFor_of_name (by decide +kernel)) (Nat.le_of_ble_eq_true rfl) (fun hok X => ?_)
  have h := h
  show Zr E X (zRoom 47 mc ms) zm_X7_worst (zQm E X (zaJ F) mc ms) 0 0 0 [(0, zrv a0)] [] S V
  refine z_aload_n 0 dX7_worst_0 rfl ?_
  obtain ⟨o1, h⟩ := h
  obtain ⟨m4, m5, o6, h⟩ := h
  refine z_aVR [] (zk_RX7_142 _ rfl) dX7_worst_1 o1 (by decide) rfl rfl (Nat.le_of_ble_eq_true rfl) (Nat.le_of_ble_eq_true rfl) (Nat.le_of_ble_eq_true rfl) o6.1 o6.2 h (fun x2 S7 V3 h => ?_)
  refine z_astore_n dX7_worst_4 (by decide) (L' := [(0, zrv a0), (1, zrv x2)]) [1, 0] rfl ?_
  refine z_aload_n 1 dX7_worst_5 rfl ?_
  obtain ⟨o8, h⟩ := h
  obtain ⟨o11, h⟩ := h
  refine z_cVF [] (zk_RX7_203 _ rfl) dX7_worst_6 o8 (by decide) rfl rfl (Nat.le_of_ble_eq_true rfl) (Nat.le_of_ble_eq_true rfl) (Nat.le_of_ble_eq_true rfl) o11.1 o11.2 h (fun x9 h => ?_)
  refine z_if_eq dX7_worst_9 (tgt := 18) (by decide) (fun c12 => ?_) (fun c12 => ?_)
  · have h := h.1 c12
    refine z_aload_n 1 dX7_worst_18 rfl ?_
    refine z_aload_n 0 dX7_worst_19 rfl ?_
    obtain ⟨o13, h⟩ := h
    refine zgf_7_3 dX7_worst_20 (zf_RX7_33 _ rfl) o13 ?_
    obtain ⟨m16, m17, o18, h⟩ := h
    refine z_aVI [zrv (V3 a0 3)] (zk_RX7_206 _ rfl) dX7_worst_23 o8 (by decide) rfl rfl (Nat.le_of_ble_eq_true rfl) (Nat.le_of_ble_eq_true rfl) (Nat.le_of_ble_eq_true rfl) o18.1 o18.2 h (fun x14 S19 V15 h => ?_)
    refine z_i2l dX7_worst_26 ?_
    obtain ⟨o20, h⟩ := h
    exact z_retaJ dX7_worst_27 rfl o20.1 o20.2 h
  · have h := h.2 c12
    refine z_ldc2 (c := (-2)) (zd_RX7_197 _ rfl) (by decide) ⟨by decide, by decide⟩ dX7_worst_12 ?_
    refine z_goto (tgt := 27) dX7_worst_15 (by decide) ?_
    exact z_retaJ dX7_worst_27 rfl o11.1 o11.2 h
set_option maxRecDepth 100000 in
set_option maxHeartbeats 4000000 in
theorem en_X7_apply {E : zE} {F : Int → zH → Prop} {S : zS} {a0 : Int} {V : zH}
    (h : ((S a0).1 = 10) ∧ ((S (V a0 3)).1 = 9) ∧ ((V (V a0 3) 0 ≠ 1) → (F (-1) V)) ∧ ((V (V a0 3) 0 = 1) → (((S (V a0 0)).1 = 6) ∧ SpF E 1 zm_X3_isPushing [zrv (V a0 0), zrv (V (V a0 3) 3), ziv (V (V a0 3) 1)] S V (fun x5 => ((x5 ≠ 0) → (SpV E 2 zm_X7_beginAct [zrv a0, ziv 3, ziv 0] S V (fun V9 => ((S (V9 a0 3)).1 = 9) ∧ ((S (V9 a0 0)).1 = 6) ∧ SpI E 5 zm_X3_pushAll [zrv (V9 a0 0), zrv (V9 (V9 a0 3) 3)] S V9 (fun x12 V13 => F x12 V13)))) ∧ ((x5 = 0) → (F (-1) V)))))) :
    SpI E 6 zm_X7_apply [zrv a0] S V F := by
  refine Sp.of (plainFor_of_name (by decide +kernel)) (Nat.le_of_ble_eq_true rfl) (fun hok X => ?_)
  have h := h
  show Zr E X (zRoom 6 0 0) zm_X7_apply (zQm E X (zpI S F) 0 0) 0 0 0 [(0, zrv a0)] [] S V
  refine z_aload_n 0 dX7_apply_0 rfl ?_
  obtain ⟨o1, h⟩ := h
  refine zgf_7_3 dX7_apply_1 (zf_RX7_33 _ rfl) o1 ?_
  obtain ⟨o2, h⟩ := h
  refine zgf_6_0 dX7_apply_4 (zf_RX7_209 _ rfl) o2 ?_
  refine z_iconst dX7_apply_7 ⟨by decide, by decide⟩ ?_
  refine z_icmp_ne dX7_apply_8 (tgt := 35) (by decide) (fun c3 => ?_) (fun c3 => ?_)
  · have h := h.1 c3
    refine z_iconst dX7_apply_35 ⟨by decide, by decide⟩ ?_
    exact z_retI dX7_apply_36 rfl h
  · have h := h.2 c3
    refine z_aload_n 0 dX7_apply_11 rfl ?_
    refine zgf_7_0 dX7_apply_12 (zf_RX7_12 _ rfl) o1 ?_
    refine z_aload_n 0 dX7_apply_15 rfl ?_
    refine zgf_7_3 dX7_apply_16 (zf_RX7_33 _ rfl) o1 ?_
    refine zgf_6_3 dX7_apply_19 (zf_RX7_163 _ rfl) o2 ?_
    refine z_aload_n 0 dX7_apply_22 rfl ?_
    refine zgf_7_3 dX7_apply_23 (zf_RX7_33 _ rfl) o1 ?_
    refine zgf_6_1 dX7_apply_26 (zf_RX7_162 _ rfl) o2 ?_
    obtain ⟨o4, h⟩ := h
    refine z_cVF [zrv (V (V a0 3) 3), ziv (V (V a0 3) 1)] (zk_RX7_210 _ rfl) dX7_apply_29 o4 (by decide) rfl rfl (Nat.le_of_ble_eq_true rfl) (Nat.le_of_ble_eq_true rfl) (Nat.le_of_ble_eq_true rfl) (Nat.le_of_ble_eq_true rfl) (Nat.le_of_ble_eq_true rfl) h (fun x5 h => ?_)
    refine z_if_ne dX7_apply_32 (tgt := 37) (by decide) (fun c7 => ?_) (fun c7 => ?_)
    · have h := h.1 c7
      refine z_aload_n 0 dX7_apply_37 rfl ?_
      refine z_iconst dX7_apply_38 ⟨by decide, by decide⟩ ?_
      refine z_iconst dX7_apply_39 ⟨by decide, by decide⟩ ?_
      refine z_cVV [ziv 3, ziv 0] (zk_RX7_56 _ rfl) dX7_apply_40 o1 (by decide) rfl rfl (Nat.le_of_ble_eq_true rfl) (Nat.le_of_ble_eq_true rfl) (Nat.le_of_ble_eq_true rfl) (Nat.le_of_ble_eq_true rfl) (Nat.le_of_ble_eq_true rfl) h (fun V9 h => ?_)
      refine z_aload_n 0 dX7_apply_43 rfl ?_
      refine zgf_7_0 dX7_apply_44 (zf_RX7_12 _ rfl) o1 ?_
      refine z_aload_n 0 dX7_apply_47 rfl ?_
      refine zgf_7_3 dX7_apply_48 (zf_RX7_33 _ rfl) o1 ?_
      obtain ⟨o10, h⟩ := h
      refine zgf_6_3 dX7_apply_51 (zf_RX7_163 _ rfl) o10 ?_
      obtain ⟨o11, h⟩ := h
      refine z_cVI [zrv (V9 (V9 a0 3) 3)] (zk_RX7_214 _ rfl) dX7_apply_54 o11 (by decide) rfl rfl (Nat.le_of_ble_eq_true rfl) (Nat.le_of_ble_eq_true rfl) (Nat.le_of_ble_eq_true rfl) (Nat.le_of_ble_eq_true rfl) (Nat.le_of_ble_eq_true rfl) h (fun x12 V13 h => ?_)
      exact z_retI dX7_apply_57 rfl h
    · have h := h.2 c7
      refine z_iconst dX7_apply_35 ⟨by decide, by decide⟩ ?_
      exact z_retI dX7_apply_36 rfl h
set_option maxRecDepth 100000 in
set_option maxHeartbeats 4000000 in
theorem en_X7_tell {E : zE} {F : Int → zH → Prop} {S : zS} {a0 a1 : Int} {V : zH}
    (h : z32 a1 → ((S a0).1 = 10) ∧ ((36 ≤ V a0 5) → (F (-1) V)) ∧ ((V a0 5 < 36) → (((a1 < 0) → (F (-1) V)) ∧ ((0 ≤ a1) → (((a1 < 12) → (((S (V a0 4)).1 = 1) ∧ ((0 : Int) ≤ V a0 5 ∧ V a0 5 < (S (V a0 4)).2) ∧ ∀ V7 : zH, V7 = zput V (V a0 4) (V a0 5) a1 → (z32 ((V a0 5) + 1)) ∧ ∀ V10 : zH, V10 = zput V7 a0 5 ((V a0 5) + 1) → F ((V a0 5) + 1) V10)) ∧ ((12 ≤ a1) → (F (-1) V))))))) :
    SpI E 0 zm_X7_tell [zrv a0, ziv a1] S V F := by
  refine Sp.of (plainFor_of_name (by decide +kernel)) (Nat.le_of_ble_eq_true rfl) (fun hok X => ?_)
  have h := h (hok _ (List.mem_cons_of_mem _ (List.mem_cons_self)))
  show Zr E X (zRoom 0 0 0) zm_X7_tell (zQm E X (zpI S F) 0 0) 0 0 0 [(0, zrv a0), (1, ziv a1)] [] S V
  refine z_aload_n 0 dX7_tell_0 rfl ?_
  obtain ⟨o1, h⟩ := h
  refine zgf_7_5 dX7_tell_1 (zf_RX7_218 _ rfl) o1 ?_
  refine z_bipush dX7_tell_4 ⟨by decide, by decide⟩ (by decide) ?_
  refine z_icmp_ge dX7_tell_6 (tgt := 19) (by decide) (fun c2 => ?_) (fun c2 => ?_)
  · have h := h.1 c2
    refine z_iconst dX7_tell_19 ⟨by decide, by decide⟩ ?_
    exact z_retI dX7_tell_20 rfl h
  · have h := h.2 c2
    refine z_iload_n 1 dX7_tell_9 rfl ?_
    refine z_if_lt dX7_tell_10 (tgt := 19) (by decide) (fun c3 => ?_) (fun c3 => ?_)
    · have h := h.1 c3
      refine z_iconst dX7_tell_19 ⟨by decide, by decide⟩ ?_
      exact z_retI dX7_tell_20 rfl h
    · have h := h.2 c3
      refine z_iload_n 1 dX7_tell_13 rfl ?_
      refine z_bipush dX7_tell_14 ⟨by decide, by decide⟩ (by decide) ?_
      refine z_icmp_lt dX7_tell_16 (tgt := 21) (by decide) (fun c4 => ?_) (fun c4 => ?_)
      · have h := h.1 c4
        refine z_aload_n 0 dX7_tell_21 rfl ?_
        refine zgf_7_4 dX7_tell_22 (zf_RX7_37 _ rfl) o1 ?_
        refine z_aload_n 0 dX7_tell_25 rfl ?_
        refine zgf_7_5 dX7_tell_26 (zf_RX7_218 _ rfl) o1 ?_
        refine z_iload_n 1 dX7_tell_29 rfl ?_
        obtain ⟨o5, h⟩ := h
        obtain ⟨o6, h⟩ := h
        refine z_iast dX7_tell_30 o5 o6 ?_
        refine z_nameV (fun V7 e8 => ?_)
        have h := h V7 e8
        refine z_aload_n 0 dX7_tell_31 rfl ?_
        refine z_dup (zref_cat _) dX7_tell_32 ?_
        refine zgf_7_5 dX7_tell_33 (zf_RX7_218 _ rfl) o1 ?_
        refine z_topI (zfr_k e8 o5 o1 (by decide)) ?_
        refine z_iconst dX7_tell_36 ⟨by decide, by decide⟩ ?_
        obtain ⟨o9, h⟩ := h
        refine z_iadd dX7_tell_37 o9 ?_
        refine zpf_7_5 dX7_tell_38 (zf_RX7_218 _ rfl) o1 ?_
        refine z_nameV (fun V10 e11 => ?_)
        have h := h V10 e11
        refine z_aload_n 0 dX7_tell_41 rfl ?_
        refine zgf_7_5 dX7_tell_42 (zf_RX7_218 _ rfl) o1 ?_
        refine z_topI (zfr_s e11) ?_
        exact z_retI dX7_tell_45 rfl h
      · have h := h.2 c4
        refine z_iconst dX7_tell_19 ⟨by decide, by decide⟩ ?_
        exact z_retI dX7_tell_20 rfl h
def zl_X7_check_12 (E : zE) (X : zX) (F : Int → zH → Prop) (S : zS) (a0 a1 : Int) (V : zH) : Prop := Zr E X (zRoom 6 0 0) zm_X7_check (zQm E X (zpI S F) 0 0) 0 0 12 [(0, zrv a0), (1, ziv a1)] [] S V
set_option maxRecDepth 100000 in
set_option maxHeartbeats 4000000 in
theorem wp_X7_check_12 {E : zE} {X : zX} {F : Int → zH → Prop} {S : zS} {a0 a1 : Int} {V : zH}
    (h : ((S a0).1 = 10) ∧ ∀ x2 : Int, x2 = V a0 5 → ∀ V4 : zH, V4 = zput V a0 5 0 → ((a1 ≠ 0) → (((S (V a0 0)).1 = 6) ∧ ∀ x8 : Int, x8 = V (V a0 0) 0 → ((x2 ≠ x8) → (F 100 V4)) ∧ ((x2 = x8) → (SpF E 0 zm_X3_allBelowColours [zrv (V a0 0), zrv (V a0 4), ziv x2] S V4 (fun x11 => ((x11 ≠ 0) → (((a1 ≠ 0) → (SpF E 5 zm_X7_checkWeights [zrv a0] S V4 (fun x15 => F x15 V4))) ∧ ((a1 = 0) → (SpF E 5 zm_X7_checkPushing [zrv a0] S V4 (fun x17 => F x17 V4))))) ∧ ((x11 = 0) → (F 100 V4))))))) ∧ ((a1 = 0) → (((S (V a0 0)).1 = 6) ∧ ∀ x20 : Int, x20 = V (V a0 0) 3 → ((x2 ≠ x20) → (F 100 V4)) ∧ ((x2 = x20) → (SpF E 0 zm_X3_allBelowColours [zrv (V a0 0), zrv (V a0 4), ziv x2] S V4 (fun x23 => ((x23 ≠ 0) → (((a1 ≠ 0) → (SpF E 5 zm_X7_checkWeights [zrv a0] S V4 (fun x27 => F x27 V4))) ∧ ((a1 = 0) → (SpF E 5 zm_X7_checkPushing [zrv a0] S V4 (fun x29 => F x29 V4))))) ∧ ((x23 = 0) → (F 100 V4)))))))) :
    zl_X7_check_12 E X F S a0 a1 V := by
  unfold zl_X7_check_12
  refine z_aload_n 0 dX7_check_12 rfl ?_
  obtain ⟨o1, h⟩ := h
  refine zgf_7_5 dX7_check_13 (zf_RX7_218 _ rfl) o1 ?_
  refine z_nameI (fun x2 e3 => ?_)
  have h := h x2 e3
  refine z_istore_n dX7_check_16 (by decide) (L' := [(0, zrv a0), (1, ziv a1), (2, ziv x2)]) [1, 2, 0] rfl ?_
  refine z_aload_n 0 dX7_check_17 rfl ?_
  refine z_iconst dX7_check_18 ⟨by decide, by decide⟩ ?_
  refine zpf_7_5 dX7_check_19 (zf_RX7_218 _ rfl) o1 ?_
  refine z_nameV (fun V4 e5 => ?_)
  have h := h V4 e5
  refine z_iload_n 1 dX7_check_22 rfl ?_
  refine z_if_ne dX7_check_23 (tgt := 36) (by decide) (fun c6 => ?_) (fun c6 => ?_)
  · have h := h.1 c6
    refine z_aload_n 0 dX7_check_36 rfl ?_
    refine zgf_7_0 dX7_check_37 (zf_RX7_12 _ rfl) o1 ?_
    refine z_topR (zfr_j e5 (by decide)) ?_
    obtain ⟨o7, h⟩ := h
    refine zgf_3_0 dX7_check_40 (zf_RX7_127 _ rfl) o7 ?_
    refine z_topI (zfr_k e5 o1 o7 (by decide)) ?_
    refine z_nameI (fun x8 e9 => ?_)
    have h := h x8 e9
    refine z_istore_n dX7_check_43 (by decide) (L' := [(0, zrv a0), (1, ziv a1), (2, ziv x2), (3, ziv x8)]) [1, 2, 3, 0] rfl ?_
    refine z_iload_n 2 dX7_check_44 rfl ?_
    refine z_iload_n 3 dX7_check_45 rfl ?_
    refine z_icmp_ne dX7_check_46 (tgt := 64) (by decide) (fun c10 => ?_) (fun c10 => ?_)
    · have h := h.1 c10
      refine z_bipush dX7_check_64 ⟨by decide, by decide⟩ (by decide) ?_
      exact z_retI dX7_check_66 rfl h
    · have h := h.2 c10
      refine z_aload_n 0 dX7_check_49 rfl ?_
      refine zgf_7_0 dX7_check_50 (zf_RX7_12 _ rfl) o1 ?_
      refine z_topR (zfr_j e5 (by decide)) ?_
      refine z_aload_n 0 dX7_check_53 rfl ?_
      refine zgf_7_4 dX7_check_54 (zf_RX7_37 _ rfl) o1 ?_
      refine z_topR (zfr_j e5 (by decide)) ?_
      refine z_iload_n 2 dX7_check_57 rfl ?_
      refine z_cVF [zrv (V a0 4), ziv x2] (zk_RX7_221 _ rfl) dX7_check_58 o7 (by decide) rfl rfl (Nat.le_of_ble_eq_true rfl) (Nat.le_of_ble_eq_true rfl) (Nat.le_of_ble_eq_true rfl) (Nat.le_of_ble_eq_true rfl) (Nat.le_of_ble_eq_true rfl) h (fun x11 h => ?_)
      refine z_if_ne dX7_check_61 (tgt := 67) (by decide) (fun c13 => ?_) (fun c13 => ?_)
      · have h := h.1 c13
        refine z_iload_n 1 dX7_check_67 rfl ?_
        refine z_if_ne dX7_check_68 (tgt := 78) (by decide) (fun c14 => ?_) (fun c14 => ?_)
        · have h := h.1 c14
          refine z_aload_n 0 dX7_check_78 rfl ?_
          refine z_cVF [] (zk_RX7_227 _ rfl) dX7_check_79 o1 (by decide) rfl rfl (Nat.le_of_ble_eq_true rfl) (Nat.le_of_ble_eq_true rfl) (Nat.le_of_ble_eq_true rfl) (Nat.le_of_ble_eq_true rfl) (Nat.le_of_ble_eq_true rfl) h (fun x15 h => ?_)
          exact z_retI dX7_check_82 rfl h
        · have h := h.2 c14
          refine z_aload_n 0 dX7_check_71 rfl ?_
          refine z_cVF [] (zk_RX7_224 _ rfl) dX7_check_72 o1 (by decide) rfl rfl (Nat.le_of_ble_eq_true rfl) (Nat.le_of_ble_eq_true rfl) (Nat.le_of_ble_eq_true rfl) (Nat.le_of_ble_eq_true rfl) (Nat.le_of_ble_eq_true rfl) h (fun x17 h => ?_)
          refine z_goto (tgt := 82) dX7_check_75 (by decide) ?_
          exact z_retI dX7_check_82 rfl h
      · have h := h.2 c13
        refine z_bipush dX7_check_64 ⟨by decide, by decide⟩ (by decide) ?_
        exact z_retI dX7_check_66 rfl h
  · have h := h.2 c6
    refine z_aload_n 0 dX7_check_26 rfl ?_
    refine zgf_7_0 dX7_check_27 (zf_RX7_12 _ rfl) o1 ?_
    refine z_topR (zfr_j e5 (by decide)) ?_
    obtain ⟨o19, h⟩ := h
    refine zgf_3_3 dX7_check_30 (zf_RX7_48 _ rfl) o19 ?_
    refine z_topI (zfr_k e5 o1 o19 (by decide)) ?_
    refine z_goto (tgt := 43) dX7_check_33 (by decide) ?_
    refine z_nameI (fun x20 e21 => ?_)
    have h := h x20 e21
    refine z_istore_n dX7_check_43 (by decide) (L' := [(0, zrv a0), (1, ziv a1), (2, ziv x2), (3, ziv x20)]) [1, 2, 3, 0] rfl ?_
    refine z_iload_n 2 dX7_check_44 rfl ?_
    refine z_iload_n 3 dX7_check_45 rfl ?_
    refine z_icmp_ne dX7_check_46 (tgt := 64) (by decide) (fun c22 => ?_) (fun c22 => ?_)
    · have h := h.1 c22
      refine z_bipush dX7_check_64 ⟨by decide, by decide⟩ (by decide) ?_
      exact z_retI dX7_check_66 rfl h
    · have h := h.2 c22
      refine z_aload_n 0 dX7_check_49 rfl ?_
      refine zgf_7_0 dX7_check_50 (zf_RX7_12 _ rfl) o1 ?_
      refine z_topR (zfr_j e5 (by decide)) ?_
      refine z_aload_n 0 dX7_check_53 rfl ?_
      refine zgf_7_4 dX7_check_54 (zf_RX7_37 _ rfl) o1 ?_
      refine z_topR (zfr_j e5 (by decide)) ?_
      refine z_iload_n 2 dX7_check_57 rfl ?_
      refine z_cVF [zrv (V a0 4), ziv x2] (zk_RX7_221 _ rfl) dX7_check_58 o19 (by decide) rfl rfl (Nat.le_of_ble_eq_true rfl) (Nat.le_of_ble_eq_true rfl) (Nat.le_of_ble_eq_true rfl) (Nat.le_of_ble_eq_true rfl) (Nat.le_of_ble_eq_true rfl) h (fun x23 h => ?_)
      refine z_if_ne dX7_check_61 (tgt := 67) (by decide) (fun c25 => ?_) (fun c25 => ?_)
      · have h := h.1 c25
        refine z_iload_n 1 dX7_check_67 rfl ?_
        refine z_if_ne dX7_check_68 (tgt := 78) (by decide) (fun c26 => ?_) (fun c26 => ?_)
        · have h := h.1 c26
          refine z_aload_n 0 dX7_check_78 rfl ?_
          refine z_cVF [] (zk_RX7_227 _ rfl) dX7_check_79 o1 (by decide) rfl rfl (Nat.le_of_ble_eq_true rfl) (Nat.le_of_ble_eq_true rfl) (Nat.le_of_ble_eq_true rfl) (Nat.le_of_ble_eq_true rfl) (Nat.le_of_ble_eq_true rfl) h (fun x27 h => ?_)
          exact z_retI dX7_check_82 rfl h
        · have h := h.2 c26
          refine z_aload_n 0 dX7_check_71 rfl ?_
          refine z_cVF [] (zk_RX7_224 _ rfl) dX7_check_72 o1 (by decide) rfl rfl (Nat.le_of_ble_eq_true rfl) (Nat.le_of_ble_eq_true rfl) (Nat.le_of_ble_eq_true rfl) (Nat.le_of_ble_eq_true rfl) (Nat.le_of_ble_eq_true rfl) h (fun x29 h => ?_)
          refine z_goto (tgt := 82) dX7_check_75 (by decide) ?_
          exact z_retI dX7_check_82 rfl h
      · have h := h.2 c25
        refine z_bipush dX7_check_64 ⟨by decide, by decide⟩ (by decide) ?_
        exact z_retI dX7_check_66 rfl h
set_option maxRecDepth 100000 in
set_option maxHeartbeats 4000000 in
theorem en_X7_check {E : zE} {F : Int → zH → Prop} {S : zS} {a0 a1 : Int} {V : zH}
    (h : z32 a1 → ∀ X : zX, ((a1 = 0) → (zl_X7_check_12 E X F S a0 a1 V)) ∧ ((a1 ≠ 0) → (((a1 = 1) → (zl_X7_check_12 E X F S a0 a1 V)) ∧ ((a1 ≠ 1) → (F (-2) V))))) :
    SpI E 6 zm_X7_check [zrv a0, ziv a1] S V F := by
  refine Sp.of (plainFor_of_name (by decide +kernel)) (Nat.le_of_ble_eq_true rfl) (fun hok X => ?_)
  have h := h (hok _ (List.mem_cons_of_mem _ (List.mem_cons_self))) X
  show Zr E X (zRoom 6 0 0) zm_X7_check (zQm E X (zpI S F) 0 0) 0 0 0 [(0, zrv a0), (1, ziv a1)] [] S V
  refine z_iload_n 1 dX7_check_0 rfl ?_
  refine z_if_eq dX7_check_1 (tgt := 12) (by decide) (fun c1 => ?_) (fun c1 => ?_)
  · have h := h.1 c1
    exact h
  · have h := h.2 c1
    refine z_iload_n 1 dX7_check_4 rfl ?_
    refine z_iconst dX7_check_5 ⟨by decide, by decide⟩ ?_
    refine z_icmp_eq dX7_check_6 (tgt := 12) (by decide) (fun c2 => ?_) (fun c2 => ?_)
    · have h := h.1 c2
      exact h
    · have h := h.2 c2
      refine z_bipush dX7_check_9 ⟨by decide, by decide⟩ (by decide) ?_
      exact z_retI dX7_check_11 rfl h
def zl_X7_checkPushing_25 (E : zE) (X : zX) (F : Int → Prop) (S : zS) (a0 a2 : Int) (V : zH) : Prop := Zr E X (zRoom 5 0 0) zm_X7_checkPushing (zQm E X (zpF S V F) 0 0) 0 0 25 [(0, zrv a0), (2, ziv a2)] [] S V
set_option maxRecDepth 100000 in
set_option maxHeartbeats 4000000 in
theorem wp_X7_checkPushing_25 {E : zE} {X : zX} {F : Int → Prop} {S : zS} {a0 a2 : Int} {V : zH}
    (h : ((S a0).1 = 10) ∧ ((S (V a0 0)).1 = 6) ∧ ((V (V a0 0) 0 ≤ a2) → (F (-1))) ∧ ((a2 < V (V a0 0) 0) → (SpF E 4 zm_X3_patternAt [zrv (V a0 0), zrv (V a0 4), ziv a2] S V (fun x4 => ((S (V (V a0 0) 5)).1 = 1) ∧ ((0 : Int) ≤ a2 ∧ a2 < (S (V (V a0 0) 5)).2) ∧ ((x4 = V (V (V a0 0) 5) a2) → ((z32 (a2 + 1)) ∧ zl_X7_checkPushing_25 E X F S a0 (a2 + 1) V)) ∧ ((x4 ≠ V (V (V a0 0) 5) a2) → ((z32 (300 + a2)) ∧ F (300 + a2))))))) :
    zl_X7_checkPushing_25 E X F S a0 a2 V := by
  unfold zl_X7_checkPushing_25
  refine z_iload_n 1 dX7_checkPushing_25 rfl ?_
  refine z_aload_n 0 dX7_checkPushing_26 rfl ?_
  obtain ⟨o1, h⟩ := h
  refine zgf_7_0 dX7_checkPushing_27 (zf_RX7_12 _ rfl) o1 ?_
  obtain ⟨o2, h⟩ := h
  refine zgf_3_0 dX7_checkPushing_30 (zf_RX7_127 _ rfl) o2 ?_
  refine z_icmp_ge dX7_checkPushing_33 (tgt := 72) (by decide) (fun c3 => ?_) (fun c3 => ?_)
  · have h := h.1 c3
    refine z_iconst dX7_checkPushing_72 ⟨by decide, by decide⟩ ?_
    exact z_retFI dX7_checkPushing_73 rfl h
  · have h := h.2 c3
    refine z_aload_n 0 dX7_checkPushing_36 rfl ?_
    refine zgf_7_0 dX7_checkPushing_37 (zf_RX7_12 _ rfl) o1 ?_
    refine z_aload_n 0 dX7_checkPushing_40 rfl ?_
    refine zgf_7_4 dX7_checkPushing_41 (zf_RX7_37 _ rfl) o1 ?_
    refine z_iload_n 1 dX7_checkPushing_44 rfl ?_
    refine z_cVF [zrv (V a0 4), ziv a2] (zk_RX7_233 _ rfl) dX7_checkPushing_45 o2 (by decide) rfl rfl (Nat.le_of_ble_eq_true rfl) (Nat.le_of_ble_eq_true rfl) (Nat.le_of_ble_eq_true rfl) (Nat.le_of_ble_eq_true rfl) (Nat.le_of_ble_eq_true rfl) h (fun x4 h => ?_)
    refine z_aload_n 0 dX7_checkPushing_48 rfl ?_
    refine zgf_7_0 dX7_checkPushing_49 (zf_RX7_12 _ rfl) o1 ?_
    refine zgf_3_5 dX7_checkPushing_52 (zf_RX7_96 _ rfl) o2 ?_
    refine z_iload_n 1 dX7_checkPushing_55 rfl ?_
    obtain ⟨o6, h⟩ := h
    obtain ⟨o7, h⟩ := h
    refine z_iald dX7_checkPushing_56 o6 o7 ?_
    refine z_icmp_eq dX7_checkPushing_57 (tgt := 66) (by decide) (fun c8 => ?_) (fun c8 => ?_)
    · have h := h.1 c8
      obtain ⟨o9, h⟩ := h
      refine z_iinc 1 dX7_checkPushing_66 rfl (by decide) o9 (L' := [(0, zrv a0), (2, ziv (a2 + 1))]) [1, 0] rfl ?_
      refine z_goto (tgt := 25) dX7_checkPushing_69 (by decide) ?_
      exact h
    · have h := h.2 c8
      refine z_sipush dX7_checkPushing_60 ⟨by decide, by decide⟩ (by decide) ?_
      refine z_iload_n 1 dX7_checkPushing_63 rfl ?_
      obtain ⟨o10, h⟩ := h
      refine z_iadd dX7_checkPushing_64 o10 ?_
      exact z_retFI dX7_checkPushing_65 rfl h
set_option maxRecDepth 100000 in
set_option maxHeartbeats 4000000 in
theorem en_X7_checkPushing {E : zE} {F : Int → Prop} {S : zS} {a0 : Int} {V : zH}
    (h : ∀ X : zX, ((S a0).1 = 10) ∧ ((S (V a0 0)).1 = 6) ∧ SpF E 0 zm_X3_firstStuckPushed [zrv (V a0 0), zrv (V a0 4)] S V (fun x3 => ((x3 = (-1)) → (zl_X7_checkPushing_25 E X F S a0 0 V)) ∧ ((x3 ≠ (-1)) → ((z32 (200 + x3)) ∧ F (200 + x3))))) :
    SpF E 5 zm_X7_checkPushing [zrv a0] S V F := by
  refine Sp.of (plainFor_of_name (by decide +kernel)) (Nat.le_of_ble_eq_true rfl) (fun hok X => ?_)
  have h := h X
  show Zr E X (zRoom 5 0 0) zm_X7_checkPushing (zQm E X (zpF S V F) 0 0) 0 0 0 [(0, zrv a0)] [] S V
  refine z_aload_n 0 dX7_checkPushing_0 rfl ?_
  obtain ⟨o1, h⟩ := h
  refine zgf_7_0 dX7_checkPushing_1 (zf_RX7_12 _ rfl) o1 ?_
  refine z_aload_n 0 dX7_checkPushing_4 rfl ?_
  refine zgf_7_4 dX7_checkPushing_5 (zf_RX7_37 _ rfl) o1 ?_
  obtain ⟨o2, h⟩ := h
  refine z_cVF [zrv (V a0 4)] (zk_RX7_230 _ rfl) dX7_checkPushing_8 o2 (by decide) rfl rfl (Nat.le_of_ble_eq_true rfl) (Nat.le_of_ble_eq_true rfl) (Nat.le_of_ble_eq_true rfl) (Nat.le_of_ble_eq_true rfl) (Nat.le_of_ble_eq_true rfl) h (fun x3 h => ?_)
  refine z_istore_n dX7_checkPushing_11 (by decide) (L' := [(0, zrv a0), (1, ziv x3)]) [1, 0] rfl ?_
  refine z_iload_n 1 dX7_checkPushing_12 rfl ?_
  refine z_iconst dX7_checkPushing_13 ⟨by decide, by decide⟩ ?_
  refine z_icmp_eq dX7_checkPushing_14 (tgt := 23) (by decide) (fun c5 => ?_) (fun c5 => ?_)
  · have h := h.1 c5
    refine z_iconst dX7_checkPushing_23 ⟨by decide, by decide⟩ ?_
    refine z_istore_n dX7_checkPushing_24 (by decide) (L' := [(0, zrv a0), (1, ziv x3), (2, ziv 0)]) [1, 2, 0] rfl ?_
    refine z_loc (L' := [(0, zrv a0), (2, ziv 0)]) [0, 2] rfl ?_
    exact h
  · have h := h.2 c5
    refine z_sipush dX7_checkPushing_17 ⟨by decide, by decide⟩ (by decide) ?_
    refine z_iload_n 1 dX7_checkPushing_20 rfl ?_
    obtain ⟨o6, h⟩ := h
    refine z_iadd dX7_checkPushing_21 o6 ?_
    exact z_retFI dX7_checkPushing_22 rfl h
def zl_X7_checkWeights_2 (E : zE) (X : zX) (F : Int → Prop) (S : zS) (a0 a1 : Int) (V : zH) : Prop := Zr E X (zRoom 5 0 0) zm_X7_checkWeights (zQm E X (zpF S V F) 0 0) 0 0 2 [(0, zrv a0), (1, ziv a1)] [] S V
set_option maxRecDepth 100000 in
set_option maxHeartbeats 4000000 in
theorem wp_X7_checkWeights_2 {E : zE} {X : zX} {F : Int → Prop} {S : zS} {a0 a1 : Int} {V : zH}
    (h : ((S a0).1 = 10) ∧ ((S (V a0 0)).1 = 6) ∧ ((V (V a0 0) 3 ≤ a1) → (SpF E 0 zm_X3_weighShown [zrv (V a0 0), zrv (V a0 4), ziv 0] S V (fun x4 => ((x4 ≠ 0) → (F (-1))) ∧ ((x4 = 0) → (F 300))))) ∧ ((a1 < V (V a0 0) 3) → (((S (V (V a0 0) 6)).1 = 1) ∧ ((0 : Int) ≤ a1 ∧ a1 < (S (V (V a0 0) 6)).2) ∧ ((V (V (V a0 0) 6) a1 = 3) → ((z32 (a1 + 1)) ∧ zl_X7_checkWeights_2 E X F S a0 (a1 + 1) V)) ∧ ((V (V (V a0 0) 6) a1 ≠ 3) → (SpF E 4 zm_X3_weighSteps [zrv (V a0 0), zrv (V a0 4), ziv a1] S V (fun x11 => ((x11 = 0) → ((z32 (a1 + 1)) ∧ zl_X7_checkWeights_2 E X F S a0 (a1 + 1) V)) ∧ ((x11 ≠ 0) → ((z32 (200 + a1)) ∧ F (200 + a1))))))))) :
    zl_X7_checkWeights_2 E X F S a0 a1 V := by
  unfold zl_X7_checkWeights_2
  refine z_iload_n 1 dX7_checkWeights_2 rfl ?_
  refine z_aload_n 0 dX7_checkWeights_3 rfl ?_
  obtain ⟨o1, h⟩ := h
  refine zgf_7_0 dX7_checkWeights_4 (zf_RX7_12 _ rfl) o1 ?_
  obtain ⟨o2, h⟩ := h
  refine zgf_3_3 dX7_checkWeights_7 (zf_RX7_48 _ rfl) o2 ?_
  refine z_icmp_ge dX7_checkWeights_10 (tgt := 53) (by decide) (fun c3 => ?_) (fun c3 => ?_)
  · have h := h.1 c3
    refine z_aload_n 0 dX7_checkWeights_53 rfl ?_
    refine zgf_7_0 dX7_checkWeights_54 (zf_RX7_12 _ rfl) o1 ?_
    refine z_aload_n 0 dX7_checkWeights_57 rfl ?_
    refine zgf_7_4 dX7_checkWeights_58 (zf_RX7_37 _ rfl) o1 ?_
    refine z_iconst dX7_checkWeights_61 ⟨by decide, by decide⟩ ?_
    refine z_cVF [zrv (V a0 4), ziv 0] (zk_RX7_240 _ rfl) dX7_checkWeights_62 o2 (by decide) rfl rfl (Nat.le_of_ble_eq_true rfl) (Nat.le_of_ble_eq_true rfl) (Nat.le_of_ble_eq_true rfl) (Nat.le_of_ble_eq_true rfl) (Nat.le_of_ble_eq_true rfl) h (fun x4 h => ?_)
    refine z_if_ne dX7_checkWeights_65 (tgt := 74) (by decide) (fun c6 => ?_) (fun c6 => ?_)
    · have h := h.1 c6
      refine z_iconst dX7_checkWeights_74 ⟨by decide, by decide⟩ ?_
      exact z_retFI dX7_checkWeights_75 rfl h
    · have h := h.2 c6
      refine z_sipush dX7_checkWeights_68 ⟨by decide, by decide⟩ (by decide) ?_
      refine z_goto (tgt := 75) dX7_checkWeights_71 (by decide) ?_
      exact z_retFI dX7_checkWeights_75 rfl h
  · have h := h.2 c3
    refine z_aload_n 0 dX7_checkWeights_13 rfl ?_
    refine zgf_7_0 dX7_checkWeights_14 (zf_RX7_12 _ rfl) o1 ?_
    refine zgf_3_6 dX7_checkWeights_17 (zf_RX7_81 _ rfl) o2 ?_
    refine z_iload_n 1 dX7_checkWeights_20 rfl ?_
    obtain ⟨o7, h⟩ := h
    obtain ⟨o8, h⟩ := h
    refine z_iald dX7_checkWeights_21 o7 o8 ?_
    refine z_iconst dX7_checkWeights_22 ⟨by decide, by decide⟩ ?_
    refine z_icmp_eq dX7_checkWeights_23 (tgt := 47) (by decide) (fun c9 => ?_) (fun c9 => ?_)
    · have h := h.1 c9
      obtain ⟨o10, h⟩ := h
      refine z_iinc 1 dX7_checkWeights_47 rfl (by decide) o10 (L' := [(0, zrv a0), (1, ziv (a1 + 1))]) [1, 0] rfl ?_
      refine z_goto (tgt := 2) dX7_checkWeights_50 (by decide) ?_
      exact h
    · have h := h.2 c9
      refine z_aload_n 0 dX7_checkWeights_26 rfl ?_
      refine zgf_7_0 dX7_checkWeights_27 (zf_RX7_12 _ rfl) o1 ?_
      refine z_aload_n 0 dX7_checkWeights_30 rfl ?_
      refine zgf_7_4 dX7_checkWeights_31 (zf_RX7_37 _ rfl) o1 ?_
      refine z_iload_n 1 dX7_checkWeights_34 rfl ?_
      refine z_cVF [zrv (V a0 4), ziv a1] (zk_RX7_237 _ rfl) dX7_checkWeights_35 o2 (by decide) rfl rfl (Nat.le_of_ble_eq_true rfl) (Nat.le_of_ble_eq_true rfl) (Nat.le_of_ble_eq_true rfl) (Nat.le_of_ble_eq_true rfl) (Nat.le_of_ble_eq_true rfl) h (fun x11 h => ?_)
      refine z_if_eq dX7_checkWeights_38 (tgt := 47) (by decide) (fun c13 => ?_) (fun c13 => ?_)
      · have h := h.1 c13
        obtain ⟨o14, h⟩ := h
        refine z_iinc 1 dX7_checkWeights_47 rfl (by decide) o14 (L' := [(0, zrv a0), (1, ziv (a1 + 1))]) [1, 0] rfl ?_
        refine z_goto (tgt := 2) dX7_checkWeights_50 (by decide) ?_
        exact h
      · have h := h.2 c13
        refine z_sipush dX7_checkWeights_41 ⟨by decide, by decide⟩ (by decide) ?_
        refine z_iload_n 1 dX7_checkWeights_44 rfl ?_
        obtain ⟨o15, h⟩ := h
        refine z_iadd dX7_checkWeights_45 o15 ?_
        exact z_retFI dX7_checkWeights_46 rfl h
set_option maxRecDepth 100000 in
set_option maxHeartbeats 4000000 in
theorem en_X7_checkWeights {E : zE} {F : Int → Prop} {S : zS} {a0 : Int} {V : zH}
    (h : ∀ X : zX, zl_X7_checkWeights_2 E X F S a0 0 V) :
    SpF E 5 zm_X7_checkWeights [zrv a0] S V F := by
  refine Sp.of (plainFor_of_name (by decide +kernel)) (Nat.le_of_ble_eq_true rfl) (fun hok X => ?_)
  have h := h X
  show Zr E X (zRoom 5 0 0) zm_X7_checkWeights (zQm E X (zpF S V F) 0 0) 0 0 0 [(0, zrv a0)] [] S V
  refine z_iconst dX7_checkWeights_0 ⟨by decide, by decide⟩ ?_
  refine z_istore_n dX7_checkWeights_1 (by decide) (L' := [(0, zrv a0), (1, ziv 0)]) [1, 0] rfl ?_
  exact h
set_option maxRecDepth 100000 in
set_option maxHeartbeats 4000000 in
theorem en_X7_beginAct {E : zE} {F : zH → Prop} {S : zS} {a0 a1 a2 : Int} {V : zH}
    (h : z32 a1 → z32 a2 → ((S a0).1 = 10) ∧ ((S (V a0 2)).1 = 5) ∧ SpV E 1 zm_X2_note [zrv (V a0 2), zrv (V a0 0), ziv a1, ziv a2] S V (fun V4 => ((S (V4 a0 3)).1 = 9) ∧ ∀ V6 : zH, V6 = zput V4 (V4 a0 3) 2 0 → F V6)) :
    SpV E 2 zm_X7_beginAct [zrv a0, ziv a1, ziv a2] S V F := by
  refine Sp.of (plainFor_of_name (by decide +kernel)) (Nat.le_of_ble_eq_true rfl) (fun hok X => ?_)
  have h := h (hok _ (List.mem_cons_of_mem _ (List.mem_cons_self))) (hok _ (List.mem_cons_of_mem _ (List.mem_cons_of_mem _ (List.mem_cons_self))))
  show Zr E X (zRoom 2 0 0) zm_X7_beginAct (zQm E X (zpV S F) 0 0) 0 0 0 [(0, zrv a0), (1, ziv a1), (2, ziv a2)] [] S V
  refine z_aload_n 0 dX7_beginAct_0 rfl ?_
  obtain ⟨o1, h⟩ := h
  refine zgf_7_2 dX7_beginAct_1 (zf_RX7_26 _ rfl) o1 ?_
  refine z_aload_n 0 dX7_beginAct_4 rfl ?_
  refine zgf_7_0 dX7_beginAct_5 (zf_RX7_12 _ rfl) o1 ?_
  refine z_iload_n 1 dX7_beginAct_8 rfl ?_
  refine z_iload_n 2 dX7_beginAct_9 rfl ?_
  obtain ⟨o2, h⟩ := h
  refine z_cVV [zrv (V a0 0), ziv a1, ziv a2] (zk_RX7_243 _ rfl) dX7_beginAct_10 o2 (by decide) rfl rfl (Nat.le_of_ble_eq_true rfl) (Nat.le_of_ble_eq_true rfl) (Nat.le_of_ble_eq_true rfl) (Nat.le_of_ble_eq_true rfl) (Nat.le_of_ble_eq_true rfl) h (fun V4 h => ?_)
  refine z_aload_n 0 dX7_beginAct_13 rfl ?_
  refine zgf_7_3 dX7_beginAct_14 (zf_RX7_33 _ rfl) o1 ?_
  refine z_iconst dX7_beginAct_17 ⟨by decide, by decide⟩ ?_
  obtain ⟨o5, h⟩ := h
  refine zpf_6_2 dX7_beginAct_18 (zf_RX7_117 _ rfl) o5 (Or.inl rfl) ?_
  refine z_nameV (fun V6 e7 => ?_)
  have h := h V6 e7
  exact z_retV dX7_beginAct_21 rfl h
set_option maxRecDepth 100000 in
set_option maxHeartbeats 4000000 in
theorem en_X7_forgetActs {E : zE} {F : zH → Prop} {S : zS} {a0 : Int} {V : zH}
    (h : ((S a0).1 = 10) ∧ ((S (V a0 2)).1 = 5) ∧ ∀ V3 : zH, V3 = zput V (V a0 2) 0 0 → ((S (V a0 3)).1 = 9) ∧ ∀ V6 : zH, V6 = zput V3 (V a0 3) 2 0 → F V6) :
    SpV E 0 zm_X7_forgetActs [zrv a0] S V F := by
  refine Sp.of (plainFor_of_name (by decide +kernel)) (Nat.le_of_ble_eq_true rfl) (fun hok X => ?_)
  have h := h
  show Zr E X (zRoom 0 0 0) zm_X7_forgetActs (zQm E X (zpV S F) 0 0) 0 0 0 [(0, zrv a0)] [] S V
  refine z_aload_n 0 dX7_forgetActs_0 rfl ?_
  obtain ⟨o1, h⟩ := h
  refine zgf_7_2 dX7_forgetActs_1 (zf_RX7_26 _ rfl) o1 ?_
  refine z_iconst dX7_forgetActs_4 ⟨by decide, by decide⟩ ?_
  obtain ⟨o2, h⟩ := h
  refine zpf_2_0 dX7_forgetActs_5 (zf_RX7_112 _ rfl) o2 ?_
  refine z_nameV (fun V3 e4 => ?_)
  have h := h V3 e4
  refine z_aload_n 0 dX7_forgetActs_8 rfl ?_
  refine zgf_7_3 dX7_forgetActs_9 (zf_RX7_33 _ rfl) o1 ?_
  refine z_topR (zfr_k e4 o2 o1 (by decide)) ?_
  refine z_iconst dX7_forgetActs_12 ⟨by decide, by decide⟩ ?_
  obtain ⟨o5, h⟩ := h
  refine zpf_6_2 dX7_forgetActs_13 (zf_RX7_117 _ rfl) o5 (Or.inl rfl) ?_
  refine z_nameV (fun V6 e7 => ?_)
  have h := h V6 e7
  exact z_retV dX7_forgetActs_16 rfl h
set_option maxRecDepth 100000 in
set_option maxHeartbeats 4000000 in
theorem en_X7_freshSolver {E : zE} {F : Int → zS → zH → Prop} {mc ms : Nat} {S : zS} {a0 : Int} {V : zH}
    (h : ((S a0).1 = 10) ∧ ((0 < V a0 7) → (((S (V a0 7)).1 = 8) ∧ SpV E 4 zm_X5_refresh [zrv (V a0 7)] S V (fun V5 => (0 ≤ mc ∧ 0 ≤ ms) ∧ F (V5 a0 7) S V5))) ∧ ((V a0 7 = 0) → ((0 + 1 ≤ mc ∧ 0 + 10 ≤ ms) ∧ ∀ r8 : Int, 0 < r8 → ((S r8).1 = 0 ∧ ∀ q : Int, (S q).1 ≠ 0 → q < r8 ∧ (S (r8 - 1)).1 ≠ 0) → ∀ (S11 : zS) (V12 : zH), S11 = zSn S r8 (8, 10) → V12 = zVn V r8 → ∃ m19 m20 : Nat, (0 + 1 + m19 ≤ mc ∧ 0 + 10 + m20 ≤ ms) ∧ SaV E 2 m19 m20 zm_X5_init [zrv r8, zrv (V12 a0 0)] S11 V12 (fun S22 V18 => ((S22 a0).1 = 10) ∧ ∀ V24 : zH, V24 = zput V18 a0 7 r8 → ((S22 r8).1 = 8) ∧ (0 + 1 + m19 ≤ mc ∧ 0 + 10 + m20 ≤ ms) ∧ SpV E 4 zm_X5_refresh [zrv r8] S22 V24 (fun V28 => F (V28 a0 7) S22 V28))))) :
    SaR E 5 mc ms zm_X7_freshSolver [zrv a0] S V F := by
  refine Sp.of (plainFor_of_name (by decide +kernel)) (Nat.le_of_ble_eq_true rfl) (fun hok X => ?_)
  have h := h
  show Zr E X (zRoom 5 mc ms) zm_X7_freshSolver (zQm E X (zaR F) mc ms) 0 0 0 [(0, zrv a0)] [] S V
  refine z_aload_n 0 dX7_freshSolver_0 rfl ?_
  obtain ⟨o1, h⟩ := h
  refine zgf_7_7 dX7_freshSolver_1 (zf_RX7_247 _ rfl) o1 ?_
  refine z_ifnonnull dX7_freshSolver_4 (tgt := 22) (by decide) (fun c2 => ?_) (fun c2 => ?_)
  · have h := h.1 c2
    refine z_aload_n 0 dX7_freshSolver_22 rfl ?_
    refine zgf_7_7 dX7_freshSolver_23 (zf_RX7_247 _ rfl) o1 ?_
    obtain ⟨o3, h⟩ := h
    refine z_cVV [] (zk_RX7_253 _ rfl) dX7_freshSolver_26 o3 (by decide) rfl rfl (Nat.le_of_ble_eq_true rfl) (Nat.le_of_ble_eq_true rfl) (Nat.le_of_ble_eq_true rfl) (Nat.zero_le _) (Nat.zero_le _) h (fun V5 h => ?_)
    refine z_aload_n 0 dX7_freshSolver_29 rfl ?_
    refine zgf_7_7 dX7_freshSolver_30 (zf_RX7_247 _ rfl) o1 ?_
    obtain ⟨o6, h⟩ := h
    exact z_retaR dX7_freshSolver_33 rfl o6.1 o6.2 h
  · have h := h.2 c2
    refine z_aload_n 0 dX7_freshSolver_7 rfl ?_
    obtain ⟨o7, h⟩ := h
    refine znw_5 dX7_freshSolver_8 (zn_RX7_147 _ rfl) o7 (fun r8 q9 f10 => ?_)
    refine z_nameS (fun S11 V12 e13 e14 => ?_)
    have h := h r8 q9 f10 S11 V12 e13 e14
    have o15 : (S11 a0).1 = 10 := zSn_k e13 o1 f10.1 (by decide)
    have o16 : (S11 r8).1 = 8 := zSn_r e13
    refine z_dup (zref_cat _) dX7_freshSolver_11 ?_
    refine z_aload_n 0 dX7_freshSolver_12 rfl ?_
    refine zgf_7_0 dX7_freshSolver_13 (zf_RX7_12 _ rfl) o15 ?_
    obtain ⟨m19, m20, o21, h⟩ := h
    refine z_aI [zrv (V12 a0 0)] (zk_RX7_251 _ rfl) dX7_freshSolver_16 q9 rfl rfl (Nat.le_of_ble_eq_true rfl) (Nat.le_of_ble_eq_true rfl) (Nat.le_of_ble_eq_true rfl) o21.1 o21.2 h (fun S22 V18 h => ?_)
    obtain ⟨o23, h⟩ := h
    refine zpf_7_7 dX7_freshSolver_19 (zf_RX7_247 _ rfl) o23 ?_
    refine z_nameV (fun V24 e25 => ?_)
    have h := h V24 e25
    refine z_aload_n 0 dX7_freshSolver_22 rfl ?_
    refine zgf_7_7 dX7_freshSolver_23 (zf_RX7_247 _ rfl) o23 ?_
    refine z_topR (zfr_s e25) ?_
    obtain ⟨o26, h⟩ := h
    obtain ⟨o29, h⟩ := h
    refine z_cVV [] (zk_RX7_253 _ rfl) dX7_freshSolver_26 o26 (by decide) rfl rfl (Nat.le_of_ble_eq_true rfl) (Nat.le_of_ble_eq_true rfl) (Nat.le_of_ble_eq_true rfl) o29.1 o29.2 h (fun V28 h => ?_)
    refine z_aload_n 0 dX7_freshSolver_29 rfl ?_
    refine zgf_7_7 dX7_freshSolver_30 (zf_RX7_247 _ rfl) o23 ?_
    exact z_retaR dX7_freshSolver_33 rfl o29.1 o29.2 h
