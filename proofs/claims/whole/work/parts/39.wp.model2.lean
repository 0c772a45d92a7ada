def zl_X8_reduce_2 (E : zE) (X : zX) (F : zH → Prop) (S : zS) (a0 a1 : Int) (V : zH) : Prop := Zr E X (zRoom 1 0 0) zm_X8_reduce (zQm E X (zpV S F) 0 0) 0 0 2 [(0, zrv a0), (1, ziv a1)] [] S V
def zl_X8_reduce_14 (E : zE) (X : zX) (F : zH → Prop) (S : zS) (a0 a1 a2 : Int) (V : zH) : Prop := Zr E X (zRoom 1 0 0) zm_X8_reduce (zQm E X (zpV S F) 0 0) 0 0 14 [(0, zrv a0), (1, ziv a1), (2, ziv a2)] [] S V
def zl_X8_reduce_45 (E : zE) (X : zX) (F : zH → Prop) (S : zS) (a0 a1 a2 a3 a4 : Int) (V : zH) : Prop := Zr E X (zRoom 1 0 0) zm_X8_reduce (zQm E X (zpV S F) 0 0) 0 0 45 [(0, zrv a0), (1, ziv a1), (2, ziv a2), (3, ziv a3), (4, ziv a4)] [] S V
set_option maxRecDepth 100000 in
set_option maxHeartbeats 4000000 in
theorem wp_X8_reduce_2 {E : zE} {X : zX} {F : zH → Prop} {S : zS} {a0 a1 : Int} {V : zH}
    (h : ((S a0).1 = 11) ∧ ((V a0 10 ≤ a1) → (F V)) ∧ ((a1 < V a0 10) → ((z32 (a1 - 1)) ∧ zl_X8_reduce_14 E X F S a0 a1 (a1 - 1) V))) :
    zl_X8_reduce_2 E X F S a0 a1 V := by
  unfold zl_X8_reduce_2
  refine z_iload_n 1 dX8_reduce_2 rfl ?_
  refine z_aload_n 0 dX8_reduce_3 rfl ?_
  obtain ⟨o1, h⟩ := h
  refine zgf_8_10 dX8_reduce_4 (zf_RX8_148 _ rfl) o1 ?_
  refine z_icmp_ge dX8_reduce_7 (tgt := 131) (by decide) (fun c2 => ?_) (fun c2 => ?_)
  · have h := h.1 c2
    exact z_retV dX8_reduce_131 rfl h
  · have h := h.2 c2
    refine z_iload_n 1 dX8_reduce_10 rfl ?_
    refine z_iconst dX8_reduce_11 ⟨by decide, by decide⟩ ?_
    obtain ⟨o3, h⟩ := h
    refine z_isub dX8_reduce_12 o3 ?_
    refine z_istore_n dX8_reduce_13 (by decide) (L' := [(0, zrv a0), (1, ziv a1), (2, ziv (a1 - 1))]) [1, 2, 0] rfl ?_
    exact h
set_option maxRecDepth 100000 in
set_option maxHeartbeats 4000000 in
theorem wp_X8_reduce_14 {E : zE} {X : zX} {F : zH → Prop} {S : zS} {a0 a1 a2 : Int} {V : zH}
    (h : ((a2 < 0) → ((z32 (a1 + 1)) ∧ zl_X8_reduce_2 E X F S a0 (a1 + 1) V)) ∧ ((0 ≤ a2) → (((S a0).1 = 11) ∧ (z32 (37 * a1)) ∧ (z32 ((37 * a1) + a2)) ∧ ((S (V a0 9)).1 = 1) ∧ ((0 : Int) ≤ (37 * a1) + a2 ∧ (37 * a1) + a2 < (S (V a0 9)).2) ∧ (z32 (37 * a2)) ∧ (z32 ((37 * a2) + a2)) ∧ ((0 : Int) ≤ (37 * a2) + a2 ∧ (37 * a2) + a2 < (S (V a0 9)).2) ∧ ((0 : Int) ≤ V (V a0 9) ((37 * a1) + a2)) ∧ ((0 : Int) < V (V a0 9) ((37 * a2) + a2)) ∧ ∀ x13 : Int, x13 = (V (V a0 9) ((37 * a1) + a2)) / (V (V a0 9) ((37 * a2) + a2)) → zl_X8_reduce_45 E X F S a0 a1 a2 x13 0 V))) :
    zl_X8_reduce_14 E X F S a0 a1 a2 V := by
  unfold zl_X8_reduce_14
  refine z_iload_n 2 dX8_reduce_14 rfl ?_
  refine z_if_lt dX8_reduce_15 (tgt := 125) (by decide) (fun c1 => ?_) (fun c1 => ?_)
  · have h := h.1 c1
    obtain ⟨o2, h⟩ := h
    refine z_iinc 1 dX8_reduce_125 rfl (by decide) o2 (L' := [(0, zrv a0), (1, ziv (a1 + 1)), (2, ziv a2)]) [1, 0, 2] rfl ?_
    refine z_goto (tgt := 2) dX8_reduce_128 (by decide) ?_
    refine z_loc (L' := [(0, zrv a0), (1, ziv (a1 + 1))]) [0, 1] rfl ?_
    exact h
  · have h := h.2 c1
    refine z_aload_n 0 dX8_reduce_18 rfl ?_
    obtain ⟨o3, h⟩ := h
    refine zgf_8_9 dX8_reduce_19 (zf_RX8_28 _ rfl) o3 ?_
    refine z_bipush dX8_reduce_22 ⟨by decide, by decide⟩ (by decide) ?_
    refine z_iload_n 1 dX8_reduce_24 rfl ?_
    obtain ⟨o4, h⟩ := h
    refine z_imul dX8_reduce_25 o4 ?_
    refine z_iload_n 2 dX8_reduce_26 rfl ?_
    obtain ⟨o5, h⟩ := h
    refine z_iadd dX8_reduce_27 o5 ?_
    obtain ⟨o6, h⟩ := h
    obtain ⟨o7, h⟩ := h
    refine z_iald dX8_reduce_28 o6 o7 ?_
    refine z_aload_n 0 dX8_reduce_29 rfl ?_
    refine zgf_8_9 dX8_reduce_30 (zf_RX8_28 _ rfl) o3 ?_
    refine z_bipush dX8_reduce_33 ⟨by decide, by decide⟩ (by decide) ?_
    refine z_iload_n 2 dX8_reduce_35 rfl ?_
    obtain ⟨o8, h⟩ := h
    refine z_imul dX8_reduce_36 o8 ?_
    refine z_iload_n 2 dX8_reduce_37 rfl ?_
    obtain ⟨o9, h⟩ := h
    refine z_iadd dX8_reduce_38 o9 ?_
    obtain ⟨o10, h⟩ := h
    refine z_iald dX8_reduce_39 o6 o10 ?_
    obtain ⟨o11, h⟩ := h
    obtain ⟨o12, h⟩ := h
    refine z_idiv dX8_reduce_40 o11 o12 ?_
    refine z_nameI (fun x13 e14 => ?_)
    have h := h x13 e14
    refine z_istore_n dX8_reduce_41 (by decide) (L' := [(0, zrv a0), (1, ziv a1), (2, ziv a2), (3, ziv x13)]) [1, 2, 3, 0] rfl ?_
    refine z_iconst dX8_reduce_42 ⟨by decide, by decide⟩ ?_
    refine z_istore dX8_reduce_43 (by decide) (L' := [(0, zrv a0), (1, ziv a1), (2, ziv a2), (3, ziv x13), (4, ziv 0)]) [1, 2, 3, 4, 0] rfl ?_
    exact h
set_option maxRecDepth 100000 in
set_option maxHeartbeats 4000000 in
theorem wp_X8_reduce_45 {E : zE} {X : zX} {F : zH → Prop} {S : zS} {a0 a1 a2 a3 a4 : Int} {V : zH}
    (h : ((a2 < a4) → ((z32 (a2 + (-1))) ∧ zl_X8_reduce_14 E X F S a0 a1 (a2 + (-1)) V)) ∧ ((a4 ≤ a2) → (((a3 = 0) → ((z32 (a2 + (-1))) ∧ zl_X8_reduce_14 E X F S a0 a1 (a2 + (-1)) V)) ∧ ((a3 ≠ 0) → (((S a0).1 = 11) ∧ (z32 (37 * a1)) ∧ (z32 ((37 * a1) + a4)) ∧ ((S (V a0 9)).1 = 1) ∧ ((0 : Int) ≤ (37 * a1) + a4 ∧ (37 * a1) + a4 < (S (V a0 9)).2) ∧ (z32 (37 * a2)) ∧ (z32 ((37 * a2) + a4)) ∧ ((0 : Int) ≤ (37 * a2) + a4 ∧ (37 * a2) + a4 < (S (V a0 9)).2) ∧ (z32 (a3 * (V (V a0 9) ((37 * a2) + a4)))) ∧ (z32 ((V (V a0 9) ((37 * a1) + a4)) - (a3 * (V (V a0 9) ((37 * a2) + a4))))) ∧ ((a4 ≠ a2) → (SpF E 0 zm_X8_m [zrv a0] S V (fun x16 => SpF E 0 zm_J9_floorMod_7cf53 [ziv ((V (V a0 9) ((37 * a1) + a4)) - (a3 * (V (V a0 9) ((37 * a2) + a4)))), ziv x16] S V (fun x18 => ∀ V20 : zH, V20 = zput V (V a0 9) ((37 * a1) + a4) x18 → (z32 (a4 + 1)) ∧ zl_X8_reduce_45 E X F S a0 a1 a2 a3 (a4 + 1) V20)))) ∧ ((a4 = a2) → (SpF E 0 zm_J9_floorMod_7cf53 [ziv ((V (V a0 9) ((37 * a1) + a4)) - (a3 * (V (V a0 9) ((37 * a2) + a4)))), ziv 1000] S V (fun x23 => ∀ V25 : zH, V25 = zput V (V a0 9) ((37 * a1) + a4) x23 → (z32 (a4 + 1)) ∧ zl_X8_reduce_45 E X F S a0 a1 a2 a3 (a4 + 1) V25)))))))) :
    zl_X8_reduce_45 E X F S a0 a1 a2 a3 a4 V := by
  unfold zl_X8_reduce_45
  refine z_iload 4 dX8_reduce_45 rfl ?_
  refine z_iload_n 2 dX8_reduce_47 rfl ?_
  refine z_icmp_gt dX8_reduce_48 (tgt := 119) (by decide) (fun c1 => ?_) (fun c1 => ?_)
  · have h := h.1 c1
    obtain ⟨o2, h⟩ := h
    refine z_iinc 2 dX8_reduce_119 rfl (by decide) o2 (L' := [(0, zrv a0), (1, ziv a1), (2, ziv (a2 + (-1))), (3, ziv a3), (4, ziv a4)]) [1, 2, 0, 3, 4] rfl ?_
    refine z_goto (tgt := 14) dX8_reduce_122 (by decide) ?_
    refine z_loc (L' := [(0, zrv a0), (1, ziv a1), (2, ziv (a2 + (-1)))]) [0, 1, 2] rfl ?_
    exact h
  · have h := h.2 c1
    refine z_iload_n 3 dX8_reduce_51 rfl ?_
    refine z_if_eq dX8_reduce_52 (tgt := 119) (by decide) (fun c3 => ?_) (fun c3 => ?_)
    · have h := h.1 c3
      obtain ⟨o4, h⟩ := h
      refine z_iinc 2 dX8_reduce_119 rfl (by decide) o4 (L' := [(0, zrv a0), (1, ziv a1), (2, ziv (a2 + (-1))), (3, ziv a3), (4, ziv a4)]) [1, 2, 0, 3, 4] rfl ?_
      refine z_goto (tgt := 14) dX8_reduce_122 (by decide) ?_
      refine z_loc (L' := [(0, zrv a0), (1, ziv a1), (2, ziv (a2 + (-1)))]) [0, 1, 2] rfl ?_
      exact h
    · have h := h.2 c3
      refine z_aload_n 0 dX8_reduce_55 rfl ?_
      obtain ⟨o5, h⟩ := h
      refine zgf_8_9 dX8_reduce_56 (zf_RX8_28 _ rfl) o5 ?_
      refine z_bipush dX8_reduce_59 ⟨by decide, by decide⟩ (by decide) ?_
      refine z_iload_n 1 dX8_reduce_61 rfl ?_
      obtain ⟨o6, h⟩ := h
      refine z_imul dX8_reduce_62 o6 ?_
      refine z_iload 4 dX8_reduce_63 rfl ?_
      obtain ⟨o7, h⟩ := h
      refine z_iadd dX8_reduce_65 o7 ?_
      refine z_aload_n 0 dX8_reduce_66 rfl ?_
      refine zgf_8_9 dX8_reduce_67 (zf_RX8_28 _ rfl) o5 ?_
      refine z_bipush dX8_reduce_70 ⟨by decide, by decide⟩ (by decide) ?_
      refine z_iload_n 1 dX8_reduce_72 rfl ?_
      refine z_imul dX8_reduce_73 o6 ?_
      refine z_iload 4 dX8_reduce_74 rfl ?_
      refine z_iadd dX8_reduce_76 o7 ?_
      obtain ⟨o8, h⟩ := h
      obtain ⟨o9, h⟩ := h
      refine z_iald dX8_reduce_77 o8 o9 ?_
      refine z_iload_n 3 dX8_reduce_78 rfl ?_
      refine z_aload_n 0 dX8_reduce_79 rfl ?_
      refine zgf_8_9 dX8_reduce_80 (zf_RX8_28 _ rfl) o5 ?_
      refine z_bipush dX8_reduce_83 ⟨by decide, by decide⟩ (by decide) ?_
      refine z_iload_n 2 dX8_reduce_85 rfl ?_
      obtain ⟨o10, h⟩ := h
      refine z_imul dX8_reduce_86 o10 ?_
      refine z_iload 4 dX8_reduce_87 rfl ?_
      obtain ⟨o11, h⟩ := h
      refine z_iadd dX8_reduce_89 o11 ?_
      obtain ⟨o12, h⟩ := h
      refine z_iald dX8_reduce_90 o8 o12 ?_
      obtain ⟨o13, h⟩ := h
      refine z_imul dX8_reduce_91 o13 ?_
      obtain ⟨o14, h⟩ := h
      refine z_isub dX8_reduce_92 o14 ?_
      refine z_iload 4 dX8_reduce_93 rfl ?_
      refine z_iload_n 2 dX8_reduce_95 rfl ?_
      refine z_icmp_ne dX8_reduce_96 (tgt := 105) (by decide) (fun c15 => ?_) (fun c15 => ?_)
      · have h := h.1 c15
        refine z_aload_n 0 dX8_reduce_105 rfl ?_
        refine z_cVF [] (zk_RX8_96 _ rfl) dX8_reduce_106 o5 (by decide) rfl rfl (Nat.le_of_ble_eq_true rfl) (Nat.le_of_ble_eq_true rfl) (Nat.le_of_ble_eq_true rfl) (Nat.le_of_ble_eq_true rfl) (Nat.le_of_ble_eq_true rfl) h (fun x16 h => ?_)
        refine z_cSF [ziv ((V (V a0 9) ((37 * a1) + a4)) - (a3 * (V (V a0 9) ((37 * a2) + a4)))), ziv x16] (zk_RX8_160 _ rfl) dX8_reduce_109 rfl rfl (Nat.le_of_ble_eq_true rfl) (Nat.le_of_ble_eq_true rfl) (Nat.le_of_ble_eq_true rfl) (Nat.le_of_ble_eq_true rfl) (Nat.le_of_ble_eq_true rfl) h (fun x18 h => ?_)
        refine z_iast dX8_reduce_112 o8 o9 ?_
        refine z_nameV (fun V20 e21 => ?_)
        have h := h V20 e21
        obtain ⟨o22, h⟩ := h
        refine z_iinc 4 dX8_reduce_113 rfl (by decide) o22 (L' := [(0, zrv a0), (1, ziv a1), (2, ziv a2), (3, ziv a3), (4, ziv (a4 + 1))]) [1, 2, 3, 4, 0] rfl ?_
        refine z_goto (tgt := 45) dX8_reduce_116 (by decide) ?_
        exact h
      · have h := h.2 c15
        refine z_sipush dX8_reduce_99 ⟨by decide, by decide⟩ (by decide) ?_
        refine z_goto (tgt := 109) dX8_reduce_102 (by decide) ?_
        refine z_cSF [ziv ((V (V a0 9) ((37 * a1) + a4)) - (a3 * (V (V a0 9) ((37 * a2) + a4)))), ziv 1000] (zk_RX8_160 _ rfl) dX8_reduce_109 rfl rfl (Nat.le_of_ble_eq_true rfl) (Nat.le_of_ble_eq_true rfl) (Nat.le_of_ble_eq_true rfl) (Nat.le_of_ble_eq_true rfl) (Nat.le_of_ble_eq_true rfl) h (fun x23 h => ?_)
        refine z_iast dX8_reduce_112 o8 o9 ?_
        refine z_nameV (fun V25 e26 => ?_)
        have h := h V25 e26
        obtain ⟨o27, h⟩ := h
        refine z_iinc 4 dX8_reduce_113 rfl (by decide) o27 (L' := [(0, zrv a0), (1, ziv a1), (2, ziv a2), (3, ziv a3), (4, ziv (a4 + 1))]) [1, 2, 3, 4, 0] rfl ?_
        refine z_goto (tgt := 45) dX8_reduce_116 (by decide) ?_
        exact h
set_option maxRecDepth 100000 in
set_option maxHeartbeats 4000000 in
theorem en_X8_reduce {E : zE} {F : zH → Prop} {S : zS} {a0 : Int} {V : zH}
    (h : ∀ X : zX, zl_X8_reduce_2 E X F S a0 0 V) :
    SpV E 1 zm_X8_reduce [zrv a0] S V F := by
  refine Sp.of (plainFor_of_name (by decide +kernel)) (Nat.le_of_ble_eq_true rfl) (fun hok X => ?_)
  have h := h X
  show Zr E X (zRoom 1 0 0) zm_X8_reduce (zQm E X (zpV S F) 0 0) 0 0 0 [(0, zrv a0)] [] S V
  refine z_iconst dX8_reduce_0 ⟨by decide, by decide⟩ ?_
  refine z_istore_n dX8_reduce_1 (by decide) (L' := [(0, zrv a0), (1, ziv 0)]) [1, 0] rfl ?_
  exact h
set_option maxRecDepth 100000 in
set_option maxHeartbeats 4000000 in
theorem en_X8_pivot {E : zE} {F : Int → Prop} {S : zS} {a0 a1 : Int} {V : zH}
    (h : z32 a1 → ((S a0).1 = 11) ∧ (z32 (37 * a1)) ∧ (z32 ((37 * a1) + a1)) ∧ ((S (V a0 9)).1 = 1) ∧ ((0 : Int) ≤ (37 * a1) + a1 ∧ (37 * a1) + a1 < (S (V a0 9)).2) ∧ F (V (V a0 9) ((37 * a1) + a1))) :
    SpF E 0 zm_X8_pivot [zrv a0, ziv a1] S V F := by
  refine Sp.of (plainFor_of_name (by decide +kernel)) (Nat.le_of_ble_eq_true rfl) (fun hok X => ?_)
  have h := h (hok _ (List.mem_cons_of_mem _ (List.mem_cons_self)))
  show Zr E X (zRoom 0 0 0) zm_X8_pivot (zQm E X (zpF S V F) 0 0) 0 0 0 [(0, zrv a0), (1, ziv a1)] [] S V
  refine z_aload_n 0 dX8_pivot_0 rfl ?_
  obtain ⟨o1, h⟩ := h
  refine zgf_8_9 dX8_pivot_1 (zf_RX8_28 _ rfl) o1 ?_
  refine z_bipush dX8_pivot_4 ⟨by decide, by decide⟩ (by decide) ?_
  refine z_iload_n 1 dX8_pivot_6 rfl ?_
  obtain ⟨o2, h⟩ := h
  refine z_imul dX8_pivot_7 o2 ?_
  refine z_iload_n 1 dX8_pivot_8 rfl ?_
  obtain ⟨o3, h⟩ := h
  refine z_iadd dX8_pivot_9 o3 ?_
  obtain ⟨o4, h⟩ := h
  obtain ⟨o5, h⟩ := h
  refine z_iald dX8_pivot_10 o4 o5 ?_
  exact z_retFI dX8_pivot_11 rfl h
def zl_X8_pushings_14 (E : zE) (X : zX) (F : zH → Prop) (S : zS) (a0 a1 a2 : Int) (V : zH) : Prop := Zr E X (zRoom 4 0 0) zm_X8_pushings (zQm E X (zpV S F) 0 0) 0 0 14 [(0, zrv a0), (1, ziv a1), (2, ziv a2)] [] S V
def zl_X8_pushings_24 (E : zE) (X : zX) (F : zH → Prop) (S : zS) (a0 a1 a2 a3 : Int) (V : zH) : Prop := Zr E X (zRoom 4 0 0) zm_X8_pushings (zQm E X (zpV S F) 0 0) 0 0 24 [(0, zrv a0), (1, ziv a1), (2, ziv a2), (3, ziv a3)] [] S V
def zl_X8_pushings_83 (E : zE) (X : zX) (F : zH → Prop) (S : zS) (a0 a1 a2 : Int) (V : zH) : Prop := Zr E X (zRoom 4 0 0) zm_X8_pushings (zQm E X (zpV S F) 0 0) 0 0 83 [(0, zrv a0), (1, ziv a1), (2, ziv a2)] [] S V
def zl_X8_pushings_110 (E : zE) (X : zX) (F : zH → Prop) (S : zS) (a0 a1 a2 : Int) (V : zH) : Prop := Zr E X (zRoom 4 0 0) zm_X8_pushings (zQm E X (zpV S F) 0 0) 0 0 110 [(0, zrv a0), (1, ziv a1), (2, ziv a2)] [] S V
set_option maxRecDepth 100000 in
set_option maxHeartbeats 4000000 in
theorem wp_X8_pushings_14 {E : zE} {X : zX} {F : zH → Prop} {S : zS} {a0 a1 a2 : Int} {V : zH}
    (h : ((S a0).1 = 11) ∧ SpF E 0 zm_X8_n [zrv a0] S V (fun x2 => ((x2 ≤ a2) → (zl_X8_pushings_83 E X F S a0 a1 0 V)) ∧ ((a2 < x2) → (zl_X8_pushings_24 E X F S a0 a1 a2 0 V)))) :
    zl_X8_pushings_14 E X F S a0 a1 a2 V := by
  unfold zl_X8_pushings_14
  refine z_iload_n 2 dX8_pushings_14 rfl ?_
  refine z_aload_n 0 dX8_pushings_15 rfl ?_
  obtain ⟨o1, h⟩ := h
  refine z_cVF [] (zk_RX8_84 _ rfl) dX8_pushings_16 o1 (by decide) rfl rfl (Nat.le_of_ble_eq_true rfl) (Nat.le_of_ble_eq_true rfl) (Nat.le_of_ble_eq_true rfl) (Nat.le_of_ble_eq_true rfl) (Nat.le_of_ble_eq_true rfl) h (fun x2 h => ?_)
  refine z_icmp_ge dX8_pushings_19 (tgt := 81) (by decide) (fun c4 => ?_) (fun c4 => ?_)
  · have h := h.1 c4
    refine z_iconst dX8_pushings_81 ⟨by decide, by decide⟩ ?_
    refine z_istore_n dX8_pushings_82 (by decide) (L' := [(0, zrv a0), (1, ziv a1), (2, ziv 0)]) [1, 2, 0] rfl ?_
    exact h
  · have h := h.2 c4
    refine z_iconst dX8_pushings_22 ⟨by decide, by decide⟩ ?_
    refine z_istore_n dX8_pushings_23 (by decide) (L' := [(0, zrv a0), (1, ziv a1), (2, ziv a2), (3, ziv 0)]) [1, 2, 3, 0] rfl ?_
    exact h
set_option maxRecDepth 100000 in
set_option maxHeartbeats 4000000 in
theorem wp_X8_pushings_24 {E : zE} {X : zX} {F : zH → Prop} {S : zS} {a0 a1 a2 a3 : Int} {V : zH}
    (h : ((a1 ≤ a3) → (((S a0).1 = 11) ∧ SpF E 0 zm_X8_m [zrv a0] S V (fun x3 => (z32 (4 + a2)) ∧ ((S (V a0 0)).1 = 1) ∧ ((0 : Int) ≤ 4 + a2 ∧ 4 + a2 < (S (V a0 0)).2) ∧ (z32 (x3 - (V (V a0 0) (4 + a2)))) ∧ SpF E 0 zm_X8_m [zrv a0] S V (fun x9 => ((0 : Int) ≤ x3 - (V (V a0 0) (4 + a2))) ∧ ((0 : Int) < x9) ∧ ((S (V a0 11)).1 = 1) ∧ ((0 : Int) ≤ a1 ∧ a1 < (S (V a0 11)).2) ∧ ∀ V15 : zH, V15 = zput V (V a0 11) a1 ((x3 - (V (V a0 0) (4 + a2))) % x9) → SpV E 1 zm_X8_impose [zrv a0] S V15 (fun V18 => (z32 (a2 + 1)) ∧ zl_X8_pushings_14 E X F S a0 a1 (a2 + 1) V18))))) ∧ ((a3 < a1) → (((S a0).1 = 11) ∧ SpF E 3 zm_X8_steps [zrv a0, ziv a3, ziv a2] S V (fun x21 => ((S (V a0 11)).1 = 1) ∧ ((0 : Int) ≤ a3 ∧ a3 < (S (V a0 11)).2) ∧ ∀ V25 : zH, V25 = zput V (V a0 11) a3 x21 → (z32 (a3 + 1)) ∧ zl_X8_pushings_24 E X F S a0 a1 a2 (a3 + 1) V25)))) :
    zl_X8_pushings_24 E X F S a0 a1 a2 a3 V := by
  unfold zl_X8_pushings_24
  refine z_iload_n 3 dX8_pushings_24 rfl ?_
  refine z_iload_n 1 dX8_pushings_25 rfl ?_
  refine z_icmp_ge dX8_pushings_26 (tgt := 47) (by decide) (fun c1 => ?_) (fun c1 => ?_)
  · have h := h.1 c1
    refine z_aload_n 0 dX8_pushings_47 rfl ?_
    obtain ⟨o2, h⟩ := h
    refine zgf_8_11 dX8_pushings_48 (zf_RX8_31 _ rfl) o2 ?_
    refine z_iload_n 1 dX8_pushings_51 rfl ?_
    refine z_aload_n 0 dX8_pushings_52 rfl ?_
    refine z_cVF [] (zk_RX8_96 _ rfl) dX8_pushings_53 o2 (by decide) rfl rfl (Nat.le_of_ble_eq_true rfl) (Nat.le_of_ble_eq_true rfl) (Nat.le_of_ble_eq_true rfl) (Nat.le_of_ble_eq_true rfl) (Nat.le_of_ble_eq_true rfl) h (fun x3 h => ?_)
    refine z_aload_n 0 dX8_pushings_56 rfl ?_
    refine zgf_8_0 dX8_pushings_57 (zf_RX8_9 _ rfl) o2 ?_
    refine z_iconst dX8_pushings_60 ⟨by decide, by decide⟩ ?_
    refine z_iload_n 2 dX8_pushings_61 rfl ?_
    obtain ⟨o5, h⟩ := h
    refine z_iadd dX8_pushings_62 o5 ?_
    obtain ⟨o6, h⟩ := h
    obtain ⟨o7, h⟩ := h
    refine z_iald dX8_pushings_63 o6 o7 ?_
    obtain ⟨o8, h⟩ := h
    refine z_isub dX8_pushings_64 o8 ?_
    refine z_aload_n 0 dX8_pushings_65 rfl ?_
    refine z_cVF [] (zk_RX8_96 _ rfl) dX8_pushings_66 o2 (by decide) rfl rfl (Nat.le_of_ble_eq_true rfl) (Nat.le_of_ble_eq_true rfl) (Nat.le_of_ble_eq_true rfl) (Nat.le_of_ble_eq_true rfl) (Nat.le_of_ble_eq_true rfl) h (fun x9 h => ?_)
    obtain ⟨o11, h⟩ := h
    obtain ⟨o12, h⟩ := h
    refine z_irem dX8_pushings_69 o11 o12 ?_
    obtain ⟨o13, h⟩ := h
    obtain ⟨o14, h⟩ := h
    refine z_iast dX8_pushings_70 o13 o14 ?_
    refine z_nameV (fun V15 e16 => ?_)
    have h := h V15 e16
    refine z_aload_n 0 dX8_pushings_71 rfl ?_
    refine z_cVV [] (zk_RX8_166 _ rfl) dX8_pushings_72 o2 (by decide) rfl rfl (Nat.le_of_ble_eq_true rfl) (Nat.le_of_ble_eq_true rfl) (Nat.le_of_ble_eq_true rfl) (Nat.le_of_ble_eq_true rfl) (Nat.le_of_ble_eq_true rfl) h (fun V18 h => ?_)
    obtain ⟨o19, h⟩ := h
    refine z_iinc 2 dX8_pushings_75 rfl (by decide) o19 (L' := [(0, zrv a0), (1, ziv a1), (2, ziv (a2 + 1)), (3, ziv a3)]) [1, 2, 0, 3] rfl ?_
    refine z_goto (tgt := 14) dX8_pushings_78 (by decide) ?_
    refine z_loc (L' := [(0, zrv a0), (1, ziv a1), (2, ziv (a2 + 1))]) [0, 1, 2] rfl ?_
    exact h
  · have h := h.2 c1
    refine z_aload_n 0 dX8_pushings_29 rfl ?_
    obtain ⟨o20, h⟩ := h
    refine zgf_8_11 dX8_pushings_30 (zf_RX8_31 _ rfl) o20 ?_
    refine z_iload_n 3 dX8_pushings_33 rfl ?_
    refine z_aload_n 0 dX8_pushings_34 rfl ?_
    refine z_iload_n 3 dX8_pushings_35 rfl ?_
    refine z_iload_n 2 dX8_pushings_36 rfl ?_
    refine z_cVF [ziv a3, ziv a2] (zk_RX8_134 _ rfl) dX8_pushings_37 o20 (by decide) rfl rfl (Nat.le_of_ble_eq_true rfl) (Nat.le_of_ble_eq_true rfl) (Nat.le_of_ble_eq_true rfl) (Nat.le_of_ble_eq_true rfl) (Nat.le_of_ble_eq_true rfl) h (fun x21 h => ?_)
    obtain ⟨o23, h⟩ := h
    obtain ⟨o24, h⟩ := h
    refine z_iast dX8_pushings_40 o23 o24 ?_
    refine z_nameV (fun V25 e26 => ?_)
    have h := h V25 e26
    obtain ⟨o27, h⟩ := h
    refine z_iinc 3 dX8_pushings_41 rfl (by decide) o27 (L' := [(0, zrv a0), (1, ziv a1), (2, ziv a2), (3, ziv (a3 + 1))]) [1, 2, 3, 0] rfl ?_
    refine z_goto (tgt := 24) dX8_pushings_44 (by decide) ?_
    exact h
set_option maxRecDepth 100000 in
set_option maxHeartbeats 4000000 in
theorem wp_X8_pushings_83 {E : zE} {X : zX} {F : zH → Prop} {S : zS} {a0 a1 a2 : Int} {V : zH}
    (h : ((a1 ≤ a2) → (((S a0).1 = 11) ∧ ((S (V a0 11)).1 = 1) ∧ ((0 : Int) ≤ a1 ∧ a1 < (S (V a0 11)).2) ∧ ∀ V5 : zH, V5 = zput V (V a0 11) a1 0 → zl_X8_pushings_110 E X F S a0 a1 0 V5)) ∧ ((a2 < a1) → (((S a0).1 = 11) ∧ ((S (V a0 11)).1 = 1) ∧ ((0 : Int) ≤ a2 ∧ a2 < (S (V a0 11)).2) ∧ ∀ V10 : zH, V10 = zput V (V a0 11) a2 0 → (z32 (a2 + 1)) ∧ zl_X8_pushings_83 E X F S a0 a1 (a2 + 1) V10))) :
    zl_X8_pushings_83 E X F S a0 a1 a2 V := by
  unfold zl_X8_pushings_83
  refine z_iload_n 2 dX8_pushings_83 rfl ?_
  refine z_iload_n 1 dX8_pushings_84 rfl ?_
  refine z_icmp_ge dX8_pushings_85 (tgt := 101) (by decide) (fun c1 => ?_) (fun c1 => ?_)
  · have h := h.1 c1
    refine z_aload_n 0 dX8_pushings_101 rfl ?_
    obtain ⟨o2, h⟩ := h
    refine zgf_8_11 dX8_pushings_102 (zf_RX8_31 _ rfl) o2 ?_
    refine z_iload_n 1 dX8_pushings_105 rfl ?_
    refine z_iconst dX8_pushings_106 ⟨by decide, by decide⟩ ?_
    obtain ⟨o3, h⟩ := h
    obtain ⟨o4, h⟩ := h
    refine z_iast dX8_pushings_107 o3 o4 ?_
    refine z_nameV (fun V5 e6 => ?_)
    have h := h V5 e6
    refine z_iconst dX8_pushings_108 ⟨by decide, by decide⟩ ?_
    refine z_istore_n dX8_pushings_109 (by decide) (L' := [(0, zrv a0), (1, ziv a1), (2, ziv 0)]) [1, 2, 0] rfl ?_
    exact h
  · have h := h.2 c1
    refine z_aload_n 0 dX8_pushings_88 rfl ?_
    obtain ⟨o7, h⟩ := h
    refine zgf_8_11 dX8_pushings_89 (zf_RX8_31 _ rfl) o7 ?_
    refine z_iload_n 2 dX8_pushings_92 rfl ?_
    refine z_iconst dX8_pushings_93 ⟨by decide, by decide⟩ ?_
    obtain ⟨o8, h⟩ := h
    obtain ⟨o9, h⟩ := h
    refine z_iast dX8_pushings_94 o8 o9 ?_
    refine z_nameV (fun V10 e11 => ?_)
    have h := h V10 e11
    obtain ⟨o12, h⟩ := h
    refine z_iinc 2 dX8_pushings_95 rfl (by decide) o12 (L' := [(0, zrv a0), (1, ziv a1), (2, ziv (a2 + 1))]) [1, 2, 0] rfl ?_
    refine z_goto (tgt := 83) dX8_pushings_98 (by decide) ?_
    exact h
set_option maxRecDepth 100000 in
set_option maxHeartbeats 4000000 in
theorem wp_X8_pushings_110 {E : zE} {X : zX} {F : zH → Prop} {S : zS} {a0 a1 a2 : Int} {V : zH}
    (h : ((a1 ≤ a2) → (((S a0).1 = 11) ∧ SpV E 1 zm_X8_reduce [zrv a0] S V (fun V4 => F V4))) ∧ ((a2 < a1) → (((S a0).1 = 11) ∧ SpF E 0 zm_X8_isStuck [zrv a0, ziv a2] S V (fun x6 => ((x6 = 0) → ((z32 (a2 + 1)) ∧ zl_X8_pushings_110 E X F S a0 a1 (a2 + 1) V)) ∧ ((x6 ≠ 0) → (((S (V a0 11)).1 = 1) ∧ ((0 : Int) ≤ a2 ∧ a2 < (S (V a0 11)).2) ∧ ∀ V12 : zH, V12 = zput V (V a0 11) a2 1 → SpV E 1 zm_X8_impose [zrv a0] S V12 (fun V15 => ((S (V15 a0 11)).1 = 1) ∧ ((0 : Int) ≤ a2 ∧ a2 < (S (V15 a0 11)).2) ∧ ∀ V18 : zH, V18 = zput V15 (V15 a0 11) a2 0 → (z32 (a2 + 1)) ∧ zl_X8_pushings_110 E X F S a0 a1 (a2 + 1) V18))))))) :
    zl_X8_pushings_110 E X F S a0 a1 a2 V := by
  unfold zl_X8_pushings_110
  refine z_iload_n 2 dX8_pushings_110 rfl ?_
  refine z_iload_n 1 dX8_pushings_111 rfl ?_
  refine z_icmp_ge dX8_pushings_112 (tgt := 147) (by decide) (fun c1 => ?_) (fun c1 => ?_)
  · have h := h.1 c1
    refine z_aload_n 0 dX8_pushings_147 rfl ?_
    obtain ⟨o2, h⟩ := h
    refine z_cVV [] (zk_RX8_169 _ rfl) dX8_pushings_148 o2 (by decide) rfl rfl (Nat.le_of_ble_eq_true rfl) (Nat.le_of_ble_eq_true rfl) (Nat.le_of_ble_eq_true rfl) (Nat.le_of_ble_eq_true rfl) (Nat.le_of_ble_eq_true rfl) h (fun V4 h => ?_)
    exact z_retV dX8_pushings_151 rfl h
  · have h := h.2 c1
    refine z_aload_n 0 dX8_pushings_115 rfl ?_
    refine z_iload_n 2 dX8_pushings_116 rfl ?_
    obtain ⟨o5, h⟩ := h
    refine z_cVF [ziv a2] (zk_RX8_137 _ rfl) dX8_pushings_117 o5 (by decide) rfl rfl (Nat.le_of_ble_eq_true rfl) (Nat.le_of_ble_eq_true rfl) (Nat.le_of_ble_eq_true rfl) (Nat.le_of_ble_eq_true rfl) (Nat.le_of_ble_eq_true rfl) h (fun x6 h => ?_)
    refine z_if_eq dX8_pushings_120 (tgt := 141) (by decide) (fun c8 => ?_) (fun c8 => ?_)
    · have h := h.1 c8
      obtain ⟨o9, h⟩ := h
      refine z_iinc 2 dX8_pushings_141 rfl (by decide) o9 (L' := [(0, zrv a0), (1, ziv a1), (2, ziv (a2 + 1))]) [1, 2, 0] rfl ?_
      refine z_goto (tgt := 110) dX8_pushings_144 (by decide) ?_
      exact h
    · have h := h.2 c8
      refine z_aload_n 0 dX8_pushings_123 rfl ?_
      refine zgf_8_11 dX8_pushings_124 (zf_RX8_31 _ rfl) o5 ?_
      refine z_iload_n 2 dX8_pushings_127 rfl ?_
      refine z_iconst dX8_pushings_128 ⟨by decide, by decide⟩ ?_
      obtain ⟨o10, h⟩ := h
      obtain ⟨o11, h⟩ := h
      refine z_iast dX8_pushings_129 o10 o11 ?_
      refine z_nameV (fun V12 e13 => ?_)
      have h := h V12 e13
      refine z_aload_n 0 dX8_pushings_130 rfl ?_
      refine z_cVV [] (zk_RX8_166 _ rfl) dX8_pushings_131 o5 (by decide) rfl rfl (Nat.le_of_ble_eq_true rfl) (Nat.le_of_ble_eq_true rfl) (Nat.le_of_ble_eq_true rfl) (Nat.le_of_ble_eq_true rfl) (Nat.le_of_ble_eq_true rfl) h (fun V15 h => ?_)
      refine z_aload_n 0 dX8_pushings_134 rfl ?_
      refine zgf_8_11 dX8_pushings_135 (zf_RX8_31 _ rfl) o5 ?_
      refine z_iload_n 2 dX8_pushings_138 rfl ?_
      refine z_iconst dX8_pushings_139 ⟨by decide, by decide⟩ ?_
      obtain ⟨o16, h⟩ := h
      obtain ⟨o17, h⟩ := h
      refine z_iast dX8_pushings_140 o16 o17 ?_
      refine z_nameV (fun V18 e19 => ?_)
      have h := h V18 e19
      obtain ⟨o20, h⟩ := h
      refine z_iinc 2 dX8_pushings_141 rfl (by decide) o20 (L' := [(0, zrv a0), (1, ziv a1), (2, ziv (a2 + 1))]) [1, 2, 0] rfl ?_
      refine z_goto (tgt := 110) dX8_pushings_144 (by decide) ?_
      exact h
set_option maxRecDepth 100000 in
set_option maxHeartbeats 4000000 in
theorem en_X8_pushings {E : zE} {F : zH → Prop} {S : zS} {a0 : Int} {V : zH}
    (h : ∀ X : zX, ((S a0).1 = 11) ∧ SpF E 0 zm_X8_buttons [zrv a0] S V (fun x2 => (z32 (x2 + 1)) ∧ SpV E 0 zm_X8_whole [zrv a0, ziv (x2 + 1)] S V (fun V6 => zl_X8_pushings_14 E X F S a0 x2 0 V6))) :
    SpV E 4 zm_X8_pushings [zrv a0] S V F := by
  refine Sp.of (plainFor_of_name (by decide +kernel)) (Nat.le_of_ble_eq_true rfl) (fun hok X => ?_)
  have h := h X
  show Zr E X (zRoom 4 0 0) zm_X8_pushings (zQm E X (zpV S F) 0 0) 0 0 0 [(0, zrv a0)] [] S V
  refine z_aload_n 0 dX8_pushings_0 rfl ?_
  obtain ⟨o1, h⟩ := h
  refine z_cVF [] (zk_RX8_89 _ rfl) dX8_pushings_1 o1 (by decide) rfl rfl (Nat.le_of_ble_eq_true rfl) (Nat.le_of_ble_eq_true rfl) (Nat.le_of_ble_eq_true rfl) (Nat.le_of_ble_eq_true rfl) (Nat.le_of_ble_eq_true rfl) h (fun x2 h => ?_)
  refine z_istore_n dX8_pushings_4 (by decide) (L' := [(0, zrv a0), (1, ziv x2)]) [1, 0] rfl ?_
  refine z_aload_n 0 dX8_pushings_5 rfl ?_
  refine z_iload_n 1 dX8_pushings_6 rfl ?_
  refine z_iconst dX8_pushings_7 ⟨by decide, by decide⟩ ?_
  obtain ⟨o4, h⟩ := h
  refine z_iadd dX8_pushings_8 o4 ?_
  refine z_cVV [ziv (x2 + 1)] (zk_RX8_162 _ rfl) dX8_pushings_9 o1 (by decide) rfl rfl (Nat.le_of_ble_eq_true rfl) (Nat.le_of_ble_eq_true rfl) (Nat.le_of_ble_eq_true rfl) (Nat.le_of_ble_eq_true rfl) (Nat.le_of_ble_eq_true rfl) h (fun V6 h => ?_)
  refine z_iconst dX8_pushings_12 ⟨by decide, by decide⟩ ?_
  refine z_istore_n dX8_pushings_13 (by decide) (L' := [(0, zrv a0), (1, ziv x2), (2, ziv 0)]) [1, 2, 0] rfl ?_
  exact h
def zl_X8_weights_10 (E : zE) (X : zX) (F : zH → Prop) (S : zS) (a0 a1 : Int) (V : zH) : Prop := Zr E X (zRoom 4 0 0) zm_X8_weights (zQm E X (zpV S F) 0 0) 0 0 10 [(0, zrv a0), (1, ziv a1)] [] S V
def zl_X8_weights_31 (E : zE) (X : zX) (F : zH → Prop) (S : zS) (a0 a1 a2 : Int) (V : zH) : Prop := Zr E X (zRoom 4 0 0) zm_X8_weights (zQm E X (zpV S F) 0 0) 0 0 31 [(0, zrv a0), (1, ziv a1), (2, ziv a2)] [] S V
set_option maxRecDepth 100000 in
set_option maxHeartbeats 4000000 in
theorem wp_X8_weights_10 {E : zE} {X : zX} {F : zH → Prop} {S : zS} {a0 a1 : Int} {V : zH}
    (h : ((S a0).1 = 11) ∧ SpF E 0 zm_X8_buttons [zrv a0] S V (fun x2 => ((x2 ≤ a1) → (SpV E 1 zm_X8_reduce [zrv a0] S V (fun V6 => F V6))) ∧ ((a1 < x2) → (SpF E 0 zm_X8_isStuck [zrv a0, ziv a1] S V (fun x7 => ((x7 = 0) → (zl_X8_weights_31 E X F S a0 a1 0 V)) ∧ ((x7 ≠ 0) → ((z32 (a1 + 1)) ∧ zl_X8_weights_10 E X F S a0 (a1 + 1) V))))))) :
    zl_X8_weights_10 E X F S a0 a1 V := by
  unfold zl_X8_weights_10
  refine z_iload_n 1 dX8_weights_10 rfl ?_
  refine z_aload_n 0 dX8_weights_11 rfl ?_
  obtain ⟨o1, h⟩ := h
  refine z_cVF [] (zk_RX8_89 _ rfl) dX8_weights_12 o1 (by decide) rfl rfl (Nat.le_of_ble_eq_true rfl) (Nat.le_of_ble_eq_true rfl) (Nat.le_of_ble_eq_true rfl) (Nat.le_of_ble_eq_true rfl) (Nat.le_of_ble_eq_true rfl) h (fun x2 h => ?_)
  refine z_icmp_ge dX8_weights_15 (tgt := 74) (by decide) (fun c4 => ?_) (fun c4 => ?_)
  · have h := h.1 c4
    refine z_aload_n 0 dX8_weights_74 rfl ?_
    refine z_cVV [] (zk_RX8_169 _ rfl) dX8_weights_75 o1 (by decide) rfl rfl (Nat.le_of_ble_eq_true rfl) (Nat.le_of_ble_eq_true rfl) (Nat.le_of_ble_eq_true rfl) (Nat.le_of_ble_eq_true rfl) (Nat.le_of_ble_eq_true rfl) h (fun V6 h => ?_)
    exact z_retV dX8_weights_78 rfl h
  · have h := h.2 c4
    refine z_aload_n 0 dX8_weights_18 rfl ?_
    refine z_iload_n 1 dX8_weights_19 rfl ?_
    refine z_cVF [ziv a1] (zk_RX8_137 _ rfl) dX8_weights_20 o1 (by decide) rfl rfl (Nat.le_of_ble_eq_true rfl) (Nat.le_of_ble_eq_true rfl) (Nat.le_of_ble_eq_true rfl) (Nat.le_of_ble_eq_true rfl) (Nat.le_of_ble_eq_true rfl) h (fun x7 h => ?_)
    refine z_if_eq dX8_weights_23 (tgt := 29) (by decide) (fun c9 => ?_) (fun c9 => ?_)
    · have h := h.1 c9
      refine z_iconst dX8_weights_29 ⟨by decide, by decide⟩ ?_
      refine z_istore_n dX8_weights_30 (by decide) (L' := [(0, zrv a0), (1, ziv a1), (2, ziv 0)]) [1, 2, 0] rfl ?_
      exact h
    · have h := h.2 c9
      refine z_goto (tgt := 68) dX8_weights_26 (by decide) ?_
      obtain ⟨o10, h⟩ := h
      refine z_iinc 1 dX8_weights_68 rfl (by decide) o10 (L' := [(0, zrv a0), (1, ziv (a1 + 1))]) [1, 0] rfl ?_
      refine z_goto (tgt := 10) dX8_weights_71 (by decide) ?_
      exact h
set_option maxRecDepth 100000 in
set_option maxHeartbeats 4000000 in
theorem wp_X8_weights_31 {E : zE} {X : zX} {F : zH → Prop} {S : zS} {a0 a1 a2 : Int} {V : zH}
    (h : ((S a0).1 = 11) ∧ SpF E 0 zm_X8_n [zrv a0] S V (fun x2 => ((x2 ≤ a2) → (SpV E 1 zm_X8_impose [zrv a0] S V (fun V6 => (z32 (a1 + 1)) ∧ zl_X8_weights_10 E X F S a0 (a1 + 1) V6))) ∧ ((a2 < x2) → (SpF E 0 zm_X8_n [zrv a0] S V (fun x8 => (z32 (x8 - 1)) ∧ (z32 ((x8 - 1) - a2)) ∧ SpF E 3 zm_X8_steps [zrv a0, ziv a1, ziv a2] S V (fun x12 => ((S (V a0 11)).1 = 1) ∧ ((0 : Int) ≤ (x8 - 1) - a2 ∧ (x8 - 1) - a2 < (S (V a0 11)).2) ∧ ∀ V16 : zH, V16 = zput V (V a0 11) ((x8 - 1) - a2) x12 → (z32 (a2 + 1)) ∧ zl_X8_weights_31 E X F S a0 a1 (a2 + 1) V16)))))) :
    zl_X8_weights_31 E X F S a0 a1 a2 V := by
  unfold zl_X8_weights_31
  refine z_iload_n 2 dX8_weights_31 rfl ?_
  refine z_aload_n 0 dX8_weights_32 rfl ?_
  obtain ⟨o1, h⟩ := h
  refine z_cVF [] (zk_RX8_84 _ rfl) dX8_weights_33 o1 (by decide) rfl rfl (Nat.le_of_ble_eq_true rfl) (Nat.le_of_ble_eq_true rfl) (Nat.le_of_ble_eq_true rfl) (Nat.le_of_ble_eq_true rfl) (Nat.le_of_ble_eq_true rfl) h (fun x2 h => ?_)
  refine z_icmp_ge dX8_weights_36 (tgt := 64) (by decide) (fun c4 => ?_) (fun c4 => ?_)
  · have h := h.1 c4
    refine z_aload_n 0 dX8_weights_64 rfl ?_
    refine z_cVV [] (zk_RX8_166 _ rfl) dX8_weights_65 o1 (by decide) rfl rfl (Nat.le_of_ble_eq_true rfl) (Nat.le_of_ble_eq_true rfl) (Nat.le_of_ble_eq_true rfl) (Nat.le_of_ble_eq_true rfl) (Nat.le_of_ble_eq_true rfl) h (fun V6 h => ?_)
    obtain ⟨o7, h⟩ := h
    refine z_iinc 1 dX8_weights_68 rfl (by decide) o7 (L' := [(0, zrv a0), (1, ziv (a1 + 1)), (2, ziv a2)]) [1, 0, 2] rfl ?_
    refine z_goto (tgt := 10) dX8_weights_71 (by decide) ?_
    refine z_loc (L' := [(0, zrv a0), (1, ziv (a1 + 1))]) [0, 1] rfl ?_
    exact h
  · have h := h.2 c4
    refine z_aload_n 0 dX8_weights_39 rfl ?_
    refine zgf_8_11 dX8_weights_40 (zf_RX8_31 _ rfl) o1 ?_
    refine z_aload_n 0 dX8_weights_43 rfl ?_
    refine z_cVF [] (zk_RX8_84 _ rfl) dX8_weights_44 o1 (by decide) rfl rfl (Nat.le_of_ble_eq_true rfl) (Nat.le_of_ble_eq_true rfl) (Nat.le_of_ble_eq_true rfl) (Nat.le_of_ble_eq_true rfl) (Nat.le_of_ble_eq_true rfl) h (fun x8 h => ?_)
    refine z_iconst dX8_weights_47 ⟨by decide, by decide⟩ ?_
    obtain ⟨o10, h⟩ := h
    refine z_isub dX8_weights_48 o10 ?_
    refine z_iload_n 2 dX8_weights_49 rfl ?_
    obtain ⟨o11, h⟩ := h
    refine z_isub dX8_weights_50 o11 ?_
    refine z_aload_n 0 dX8_weights_51 rfl ?_
    refine z_iload_n 1 dX8_weights_52 rfl ?_
    refine z_iload_n 2 dX8_weights_53 rfl ?_
    refine z_cVF [ziv a1, ziv a2] (zk_RX8_134 _ rfl) dX8_weights_54 o1 (by decide) rfl rfl (Nat.le_of_ble_eq_true rfl) (Nat.le_of_ble_eq_true rfl) (Nat.le_of_ble_eq_true rfl) (Nat.le_of_ble_eq_true rfl) (Nat.le_of_ble_eq_true rfl) h (fun x12 h => ?_)
    obtain ⟨o14, h⟩ := h
    obtain ⟨o15, h⟩ := h
    refine z_iast dX8_weights_57 o14 o15 ?_
    refine z_nameV (fun V16 e17 => ?_)
    have h := h V16 e17
    obtain ⟨o18, h⟩ := h
    refine z_iinc 2 dX8_weights_58 rfl (by decide) o18 (L' := [(0, zrv a0), (1, ziv a1), (2, ziv (a2 + 1))]) [1, 2, 0] rfl ?_
    refine z_goto (tgt := 31) dX8_weights_61 (by decide) ?_
    exact h
set_option maxRecDepth 100000 in
set_option maxHeartbeats 4000000 in
theorem en_X8_weights {E : zE} {F : zH → Prop} {S : zS} {a0 : Int} {V : zH}
    (h : ∀ X : zX, ((S a0).1 = 11) ∧ SpF E 0 zm_X8_n [zrv a0] S V (fun x2 => SpV E 0 zm_X8_whole [zrv a0, ziv x2] S V (fun V5 => zl_X8_weights_10 E X F S a0 0 V5))) :
    SpV E 4 zm_X8_weights [zrv a0] S V F := by
  refine Sp.of (plainFor_of_name (by decide +kernel)) (Nat.le_of_ble_eq_true rfl) (fun hok X => ?_)
  have h := h X
  show Zr E X (zRoom 4 0 0) zm_X8_weights (zQm E X (zpV S F) 0 0) 0 0 0 [(0, zrv a0)] [] S V
  refine z_aload_n 0 dX8_weights_0 rfl ?_
  refine z_aload_n 0 dX8_weights_1 rfl ?_
  obtain ⟨o1, h⟩ := h
  refine z_cVF [] (zk_RX8_84 _ rfl) dX8_weights_2 o1 (by decide) rfl rfl (Nat.le_of_ble_eq_true rfl) (Nat.le_of_ble_eq_true rfl) (Nat.le_of_ble_eq_true rfl) (Nat.le_of_ble_eq_true rfl) (Nat.le_of_ble_eq_true rfl) h (fun x2 h => ?_)
  refine z_cVV [ziv x2] (zk_RX8_162 _ rfl) dX8_weights_5 o1 (by decide) rfl rfl (Nat.le_of_ble_eq_true rfl) (Nat.le_of_ble_eq_true rfl) (Nat.le_of_ble_eq_true rfl) (Nat.le_of_ble_eq_true rfl) (Nat.le_of_ble_eq_true rfl) h (fun V5 h => ?_)
  refine z_iconst dX8_weights_8 ⟨by decide, by decide⟩ ?_
  refine z_istore_n dX8_weights_9 (by decide) (L' := [(0, zrv a0), (1, ziv 0)]) [1, 0] rfl ?_
  exact h
set_option maxRecDepth 100000 in
set_option maxHeartbeats 4000000 in
theorem en_X8_tells {E : zE} {F : zH → Prop} {S : zS} {a0 a1 a2 : Int} {V : zH}
    (h : z32 a1 → z32 a2 → ((S a0).1 = 11) ∧ ∀ V2 : zH, V2 = zput V a0 17 a1 → (a2 = 0 ∨ a2 = 1) ∧ ∀ V5 : zH, V5 = zput V2 a0 18 a2 → ∀ V7 : zH, V7 = zput V5 a0 19 0 → F V7) :
    SpV E 0 zm_X8_tells [zrv a0, ziv a1, ziv a2] S V F := by
  refine Sp.of (plainFor_of_name (by decide +kernel)) (Nat.le_of_ble_eq_true rfl) (fun hok X => ?_)
  have h := h (hok _ (List.mem_cons_of_mem _ (List.mem_cons_self))) (hok _ (List.mem_cons_of_mem _ (List.mem_cons_of_mem _ (List.mem_cons_self))))
  show Zr E X (zRoom 0 0 0) zm_X8_tells (zQm E X (zpV S F) 0 0) 0 0 0 [(0, zrv a0), (1, ziv a1), (2, ziv a2)] [] S V
  refine z_aload_n 0 dX8_tells_0 rfl ?_
  refine z_iload_n 1 dX8_tells_1 rfl ?_
  obtain ⟨o1, h⟩ := h
  refine zpf_8_17 dX8_tells_2 (zf_RX8_172 _ rfl) o1 ?_
  refine z_nameV (fun V2 e3 => ?_)
  have h := h V2 e3
  refine z_aload_n 0 dX8_tells_5 rfl ?_
  refine z_iload_n 2 dX8_tells_6 rfl ?_
  obtain ⟨o4, h⟩ := h
  refine zpf_8_18 dX8_tells_7 (zf_RX8_175 _ rfl) o1 o4 ?_
  refine z_nameV (fun V5 e6 => ?_)
  have h := h V5 e6
  refine z_aload_n 0 dX8_tells_10 rfl ?_
  refine z_iconst dX8_tells_11 ⟨by decide, by decide⟩ ?_
  refine zpf_8_19 dX8_tells_12 (zf_RX8_63 _ rfl) o1 (Or.inl rfl) ?_
  refine z_nameV (fun V7 e8 => ?_)
  have h := h V7 e8
  exact z_retV dX8_tells_15 rfl h
set_option maxRecDepth 100000 in
set_option maxHeartbeats 4000000 in
theorem en_X8_canBe {E : zE} {F : Int → zH → Prop} {S : zS} {a0 : Int} {V : zH}
    (h : ((S a0).1 = 11) ∧ SpV E 4 zm_X8_pushings [zrv a0] S V (fun V3 => SpF E 0 zm_X8_buttons [zrv a0] S V3 (fun x4 => SpF E 0 zm_X8_pivot [zrv a0, ziv x4] S V3 (fun x6 => ((x6 ≠ 1) → (F 0 V3)) ∧ ((x6 = 1) → (F 1 V3)))))) :
    SpI E 5 zm_X8_canBe [zrv a0] S V F := by
  refine Sp.of (plainFor_of_name (by decide +kernel)) (Nat.le_of_ble_eq_true rfl) (fun hok X => ?_)
  have h := h
  show Zr E X (zRoom 5 0 0) zm_X8_canBe (zQm E X (zpI S F) 0 0) 0 0 0 [(0, zrv a0)] [] S V
  refine z_aload_n 0 dX8_canBe_0 rfl ?_
  obtain ⟨o1, h⟩ := h
  refine z_cVV [] (zk_RX8_178 _ rfl) dX8_canBe_1 o1 (by decide) rfl rfl (Nat.le_of_ble_eq_true rfl) (Nat.le_of_ble_eq_true rfl) (Nat.le_of_ble_eq_true rfl) (Nat.le_of_ble_eq_true rfl) (Nat.le_of_ble_eq_true rfl) h (fun V3 h => ?_)
  refine z_aload_n 0 dX8_canBe_4 rfl ?_
  refine z_aload_n 0 dX8_canBe_5 rfl ?_
  refine z_cVF [] (zk_RX8_89 _ rfl) dX8_canBe_6 o1 (by decide) rfl rfl (Nat.le_of_ble_eq_true rfl) (Nat.le_of_ble_eq_true rfl) (Nat.le_of_ble_eq_true rfl) (Nat.le_of_ble_eq_true rfl) (Nat.le_of_ble_eq_true rfl) h (fun x4 h => ?_)
  refine z_cVF [ziv x4] (zk_RX8_181 _ rfl) dX8_canBe_9 o1 (by decide) rfl rfl (Nat.le_of_ble_eq_true rfl) (Nat.le_of_ble_eq_true rfl) (Nat.le_of_ble_eq_true rfl) (Nat.le_of_ble_eq_true rfl) (Nat.le_of_ble_eq_true rfl) h (fun x6 h => ?_)
  refine z_iconst dX8_canBe_12 ⟨by decide, by decide⟩ ?_
  refine z_icmp_ne dX8_canBe_13 (tgt := 20) (by decide) (fun c8 => ?_) (fun c8 => ?_)
  · have h := h.1 c8
    refine z_iconst dX8_canBe_20 ⟨by decide, by decide⟩ ?_
    exact z_retZ dX8_canBe_21 rfl (Or.inl rfl) h
  · have h := h.2 c8
    refine z_iconst dX8_canBe_16 ⟨by decide, by decide⟩ ?_
    refine z_goto (tgt := 21) dX8_canBe_17 (by decide) ?_
    exact z_retZ dX8_canBe_21 rfl (Or.inr rfl) h
def zl_X8_can_18 (E : zE) (X : zX) (F : Int → zH → Prop) (S : zS) (a0 a1 : Int) (V : zH) : Prop := Zr E X (zRoom 6 0 0) zm_X8_can (zQm E X (zpI S F) 0 0) 0 0 18 [(0, zrv a0), (1, ziv a1)] [] S V
def zl_X8_can_70 (E : zE) (X : zX) (F : Int → zH → Prop) (S : zS) (a0 a1 : Int) (V : zH) : Prop := Zr E X (zRoom 6 0 0) zm_X8_can (zQm E X (zpI S F) 0 0) 0 0 70 [(0, zrv a0), (1, ziv a1)] [] S V
set_option maxRecDepth 100000 in
set_option maxHeartbeats 4000000 in
theorem wp_X8_can_18 {E : zE} {X : zX} {F : Int → zH → Prop} {S : zS} {a0 a1 : Int} {V : zH}
    (h : ((S a0).1 = 11) ∧ SpF E 0 zm_X8_buttons [zrv a0] S V (fun x2 => ((x2 ≤ a1) → (∀ V5 : zH, V5 = zput V a0 19 1 → F 1 V5)) ∧ ((a1 < x2) → (SpF E 0 zm_X8_buttons [zrv a0] S V (fun x7 => (z32 (37 * x7)) ∧ (z32 ((37 * x7) + a1)) ∧ ((S (V a0 9)).1 = 1) ∧ ((0 : Int) ≤ (37 * x7) + a1 ∧ (37 * x7) + a1 < (S (V a0 9)).2) ∧ ((S (V a0 16)).1 = 1) ∧ ((0 : Int) ≤ a1 ∧ a1 < (S (V a0 16)).2) ∧ ∀ V15 : zH, V15 = zput V (V a0 16) a1 (V (V a0 9) ((37 * x7) + a1)) → (z32 (a1 + 1)) ∧ zl_X8_can_18 E X F S a0 (a1 + 1) V15))))) :
    zl_X8_can_18 E X F S a0 a1 V := by
  unfold zl_X8_can_18
  refine z_iload_n 1 dX8_can_18 rfl ?_
  refine z_aload_n 0 dX8_can_19 rfl ?_
  obtain ⟨o1, h⟩ := h
  refine z_cVF [] (zk_RX8_89 _ rfl) dX8_can_20 o1 (by decide) rfl rfl (Nat.le_of_ble_eq_true rfl) (Nat.le_of_ble_eq_true rfl) (Nat.le_of_ble_eq_true rfl) (Nat.le_of_ble_eq_true rfl) (Nat.le_of_ble_eq_true rfl) h (fun x2 h => ?_)
  refine z_icmp_ge dX8_can_23 (tgt := 52) (by decide) (fun c4 => ?_) (fun c4 => ?_)
  · have h := h.1 c4
    refine z_aload_n 0 dX8_can_52 rfl ?_
    refine z_iconst dX8_can_53 ⟨by decide, by decide⟩ ?_
    refine zpf_8_19 dX8_can_54 (zf_RX8_63 _ rfl) o1 (Or.inr rfl) ?_
    refine z_nameV (fun V5 e6 => ?_)
    have h := h V5 e6
    refine z_iconst dX8_can_57 ⟨by decide, by decide⟩ ?_
    exact z_retI dX8_can_58 rfl h
  · have h := h.2 c4
    refine z_aload_n 0 dX8_can_26 rfl ?_
    refine zgf_8_16 dX8_can_27 (zf_RX8_40 _ rfl) o1 ?_
    refine z_iload_n 1 dX8_can_30 rfl ?_
    refine z_aload_n 0 dX8_can_31 rfl ?_
    refine zgf_8_9 dX8_can_32 (zf_RX8_28 _ rfl) o1 ?_
    refine z_bipush dX8_can_35 ⟨by decide, by decide⟩ (by decide) ?_
    refine z_aload_n 0 dX8_can_37 rfl ?_
    refine z_cVF [] (zk_RX8_89 _ rfl) dX8_can_38 o1 (by decide) rfl rfl (Nat.le_of_ble_eq_true rfl) (Nat.le_of_ble_eq_true rfl) (Nat.le_of_ble_eq_true rfl) (Nat.le_of_ble_eq_true rfl) (Nat.le_of_ble_eq_true rfl) h (fun x7 h => ?_)
    obtain ⟨o9, h⟩ := h
    refine z_imul dX8_can_41 o9 ?_
    refine z_iload_n 1 dX8_can_42 rfl ?_
    obtain ⟨o10, h⟩ := h
    refine z_iadd dX8_can_43 o10 ?_
    obtain ⟨o11, h⟩ := h
    obtain ⟨o12, h⟩ := h
    refine z_iald dX8_can_44 o11 o12 ?_
    obtain ⟨o13, h⟩ := h
    obtain ⟨o14, h⟩ := h
    refine z_iast dX8_can_45 o13 o14 ?_
    refine z_nameV (fun V15 e16 => ?_)
    have h := h V15 e16
    obtain ⟨o17, h⟩ := h
    refine z_iinc 1 dX8_can_46 rfl (by decide) o17 (L' := [(0, zrv a0), (1, ziv (a1 + 1))]) [1, 0] rfl ?_
    refine z_goto (tgt := 18) dX8_can_49 (by decide) ?_
    exact h
set_option maxRecDepth 100000 in
set_option maxHeartbeats 4000000 in
theorem wp_X8_can_70 {E : zE} {X : zX} {F : Int → zH → Prop} {S : zS} {a0 a1 : Int} {V : zH}
    (h : ((S a0).1 = 11) ∧ SpF E 1 zm_X8_isZero [zrv a0, ziv a1] S V (fun x2 => ((x2 = 0) → (SpV E 1 zm_X8_weigh [zrv a0, ziv a1] S V (fun V6 => F 0 V6))) ∧ ((x2 ≠ 0) → ((z32 (a1 + (-1))) ∧ zl_X8_can_70 E X F S a0 (a1 + (-1)) V)))) :
    zl_X8_can_70 E X F S a0 a1 V := by
  unfold zl_X8_can_70
  refine z_aload_n 0 dX8_can_70 rfl ?_
  refine z_iload_n 1 dX8_can_71 rfl ?_
  obtain ⟨o1, h⟩ := h
  refine z_cVF [ziv a1] (zk_RX8_195 _ rfl) dX8_can_72 o1 (by decide) rfl rfl (Nat.le_of_ble_eq_true rfl) (Nat.le_of_ble_eq_true rfl) (Nat.le_of_ble_eq_true rfl) (Nat.le_of_ble_eq_true rfl) (Nat.le_of_ble_eq_true rfl) h (fun x2 h => ?_)
  refine z_if_eq dX8_can_75 (tgt := 84) (by decide) (fun c4 => ?_) (fun c4 => ?_)
  · have h := h.1 c4
    refine z_aload_n 0 dX8_can_84 rfl ?_
    refine z_iload_n 1 dX8_can_85 rfl ?_
    refine z_cVV [ziv a1] (zk_RX8_198 _ rfl) dX8_can_86 o1 (by decide) rfl rfl (Nat.le_of_ble_eq_true rfl) (Nat.le_of_ble_eq_true rfl) (Nat.le_of_ble_eq_true rfl) (Nat.le_of_ble_eq_true rfl) (Nat.le_of_ble_eq_true rfl) h (fun V6 h => ?_)
    refine z_iconst dX8_can_89 ⟨by decide, by decide⟩ ?_
    exact z_retI dX8_can_90 rfl h
  · have h := h.2 c4
    obtain ⟨o7, h⟩ := h
    refine z_iinc 1 dX8_can_78 rfl (by decide) o7 (L' := [(0, zrv a0), (1, ziv (a1 + (-1)))]) [1, 0] rfl ?_
    refine z_goto (tgt := 70) dX8_can_81 (by decide) ?_
    exact h
set_option maxRecDepth 100000 in
set_option maxHeartbeats 4000000 in
theorem en_X8_can {E : zE} {F : Int → zH → Prop} {S : zS} {a0 : Int} {V : zH}
    (h : ∀ X : zX, ((S a0).1 = 11) ∧ SpI E 5 zm_X8_canBe [zrv a0] S V (fun x2 V3 => ((x2 = 0) → (SpV E 4 zm_X8_weights [zrv a0] S V3 (fun V6 => SpF E 0 zm_X8_n [zrv a0] S V6 (fun x7 => (z32 (x7 - 1)) ∧ zl_X8_can_70 E X F S a0 (x7 - 1) V6)))) ∧ ((x2 ≠ 0) → (SpF E 0 zm_X8_buttons [zrv a0] S V3 (fun x10 => SpV E 0 zm_X8_tells [zrv a0, ziv x10, ziv 1] S V3 (fun V13 => zl_X8_can_18 E X F S a0 0 V13)))))) :
    SpI E 6 zm_X8_can [zrv a0] S V F := by
  refine Sp.of (plainFor_of_name (by decide +kernel)) (Nat.le_of_ble_eq_true rfl) (fun hok X => ?_)
  have h := h X
  show Zr E X (zRoom 6 0 0) zm_X8_can (zQm E X (zpI S F) 0 0) 0 0 0 [(0, zrv a0)] [] S V
  refine z_aload_n 0 dX8_can_0 rfl ?_
  obtain ⟨o1, h⟩ := h
  refine z_cVI [] (zk_RX8_184 _ rfl) dX8_can_1 o1 (by decide) rfl rfl (Nat.le_of_ble_eq_true rfl) (Nat.le_of_ble_eq_true rfl) (Nat.le_of_ble_eq_true rfl) (Nat.le_of_ble_eq_true rfl) (Nat.le_of_ble_eq_true rfl) h (fun x2 V3 h => ?_)
  refine z_if_eq dX8_can_4 (tgt := 59) (by decide) (fun c4 => ?_) (fun c4 => ?_)
  · have h := h.1 c4
    refine z_aload_n 0 dX8_can_59 rfl ?_
    refine z_cVV [] (zk_RX8_192 _ rfl) dX8_can_60 o1 (by decide) rfl rfl (Nat.le_of_ble_eq_true rfl) (Nat.le_of_ble_eq_true rfl) (Nat.le_of_ble_eq_true rfl) (Nat.le_of_ble_eq_true rfl) (Nat.le_of_ble_eq_true rfl) h (fun V6 h => ?_)
    refine z_aload_n 0 dX8_can_63 rfl ?_
    refine z_cVF [] (zk_RX8_84 _ rfl) dX8_can_64 o1 (by decide) rfl rfl (Nat.le_of_ble_eq_true rfl) (Nat.le_of_ble_eq_true rfl) (Nat.le_of_ble_eq_true rfl) (Nat.le_of_ble_eq_true rfl) (Nat.le_of_ble_eq_true rfl) h (fun x7 h => ?_)
    refine z_iconst dX8_can_67 ⟨by decide, by decide⟩ ?_
    obtain ⟨o9, h⟩ := h
    refine z_isub dX8_can_68 o9 ?_
    refine z_istore_n dX8_can_69 (by decide) (L' := [(0, zrv a0), (1, ziv (x7 - 1))]) [1, 0] rfl ?_
    exact h
  · have h := h.2 c4
    refine z_aload_n 0 dX8_can_7 rfl ?_
    refine z_aload_n 0 dX8_can_8 rfl ?_
    refine z_cVF [] (zk_RX8_89 _ rfl) dX8_can_9 o1 (by decide) rfl rfl (Nat.le_of_ble_eq_true rfl) (Nat.le_of_ble_eq_true rfl) (Nat.le_of_ble_eq_true rfl) (Nat.le_of_ble_eq_true rfl) (Nat.le_of_ble_eq_true rfl) h (fun x10 h => ?_)
    refine z_iconst dX8_can_12 ⟨by decide, by decide⟩ ?_
    refine z_cVV [ziv x10, ziv 1] (zk_RX8_188 _ rfl) dX8_can_13 o1 (by decide) rfl rfl (Nat.le_of_ble_eq_true rfl) (Nat.le_of_ble_eq_true rfl) (Nat.le_of_ble_eq_true rfl) (Nat.le_of_ble_eq_true rfl) (Nat.le_of_ble_eq_true rfl) h (fun V13 h => ?_)
    refine z_iconst dX8_can_16 ⟨by decide, by decide⟩ ?_
    refine z_istore_n dX8_can_17 (by decide) (L' := [(0, zrv a0), (1, ziv 0)]) [1, 0] rfl ?_
    exact h
def zl_X8_isZero_4 (E : zE) (X : zX) (F : Int → Prop) (S : zS) (a0 a1 a2 a3 : Int) (V : zH) : Prop := Zr E X (zRoom 1 0 0) zm_X8_isZero (zQm E X (zpF S V F) 0 0) 0 0 4 [(0, zrv a0), (1, ziv a1), (2, ziv a2), (3, ziv a3)] [] S V
set_option maxRecDepth 100000 in
set_option maxHeartbeats 4000000 in
theorem wp_X8_isZero_4 {E : zE} {X : zX} {F : Int → Prop} {S : zS} {a0 a1 a2 a3 : Int} {V : zH}
    (h : ((S a0).1 = 11) ∧ SpF E 0 zm_X8_n [zrv a0] S V (fun x2 => ((x2 ≤ a3) → (SpF E 0 zm_X8_m [zrv a0] S V (fun x5 => ((0 : Int) ≤ a2) ∧ ((0 : Int) < x5) ∧ ((a2 % x5 ≠ 0) → (F 0)) ∧ ((a2 % x5 = 0) → (F 1))))) ∧ ((a3 < x2) → ((z32 (37 * a1)) ∧ SpF E 0 zm_X8_n [zrv a0] S V (fun x11 => (z32 ((37 * a1) + x11)) ∧ (z32 (((37 * a1) + x11) - 1)) ∧ (z32 ((((37 * a1) + x11) - 1) - a3)) ∧ ((S (V a0 9)).1 = 1) ∧ ((0 : Int) ≤ (((37 * a1) + x11) - 1) - a3 ∧ (((37 * a1) + x11) - 1) - a3 < (S (V a0 9)).2) ∧ SpF E 0 zm_X8_m [zrv a0] S V (fun x18 => ((0 : Int) ≤ V (V a0 9) ((((37 * a1) + x11) - 1) - a3)) ∧ ((0 : Int) < x18) ∧ (z32 (4 + a3)) ∧ ((S (V a0 0)).1 = 1) ∧ ((0 : Int) ≤ 4 + a3 ∧ 4 + a3 < (S (V a0 0)).2) ∧ (z32 (((V (V a0 9) ((((37 * a1) + x11) - 1) - a3)) % x18) * (V (V a0 0) (4 + a3)))) ∧ (z32 (a2 + (((V (V a0 9) ((((37 * a1) + x11) - 1) - a3)) % x18) * (V (V a0 0) (4 + a3))))) ∧ ∀ x27 : Int, x27 = a2 + (((V (V a0 9) ((((37 * a1) + x11) - 1) - a3)) % x18) * (V (V a0 0) (4 + a3))) → (z32 (a3 + 1)) ∧ zl_X8_isZero_4 E X F S a0 a1 x27 (a3 + 1) V)))))) :
    zl_X8_isZero_4 E X F S a0 a1 a2 a3 V := by
  unfold zl_X8_isZero_4
  refine z_iload_n 3 dX8_isZero_4 rfl ?_
  refine z_aload_n 0 dX8_isZero_5 rfl ?_
  obtain ⟨o1, h⟩ := h
  refine z_cVF [] (zk_RX8_84 _ rfl) dX8_isZero_6 o1 (by decide) rfl rfl (Nat.le_of_ble_eq_true rfl) (Nat.le_of_ble_eq_true rfl) (Nat.le_of_ble_eq_true rfl) (Nat.le_of_ble_eq_true rfl) (Nat.le_of_ble_eq_true rfl) h (fun x2 h => ?_)
  refine z_icmp_ge dX8_isZero_9 (tgt := 53) (by decide) (fun c4 => ?_) (fun c4 => ?_)
  · have h := h.1 c4
    refine z_iload_n 2 dX8_isZero_53 rfl ?_
    refine z_aload_n 0 dX8_isZero_54 rfl ?_
    refine z_cVF [] (zk_RX8_96 _ rfl) dX8_isZero_55 o1 (by decide) rfl rfl (Nat.le_of_ble_eq_true rfl) (Nat.le_of_ble_eq_true rfl) (Nat.le_of_ble_eq_true rfl) (Nat.le_of_ble_eq_true rfl) (Nat.le_of_ble_eq_true rfl) h (fun x5 h => ?_)
    obtain ⟨o7, h⟩ := h
    obtain ⟨o8, h⟩ := h
    refine z_irem dX8_isZero_58 o7 o8 ?_
    refine z_if_ne dX8_isZero_59 (tgt := 66) (by decide) (fun c9 => ?_) (fun c9 => ?_)
    · have h := h.1 c9
      refine z_iconst dX8_isZero_66 ⟨by decide, by decide⟩ ?_
      exact z_retFZ dX8_isZero_67 rfl (Or.inl rfl) h
    · have h := h.2 c9
      refine z_iconst dX8_isZero_62 ⟨by decide, by decide⟩ ?_
      refine z_goto (tgt := 67) dX8_isZero_63 (by decide) ?_
      exact z_retFZ dX8_isZero_67 rfl (Or.inr rfl) h
  · have h := h.2 c4
    refine z_iload_n 2 dX8_isZero_12 rfl ?_
    refine z_aload_n 0 dX8_isZero_13 rfl ?_
    refine zgf_8_9 dX8_isZero_14 (zf_RX8_28 _ rfl) o1 ?_
    refine z_bipush dX8_isZero_17 ⟨by decide, by decide⟩ (by decide) ?_
    refine z_iload_n 1 dX8_isZero_19 rfl ?_
    obtain ⟨o10, h⟩ := h
    refine z_imul dX8_isZero_20 o10 ?_
    refine z_aload_n 0 dX8_isZero_21 rfl ?_
    refine z_cVF [] (zk_RX8_84 _ rfl) dX8_isZero_22 o1 (by decide) rfl rfl (Nat.le_of_ble_eq_true rfl) (Nat.le_of_ble_eq_true rfl) (Nat.le_of_ble_eq_true rfl) (Nat.le_of_ble_eq_true rfl) (Nat.le_of_ble_eq_true rfl) h (fun x11 h => ?_)
    obtain ⟨o13, h⟩ := h
    refine z_iadd dX8_isZero_25 o13 ?_
    refine z_iconst dX8_isZero_26 ⟨by decide, by decide⟩ ?_
    obtain ⟨o14, h⟩ := h
    refine z_isub dX8_isZero_27 o14 ?_
    refine z_iload_n 3 dX8_isZero_28 rfl ?_
    obtain ⟨o15, h⟩ := h
    refine z_isub dX8_isZero_29 o15 ?_
    obtain ⟨o16, h⟩ := h
    obtain ⟨o17, h⟩ := h
    refine z_iald dX8_isZero_30 o16 o17 ?_
    refine z_aload_n 0 dX8_isZero_31 rfl ?_
    refine z_cVF [] (zk_RX8_96 _ rfl) dX8_isZero_32 o1 (by decide) rfl rfl (Nat.le_of_ble_eq_true rfl) (Nat.le_of_ble_eq_true rfl) (Nat.le_of_ble_eq_true rfl) (Nat.le_of_ble_eq_true rfl) (Nat.le_of_ble_eq_true rfl) h (fun x18 h => ?_)
    obtain ⟨o20, h⟩ := h
    obtain ⟨o21, h⟩ := h
    refine z_irem dX8_isZero_35 o20 o21 ?_
    refine z_aload_n 0 dX8_isZero_36 rfl ?_
    refine zgf_8_0 dX8_isZero_37 (zf_RX8_9 _ rfl) o1 ?_
    refine z_iconst dX8_isZero_40 ⟨by decide, by decide⟩ ?_
    refine z_iload_n 3 dX8_isZero_41 rfl ?_
    obtain ⟨o22, h⟩ := h
    refine z_iadd dX8_isZero_42 o22 ?_
    obtain ⟨o23, h⟩ := h
    obtain ⟨o24, h⟩ := h
    refine z_iald dX8_isZero_43 o23 o24 ?_
    obtain ⟨o25, h⟩ := h
    refine z_imul dX8_isZero_44 o25 ?_
    obtain ⟨o26, h⟩ := h
    refine z_iadd dX8_isZero_45 o26 ?_
    refine z_nameI (fun x27 e28 => ?_)
    have h := h x27 e28
    refine z_istore_n dX8_isZero_46 (by decide) (L' := [(0, zrv a0), (1, ziv a1), (2, ziv x27), (3, ziv a3)]) [1, 2, 0, 3] rfl ?_
    obtain ⟨o29, h⟩ := h
    refine z_iinc 3 dX8_isZero_47 rfl (by decide) o29 (L' := [(0, zrv a0), (1, ziv a1), (2, ziv x27), (3, ziv (a3 + 1))]) [1, 2, 3, 0] rfl ?_
    refine z_goto (tgt := 4) dX8_isZero_50 (by decide) ?_
    exact h
set_option maxRecDepth 100000 in
set_option maxHeartbeats 4000000 in
theorem en_X8_isZero {E : zE} {F : Int → Prop} {S : zS} {a0 a1 : Int} {V : zH}
    (h : z32 a1 → ∀ X : zX, zl_X8_isZero_4 E X F S a0 a1 0 0 V) :
    SpF E 1 zm_X8_isZero [zrv a0, ziv a1] S V F := by
  refine Sp.of (plainFor_of_name (by decide +kernel)) (Nat.le_of_ble_eq_true rfl) (fun hok X => ?_)
  have h := h (hok _ (List.mem_cons_of_mem _ (List.mem_cons_self))) X
  show Zr E X (zRoom 1 0 0) zm_X8_isZero (zQm E X (zpF S V F) 0 0) 0 0 0 [(0, zrv a0), (1, ziv a1)] [] S V
  refine z_iconst dX8_isZero_0 ⟨by decide, by decide⟩ ?_
  refine z_istore_n dX8_isZero_1 (by decide) (L' := [(0, zrv a0), (1, ziv a1), (2, ziv 0)]) [1, 2, 0] rfl ?_
  refine z_iconst dX8_isZero_2 ⟨by decide, by decide⟩ ?_
  refine z_istore_n dX8_isZero_3 (by decide) (L' := [(0, zrv a0), (1, ziv a1), (2, ziv 0), (3, ziv 0)]) [1, 2, 3, 0] rfl ?_
  exact h
def zl_X8_weigh_11 (E : zE) (X : zX) (F : zH → Prop) (S : zS) (a0 a1 a2 : Int) (V : zH) : Prop := Zr E X (zRoom 1 0 0) zm_X8_weigh (zQm E X (zpV S F) 0 0) 0 0 11 [(0, zrv a0), (1, ziv a1), (2, ziv a2)] [] S V
set_option maxRecDepth 100000 in
set_option maxHeartbeats 4000000 in
theorem wp_X8_weigh_11 {E : zE} {X : zX} {F : zH → Prop} {S : zS} {a0 a1 a2 : Int} {V : zH}
    (h : ((S a0).1 = 11) ∧ SpF E 0 zm_X8_n [zrv a0] S V (fun x2 => ((x2 ≤ a2) → (F V)) ∧ ((a2 < x2) → ((z32 (37 * a1)) ∧ SpF E 0 zm_X8_n [zrv a0] S V (fun x6 => (z32 ((37 * a1) + x6)) ∧ (z32 (((37 * a1) + x6) - 1)) ∧ (z32 ((((37 * a1) + x6) - 1) - a2)) ∧ ((S (V a0 9)).1 = 1) ∧ ((0 : Int) ≤ (((37 * a1) + x6) - 1) - a2 ∧ (((37 * a1) + x6) - 1) - a2 < (S (V a0 9)).2) ∧ ((S (V a0 16)).1 = 1) ∧ ((0 : Int) ≤ a2 ∧ a2 < (S (V a0 16)).2) ∧ ∀ V15 : zH, V15 = zput V (V a0 16) a2 (V (V a0 9) ((((37 * a1) + x6) - 1) - a2)) → (z32 (a2 + 1)) ∧ zl_X8_weigh_11 E X F S a0 a1 (a2 + 1) V15))))) :
    zl_X8_weigh_11 E X F S a0 a1 a2 V := by
  unfold zl_X8_weigh_11
  refine z_iload_n 2 dX8_weigh_11 rfl ?_
  refine z_aload_n 0 dX8_weigh_12 rfl ?_
  obtain ⟨o1, h⟩ := h
  refine z_cVF [] (zk_RX8_84 _ rfl) dX8_weigh_13 o1 (by decide) rfl rfl (Nat.le_of_ble_eq_true rfl) (Nat.le_of_ble_eq_true rfl) (Nat.le_of_ble_eq_true rfl) (Nat.le_of_ble_eq_true rfl) (Nat.le_of_ble_eq_true rfl) h (fun x2 h => ?_)
  refine z_icmp_ge dX8_weigh_16 (tgt := 49) (by decide) (fun c4 => ?_) (fun c4 => ?_)
  · have h := h.1 c4
    exact z_retV dX8_weigh_49 rfl h
  · have h := h.2 c4
    refine z_aload_n 0 dX8_weigh_19 rfl ?_
    refine zgf_8_16 dX8_weigh_20 (zf_RX8_40 _ rfl) o1 ?_
    refine z_iload_n 2 dX8_weigh_23 rfl ?_
    refine z_aload_n 0 dX8_weigh_24 rfl ?_
    refine zgf_8_9 dX8_weigh_25 (zf_RX8_28 _ rfl) o1 ?_
    refine z_bipush dX8_weigh_28 ⟨by decide, by decide⟩ (by decide) ?_
    refine z_iload_n 1 dX8_weigh_30 rfl ?_
    obtain ⟨o5, h⟩ := h
    refine z_imul dX8_weigh_31 o5 ?_
    refine z_aload_n 0 dX8_weigh_32 rfl ?_
    refine z_cVF [] (zk_RX8_84 _ rfl) dX8_weigh_33 o1 (by decide) rfl rfl (Nat.le_of_ble_eq_true rfl) (Nat.le_of_ble_eq_true rfl) (Nat.le_of_ble_eq_true rfl) (Nat.le_of_ble_eq_true rfl) (Nat.le_of_ble_eq_true rfl) h (fun x6 h => ?_)
    obtain ⟨o8, h⟩ := h
    refine z_iadd dX8_weigh_36 o8 ?_
    refine z_iconst dX8_weigh_37 ⟨by decide, by decide⟩ ?_
    obtain ⟨o9, h⟩ := h
    refine z_isub dX8_weigh_38 o9 ?_
    refine z_iload_n 2 dX8_weigh_39 rfl ?_
    obtain ⟨o10, h⟩ := h
    refine z_isub dX8_weigh_40 o10 ?_
    obtain ⟨o11, h⟩ := h
    obtain ⟨o12, h⟩ := h
    refine z_iald dX8_weigh_41 o11 o12 ?_
    obtain ⟨o13, h⟩ := h
    obtain ⟨o14, h⟩ := h
    refine z_iast dX8_weigh_42 o13 o14 ?_
    refine z_nameV (fun V15 e16 => ?_)
    have h := h V15 e16
    obtain ⟨o17, h⟩ := h
    refine z_iinc 2 dX8_weigh_43 rfl (by decide) o17 (L' := [(0, zrv a0), (1, ziv a1), (2, ziv (a2 + 1))]) [1, 2, 0] rfl ?_
    refine z_goto (tgt := 11) dX8_weigh_46 (by decide) ?_
    exact h
set_option maxRecDepth 100000 in
set_option maxHeartbeats 4000000 in
theorem en_X8_weigh {E : zE} {F : zH → Prop} {S : zS} {a0 a1 : Int} {V : zH}
    (h : z32 a1 → ∀ X : zX, ((S a0).1 = 11) ∧ SpF E 0 zm_X8_n [zrv a0] S V (fun x2 => SpV E 0 zm_X8_tells [zrv a0, ziv x2, ziv 0] S V (fun V5 => zl_X8_weigh_11 E X F S a0 a1 0 V5))) :
    SpV E 1 zm_X8_weigh [zrv a0, ziv a1] S V F := by
  refine Sp.of (plainFor_of_name (by decide +kernel)) (Nat.le_of_ble_eq_true rfl) (fun hok X => ?_)
  have h := h (hok _ (List.mem_cons_of_mem _ (List.mem_cons_self))) X
  show Zr E X (zRoom 1 0 0) zm_X8_weigh (zQm E X (zpV S F) 0 0) 0 0 0 [(0, zrv a0), (1, ziv a1)] [] S V
  refine z_aload_n 0 dX8_weigh_0 rfl ?_
  refine z_aload_n 0 dX8_weigh_1 rfl ?_
  obtain ⟨o1, h⟩ := h
  refine z_cVF [] (zk_RX8_84 _ rfl) dX8_weigh_2 o1 (by decide) rfl rfl (Nat.le_of_ble_eq_true rfl) (Nat.le_of_ble_eq_true rfl) (Nat.le_of_ble_eq_true rfl) (Nat.le_of_ble_eq_true rfl) (Nat.le_of_ble_eq_true rfl) h (fun x2 h => ?_)
  refine z_iconst dX8_weigh_5 ⟨by decide, by decide⟩ ?_
  refine z_cVV [ziv x2, ziv 0] (zk_RX8_188 _ rfl) dX8_weigh_6 o1 (by decide) rfl rfl (Nat.le_of_ble_eq_true rfl) (Nat.le_of_ble_eq_true rfl) (Nat.le_of_ble_eq_true rfl) (Nat.le_of_ble_eq_true rfl) (Nat.le_of_ble_eq_true rfl) h (fun V5 h => ?_)
  refine z_iconst dX8_weigh_9 ⟨by decide, by decide⟩ ?_
  refine z_istore_n dX8_weigh_10 (by decide) (L' := [(0, zrv a0), (1, ziv a1), (2, ziv 0)]) [1, 2, 0] rfl ?_
  exact h
set_option maxRecDepth 100000 in
set_option maxHeartbeats 4000000 in
theorem en_X8_next {E : zE} {F : Int → zH → Prop} {S : zS} {a0 : Int} {V : zH}
    (h : ((S a0).1 = 11) ∧ ((V a0 19 ≠ 0) → (SpV E 4 zm_X8_pushings [zrv a0] S V (fun V4 => SpF E 0 zm_X8_buttons [zrv a0] S V4 (fun x5 => SpI E 2 zm_X8_follows [zrv a0, ziv x5] S V4 (fun x7 V8 => ((x7 = 0) → (F 0 V8)) ∧ ((x7 ≠ 0) → (F 1 V8))))))) ∧ ((V a0 19 = 0) → (F (-1) V))) :
    SpI E 5 zm_X8_next [zrv a0] S V F := by
  refine Sp.of (plainFor_of_name (by decide +kernel)) (Nat.le_of_ble_eq_true rfl) (fun hok X => ?_)
  have h := h
  show Zr E X (zRoom 5 0 0) zm_X8_next (zQm E X (zpI S F) 0 0) 0 0 0 [(0, zrv a0)] [] S V
  refine z_aload_n 0 dX8_next_0 rfl ?_
  obtain ⟨o1, h⟩ := h
  refine zgf_8_19 dX8_next_1 (zf_RX8_63 _ rfl) o1 ?_
  refine z_if_ne dX8_next_4 (tgt := 9) (by decide) (fun c2 => ?_) (fun c2 => ?_)
  · have h := h.1 c2
    refine z_aload_n 0 dX8_next_9 rfl ?_
    refine z_cVV [] (zk_RX8_178 _ rfl) dX8_next_10 o1 (by decide) rfl rfl (Nat.le_of_ble_eq_true rfl) (Nat.le_of_ble_eq_true rfl) (Nat.le_of_ble_eq_true rfl) (Nat.le_of_ble_eq_true rfl) (Nat.le_of_ble_eq_true rfl) h (fun V4 h => ?_)
    refine z_aload_n 0 dX8_next_13 rfl ?_
    refine z_aload_n 0 dX8_next_14 rfl ?_
    refine z_cVF [] (zk_RX8_89 _ rfl) dX8_next_15 o1 (by decide) rfl rfl (Nat.le_of_ble_eq_true rfl) (Nat.le_of_ble_eq_true rfl) (Nat.le_of_ble_eq_true rfl) (Nat.le_of_ble_eq_true rfl) (Nat.le_of_ble_eq_true rfl) h (fun x5 h => ?_)
    refine z_cVI [ziv x5] (zk_RX8_201 _ rfl) dX8_next_18 o1 (by decide) rfl rfl (Nat.le_of_ble_eq_true rfl) (Nat.le_of_ble_eq_true rfl) (Nat.le_of_ble_eq_true rfl) (Nat.le_of_ble_eq_true rfl) (Nat.le_of_ble_eq_true rfl) h (fun x7 V8 h => ?_)
    refine z_if_eq dX8_next_21 (tgt := 28) (by decide) (fun c9 => ?_) (fun c9 => ?_)
    · have h := h.1 c9
      refine z_iconst dX8_next_28 ⟨by decide, by decide⟩ ?_
      exact z_retI dX8_next_29 rfl h
    · have h := h.2 c9
      refine z_iconst dX8_next_24 ⟨by decide, by decide⟩ ?_
      refine z_goto (tgt := 29) dX8_next_25 (by decide) ?_
      exact z_retI dX8_next_29 rfl h
  · have h := h.2 c2
    refine z_iconst dX8_next_7 ⟨by decide, by decide⟩ ?_
    exact z_retI dX8_next_8 rfl h
def zl_X8_follows_2 (E : zE) (X : zX) (F : Int → zH → Prop) (S : zS) (a0 a1 a2 : Int) (V : zH) : Prop := Zr E X (zRoom 2 0 0) zm_X8_follows (zQm E X (zpI S F) 0 0) 0 0 2 [(0, zrv a0), (1, ziv a1), (2, ziv a2)] [] S V
def zl_X8_follows_41 (E : zE) (X : zX) (F : Int → zH → Prop) (S : zS) (a0 a2 a3 : Int) (V : zH) : Prop := Zr E X (zRoom 2 0 0) zm_X8_follows (zQm E X (zpI S F) 0 0) 0 0 41 [(0, zrv a0), (2, ziv a2), (3, ziv a3)] [] S V
set_option maxRecDepth 100000 in
set_option maxHeartbeats 4000000 in
theorem wp_X8_follows_2 {E : zE} {X : zX} {F : Int → zH → Prop} {S : zS} {a0 a1 a2 : Int} {V : zH}
    (h : ((a1 ≤ a2) → (((a2 ≠ a1) → (zl_X8_follows_41 E X F S a0 a2 0 V)) ∧ ((a2 = a1) → (F 0 V)))) ∧ ((a2 < a1) → (((S a0).1 = 11) ∧ ((S (V a0 16)).1 = 1) ∧ ((0 : Int) ≤ a2 ∧ a2 < (S (V a0 16)).2) ∧ SpF E 0 zm_X8_pivot [zrv a0, ziv a2] S V (fun x6 => (z32 ((V (V a0 16) a2) + x6)) ∧ SpF E 0 zm_X8_m [zrv a0] S V (fun x9 => (((V (V a0 16) a2) + x6 < x9) → (((a2 ≠ a1) → (zl_X8_follows_41 E X F S a0 a2 0 V)) ∧ ((a2 = a1) → (F 0 V)))) ∧ ((x9 ≤ (V (V a0 16) a2) + x6) → ((z32 (a2 + 1)) ∧ zl_X8_follows_2 E X F S a0 a1 (a2 + 1) V))))))) :
    zl_X8_follows_2 E X F S a0 a1 a2 V := by
  unfold zl_X8_follows_2
  refine z_iload_n 2 dX8_follows_2 rfl ?_
  refine z_iload_n 1 dX8_follows_3 rfl ?_
  refine z_icmp_ge dX8_follows_4 (tgt := 32) (by decide) (fun c1 => ?_) (fun c1 => ?_)
  · have h := h.1 c1
    refine z_iload_n 2 dX8_follows_32 rfl ?_
    refine z_iload_n 1 dX8_follows_33 rfl ?_
    refine z_icmp_ne dX8_follows_34 (tgt := 39) (by decide) (fun c2 => ?_) (fun c2 => ?_)
    · have h := h.1 c2
      refine z_iconst dX8_follows_39 ⟨by decide, by decide⟩ ?_
      refine z_istore_n dX8_follows_40 (by decide) (L' := [(0, zrv a0), (1, ziv a1), (2, ziv a2), (3, ziv 0)]) [1, 2, 3, 0] rfl ?_
      refine z_loc (L' := [(0, zrv a0), (2, ziv a2), (3, ziv 0)]) [0, 2, 3] rfl ?_
      exact h
    · have h := h.2 c2
      refine z_iconst dX8_follows_37 ⟨by decide, by decide⟩ ?_
      exact z_retZ dX8_follows_38 rfl (Or.inl rfl) h
  · have h := h.2 c1
    refine z_aload_n 0 dX8_follows_7 rfl ?_
    obtain ⟨o3, h⟩ := h
    refine zgf_8_16 dX8_follows_8 (zf_RX8_40 _ rfl) o3 ?_
    refine z_iload_n 2 dX8_follows_11 rfl ?_
    obtain ⟨o4, h⟩ := h
    obtain ⟨o5, h⟩ := h
    refine z_iald dX8_follows_12 o4 o5 ?_
    refine z_aload_n 0 dX8_follows_13 rfl ?_
    refine z_iload_n 2 dX8_follows_14 rfl ?_
    refine z_cVF [ziv a2] (zk_RX8_181 _ rfl) dX8_follows_15 o3 (by decide) rfl rfl (Nat.le_of_ble_eq_true rfl) (Nat.le_of_ble_eq_true rfl) (Nat.le_of_ble_eq_true rfl) (Nat.le_of_ble_eq_true rfl) (Nat.le_of_ble_eq_true rfl) h (fun x6 h => ?_)
    obtain ⟨o8, h⟩ := h
    refine z_iadd dX8_follows_18 o8 ?_
    refine z_aload_n 0 dX8_follows_19 rfl ?_
    refine z_cVF [] (zk_RX8_96 _ rfl) dX8_follows_20 o3 (by decide) rfl rfl (Nat.le_of_ble_eq_true rfl) (Nat.le_of_ble_eq_true rfl) (Nat.le_of_ble_eq_true rfl) (Nat.le_of_ble_eq_true rfl) (Nat.le_of_ble_eq_true rfl) h (fun x9 h => ?_)
    refine z_icmp_lt dX8_follows_23 (tgt := 32) (by decide) (fun c11 => ?_) (fun c11 => ?_)
    · have h := h.1 c11
      refine z_iload_n 2 dX8_follows_32 rfl ?_
      refine z_iload_n 1 dX8_follows_33 rfl ?_
      refine z_icmp_ne dX8_follows_34 (tgt := 39) (by decide) (fun c12 => ?_) (fun c12 => ?_)
      · have h := h.1 c12
        refine z_iconst dX8_follows_39 ⟨by decide, by decide⟩ ?_
        refine z_istore_n dX8_follows_40 (by decide) (L' := [(0, zrv a0), (1, ziv a1), (2, ziv a2), (3, ziv 0)]) [1, 2, 3, 0] rfl ?_
        refine z_loc (L' := [(0, zrv a0), (2, ziv a2), (3, ziv 0)]) [0, 2, 3] rfl ?_
        exact h
      · have h := h.2 c12
        refine z_iconst dX8_follows_37 ⟨by decide, by decide⟩ ?_
        exact z_retZ dX8_follows_38 rfl (Or.inl rfl) h
    · have h := h.2 c11
      obtain ⟨o13, h⟩ := h
      refine z_iinc 2 dX8_follows_26 rfl (by decide) o13 (L' := [(0, zrv a0), (1, ziv a1), (2, ziv (a2 + 1))]) [1, 2, 0] rfl ?_
      refine z_goto (tgt := 2) dX8_follows_29 (by decide) ?_
      exact h
set_option maxRecDepth 100000 in
set_option maxHeartbeats 4000000 in
theorem wp_X8_follows_41 {E : zE} {X : zX} {F : Int → zH → Prop} {S : zS} {a0 a2 a3 : Int} {V : zH}
    (h : ((a2 < a3) → (((S a0).1 = 11) ∧ SpV E 1 zm_X8_lower [zrv a0, ziv a2] S V (fun V4 => F 1 V4))) ∧ ((a3 ≤ a2) → (((S a0).1 = 11) ∧ ((S (V a0 16)).1 = 1) ∧ ((0 : Int) ≤ a3 ∧ a3 < (S (V a0 16)).2) ∧ (z32 (37 * a2)) ∧ (z32 ((37 * a2) + a3)) ∧ ((S (V a0 9)).1 = 1) ∧ ((0 : Int) ≤ (37 * a2) + a3 ∧ (37 * a2) + a3 < (S (V a0 9)).2) ∧ (z32 ((V (V a0 16) a3) + (V (V a0 9) ((37 * a2) + a3)))) ∧ SpF E 0 zm_X8_m [zrv a0] S V (fun x13 => ((0 : Int) ≤ (V (V a0 16) a3) + (V (V a0 9) ((37 * a2) + a3))) ∧ ((0 : Int) < x13) ∧ ∀ V17 : zH, V17 = zput V (V a0 16) a3 (((V (V a0 16) a3) + (V (V a0 9) ((37 * a2) + a3))) % x13) → (z32 (a3 + 1)) ∧ zl_X8_follows_41 E X F S a0 a2 (a3 + 1) V17)))) :
    zl_X8_follows_41 E X F S a0 a2 a3 V := by
  unfold zl_X8_follows_41
  refine z_iload_n 2 dX8_follows_41 rfl ?_
  refine z_iload_n 1 dX8_follows_42 rfl ?_
  refine z_icmp_gt dX8_follows_43 (tgt := 81) (by decide) (fun c1 => ?_) (fun c1 => ?_)
  · have h := h.1 c1
    refine z_aload_n 0 dX8_follows_81 rfl ?_
    refine z_iload_n 1 dX8_follows_82 rfl ?_
    obtain ⟨o2, h⟩ := h
    refine z_cVV [ziv a2] (zk_RX8_204 _ rfl) dX8_follows_83 o2 (by decide) rfl rfl (Nat.le_of_ble_eq_true rfl) (Nat.le_of_ble_eq_true rfl) (Nat.le_of_ble_eq_true rfl) (Nat.le_of_ble_eq_true rfl) (Nat.le_of_ble_eq_true rfl) h (fun V4 h => ?_)
    refine z_iconst dX8_follows_86 ⟨by decide, by decide⟩ ?_
    exact z_retZ dX8_follows_87 rfl (Or.inr rfl) h
  · have h := h.2 c1
    refine z_aload_n 0 dX8_follows_46 rfl ?_
    obtain ⟨o5, h⟩ := h
    refine zgf_8_16 dX8_follows_47 (zf_RX8_40 _ rfl) o5 ?_
    refine z_iload_n 2 dX8_follows_50 rfl ?_
    refine z_aload_n 0 dX8_follows_51 rfl ?_
    refine zgf_8_16 dX8_follows_52 (zf_RX8_40 _ rfl) o5 ?_
    refine z_iload_n 2 dX8_follows_55 rfl ?_
    obtain ⟨o6, h⟩ := h
    obtain ⟨o7, h⟩ := h
    refine z_iald dX8_follows_56 o6 o7 ?_
    refine z_aload_n 0 dX8_follows_57 rfl ?_
    refine zgf_8_9 dX8_follows_58 (zf_RX8_28 _ rfl) o5 ?_
    refine z_bipush dX8_follows_61 ⟨by decide, by decide⟩ (by decide) ?_
    refine z_iload_n 1 dX8_follows_63 rfl ?_
    obtain ⟨o8, h⟩ := h
    refine z_imul dX8_follows_64 o8 ?_
    refine z_iload_n 2 dX8_follows_65 rfl ?_
    obtain ⟨o9, h⟩ := h
    refine z_iadd dX8_follows_66 o9 ?_
    obtain ⟨o10, h⟩ := h
    obtain ⟨o11, h⟩ := h
    refine z_iald dX8_follows_67 o10 o11 ?_
    obtain ⟨o12, h⟩ := h
    refine z_iadd dX8_follows_68 o12 ?_
    refine z_aload_n 0 dX8_follows_69 rfl ?_
    refine z_cVF [] (zk_RX8_96 _ rfl) dX8_follows_70 o5 (by decide) rfl rfl (Nat.le_of_ble_eq_true rfl) (Nat.le_of_ble_eq_true rfl) (Nat.le_of_ble_eq_true rfl) (Nat.le_of_ble_eq_true rfl) (Nat.le_of_ble_eq_true rfl) h (fun x13 h => ?_)
    obtain ⟨o15, h⟩ := h
    obtain ⟨o16, h⟩ := h
    refine z_irem dX8_follows_73 o15 o16 ?_
    refine z_iast dX8_follows_74 o6 o7 ?_
    refine z_nameV (fun V17 e18 => ?_)
    have h := h V17 e18
    obtain ⟨o19, h⟩ := h
    refine z_iinc 2 dX8_follows_75 rfl (by decide) o19 (L' := [(0, zrv a0), (2, ziv a2), (3, ziv (a3 + 1))]) [1, 2, 0] rfl ?_
    refine z_goto (tgt := 41) dX8_follows_78 (by decide) ?_
    exact h
set_option maxRecDepth 100000 in
set_option maxHeartbeats 4000000 in
theorem en_X8_follows {E : zE} {F : Int → zH → Prop} {S : zS} {a0 a1 : Int} {V : zH}
    (h : z32 a1 → ∀ X : zX, zl_X8_follows_2 E X F S a0 a1 0 V) :
    SpI E 2 zm_X8_follows [zrv a0, ziv a1] S V F := by
  refine Sp.of (plainFor_of_name (by decide +kernel)) (Nat.le_of_ble_eq_true rfl) (fun hok X => ?_)
  have h := h (hok _ (List.mem_cons_of_mem _ (List.mem_cons_self))) X
  show Zr E X (zRoom 2 0 0) zm_X8_follows (zQm E X (zpI S F) 0 0) 0 0 0 [(0, zrv a0), (1, ziv a1)] [] S V
  refine z_iconst dX8_follows_0 ⟨by decide, by decide⟩ ?_
  refine z_istore_n dX8_follows_1 (by decide) (L' := [(0, zrv a0), (1, ziv a1), (2, ziv 0)]) [1, 2, 0] rfl ?_
  exact h
def zl_X8_lower_4 (E : zE) (X : zX) (F : zH → Prop) (S : zS) (a0 a2 : Int) (V : zH) : Prop := Zr E X (zRoom 1 0 0) zm_X8_lower (zQm E X (zpV S F) 0 0) 0 0 4 [(0, zrv a0), (2, ziv a2)] [] S V
def zl_X8_lower_24 (E : zE) (X : zX) (F : zH → Prop) (S : zS) (a0 a2 a3 a4 : Int) (V : zH) : Prop := Zr E X (zRoom 1 0 0) zm_X8_lower (zQm E X (zpV S F) 0 0) 0 0 24 [(0, zrv a0), (2, ziv a2), (3, ziv a3), (4, ziv a4)] [] S V
set_option maxRecDepth 100000 in
set_option maxHeartbeats 4000000 in
theorem wp_X8_lower_4 {E : zE} {X : zX} {F : zH → Prop} {S : zS} {a0 a2 : Int} {V : zH}
    (h : ((a2 < 0) → (F V)) ∧ ((0 ≤ a2) → (((S a0).1 = 11) ∧ ((S (V a0 16)).1 = 1) ∧ ((0 : Int) ≤ a2 ∧ a2 < (S (V a0 16)).2) ∧ SpF E 0 zm_X8_pivot [zrv a0, ziv a2] S V (fun x5 => ((0 : Int) ≤ V (V a0 16) a2) ∧ ((0 : Int) < x5) ∧ ∀ x9 : Int, x9 = (V (V a0 16) a2) / x5 → zl_X8_lower_24 E X F S a0 a2 x9 0 V)))) :
    zl_X8_lower_4 E X F S a0 a2 V := by
  unfold zl_X8_lower_4
  refine z_iload_n 1 dX8_lower_4 rfl ?_
  refine z_if_lt dX8_lower_5 (tgt := 82) (by decide) (fun c1 => ?_) (fun c1 => ?_)
  · have h := h.1 c1
    exact z_retV dX8_lower_82 rfl h
  · have h := h.2 c1
    refine z_aload_n 0 dX8_lower_8 rfl ?_
    obtain ⟨o2, h⟩ := h
    refine zgf_8_16 dX8_lower_9 (zf_RX8_40 _ rfl) o2 ?_
    refine z_iload_n 1 dX8_lower_12 rfl ?_
    obtain ⟨o3, h⟩ := h
    obtain ⟨o4, h⟩ := h
    refine z_iald dX8_lower_13 o3 o4 ?_
    refine z_aload_n 0 dX8_lower_14 rfl ?_
    refine z_iload_n 1 dX8_lower_15 rfl ?_
    refine z_cVF [ziv a2] (zk_RX8_181 _ rfl) dX8_lower_16 o2 (by decide) rfl rfl (Nat.le_of_ble_eq_true rfl) (Nat.le_of_ble_eq_true rfl) (Nat.le_of_ble_eq_true rfl) (Nat.le_of_ble_eq_true rfl) (Nat.le_of_ble_eq_true rfl) h (fun x5 h => ?_)
    obtain ⟨o7, h⟩ := h
    obtain ⟨o8, h⟩ := h
    refine z_idiv dX8_lower_19 o7 o8 ?_
    refine z_nameI (fun x9 e10 => ?_)
    have h := h x9 e10
    refine z_istore_n dX8_lower_20 (by decide) (L' := [(0, zrv a0), (2, ziv a2), (3, ziv x9)]) [1, 2, 0] rfl ?_
    refine z_iconst dX8_lower_21 ⟨by decide, by decide⟩ ?_
    refine z_istore dX8_lower_22 (by decide) (L' := [(0, zrv a0), (2, ziv a2), (3, ziv x9), (4, ziv 0)]) [1, 2, 3, 0] rfl ?_
    exact h
set_option maxRecDepth 100000 in
set_option maxHeartbeats 4000000 in
theorem wp_X8_lower_24 {E : zE} {X : zX} {F : zH → Prop} {S : zS} {a0 a2 a3 a4 : Int} {V : zH}
    (h : ((a2 < a4) → ((z32 (a2 + (-1))) ∧ zl_X8_lower_4 E X F S a0 (a2 + (-1)) V)) ∧ ((a4 ≤ a2) → (((a3 = 0) → ((z32 (a2 + (-1))) ∧ zl_X8_lower_4 E X F S a0 (a2 + (-1)) V)) ∧ ((a3 ≠ 0) → (((S a0).1 = 11) ∧ ((S (V a0 16)).1 = 1) ∧ ((0 : Int) ≤ a4 ∧ a4 < (S (V a0 16)).2) ∧ (z32 (37 * a2)) ∧ (z32 ((37 * a2) + a4)) ∧ ((S (V a0 9)).1 = 1) ∧ ((0 : Int) ≤ (37 * a2) + a4 ∧ (37 * a2) + a4 < (S (V a0 9)).2) ∧ (z32 (a3 * (V (V a0 9) ((37 * a2) + a4)))) ∧ (z32 ((V (V a0 16) a4) - (a3 * (V (V a0 9) ((37 * a2) + a4))))) ∧ SpF E 0 zm_X8_m [zrv a0] S V (fun x14 => SpF E 0 zm_J9_floorMod_7cf53 [ziv ((V (V a0 16) a4) - (a3 * (V (V a0 9) ((37 * a2) + a4)))), ziv x14] S V (fun x16 => ∀ V18 : zH, V18 = zput V (V a0 16) a4 x16 → (z32 (a4 + 1)) ∧ zl_X8_lower_24 E X F S a0 a2 a3 (a4 + 1) V18))))))) :
    zl_X8_lower_24 E X F S a0 a2 a3 a4 V := by
  unfold zl_X8_lower_24
  refine z_iload 3 dX8_lower_24 rfl ?_
  refine z_iload_n 1 dX8_lower_26 rfl ?_
  refine z_icmp_gt dX8_lower_27 (tgt := 76) (by decide) (fun c1 => ?_) (fun c1 => ?_)
  · have h := h.1 c1
    obtain ⟨o2, h⟩ := h
    refine z_iinc 1 dX8_lower_76 rfl (by decide) o2 (L' := [(0, zrv a0), (2, ziv (a2 + (-1))), (3, ziv a3), (4, ziv a4)]) [1, 0, 2, 3] rfl ?_
    refine z_goto (tgt := 4) dX8_lower_79 (by decide) ?_
    refine z_loc (L' := [(0, zrv a0), (2, ziv (a2 + (-1)))]) [0, 1] rfl ?_
    exact h
  · have h := h.2 c1
    refine z_iload_n 2 dX8_lower_30 rfl ?_
    refine z_if_eq dX8_lower_31 (tgt := 76) (by decide) (fun c3 => ?_) (fun c3 => ?_)
    · have h := h.1 c3
      obtain ⟨o4, h⟩ := h
      refine z_iinc 1 dX8_lower_76 rfl (by decide) o4 (L' := [(0, zrv a0), (2, ziv (a2 + (-1))), (3, ziv a3), (4, ziv a4)]) [1, 0, 2, 3] rfl ?_
      refine z_goto (tgt := 4) dX8_lower_79 (by decide) ?_
      refine z_loc (L' := [(0, zrv a0), (2, ziv (a2 + (-1)))]) [0, 1] rfl ?_
      exact h
    · have h := h.2 c3
      refine z_aload_n 0 dX8_lower_34 rfl ?_
      obtain ⟨o5, h⟩ := h
      refine zgf_8_16 dX8_lower_35 (zf_RX8_40 _ rfl) o5 ?_
      refine z_iload 3 dX8_lower_38 rfl ?_
      refine z_aload_n 0 dX8_lower_40 rfl ?_
      refine zgf_8_16 dX8_lower_41 (zf_RX8_40 _ rfl) o5 ?_
      refine z_iload 3 dX8_lower_44 rfl ?_
      obtain ⟨o6, h⟩ := h
      obtain ⟨o7, h⟩ := h
      refine z_iald dX8_lower_46 o6 o7 ?_
      refine z_iload_n 2 dX8_lower_47 rfl ?_
      refine z_aload_n 0 dX8_lower_48 rfl ?_
      refine zgf_8_9 dX8_lower_49 (zf_RX8_28 _ rfl) o5 ?_
      refine z_bipush dX8_lower_52 ⟨by decide, by decide⟩ (by decide) ?_
      refine z_iload_n 1 dX8_lower_54 rfl ?_
      obtain ⟨o8, h⟩ := h
      refine z_imul dX8_lower_55 o8 ?_
      refine z_iload 3 dX8_lower_56 rfl ?_
      obtain ⟨o9, h⟩ := h
      refine z_iadd dX8_lower_58 o9 ?_
      obtain ⟨o10, h⟩ := h
      obtain ⟨o11, h⟩ := h
      refine z_iald dX8_lower_59 o10 o11 ?_
      obtain ⟨o12, h⟩ := h
      refine z_imul dX8_lower_60 o12 ?_
      obtain ⟨o13, h⟩ := h
      refine z_isub dX8_lower_61 o13 ?_
      refine z_aload_n 0 dX8_lower_62 rfl ?_
      refine z_cVF [] (zk_RX8_96 _ rfl) dX8_lower_63 o5 (by decide) rfl rfl (Nat.le_of_ble_eq_true rfl) (Nat.le_of_ble_eq_true rfl) (Nat.le_of_ble_eq_true rfl) (Nat.le_of_ble_eq_true rfl) (Nat.le_of_ble_eq_true rfl) h (fun x14 h => ?_)
      refine z_cSF [ziv ((V (V a0 16) a4) - (a3 * (V (V a0 9) ((37 * a2) + a4)))), ziv x14] (zk_RX8_160 _ rfl) dX8_lower_66 rfl rfl (Nat.le_of_ble_eq_true rfl) (Nat.le_of_ble_eq_true rfl) (Nat.le_of_ble_eq_true rfl) (Nat.le_of_ble_eq_true rfl) (Nat.le_of_ble_eq_true rfl) h (fun x16 h => ?_)
      refine z_iast dX8_lower_69 o6 o7 ?_
      refine z_nameV (fun V18 e19 => ?_)
      have h := h V18 e19
      obtain ⟨o20, h⟩ := h
      refine z_iinc 3 dX8_lower_70 rfl (by decide) o20 (L' := [(0, zrv a0), (2, ziv a2), (3, ziv a3), (4, ziv (a4 + 1))]) [1, 2, 3, 0] rfl ?_
      refine z_goto (tgt := 24) dX8_lower_73 (by decide) ?_
      exact h
set_option maxRecDepth 100000 in
set_option maxHeartbeats 4000000 in
theorem en_X8_lower {E : zE} {F : zH → Prop} {S : zS} {a0 a1 : Int} {V : zH}
    (h : z32 a1 → ∀ X : zX, (z32 (a1 - 1)) ∧ zl_X8_lower_4 E X F S a0 (a1 - 1) V) :
    SpV E 1 zm_X8_lower [zrv a0, ziv a1] S V F := by
  refine Sp.of (plainFor_of_name (by decide +kernel)) (Nat.le_of_ble_eq_true rfl) (fun hok X => ?_)
  have h := h (hok _ (List.mem_cons_of_mem _ (List.mem_cons_self))) X
  show Zr E X (zRoom 1 0 0) zm_X8_lower (zQm E X (zpV S F) 0 0) 0 0 0 [(0, zrv a0), (1, ziv a1)] [] S V
  refine z_iload_n 1 dX8_lower_0 rfl ?_
  refine z_iconst dX8_lower_1 ⟨by decide, by decide⟩ ?_
  obtain ⟨o1, h⟩ := h
  refine z_isub dX8_lower_2 o1 ?_
  refine z_istore_n dX8_lower_3 (by decide) (L' := [(0, zrv a0), (1, ziv a1), (2, ziv (a1 - 1))]) [1, 2, 0] rfl ?_
  refine z_loc (L' := [(0, zrv a0), (2, ziv (a1 - 1))]) [0, 2] rfl ?_
  exact h
set_option maxRecDepth 100000 in
set_option maxHeartbeats 4000000 in
theorem en_X8_row {E : zE} {F : Int → Prop} {S : zS} {a0 a1 : Int} {V : zH}
    (h : z32 a1 → ((S a0).1 = 11) ∧ (z32 ((V a0 17) - 1)) ∧ SpF E 0 zm_X8_in [zjv a1, zjv 0, zjv ((V a0 17) - 1)] S V (fun x3 => ((x3 = 0) → (F (-1))) ∧ ((x3 ≠ 0) → (((S (V a0 16)).1 = 1) ∧ ((0 : Int) ≤ a1 ∧ a1 < (S (V a0 16)).2) ∧ F (V (V a0 16) a1))))) :
    SpF E 1 zm_X8_row [zrv a0, ziv a1] S V F := by
  refine Sp.of (plainFor_of_name (by decide +kernel)) (Nat.le_of_ble_eq_true rfl) (fun hok X => ?_)
  have h := h (hok _ (List.mem_cons_of_mem _ (List.mem_cons_self)))
  show Zr E X (zRoom 1 0 0) zm_X8_row (zQm E X (zpF S V F) 0 0) 0 0 0 [(0, zrv a0), (1, ziv a1)] [] S V
  refine z_iload_n 1 dX8_row_0 rfl ?_
  refine z_i2l dX8_row_1 ?_
  refine z_lconst (v := 0) dX8_row_2 (by decide) ⟨by decide, by decide⟩ ?_
  refine z_aload_n 0 dX8_row_3 rfl ?_
  obtain ⟨o1, h⟩ := h
  refine zgf_8_17 dX8_row_4 (zf_RX8_172 _ rfl) o1 ?_
  refine z_iconst dX8_row_7 ⟨by decide, by decide⟩ ?_
  obtain ⟨o2, h⟩ := h
  refine z_isub dX8_row_8 o2 ?_
  refine z_i2l dX8_row_9 ?_
  refine z_cSF [zjv a1, zjv 0, zjv ((V a0 17) - 1)] (zk_RX8_69 _ rfl) dX8_row_10 rfl rfl (Nat.le_of_ble_eq_true rfl) (Nat.le_of_ble_eq_true rfl) (Nat.le_of_ble_eq_true rfl) (Nat.le_of_ble_eq_true rfl) (Nat.le_of_ble_eq_true rfl) h (fun x3 h => ?_)
  refine z_if_eq dX8_row_13 (tgt := 25) (by decide) (fun c5 => ?_) (fun c5 => ?_)
  · have h := h.1 c5
    refine z_iconst dX8_row_25 ⟨by decide, by decide⟩ ?_
    exact z_retFI dX8_row_26 rfl h
  · have h := h.2 c5
    refine z_aload_n 0 dX8_row_16 rfl ?_
    refine zgf_8_16 dX8_row_17 (zf_RX8_40 _ rfl) o1 ?_
    refine z_iload_n 1 dX8_row_20 rfl ?_
    obtain ⟨o6, h⟩ := h
    obtain ⟨o7, h⟩ := h
    refine z_iald dX8_row_21 o6 o7 ?_
    refine z_goto (tgt := 26) dX8_row_22 (by decide) ?_
    exact z_retFI dX8_row_26 rfl h
def zl_X8_often_4 (E : zE) (X : zX) (F : Int → Prop) (S : zS) (a1 a2 a3 : Int) (V : zH) : Prop := Zr E X (zRoom 0 0 0) zm_X8_often (zQm E X (zpF S V F) 0 0) 0 0 4 [(1, ziv a1), (2, ziv a2), (3, ziv a3)] [] S V
set_option maxRecDepth 100000 in
set_option maxHeartbeats 4000000 in
theorem wp_X8_often_4 {E : zE} {X : zX} {F : Int → Prop} {S : zS} {a1 a2 a3 : Int} {V : zH}
    (h : ((0 : Int) ≤ a3) ∧ ((0 : Int) < a1) ∧ ((a3 % a1 ≠ 0) → (F a2)) ∧ ((a3 % a1 = 0) → (∀ x4 : Int, x4 = a3 / a1 → (z32 (a2 + 1)) ∧ zl_X8_often_4 E X F S a1 (a2 + 1) x4 V))) :
    zl_X8_often_4 E X F S a1 a2 a3 V := by
  unfold zl_X8_often_4
  refine z_iload_n 2 dX8_often_4 rfl ?_
  refine z_iload_n 0 dX8_often_5 rfl ?_
  obtain ⟨o1, h⟩ := h
  obtain ⟨o2, h⟩ := h
  refine z_irem dX8_often_6 o1 o2 ?_
  refine z_if_ne dX8_often_7 (tgt := 20) (by decide) (fun c3 => ?_) (fun c3 => ?_)
  · have h := h.1 c3
    refine z_iload_n 1 dX8_often_20 rfl ?_
    exact z_retFI dX8_often_21 rfl h
  · have h := h.2 c3
    refine z_iload_n 2 dX8_often_10 rfl ?_
    refine z_iload_n 0 dX8_often_11 rfl ?_
    refine z_idiv dX8_often_12 o1 o2 ?_
    refine z_nameI (fun x4 e5 => ?_)
    have h := h x4 e5
    refine z_istore_n dX8_often_13 (by decide) (L' := [(1, ziv a1), (2, ziv a2), (3, ziv x4)]) [1, 2, 0] rfl ?_
    obtain ⟨o6, h⟩ := h
    refine z_iinc 1 dX8_often_14 rfl (by decide) o6 (L' := [(1, ziv a1), (2, ziv (a2 + 1)), (3, ziv x4)]) [1, 0, 2] rfl ?_
    refine z_goto (tgt := 4) dX8_often_17 (by decide) ?_
    exact h
set_option maxRecDepth 100000 in
set_option maxHeartbeats 4000000 in
theorem en_X8_often {E : zE} {F : Int → Prop} {S : zS} {a0 a1 : Int} {V : zH}
    (h : z32 a0 → z32 a1 → ∀ X : zX, zl_X8_often_4 E X F S a1 0 a0 V) :
    SpF E 0 zm_X8_often [ziv a0, ziv a1] S V F := by
  refine Sp.of (plainFor_of_name (by decide +kernel)) (Nat.le_of_ble_eq_true rfl) (fun hok X => ?_)
  have h := h (hok _ (List.mem_cons_self)) (hok _ (List.mem_cons_of_mem _ (List.mem_cons_self))) X
  show Zr E X (zRoom 0 0 0) zm_X8_often (zQm E X (zpF S V F) 0 0) 0 0 0 [(0, ziv a0), (1, ziv a1)] [] S V
  refine z_iconst dX8_often_0 ⟨by decide, by decide⟩ ?_
  refine z_istore_n dX8_often_1 (by decide) (L' := [(0, ziv a0), (1, ziv a1), (2, ziv 0)]) [1, 2, 0] rfl ?_
  refine z_iload_n 0 dX8_often_2 rfl ?_
  refine z_istore_n dX8_often_3 (by decide) (L' := [(0, ziv a0), (1, ziv a1), (2, ziv 0), (3, ziv a0)]) [1, 2, 3, 0] rfl ?_
  refine z_loc (L' := [(1, ziv a1), (2, ziv 0), (3, ziv a0)]) [1, 2, 3] rfl ?_
  exact h
def zl_X8_free_4 (E : zE) (X : zX) (F : Int → Prop) (S : zS) (a0 a1 a2 : Int) (V : zH) : Prop := Zr E X (zRoom 1 0 0) zm_X8_free (zQm E X (zpF S V F) 0 0) 0 0 4 [(0, zrv a0), (1, ziv a1), (2, ziv a2)] [] S V
set_option maxRecDepth 100000 in
set_option maxHeartbeats 4000000 in
theorem wp_X8_free_4 {E : zE} {X : zX} {F : Int → Prop} {S : zS} {a0 a1 a2 : Int} {V : zH}
    (h : ((S a0).1 = 11) ∧ SpF E 0 zm_X8_buttons [zrv a0] S V (fun x2 => ((x2 ≤ a2) → (F a1)) ∧ ((a2 < x2) → (SpF E 0 zm_X8_isStuck [zrv a0, ziv a2] S V (fun x5 => ((x5 = 0) → ((z32 (a1 + 1)) ∧ (z32 (a2 + 1)) ∧ zl_X8_free_4 E X F S a0 (a1 + 1) (a2 + 1) V)) ∧ ((x5 ≠ 0) → ((z32 (a1 + 0)) ∧ (z32 (a2 + 1)) ∧ zl_X8_free_4 E X F S a0 (a1 + 0) (a2 + 1) V))))))) :
    zl_X8_free_4 E X F S a0 a1 a2 V := by
  unfold zl_X8_free_4
  refine z_iload_n 2 dX8_free_4 rfl ?_
  refine z_aload_n 0 dX8_free_5 rfl ?_
  obtain ⟨o1, h⟩ := h
  refine z_cVF [] (zk_RX8_89 _ rfl) dX8_free_6 o1 (by decide) rfl rfl (Nat.le_of_ble_eq_true rfl) (Nat.le_of_ble_eq_true rfl) (Nat.le_of_ble_eq_true rfl) (Nat.le_of_ble_eq_true rfl) (Nat.le_of_ble_eq_true rfl) h (fun x2 h => ?_)
  refine z_icmp_ge dX8_free_9 (tgt := 34) (by decide) (fun c4 => ?_) (fun c4 => ?_)
  · have h := h.1 c4
    refine z_iload_n 1 dX8_free_34 rfl ?_
    exact z_retFI dX8_free_35 rfl h
  · have h := h.2 c4
    refine z_iload_n 1 dX8_free_12 rfl ?_
    refine z_aload_n 0 dX8_free_13 rfl ?_
    refine z_iload_n 2 dX8_free_14 rfl ?_
    refine z_cVF [ziv a2] (zk_RX8_137 _ rfl) dX8_free_15 o1 (by decide) rfl rfl (Nat.le_of_ble_eq_true rfl) (Nat.le_of_ble_eq_true rfl) (Nat.le_of_ble_eq_true rfl) (Nat.le_of_ble_eq_true rfl) (Nat.le_of_ble_eq_true rfl) h (fun x5 h => ?_)
    refine z_if_eq dX8_free_18 (tgt := 25) (by decide) (fun c7 => ?_) (fun c7 => ?_)
    · have h := h.1 c7
      refine z_iconst dX8_free_25 ⟨by decide, by decide⟩ ?_
      obtain ⟨o8, h⟩ := h
      refine z_iadd dX8_free_26 o8 ?_
      refine z_istore_n dX8_free_27 (by decide) (L' := [(0, zrv a0), (1, ziv (a1 + 1)), (2, ziv a2)]) [1, 0, 2] rfl ?_
      obtain ⟨o9, h⟩ := h
      refine z_iinc 2 dX8_free_28 rfl (by decide) o9 (L' := [(0, zrv a0), (1, ziv (a1 + 1)), (2, ziv (a2 + 1))]) [1, 2, 0] rfl ?_
      refine z_goto (tgt := 4) dX8_free_31 (by decide) ?_
      exact h
    · have h := h.2 c7
      refine z_iconst dX8_free_21 ⟨by decide, by decide⟩ ?_
      refine z_goto (tgt := 26) dX8_free_22 (by decide) ?_
      obtain ⟨o10, h⟩ := h
      refine z_iadd dX8_free_26 o10 ?_
      refine z_istore_n dX8_free_27 (by decide) (L' := [(0, zrv a0), (1, ziv (a1 + 0)), (2, ziv a2)]) [1, 0, 2] rfl ?_
      obtain ⟨o11, h⟩ := h
      refine z_iinc 2 dX8_free_28 rfl (by decide) o11 (L' := [(0, zrv a0), (1, ziv (a1 + 0)), (2, ziv (a2 + 1))]) [1, 2, 0] rfl ?_
      refine z_goto (tgt := 4) dX8_free_31 (by decide) ?_
      exact h
set_option maxRecDepth 100000 in
set_option maxHeartbeats 4000000 in
theorem en_X8_free {E : zE} {F : Int → Prop} {S : zS} {a0 : Int} {V : zH}
    (h : ∀ X : zX, zl_X8_free_4 E X F S a0 0 0 V) :
    SpF E 1 zm_X8_free [zrv a0] S V F := by
  refine Sp.of (plainFor_of_name (by decide +kernel)) (Nat.le_of_ble_eq_true rfl) (fun hok X => ?_)
  have h := h X
  show Zr E X (zRoom 1 0 0) zm_X8_free (zQm E X (zpF S V F) 0 0) 0 0 0 [(0, zrv a0)] [] S V
  refine z_iconst dX8_free_0 ⟨by decide, by decide⟩ ?_
  refine z_istore_n dX8_free_1 (by decide) (L' := [(0, zrv a0), (1, ziv 0)]) [1, 0] rfl ?_
  refine z_iconst dX8_free_2 ⟨by decide, by decide⟩ ?_
  refine z_istore_n dX8_free_3 (by decide) (L' := [(0, zrv a0), (1, ziv 0), (2, ziv 0)]) [1, 2, 0] rfl ?_
  exact h
def zl_X8_left_5 (E : zE) (X : zX) (F : Int → Prop) (S : zS) (a0 a1 a2 a3 a4 : Int) (V : zH) : Prop := Zr E X (zRoom 1 0 0) zm_X8_left (zQm E X (zpF S V F) 0 0) 0 0 5 [(0, zrv a0), (1, ziv a1), (2, ziv a2), (3, ziv a3), (4, ziv a4)] [] S V
set_option maxRecDepth 100000 in
set_option maxHeartbeats 4000000 in
theorem wp_X8_left_5 {E : zE} {X : zX} {F : Int → Prop} {S : zS} {a0 a1 a2 a3 a4 : Int} {V : zH}
    (h : ((a1 ≤ a4) → (F a3)) ∧ ((a4 < a1) → (((S a0).1 = 11) ∧ SpF E 0 zm_X8_m [zrv a0] S V (fun x3 => SpF E 0 zm_X8_pivot [zrv a0, ziv a4] S V (fun x5 => ((0 : Int) ≤ x3) ∧ ((0 : Int) < x5) ∧ SpF E 0 zm_X8_often [ziv (x3 / x5), ziv a2] S V (fun x9 => (z32 (a3 + x9)) ∧ ∀ x12 : Int, x12 = a3 + x9 → (z32 (a4 + 1)) ∧ zl_X8_left_5 E X F S a0 a1 a2 x12 (a4 + 1) V)))))) :
    zl_X8_left_5 E X F S a0 a1 a2 a3 a4 V := by
  unfold zl_X8_left_5
  refine z_iload 4 dX8_left_5 rfl ?_
  refine z_iload_n 1 dX8_left_7 rfl ?_
  refine z_icmp_ge dX8_left_8 (tgt := 35) (by decide) (fun c1 => ?_) (fun c1 => ?_)
  · have h := h.1 c1
    refine z_iload_n 3 dX8_left_35 rfl ?_
    exact z_retFI dX8_left_36 rfl h
  · have h := h.2 c1
    refine z_iload_n 3 dX8_left_11 rfl ?_
    refine z_aload_n 0 dX8_left_12 rfl ?_
    obtain ⟨o2, h⟩ := h
    refine z_cVF [] (zk_RX8_96 _ rfl) dX8_left_13 o2 (by decide) rfl rfl (Nat.le_of_ble_eq_true rfl) (Nat.le_of_ble_eq_true rfl) (Nat.le_of_ble_eq_true rfl) (Nat.le_of_ble_eq_true rfl) (Nat.le_of_ble_eq_true rfl) h (fun x3 h => ?_)
    refine z_aload_n 0 dX8_left_16 rfl ?_
    refine z_iload 4 dX8_left_17 rfl ?_
    refine z_cVF [ziv a4] (zk_RX8_181 _ rfl) dX8_left_19 o2 (by decide) rfl rfl (Nat.le_of_ble_eq_true rfl) (Nat.le_of_ble_eq_true rfl) (Nat.le_of_ble_eq_true rfl) (Nat.le_of_ble_eq_true rfl) (Nat.le_of_ble_eq_true rfl) h (fun x5 h => ?_)
    obtain ⟨o7, h⟩ := h
    obtain ⟨o8, h⟩ := h
    refine z_idiv dX8_left_22 o7 o8 ?_
    refine z_iload_n 2 dX8_left_23 rfl ?_
    refine z_cSF [ziv (x3 / x5), ziv a2] (zk_RX8_207 _ rfl) dX8_left_24 rfl rfl (Nat.le_of_ble_eq_true rfl) (Nat.le_of_ble_eq_true rfl) (Nat.le_of_ble_eq_true rfl) (Nat.le_of_ble_eq_true rfl) (Nat.le_of_ble_eq_true rfl) h (fun x9 h => ?_)
    obtain ⟨o11, h⟩ := h
    refine z_iadd dX8_left_27 o11 ?_
    refine z_nameI (fun x12 e13 => ?_)
    have h := h x12 e13
    refine z_istore_n dX8_left_28 (by decide) (L' := [(0, zrv a0), (1, ziv a1), (2, ziv a2), (3, ziv x12), (4, ziv a4)]) [1, 2, 3, 0, 4] rfl ?_
    obtain ⟨o14, h⟩ := h
    refine z_iinc 4 dX8_left_29 rfl (by decide) o14 (L' := [(0, zrv a0), (1, ziv a1), (2, ziv a2), (3, ziv x12), (4, ziv (a4 + 1))]) [1, 2, 3, 4, 0] rfl ?_
    refine z_goto (tgt := 5) dX8_left_32 (by decide) ?_
    exact h
set_option maxRecDepth 100000 in
set_option maxHeartbeats 4000000 in
theorem en_X8_left {E : zE} {F : Int → Prop} {S : zS} {a0 a1 a2 : Int} {V : zH}
    (h : z32 a1 → z32 a2 → ∀ X : zX, zl_X8_left_5 E X F S a0 a1 a2 0 0 V) :
    SpF E 1 zm_X8_left [zrv a0, ziv a1, ziv a2] S V F := by
  refine Sp.of (plainFor_of_name (by decide +kernel)) (Nat.le_of_ble_eq_true rfl) (fun hok X => ?_)
  have h := h (hok _ (List.mem_cons_of_mem _ (List.mem_cons_self))) (hok _ (List.mem_cons_of_mem _ (List.mem_cons_of_mem _ (List.mem_cons_self)))) X
  show Zr E X (zRoom 1 0 0) zm_X8_left (zQm E X (zpF S V F) 0 0) 0 0 0 [(0, zrv a0), (1, ziv a1), (2, ziv a2)] [] S V
  refine z_iconst dX8_left_0 ⟨by decide, by decide⟩ ?_
  refine z_istore_n dX8_left_1 (by decide) (L' := [(0, zrv a0), (1, ziv a1), (2, ziv a2), (3, ziv 0)]) [1, 2, 3, 0] rfl ?_
  refine z_iconst dX8_left_2 ⟨by decide, by decide⟩ ?_
  refine z_istore dX8_left_3 (by decide) (L' := [(0, zrv a0), (1, ziv a1), (2, ziv a2), (3, ziv 0), (4, ziv 0)]) [1, 2, 3, 4, 0] rfl ?_
  exact h
def zl_X8_primes_27 (E : zE) (X : zX) (F : Int → zH → Prop) (S : zS) (a0 a1 a2 : Int) (V : zH) : Prop := Zr E X (zRoom 5 0 0) zm_X8_primes (zQm E X (zpI S F) 0 0) 0 0 27 [(0, zrv a0), (1, ziv a1), (2, ziv a2)] [] S V
set_option maxRecDepth 100000 in
set_option maxHeartbeats 4000000 in
theorem wp_X8_primes_27 {E : zE} {X : zX} {F : Int → zH → Prop} {S : zS} {a0 a1 a2 : Int} {V : zH}
    (h : SpF E 0 zm_X8_in [zjv a1, zjv 0, zjv 3] S V (fun x2 => ((x2 ≠ 0) → (((a1 ≠ 3) → (((S a0).1 = 11) ∧ SpV E 4 zm_X8_pushings [zrv a0] S V (fun V8 => SpF E 0 zm_X8_buttons [zrv a0] S V8 (fun x9 => SpF E 1 zm_X8_left [zrv a0, ziv x9, ziv a2] S V8 (fun x11 => SpF E 1 zm_X8_free [zrv a0] S V8 (fun x13 => SpF E 0 zm_X8_m [zrv a0] S V8 (fun x15 => SpF E 0 zm_X8_often [ziv x15, ziv a2] S V8 (fun x17 => (z32 (x13 * x17)) ∧ ∀ x20 : Int, x20 = x13 * x17 → ((a1 ≠ 0) → (((a1 ≠ 1) → (F x20 V8)) ∧ ((a1 = 1) → (F x11 V8)))) ∧ ((a1 = 0) → ((z32 (x20 - x11)) ∧ F (x20 - x11) V8)))))))))) ∧ ((a1 = 3) → (((S a0).1 = 11) ∧ SpV E 4 zm_X8_weights [zrv a0] S V (fun V27 => SpF E 0 zm_X8_n [zrv a0] S V27 (fun x28 => SpF E 1 zm_X8_left [zrv a0, ziv x28, ziv a2] S V27 (fun x30 => F x30 V27))))))) ∧ ((x2 = 0) → (F (-1) V)))) :
    zl_X8_primes_27 E X F S a0 a1 a2 V := by
  unfold zl_X8_primes_27
  refine z_iconst dX8_primes_27 ⟨by decide, by decide⟩ ?_
  refine z_goto (tgt := 32) dX8_primes_28 (by decide) ?_
  refine z_istore_n dX8_primes_32 (by decide) (L' := [(0, zrv a0), (1, ziv a1), (2, ziv a2), (3, ziv 1)]) [1, 2, 3, 0] rfl ?_
  refine z_iload_n 3 dX8_primes_33 rfl ?_
  refine z_if_eq dX8_primes_34 (tgt := 49) (by decide) (fun c1 => ?_) (fun c1 => ?_)
  · exact absurd c1 (by decide)
  refine z_iload_n 1 dX8_primes_37 rfl ?_
  refine z_i2l dX8_primes_38 ?_
  refine z_lconst (v := 0) dX8_primes_39 (by decide) ⟨by decide, by decide⟩ ?_
  refine z_ldc2 (c := 3) (zd_RX8_107 _ rfl) (by decide) ⟨by decide, by decide⟩ dX8_primes_40 ?_
  refine z_cSF [zjv a1, zjv 0, zjv 3] (zk_RX8_69 _ rfl) dX8_primes_43 rfl rfl (Nat.le_of_ble_eq_true rfl) (Nat.le_of_ble_eq_true rfl) (Nat.le_of_ble_eq_true rfl) (Nat.le_of_ble_eq_true rfl) (Nat.le_of_ble_eq_true rfl) h (fun x2 h => ?_)
  refine z_if_ne dX8_primes_46 (tgt := 51) (by decide) (fun c4 => ?_) (fun c4 => ?_)
  · have h := h.1 c4
    refine z_iload_n 1 dX8_primes_51 rfl ?_
    refine z_iconst dX8_primes_52 ⟨by decide, by decide⟩ ?_
    refine z_icmp_ne dX8_primes_53 (tgt := 70) (by decide) (fun c5 => ?_) (fun c5 => ?_)
    · have h := h.1 c5
      refine z_aload_n 0 dX8_primes_70 rfl ?_
      obtain ⟨o6, h⟩ := h
      refine z_cVV [] (zk_RX8_178 _ rfl) dX8_primes_71 o6 (by decide) rfl rfl (Nat.le_of_ble_eq_true rfl) (Nat.le_of_ble_eq_true rfl) (Nat.le_of_ble_eq_true rfl) (Nat.le_of_ble_eq_true rfl) (Nat.le_of_ble_eq_true rfl) h (fun V8 h => ?_)
      refine z_aload_n 0 dX8_primes_74 rfl ?_
      refine z_aload_n 0 dX8_primes_75 rfl ?_
      refine z_cVF [] (zk_RX8_89 _ rfl) dX8_primes_76 o6 (by decide) rfl rfl (Nat.le_of_ble_eq_true rfl) (Nat.le_of_ble_eq_true rfl) (Nat.le_of_ble_eq_true rfl) (Nat.le_of_ble_eq_true rfl) (Nat.le_of_ble_eq_true rfl) h (fun x9 h => ?_)
      refine z_iload_n 2 dX8_primes_79 rfl ?_
      refine z_cVF [ziv x9, ziv a2] (zk_RX8_210 _ rfl) dX8_primes_80 o6 (by decide) rfl rfl (Nat.le_of_ble_eq_true rfl) (Nat.le_of_ble_eq_true rfl) (Nat.le_of_ble_eq_true rfl) (Nat.le_of_ble_eq_true rfl) (Nat.le_of_ble_eq_true rfl) h (fun x11 h => ?_)
      refine z_istore dX8_primes_83 (by decide) (L' := [(0, zrv a0), (1, ziv a1), (2, ziv a2), (3, ziv 1), (4, ziv x11)]) [1, 2, 3, 4, 0] rfl ?_
      refine z_aload_n 0 dX8_primes_85 rfl ?_
      refine z_cVF [] (zk_RX8_213 _ rfl) dX8_primes_86 o6 (by decide) rfl rfl (Nat.le_of_ble_eq_true rfl) (Nat.le_of_ble_eq_true rfl) (Nat.le_of_ble_eq_true rfl) (Nat.le_of_ble_eq_true rfl) (Nat.le_of_ble_eq_true rfl) h (fun x13 h => ?_)
      refine z_aload_n 0 dX8_primes_89 rfl ?_
      refine z_cVF [] (zk_RX8_96 _ rfl) dX8_primes_90 o6 (by decide) rfl rfl (Nat.le_of_ble_eq_true rfl) (Nat.le_of_ble_eq_true rfl) (Nat.le_of_ble_eq_true rfl) (Nat.le_of_ble_eq_true rfl) (Nat.le_of_ble_eq_true rfl) h (fun x15 h => ?_)
      refine z_iload_n 2 dX8_primes_93 rfl ?_
      refine z_cSF [ziv x15, ziv a2] (zk_RX8_207 _ rfl) dX8_primes_94 rfl rfl (Nat.le_of_ble_eq_true rfl) (Nat.le_of_ble_eq_true rfl) (Nat.le_of_ble_eq_true rfl) (Nat.le_of_ble_eq_true rfl) (Nat.le_of_ble_eq_true rfl) h (fun x17 h => ?_)
      obtain ⟨o19, h⟩ := h
      refine z_imul dX8_primes_97 o19 ?_
      refine z_nameI (fun x20 e21 => ?_)
      have h := h x20 e21
      refine z_istore dX8_primes_98 (by decide) (L' := [(0, zrv a0), (1, ziv a1), (2, ziv a2), (3, ziv 1), (4, ziv x11), (5, ziv x20)]) [1, 2, 3, 4, 5, 0] rfl ?_
      refine z_iload_n 1 dX8_primes_100 rfl ?_
      refine z_if_ne dX8_primes_101 (tgt := 112) (by decide) (fun c22 => ?_) (fun c22 => ?_)
      · have h := h.1 c22
        refine z_iload_n 1 dX8_primes_112 rfl ?_
        refine z_iconst dX8_primes_113 ⟨by decide, by decide⟩ ?_
        refine z_icmp_ne dX8_primes_114 (tgt := 122) (by decide) (fun c23 => ?_) (fun c23 => ?_)
        · have h := h.1 c23
          refine z_iload 5 dX8_primes_122 rfl ?_
          exact z_retI dX8_primes_124 rfl h
        · have h := h.2 c23
          refine z_iload 4 dX8_primes_117 rfl ?_
          refine z_goto (tgt := 124) dX8_primes_119 (by decide) ?_
          exact z_retI dX8_primes_124 rfl h
      · have h := h.2 c22
        refine z_iload 5 dX8_primes_104 rfl ?_
        refine z_iload 4 dX8_primes_106 rfl ?_
        obtain ⟨o24, h⟩ := h
        refine z_isub dX8_primes_108 o24 ?_
        refine z_goto (tgt := 124) dX8_primes_109 (by decide) ?_
        exact z_retI dX8_primes_124 rfl h
    · have h := h.2 c5
      refine z_aload_n 0 dX8_primes_56 rfl ?_
      obtain ⟨o25, h⟩ := h
      refine z_cVV [] (zk_RX8_192 _ rfl) dX8_primes_57 o25 (by decide) rfl rfl (Nat.le_of_ble_eq_true rfl) (Nat.le_of_ble_eq_true rfl) (Nat.le_of_ble_eq_true rfl) (Nat.le_of_ble_eq_true rfl) (Nat.le_of_ble_eq_true rfl) h (fun V27 h => ?_)
      refine z_aload_n 0 dX8_primes_60 rfl ?_
      refine z_aload_n 0 dX8_primes_61 rfl ?_
      refine z_cVF [] (zk_RX8_84 _ rfl) dX8_primes_62 o25 (by decide) rfl rfl (Nat.le_of_ble_eq_true rfl) (Nat.le_of_ble_eq_true rfl) (Nat.le_of_ble_eq_true rfl) (Nat.le_of_ble_eq_true rfl) (Nat.le_of_ble_eq_true rfl) h (fun x28 h => ?_)
      refine z_iload_n 2 dX8_primes_65 rfl ?_
      refine z_cVF [ziv x28, ziv a2] (zk_RX8_210 _ rfl) dX8_primes_66 o25 (by decide) rfl rfl (Nat.le_of_ble_eq_true rfl) (Nat.le_of_ble_eq_true rfl) (Nat.le_of_ble_eq_true rfl) (Nat.le_of_ble_eq_true rfl) (Nat.le_of_ble_eq_true rfl) h (fun x30 h => ?_)
      exact z_retI dX8_primes_69 rfl h
  · have h := h.2 c4
    refine z_iconst dX8_primes_49 ⟨by decide, by decide⟩ ?_
    exact z_retI dX8_primes_50 rfl h
set_option maxRecDepth 100000 in
set_option maxHeartbeats 4000000 in
theorem en_X8_primes {E : zE} {F : Int → zH → Prop} {S : zS} {a0 a1 a2 : Int} {V : zH}
    (h : z32 a1 → z32 a2 → ∀ X : zX, ((a2 = 2) → (zl_X8_primes_27 E X F S a0 a1 a2 V)) ∧ ((a2 ≠ 2) → (((a2 = 3) → (zl_X8_primes_27 E X F S a0 a1 a2 V)) ∧ ((a2 ≠ 3) → (((a2 = 5) → (zl_X8_primes_27 E X F S a0 a1 a2 V)) ∧ ((a2 ≠ 5) → (((a2 = 7) → (zl_X8_primes_27 E X F S a0 a1 a2 V)) ∧ ((a2 ≠ 7) → (((a2 ≠ 11) → (F (-1) V)) ∧ ((a2 = 11) → (zl_X8_primes_27 E X F S a0 a1 a2 V))))))))))) :
    SpI E 5 zm_X8_primes [zrv a0, ziv a1, ziv a2] S V F := by
  refine Sp.of (plainFor_of_name (by decide +kernel)) (Nat.le_of_ble_eq_true rfl) (fun hok X => ?_)
  have h := h (hok _ (List.mem_cons_of_mem _ (List.mem_cons_self))) (hok _ (List.mem_cons_of_mem _ (List.mem_cons_of_mem _ (List.mem_cons_self)))) X
  show Zr E X (zRoom 5 0 0) zm_X8_primes (zQm E X (zpI S F) 0 0) 0 0 0 [(0, zrv a0), (1, ziv a1), (2, ziv a2)] [] S V
  refine z_iload_n 2 dX8_primes_0 rfl ?_
  refine z_iconst dX8_primes_1 ⟨by decide, by decide⟩ ?_
  refine z_icmp_eq dX8_primes_2 (tgt := 27) (by decide) (fun c1 => ?_) (fun c1 => ?_)
  · have h := h.1 c1
    exact h
  · have h := h.2 c1
    refine z_iload_n 2 dX8_primes_5 rfl ?_
    refine z_iconst dX8_primes_6 ⟨by decide, by decide⟩ ?_
    refine z_icmp_eq dX8_primes_7 (tgt := 27) (by decide) (fun c2 => ?_) (fun c2 => ?_)
    · have h := h.1 c2
      exact h
    · have h := h.2 c2
      refine z_iload_n 2 dX8_primes_10 rfl ?_
      refine z_iconst dX8_primes_11 ⟨by decide, by decide⟩ ?_
      refine z_icmp_eq dX8_primes_12 (tgt := 27) (by decide) (fun c3 => ?_) (fun c3 => ?_)
      · have h := h.1 c3
        exact h
      · have h := h.2 c3
        refine z_iload_n 2 dX8_primes_15 rfl ?_
        refine z_bipush dX8_primes_16 ⟨by decide, by decide⟩ (by decide) ?_
        refine z_icmp_eq dX8_primes_18 (tgt := 27) (by decide) (fun c4 => ?_) (fun c4 => ?_)
        · have h := h.1 c4
          exact h
        · have h := h.2 c4
          refine z_iload_n 2 dX8_primes_21 rfl ?_
          refine z_bipush dX8_primes_22 ⟨by decide, by decide⟩ (by decide) ?_
          refine z_icmp_ne dX8_primes_24 (tgt := 31) (by decide) (fun c5 => ?_) (fun c5 => ?_)
          · have h := h.1 c5
            refine z_iconst dX8_primes_31 ⟨by decide, by decide⟩ ?_
            refine z_istore_n dX8_primes_32 (by decide) (L' := [(0, zrv a0), (1, ziv a1), (2, ziv a2), (3, ziv 0)]) [1, 2, 3, 0] rfl ?_
            refine z_iload_n 3 dX8_primes_33 rfl ?_
            refine z_if_eq dX8_primes_34 (tgt := 49) (by decide) (fun c6 => ?_) (fun c6 => ?_)
            rotate_left
            · exact absurd c6 (by decide)
            refine z_iconst dX8_primes_49 ⟨by decide, by decide⟩ ?_
            exact z_retI dX8_primes_50 rfl h
          · have h := h.2 c5
            exact h
def zl_X8_base_48 (E : zE) (X : zX) (F : Int → zH → Prop) (S : zS) (a0 a2 a3 a4 : Int) (V : zH) : Prop := Zr E X (zRoom 5 0 0) zm_X8_base (zQm E X (zpI S F) 0 0) 0 0 48 [(0, zrv a0), (2, ziv a2), (3, ziv a3), (4, ziv a4)] [] S V
set_option maxRecDepth 100000 in
set_option maxHeartbeats 4000000 in
theorem wp_X8_base_48 {E : zE} {X : zX} {F : Int → zH → Prop} {S : zS} {a0 a2 a3 a4 : Int} {V : zH}
    (h : ((a2 ≤ a4) → (F a3 V)) ∧ ((a4 < a2) → (((S a0).1 = 11) ∧ SpF E 0 zm_X8_pivot [zrv a0, ziv a4] S V (fun x3 => SpF E 0 zm_X8_m [zrv a0] S V (fun x5 => ((x5 ≤ x3) → ((z32 (a3 + 0)) ∧ (z32 (a4 + 1)) ∧ zl_X8_base_48 E X F S a0 a2 (a3 + 0) (a4 + 1) V)) ∧ ((x3 < x5) → ((z32 (a3 + 1)) ∧ (z32 (a4 + 1)) ∧ zl_X8_base_48 E X F S a0 a2 (a3 + 1) (a4 + 1) V))))))) :
    zl_X8_base_48 E X F S a0 a2 a3 a4 V := by
  unfold zl_X8_base_48
  refine z_iload 3 dX8_base_48 rfl ?_
  refine z_iload_n 1 dX8_base_50 rfl ?_
  refine z_icmp_ge dX8_base_51 (tgt := 81) (by decide) (fun c1 => ?_) (fun c1 => ?_)
  · have h := h.1 c1
    refine z_iload_n 2 dX8_base_81 rfl ?_
    exact z_retI dX8_base_82 rfl h
  · have h := h.2 c1
    refine z_iload_n 2 dX8_base_54 rfl ?_
    refine z_aload_n 0 dX8_base_55 rfl ?_
    refine z_iload 3 dX8_base_56 rfl ?_
    obtain ⟨o2, h⟩ := h
    refine z_cVF [ziv a4] (zk_RX8_181 _ rfl) dX8_base_58 o2 (by decide) rfl rfl (Nat.le_of_ble_eq_true rfl) (Nat.le_of_ble_eq_true rfl) (Nat.le_of_ble_eq_true rfl) (Nat.le_of_ble_eq_true rfl) (Nat.le_of_ble_eq_true rfl) h (fun x3 h => ?_)
    refine z_aload_n 0 dX8_base_61 rfl ?_
    refine z_cVF [] (zk_RX8_96 _ rfl) dX8_base_62 o2 (by decide) rfl rfl (Nat.le_of_ble_eq_true rfl) (Nat.le_of_ble_eq_true rfl) (Nat.le_of_ble_eq_true rfl) (Nat.le_of_ble_eq_true rfl) (Nat.le_of_ble_eq_true rfl) h (fun x5 h => ?_)
    refine z_icmp_ge dX8_base_65 (tgt := 72) (by decide) (fun c7 => ?_) (fun c7 => ?_)
    · have h := h.1 c7
      refine z_iconst dX8_base_72 ⟨by decide, by decide⟩ ?_
      obtain ⟨o8, h⟩ := h
      refine z_iadd dX8_base_73 o8 ?_
      refine z_istore_n dX8_base_74 (by decide) (L' := [(0, zrv a0), (2, ziv a2), (3, ziv (a3 + 0)), (4, ziv a4)]) [1, 2, 0, 3] rfl ?_
      obtain ⟨o9, h⟩ := h
      refine z_iinc 3 dX8_base_75 rfl (by decide) o9 (L' := [(0, zrv a0), (2, ziv a2), (3, ziv (a3 + 0)), (4, ziv (a4 + 1))]) [1, 2, 3, 0] rfl ?_
      refine z_goto (tgt := 48) dX8_base_78 (by decide) ?_
      exact h
    · have h := h.2 c7
      refine z_iconst dX8_base_68 ⟨by decide, by decide⟩ ?_
      refine z_goto (tgt := 73) dX8_base_69 (by decide) ?_
      obtain ⟨o10, h⟩ := h
      refine z_iadd dX8_base_73 o10 ?_
      refine z_istore_n dX8_base_74 (by decide) (L' := [(0, zrv a0), (2, ziv a2), (3, ziv (a3 + 1)), (4, ziv a4)]) [1, 2, 0, 3] rfl ?_
      obtain ⟨o11, h⟩ := h
      refine z_iinc 3 dX8_base_75 rfl (by decide) o11 (L' := [(0, zrv a0), (2, ziv a2), (3, ziv (a3 + 1)), (4, ziv (a4 + 1))]) [1, 2, 3, 0] rfl ?_
      refine z_goto (tgt := 48) dX8_base_78 (by decide) ?_
      exact h
set_option maxRecDepth 100000 in
set_option maxHeartbeats 4000000 in
theorem en_X8_base {E : zE} {F : Int → zH → Prop} {S : zS} {a0 a1 : Int} {V : zH}
    (h : z32 a1 → ∀ X : zX, SpF E 0 zm_X8_in [zjv a1, zjv 0, zjv 1] S V (fun x1 => ((x1 ≠ 0) → (((a1 ≠ 0) → (((S a0).1 = 11) ∧ SpF E 0 zm_X8_n [zrv a0] S V (fun x6 => ((a1 ≠ 0) → (SpV E 4 zm_X8_weights [zrv a0] S V (fun V10 => zl_X8_base_48 E X F S a0 x6 0 0 V10))) ∧ ((a1 = 0) → (SpV E 4 zm_X8_pushings [zrv a0] S V (fun V12 => zl_X8_base_48 E X F S a0 x6 0 0 V12)))))) ∧ ((a1 = 0) → (((S a0).1 = 11) ∧ SpF E 0 zm_X8_buttons [zrv a0] S V (fun x14 => ((a1 ≠ 0) → (SpV E 4 zm_X8_weights [zrv a0] S V (fun V18 => zl_X8_base_48 E X F S a0 x14 0 0 V18))) ∧ ((a1 = 0) → (SpV E 4 zm_X8_pushings [zrv a0] S V (fun V20 => zl_X8_base_48 E X F S a0 x14 0 0 V20)))))))) ∧ ((x1 = 0) → (F (-1) V)))) :
    SpI E 5 zm_X8_base [zrv a0, ziv a1] S V F := by
  refine Sp.of (plainFor_of_name (by decide +kernel)) (Nat.le_of_ble_eq_true rfl) (fun hok X => ?_)
  have h := h (hok _ (List.mem_cons_of_mem _ (List.mem_cons_self))) X
  show Zr E X (zRoom 5 0 0) zm_X8_base (zQm E X (zpI S F) 0 0) 0 0 0 [(0, zrv a0), (1, ziv a1)] [] S V
  refine z_iload_n 1 dX8_base_0 rfl ?_
  refine z_i2l dX8_base_1 ?_
  refine z_lconst (v := 0) dX8_base_2 (by decide) ⟨by decide, by decide⟩ ?_
  refine z_lconst (v := 1) dX8_base_3 (by decide) ⟨by decide, by decide⟩ ?_
  refine z_cSF [zjv a1, zjv 0, zjv 1] (zk_RX8_69 _ rfl) dX8_base_4 rfl rfl (Nat.le_of_ble_eq_true rfl) (Nat.le_of_ble_eq_true rfl) (Nat.le_of_ble_eq_true rfl) (Nat.le_of_ble_eq_true rfl) (Nat.le_of_ble_eq_true rfl) h (fun x1 h => ?_)
  refine z_if_ne dX8_base_7 (tgt := 12) (by decide) (fun c3 => ?_) (fun c3 => ?_)
  · have h := h.1 c3
    refine z_iload_n 1 dX8_base_12 rfl ?_
    refine z_if_ne dX8_base_13 (tgt := 23) (by decide) (fun c4 => ?_) (fun c4 => ?_)
    · have h := h.1 c4
      refine z_aload_n 0 dX8_base_23 rfl ?_
      obtain ⟨o5, h⟩ := h
      refine z_cVF [] (zk_RX8_84 _ rfl) dX8_base_24 o5 (by decide) rfl rfl (Nat.le_of_ble_eq_true rfl) (Nat.le_of_ble_eq_true rfl) (Nat.le_of_ble_eq_true rfl) (Nat.le_of_ble_eq_true rfl) (Nat.le_of_ble_eq_true rfl) h (fun x6 h => ?_)
      refine z_istore_n dX8_base_27 (by decide) (L' := [(0, zrv a0), (1, ziv a1), (2, ziv x6)]) [1, 2, 0] rfl ?_
      refine z_iload_n 1 dX8_base_28 rfl ?_
      refine z_if_ne dX8_base_29 (tgt := 39) (by decide) (fun c8 => ?_) (fun c8 => ?_)
      · have h := h.1 c8
        refine z_aload_n 0 dX8_base_39 rfl ?_
        refine z_cVV [] (zk_RX8_192 _ rfl) dX8_base_40 o5 (by decide) rfl rfl (Nat.le_of_ble_eq_true rfl) (Nat.le_of_ble_eq_true rfl) (Nat.le_of_ble_eq_true rfl) (Nat.le_of_ble_eq_true rfl) (Nat.le_of_ble_eq_true rfl) h (fun V10 h => ?_)
        refine z_iconst dX8_base_43 ⟨by decide, by decide⟩ ?_
        refine z_istore_n dX8_base_44 (by decide) (L' := [(0, zrv a0), (1, ziv a1), (2, ziv x6), (3, ziv 0)]) [1, 2, 3, 0] rfl ?_
        refine z_iconst dX8_base_45 ⟨by decide, by decide⟩ ?_
        refine z_istore dX8_base_46 (by decide) (L' := [(0, zrv a0), (1, ziv a1), (2, ziv x6), (3, ziv 0), (4, ziv 0)]) [1, 2, 3, 4, 0] rfl ?_
        refine z_loc (L' := [(0, zrv a0), (2, ziv x6), (3, ziv 0), (4, ziv 0)]) [0, 2, 3, 4] rfl ?_
        exact h
      · have h := h.2 c8
        refine z_aload_n 0 dX8_base_32 rfl ?_
        refine z_cVV [] (zk_RX8_178 _ rfl) dX8_base_33 o5 (by decide) rfl rfl (Nat.le_of_ble_eq_true rfl) (Nat.le_of_ble_eq_true rfl) (Nat.le_of_ble_eq_true rfl) (Nat.le_of_ble_eq_true rfl) (Nat.le_of_ble_eq_true rfl) h (fun V12 h => ?_)
        refine z_goto (tgt := 43) dX8_base_36 (by decide) ?_
        refine z_iconst dX8_base_43 ⟨by decide, by decide⟩ ?_
        refine z_istore_n dX8_base_44 (by decide) (L' := [(0, zrv a0), (1, ziv a1), (2, ziv x6), (3, ziv 0)]) [1, 2, 3, 0] rfl ?_
        refine z_iconst dX8_base_45 ⟨by decide, by decide⟩ ?_
        refine z_istore dX8_base_46 (by decide) (L' := [(0, zrv a0), (1, ziv a1), (2, ziv x6), (3, ziv 0), (4, ziv 0)]) [1, 2, 3, 4, 0] rfl ?_
        refine z_loc (L' := [(0, zrv a0), (2, ziv x6), (3, ziv 0), (4, ziv 0)]) [0, 2, 3, 4] rfl ?_
        exact h
    · have h := h.2 c4
      refine z_aload_n 0 dX8_base_16 rfl ?_
      obtain ⟨o13, h⟩ := h
      refine z_cVF [] (zk_RX8_89 _ rfl) dX8_base_17 o13 (by decide) rfl rfl (Nat.le_of_ble_eq_true rfl) (Nat.le_of_ble_eq_true rfl) (Nat.le_of_ble_eq_true rfl) (Nat.le_of_ble_eq_true rfl) (Nat.le_of_ble_eq_true rfl) h (fun x14 h => ?_)
      refine z_goto (tgt := 27) dX8_base_20 (by decide) ?_
      refine z_istore_n dX8_base_27 (by decide) (L' := [(0, zrv a0), (1, ziv a1), (2, ziv x14)]) [1, 2, 0] rfl ?_
      refine z_iload_n 1 dX8_base_28 rfl ?_
      refine z_if_ne dX8_base_29 (tgt := 39) (by decide) (fun c16 => ?_) (fun c16 => ?_)
      · have h := h.1 c16
        refine z_aload_n 0 dX8_base_39 rfl ?_
        refine z_cVV [] (zk_RX8_192 _ rfl) dX8_base_40 o13 (by decide) rfl rfl (Nat.le_of_ble_eq_true rfl) (Nat.le_of_ble_eq_true rfl) (Nat.le_of_ble_eq_true rfl) (Nat.le_of_ble_eq_true rfl) (Nat.le_of_ble_eq_true rfl) h (fun V18 h => ?_)
        refine z_iconst dX8_base_43 ⟨by decide, by decide⟩ ?_
        refine z_istore_n dX8_base_44 (by decide) (L' := [(0, zrv a0), (1, ziv a1), (2, ziv x14), (3, ziv 0)]) [1, 2, 3, 0] rfl ?_
        refine z_iconst dX8_base_45 ⟨by decide, by decide⟩ ?_
        refine z_istore dX8_base_46 (by decide) (L' := [(0, zrv a0), (1, ziv a1), (2, ziv x14), (3, ziv 0), (4, ziv 0)]) [1, 2, 3, 4, 0] rfl ?_
        refine z_loc (L' := [(0, zrv a0), (2, ziv x14), (3, ziv 0), (4, ziv 0)]) [0, 2, 3, 4] rfl ?_
        exact h
      · have h := h.2 c16
        refine z_aload_n 0 dX8_base_32 rfl ?_
        refine z_cVV [] (zk_RX8_178 _ rfl) dX8_base_33 o13 (by decide) rfl rfl (Nat.le_of_ble_eq_true rfl) (Nat.le_of_ble_eq_true rfl) (Nat.le_of_ble_eq_true rfl) (Nat.le_of_ble_eq_true rfl) (Nat.le_of_ble_eq_true rfl) h (fun V20 h => ?_)
        refine z_goto (tgt := 43) dX8_base_36 (by decide) ?_
        refine z_iconst dX8_base_43 ⟨by decide, by decide⟩ ?_
        refine z_istore_n dX8_base_44 (by decide) (L' := [(0, zrv a0), (1, ziv a1), (2, ziv x14), (3, ziv 0)]) [1, 2, 3, 0] rfl ?_
        refine z_iconst dX8_base_45 ⟨by decide, by decide⟩ ?_
        refine z_istore dX8_base_46 (by decide) (L' := [(0, zrv a0), (1, ziv a1), (2, ziv x14), (3, ziv 0), (4, ziv 0)]) [1, 2, 3, 4, 0] rfl ?_
        refine z_loc (L' := [(0, zrv a0), (2, ziv x14), (3, ziv 0), (4, ziv 0)]) [0, 2, 3, 4] rfl ?_
        exact h
  · have h := h.2 c3
    refine z_iconst dX8_base_10 ⟨by decide, by decide⟩ ?_
    exact z_retI dX8_base_11 rfl h
def zl_X8_element_38 (E : zE) (X : zX) (F : Int → zH → Prop) (S : zS) (a0 a1 a3 a4 : Int) (V : zH) : Prop := Zr E X (zRoom 6 0 0) zm_X8_element (zQm E X (zpI S F) 0 0) 0 0 38 [(0, zrv a0), (1, ziv a1), (3, ziv a3), (4, ziv a4)] [] S V
def zl_X8_element_46 (E : zE) (X : zX) (F : Int → zH → Prop) (S : zS) (a0 a1 a3 a4 : Int) (V : zH) : Prop := Zr E X (zRoom 6 0 0) zm_X8_element (zQm E X (zpI S F) 0 0) 0 0 46 [(0, zrv a0), (1, ziv a1), (3, ziv a3), (4, ziv a4)] [] S V
def zl_X8_element_94 (E : zE) (X : zX) (F : Int → zH → Prop) (S : zS) (a0 a3 a4 : Int) (V : zH) : Prop := Zr E X (zRoom 6 0 0) zm_X8_element (zQm E X (zpI S F) 0 0) 0 0 94 [(0, zrv a0), (3, ziv a3), (4, ziv a4)] [] S V
set_option maxRecDepth 100000 in
set_option maxHeartbeats 4000000 in
theorem wp_X8_element_38 {E : zE} {X : zX} {F : Int → zH → Prop} {S : zS} {a0 a1 a3 a4 : Int} {V : zH}
    (h : ((a4 < 0) → (((a1 ≠ 1) → (((S a0).1 = 11) ∧ SpF E 0 zm_X8_buttons [zrv a0] S V (fun x4 => SpV E 0 zm_X8_tells [zrv a0, ziv x4, ziv 1] S V (fun V7 => zl_X8_element_94 E X F S a0 a3 0 V7)))) ∧ ((a1 = 1) → (((S a0).1 = 11) ∧ SpV E 1 zm_X8_weigh [zrv a0, ziv a3] S V (fun V10 => F 1 V10))))) ∧ ((0 ≤ a4) → ((z32 (a3 + (-1))) ∧ zl_X8_element_46 E X F S a0 a1 (a3 + (-1)) a4 V))) :
    zl_X8_element_38 E X F S a0 a1 a3 a4 V := by
  unfold zl_X8_element_38
  refine z_iload 3 dX8_element_38 rfl ?_
  refine z_if_lt dX8_element_40 (tgt := 70) (by decide) (fun c1 => ?_) (fun c1 => ?_)
  · have h := h.1 c1
    refine z_iload_n 1 dX8_element_70 rfl ?_
    refine z_iconst dX8_element_71 ⟨by decide, by decide⟩ ?_
    refine z_icmp_ne dX8_element_72 (tgt := 82) (by decide) (fun c2 => ?_) (fun c2 => ?_)
    · have h := h.1 c2
      refine z_aload_n 0 dX8_element_82 rfl ?_
      refine z_aload_n 0 dX8_element_83 rfl ?_
      obtain ⟨o3, h⟩ := h
      refine z_cVF [] (zk_RX8_89 _ rfl) dX8_element_84 o3 (by decide) rfl rfl (Nat.le_of_ble_eq_true rfl) (Nat.le_of_ble_eq_true rfl) (Nat.le_of_ble_eq_true rfl) (Nat.le_of_ble_eq_true rfl) (Nat.le_of_ble_eq_true rfl) h (fun x4 h => ?_)
      refine z_iconst dX8_element_87 ⟨by decide, by decide⟩ ?_
      refine z_cVV [ziv x4, ziv 1] (zk_RX8_188 _ rfl) dX8_element_88 o3 (by decide) rfl rfl (Nat.le_of_ble_eq_true rfl) (Nat.le_of_ble_eq_true rfl) (Nat.le_of_ble_eq_true rfl) (Nat.le_of_ble_eq_true rfl) (Nat.le_of_ble_eq_true rfl) h (fun V7 h => ?_)
      refine z_iconst dX8_element_91 ⟨by decide, by decide⟩ ?_
      refine z_istore dX8_element_92 (by decide) (L' := [(0, zrv a0), (1, ziv a1), (3, ziv a3), (4, ziv 0)]) [1, 2, 3, 0] rfl ?_
      refine z_loc (L' := [(0, zrv a0), (3, ziv a3), (4, ziv 0)]) [0, 2, 3] rfl ?_
      exact h
    · have h := h.2 c2
      refine z_aload_n 0 dX8_element_75 rfl ?_
      refine z_iload_n 2 dX8_element_76 rfl ?_
      obtain ⟨o8, h⟩ := h
      refine z_cVV [ziv a3] (zk_RX8_198 _ rfl) dX8_element_77 o8 (by decide) rfl rfl (Nat.le_of_ble_eq_true rfl) (Nat.le_of_ble_eq_true rfl) (Nat.le_of_ble_eq_true rfl) (Nat.le_of_ble_eq_true rfl) (Nat.le_of_ble_eq_true rfl) h (fun V10 h => ?_)
      refine z_iconst dX8_element_80 ⟨by decide, by decide⟩ ?_
      exact z_retI dX8_element_81 rfl h
  · have h := h.2 c1
    obtain ⟨o11, h⟩ := h
    refine z_iinc 2 dX8_element_43 rfl (by decide) o11 (L' := [(0, zrv a0), (1, ziv a1), (3, ziv (a3 + (-1))), (4, ziv a4)]) [1, 2, 0, 3] rfl ?_
    exact h
set_option maxRecDepth 100000 in
set_option maxHeartbeats 4000000 in
theorem wp_X8_element_46 {E : zE} {X : zX} {F : Int → zH → Prop} {S : zS} {a0 a1 a3 a4 : Int} {V : zH}
    (h : ((S a0).1 = 11) ∧ SpF E 0 zm_X8_pivot [zrv a0, ziv a3] S V (fun x2 => SpF E 0 zm_X8_m [zrv a0] S V (fun x4 => ((x2 ≠ x4) → ((z32 (a4 + (-1))) ∧ zl_X8_element_38 E X F S a0 a1 a3 (a4 + (-1)) V)) ∧ ((x2 = x4) → ((z32 (a3 + (-1))) ∧ zl_X8_element_46 E X F S a0 a1 (a3 + (-1)) a4 V))))) :
    zl_X8_element_46 E X F S a0 a1 a3 a4 V := by
  unfold zl_X8_element_46
  refine z_aload_n 0 dX8_element_46 rfl ?_
  refine z_iload_n 2 dX8_element_47 rfl ?_
  obtain ⟨o1, h⟩ := h
  refine z_cVF [ziv a3] (zk_RX8_181 _ rfl) dX8_element_48 o1 (by decide) rfl rfl (Nat.le_of_ble_eq_true rfl) (Nat.le_of_ble_eq_true rfl) (Nat.le_of_ble_eq_true rfl) (Nat.le_of_ble_eq_true rfl) (Nat.le_of_ble_eq_true rfl) h (fun x2 h => ?_)
  refine z_aload_n 0 dX8_element_51 rfl ?_
  refine z_cVF [] (zk_RX8_96 _ rfl) dX8_element_52 o1 (by decide) rfl rfl (Nat.le_of_ble_eq_true rfl) (Nat.le_of_ble_eq_true rfl) (Nat.le_of_ble_eq_true rfl) (Nat.le_of_ble_eq_true rfl) (Nat.le_of_ble_eq_true rfl) h (fun x4 h => ?_)
  refine z_icmp_ne dX8_element_55 (tgt := 64) (by decide) (fun c6 => ?_) (fun c6 => ?_)
  · have h := h.1 c6
    obtain ⟨o7, h⟩ := h
    refine z_iinc 3 dX8_element_64 rfl (by decide) o7 (L' := [(0, zrv a0), (1, ziv a1), (3, ziv a3), (4, ziv (a4 + (-1)))]) [1, 2, 3, 0] rfl ?_
    refine z_goto (tgt := 38) dX8_element_67 (by decide) ?_
    exact h
  · have h := h.2 c6
    obtain ⟨o8, h⟩ := h
    refine z_iinc 2 dX8_element_58 rfl (by decide) o8 (L' := [(0, zrv a0), (1, ziv a1), (3, ziv (a3 + (-1))), (4, ziv a4)]) [1, 2, 0, 3] rfl ?_
    refine z_goto (tgt := 46) dX8_element_61 (by decide) ?_
    exact h
set_option maxRecDepth 100000 in
set_option maxHeartbeats 4000000 in
theorem wp_X8_element_94 {E : zE} {X : zX} {F : Int → zH → Prop} {S : zS} {a0 a3 a4 : Int} {V : zH}
    (h : ((S a0).1 = 11) ∧ SpF E 0 zm_X8_buttons [zrv a0] S V (fun x2 => ((x2 ≤ a4) → (F 1 V)) ∧ ((a4 < x2) → (((a4 ≤ a3) → ((z32 (37 * a3)) ∧ (z32 ((37 * a3) + a4)) ∧ ((S (V a0 9)).1 = 1) ∧ ((0 : Int) ≤ (37 * a3) + a4 ∧ (37 * a3) + a4 < (S (V a0 9)).2) ∧ ((S (V a0 16)).1 = 1) ∧ ((0 : Int) ≤ a4 ∧ a4 < (S (V a0 16)).2) ∧ ∀ V12 : zH, V12 = zput V (V a0 16) a4 (V (V a0 9) ((37 * a3) + a4)) → (z32 (a4 + 1)) ∧ zl_X8_element_94 E X F S a0 a3 (a4 + 1) V12)) ∧ ((a3 < a4) → (((S (V a0 16)).1 = 1) ∧ ((0 : Int) ≤ a4 ∧ a4 < (S (V a0 16)).2) ∧ ∀ V17 : zH, V17 = zput V (V a0 16) a4 0 → (z32 (a4 + 1)) ∧ zl_X8_element_94 E X F S a0 a3 (a4 + 1) V17)))))) :
    zl_X8_element_94 E X F S a0 a3 a4 V := by
  unfold zl_X8_element_94
  refine z_iload 2 dX8_element_94 rfl ?_
  refine z_aload_n 0 dX8_element_96 rfl ?_
  obtain ⟨o1, h⟩ := h
  refine z_cVF [] (zk_RX8_89 _ rfl) dX8_element_97 o1 (by decide) rfl rfl (Nat.le_of_ble_eq_true rfl) (Nat.le_of_ble_eq_true rfl) (Nat.le_of_ble_eq_true rfl) (Nat.le_of_ble_eq_true rfl) (Nat.le_of_ble_eq_true rfl) h (fun x2 h => ?_)
  refine z_icmp_ge dX8_element_100 (tgt := 138) (by decide) (fun c4 => ?_) (fun c4 => ?_)
  · have h := h.1 c4
    refine z_iconst dX8_element_138 ⟨by decide, by decide⟩ ?_
    exact z_retI dX8_element_139 rfl h
  · have h := h.2 c4
    refine z_aload_n 0 dX8_element_103 rfl ?_
    refine zgf_8_16 dX8_element_104 (zf_RX8_40 _ rfl) o1 ?_
    refine z_iload 2 dX8_element_107 rfl ?_
    refine z_iload 2 dX8_element_109 rfl ?_
    refine z_iload_n 1 dX8_element_111 rfl ?_
    refine z_icmp_le dX8_element_112 (tgt := 119) (by decide) (fun c5 => ?_) (fun c5 => ?_)
    · have h := h.1 c5
      refine z_aload_n 0 dX8_element_119 rfl ?_
      refine zgf_8_9 dX8_element_120 (zf_RX8_28 _ rfl) o1 ?_
      refine z_bipush dX8_element_123 ⟨by decide, by decide⟩ (by decide) ?_
      refine z_iload_n 1 dX8_element_125 rfl ?_
      obtain ⟨o6, h⟩ := h
      refine z_imul dX8_element_126 o6 ?_
      refine z_iload 2 dX8_element_127 rfl ?_
      obtain ⟨o7, h⟩ := h
      refine z_iadd dX8_element_129 o7 ?_
      obtain ⟨o8, h⟩ := h
      obtain ⟨o9, h⟩ := h
      refine z_iald dX8_element_130 o8 o9 ?_
      obtain ⟨o10, h⟩ := h
      obtain ⟨o11, h⟩ := h
      refine z_iast dX8_element_131 o10 o11 ?_
      refine z_nameV (fun V12 e13 => ?_)
      have h := h V12 e13
      obtain ⟨o14, h⟩ := h
      refine z_iinc 2 dX8_element_132 rfl (by decide) o14 (L' := [(0, zrv a0), (3, ziv a3), (4, ziv (a4 + 1))]) [1, 2, 0] rfl ?_
      refine z_goto (tgt := 94) dX8_element_135 (by decide) ?_
      exact h
    · have h := h.2 c5
      refine z_iconst dX8_element_115 ⟨by decide, by decide⟩ ?_
      refine z_goto (tgt := 131) dX8_element_116 (by decide) ?_
      obtain ⟨o15, h⟩ := h
      obtain ⟨o16, h⟩ := h
      refine z_iast dX8_element_131 o15 o16 ?_
      refine z_nameV (fun V17 e18 => ?_)
      have h := h V17 e18
      obtain ⟨o19, h⟩ := h
      refine z_iinc 2 dX8_element_132 rfl (by decide) o19 (L' := [(0, zrv a0), (3, ziv a3), (4, ziv (a4 + 1))]) [1, 2, 0] rfl ?_
      refine z_goto (tgt := 94) dX8_element_135 (by decide) ?_
      exact h
set_option maxRecDepth 100000 in
set_option maxHeartbeats 4000000 in
theorem en_X8_element {E : zE} {F : Int → zH → Prop} {S : zS} {a0 a1 a2 : Int} {V : zH}
    (h : z32 a1 → z32 a2 → ∀ X : zX, ((S a0).1 = 11) ∧ SpI E 5 zm_X8_base [zrv a0, ziv a1] S V (fun x2 V3 => (z32 (x2 - 1)) ∧ SpF E 0 zm_X8_in [zjv a2, zjv 0, zjv (x2 - 1)] S V3 (fun x5 => ((x5 ≠ 0) → (((a1 ≠ 0) → (SpF E 0 zm_X8_n [zrv a0] S V3 (fun x9 => zl_X8_element_38 E X F S a0 a1 x9 a2 V3))) ∧ ((a1 = 0) → (SpF E 0 zm_X8_buttons [zrv a0] S V3 (fun x11 => zl_X8_element_38 E X F S a0 a1 x11 a2 V3))))) ∧ ((x5 = 0) → (F (-1) V3))))) :
    SpI E 6 zm_X8_element [zrv a0, ziv a1, ziv a2] S V F := by
  refine Sp.of (plainFor_of_name (by decide +kernel)) (Nat.le_of_ble_eq_true rfl) (fun hok X => ?_)
  have h := h (hok _ (List.mem_cons_of_mem _ (List.mem_cons_self))) (hok _ (List.mem_cons_of_mem _ (List.mem_cons_of_mem _ (List.mem_cons_self)))) X
  show Zr E X (zRoom 6 0 0) zm_X8_element (zQm E X (zpI S F) 0 0) 0 0 0 [(0, zrv a0), (1, ziv a1), (2, ziv a2)] [] S V
  refine z_iload_n 2 dX8_element_0 rfl ?_
  refine z_i2l dX8_element_1 ?_
  refine z_lconst (v := 0) dX8_element_2 (by decide) ⟨by decide, by decide⟩ ?_
  refine z_aload_n 0 dX8_element_3 rfl ?_
  refine z_iload_n 1 dX8_element_4 rfl ?_
  obtain ⟨o1, h⟩ := h
  refine z_cVI [ziv a1] (zk_RX8_216 _ rfl) dX8_element_5 o1 (by decide) rfl rfl (Nat.le_of_ble_eq_true rfl) (Nat.le_of_ble_eq_true rfl) (Nat.le_of_ble_eq_true rfl) (Nat.le_of_ble_eq_true rfl) (Nat.le_of_ble_eq_true rfl) h (fun x2 V3 h => ?_)
  refine z_iconst dX8_element_8 ⟨by decide, by decide⟩ ?_
  obtain ⟨o4, h⟩ := h
  refine z_isub dX8_element_9 o4 ?_
  refine z_i2l dX8_element_10 ?_
  refine z_cSF [zjv a2, zjv 0, zjv (x2 - 1)] (zk_RX8_69 _ rfl) dX8_element_11 rfl rfl (Nat.le_of_ble_eq_true rfl) (Nat.le_of_ble_eq_true rfl) (Nat.le_of_ble_eq_true rfl) (Nat.le_of_ble_eq_true rfl) (Nat.le_of_ble_eq_true rfl) h (fun x5 h => ?_)
  refine z_if_ne dX8_element_14 (tgt := 19) (by decide) (fun c7 => ?_) (fun c7 => ?_)
  · have h := h.1 c7
    refine z_iload_n 1 dX8_element_19 rfl ?_
    refine z_if_ne dX8_element_20 (tgt := 30) (by decide) (fun c8 => ?_) (fun c8 => ?_)
    · have h := h.1 c8
      refine z_aload_n 0 dX8_element_30 rfl ?_
      refine z_cVF [] (zk_RX8_84 _ rfl) dX8_element_31 o1 (by decide) rfl rfl (Nat.le_of_ble_eq_true rfl) (Nat.le_of_ble_eq_true rfl) (Nat.le_of_ble_eq_true rfl) (Nat.le_of_ble_eq_true rfl) (Nat.le_of_ble_eq_true rfl) h (fun x9 h => ?_)
      refine z_istore_n dX8_element_34 (by decide) (L' := [(0, zrv a0), (1, ziv a1), (2, ziv a2), (3, ziv x9)]) [1, 2, 3, 0] rfl ?_
      refine z_iload_n 2 dX8_element_35 rfl ?_
      refine z_istore dX8_element_36 (by decide) (L' := [(0, zrv a0), (1, ziv a1), (2, ziv a2), (3, ziv x9), (4, ziv a2)]) [1, 2, 3, 4, 0] rfl ?_
      refine z_loc (L' := [(0, zrv a0), (1, ziv a1), (3, ziv x9), (4, ziv a2)]) [0, 1, 3, 4] rfl ?_
      exact h
    · have h := h.2 c8
      refine z_aload_n 0 dX8_element_23 rfl ?_
      refine z_cVF [] (zk_RX8_89 _ rfl) dX8_element_24 o1 (by decide) rfl rfl (Nat.le_of_ble_eq_true rfl) (Nat.le_of_ble_eq_true rfl) (Nat.le_of_ble_eq_true rfl) (Nat.le_of_ble_eq_true rfl) (Nat.le_of_ble_eq_true rfl) h (fun x11 h => ?_)
      refine z_goto (tgt := 34) dX8_element_27 (by decide) ?_
      refine z_istore_n dX8_element_34 (by decide) (L' := [(0, zrv a0), (1, ziv a1), (2, ziv a2), (3, ziv x11)]) [1, 2, 3, 0] rfl ?_
      refine z_iload_n 2 dX8_element_35 rfl ?_
      refine z_istore dX8_element_36 (by decide) (L' := [(0, zrv a0), (1, ziv a1), (2, ziv a2), (3, ziv x11), (4, ziv a2)]) [1, 2, 3, 4, 0] rfl ?_
      refine z_loc (L' := [(0, zrv a0), (1, ziv a1), (3, ziv x11), (4, ziv a2)]) [0, 1, 3, 4] rfl ?_
      exact h
  · have h := h.2 c7
    refine z_iconst dX8_element_17 ⟨by decide, by decide⟩ ?_
    exact z_retI dX8_element_18 rfl h
def zl_X8_costOf_4 (E : zE) (X : zX) (F : Int → Prop) (S : zS) (a0 a1 a3 : Int) (V : zH) : Prop := Zr E X (zRoom 1 0 0) zm_X8_costOf (zQm E X (zpG S V F) 0 0) 0 0 4 [(0, zrv a0), (1, zjv a1), (3, ziv a3)] [] S V
set_option maxRecDepth 100000 in
set_option maxHeartbeats 4000000 in
theorem wp_X8_costOf_4 {E : zE} {X : zX} {F : Int → Prop} {S : zS} {a0 a1 a3 : Int} {V : zH}
    (h : ((S a0).1 = 11) ∧ SpF E 0 zm_X8_buttons [zrv a0] S V (fun x2 => ((x2 ≤ a3) → (F a1)) ∧ ((a3 < x2) → (((S (V a0 16)).1 = 1) ∧ ((0 : Int) ≤ a3 ∧ a3 < (S (V a0 16)).2) ∧ (z32 (184 + a3)) ∧ ((S (V a0 0)).1 = 1) ∧ ((0 : Int) ≤ 184 + a3 ∧ 184 + a3 < (S (V a0 0)).2) ∧ (z64 ((V (V a0 16) a3) * (V (V a0 0) (184 + a3)))) ∧ (z64 (a1 + ((V (V a0 16) a3) * (V (V a0 0) (184 + a3))))) ∧ ∀ x12 : Int, x12 = a1 + ((V (V a0 16) a3) * (V (V a0 0) (184 + a3))) → (z32 (a3 + 1)) ∧ zl_X8_costOf_4 E X F S a0 x12 (a3 + 1) V)))) :
    zl_X8_costOf_4 E X F S a0 a1 a3 V := by
  unfold zl_X8_costOf_4
  refine z_iload_n 2 dX8_costOf_4 rfl ?_
  refine z_aload_n 0 dX8_costOf_5 rfl ?_
  obtain ⟨o1, h⟩ := h
  refine z_cVF [] (zk_RX8_89 _ rfl) dX8_costOf_6 o1 (by decide) rfl rfl (Nat.le_of_ble_eq_true rfl) (Nat.le_of_ble_eq_true rfl) (Nat.le_of_ble_eq_true rfl) (Nat.le_of_ble_eq_true rfl) (Nat.le_of_ble_eq_true rfl) h (fun x2 h => ?_)
  refine z_icmp_ge dX8_costOf_9 (tgt := 40) (by decide) (fun c4 => ?_) (fun c4 => ?_)
  · have h := h.1 c4
    refine z_lload_n 1 dX8_costOf_40 rfl ?_
    exact z_retFJ dX8_costOf_41 rfl h
  · have h := h.2 c4
    refine z_lload_n 1 dX8_costOf_12 rfl ?_
    refine z_aload_n 0 dX8_costOf_13 rfl ?_
    refine zgf_8_16 dX8_costOf_14 (zf_RX8_40 _ rfl) o1 ?_
    refine z_iload_n 2 dX8_costOf_17 rfl ?_
    obtain ⟨o5, h⟩ := h
    obtain ⟨o6, h⟩ := h
    refine z_iald dX8_costOf_18 o5 o6 ?_
    refine z_i2l dX8_costOf_19 ?_
    refine z_aload_n 0 dX8_costOf_20 rfl ?_
    refine zgf_8_0 dX8_costOf_21 (zf_RX8_9 _ rfl) o1 ?_
    refine z_sipush dX8_costOf_24 ⟨by decide, by decide⟩ (by decide) ?_
    refine z_iload_n 2 dX8_costOf_27 rfl ?_
    obtain ⟨o7, h⟩ := h
    refine z_iadd dX8_costOf_28 o7 ?_
    obtain ⟨o8, h⟩ := h
    obtain ⟨o9, h⟩ := h
    refine z_iald dX8_costOf_29 o8 o9 ?_
    refine z_i2l dX8_costOf_30 ?_
    obtain ⟨o10, h⟩ := h
    refine z_lmul dX8_costOf_31 o10 ?_
    obtain ⟨o11, h⟩ := h
    refine z_ladd dX8_costOf_32 o11 ?_
    refine z_nameJ (fun x12 e13 => ?_)
    have h := h x12 e13
    refine z_lstore_n dX8_costOf_33 (by decide) (L' := [(0, zrv a0), (1, zjv x12), (3, ziv a3)]) [1, 0, 2] rfl ?_
    obtain ⟨o14, h⟩ := h
    refine z_iinc 2 dX8_costOf_34 rfl (by decide) o14 (L' := [(0, zrv a0), (1, zjv x12), (3, ziv (a3 + 1))]) [1, 2, 0] rfl ?_
    refine z_goto (tgt := 4) dX8_costOf_37 (by decide) ?_
    exact h
set_option maxRecDepth 100000 in
set_option maxHeartbeats 4000000 in
theorem en_X8_costOf {E : zE} {F : Int → Prop} {S : zS} {a0 : Int} {V : zH}
    (h : ∀ X : zX, zl_X8_costOf_4 E X F S a0 0 0 V) :
    SpG E 1 zm_X8_costOf [zrv a0] S V F := by
  refine Sp.of (plainFor_of_name (by decide +kernel)) (Nat.le_of_ble_eq_true rfl) (fun hok X => ?_)
  have h := h X
  show Zr E X (zRoom 1 0 0) zm_X8_costOf (zQm E X (zpG S V F) 0 0) 0 0 0 [(0, zrv a0)] [] S V
  refine z_lconst (v := 0) dX8_costOf_0 (by decide) ⟨by decide, by decide⟩ ?_
  refine z_lstore_n dX8_costOf_1 (by decide) (L' := [(0, zrv a0), (1, zjv 0)]) [1, 0] rfl ?_
  refine z_iconst dX8_costOf_2 ⟨by decide, by decide⟩ ?_
  refine z_istore_n dX8_costOf_3 (by decide) (L' := [(0, zrv a0), (1, zjv 0), (3, ziv 0)]) [1, 2, 0] rfl ?_
  exact h
def zl_X8_quiet_4 (E : zE) (X : zX) (F : Int → Prop) (S : zS) (a0 a1 a3 : Int) (V : zH) : Prop := Zr E X (zRoom 1 0 0) zm_X8_quiet (zQm E X (zpG S V F) 0 0) 0 0 4 [(0, zrv a0), (1, zjv a1), (3, ziv a3)] [] S V
set_option maxRecDepth 100000 in
set_option maxHeartbeats 4000000 in
theorem wp_X8_quiet_4 {E : zE} {X : zX} {F : Int → Prop} {S : zS} {a0 a1 a3 : Int} {V : zH}
    (h : ((S a0).1 = 11) ∧ SpF E 0 zm_X8_buttons [zrv a0] S V (fun x2 => ((x2 ≤ a3) → (F a1)) ∧ ((a3 < x2) → (((65536 < a1) → (F a1)) ∧ ((a1 ≤ 65536) → (SpF E 0 zm_X8_m [zrv a0] S V (fun x6 => SpF E 0 zm_X8_pivot [zrv a0, ziv a3] S V (fun x8 => ((0 : Int) ≤ x6) ∧ ((0 : Int) < x8) ∧ (z64 (a1 * (x6 / x8))) ∧ ∀ x13 : Int, x13 = a1 * (x6 / x8) → (z32 (a3 + 1)) ∧ zl_X8_quiet_4 E X F S a0 x13 (a3 + 1) V)))))))) :
    zl_X8_quiet_4 E X F S a0 a1 a3 V := by
  unfold zl_X8_quiet_4
  refine z_iload_n 2 dX8_quiet_4 rfl ?_
  refine z_aload_n 0 dX8_quiet_5 rfl ?_
  obtain ⟨o1, h⟩ := h
  refine z_cVF [] (zk_RX8_89 _ rfl) dX8_quiet_6 o1 (by decide) rfl rfl (Nat.le_of_ble_eq_true rfl) (Nat.le_of_ble_eq_true rfl) (Nat.le_of_ble_eq_true rfl) (Nat.le_of_ble_eq_true rfl) (Nat.le_of_ble_eq_true rfl) h (fun x2 h => ?_)
  refine z_icmp_ge dX8_quiet_9 (tgt := 40) (by decide) (fun c4 => ?_) (fun c4 => ?_)
  · have h := h.1 c4
    refine z_lload_n 1 dX8_quiet_40 rfl ?_
    exact z_retFJ dX8_quiet_41 rfl h
  · have h := h.2 c4
    refine z_lload_n 1 dX8_quiet_12 rfl ?_
    refine z_ldc2 (c := 65536) (zd_RX8_219 _ rfl) (by decide) ⟨by decide, by decide⟩ dX8_quiet_13 ?_
    refine z_lif_gt dX8_quiet_16 dX8_quiet_17 (tgt := 40) (by decide) (fun c5 => ?_) (fun c5 => ?_)
    · have h := h.1 c5
      refine z_lload_n 1 dX8_quiet_40 rfl ?_
      exact z_retFJ dX8_quiet_41 rfl h
    · have h := h.2 c5
      refine z_lload_n 1 dX8_quiet_20 rfl ?_
      refine z_aload_n 0 dX8_quiet_21 rfl ?_
      refine z_cVF [] (zk_RX8_96 _ rfl) dX8_quiet_22 o1 (by decide) rfl rfl (Nat.le_of_ble_eq_true rfl) (Nat.le_of_ble_eq_true rfl) (Nat.le_of_ble_eq_true rfl) (Nat.le_of_ble_eq_true rfl) (Nat.le_of_ble_eq_true rfl) h (fun x6 h => ?_)
      refine z_aload_n 0 dX8_quiet_25 rfl ?_
      refine z_iload_n 2 dX8_quiet_26 rfl ?_
      refine z_cVF [ziv a3] (zk_RX8_181 _ rfl) dX8_quiet_27 o1 (by decide) rfl rfl (Nat.le_of_ble_eq_true rfl) (Nat.le_of_ble_eq_true rfl) (Nat.le_of_ble_eq_true rfl) (Nat.le_of_ble_eq_true rfl) (Nat.le_of_ble_eq_true rfl) h (fun x8 h => ?_)
      obtain ⟨o10, h⟩ := h
      obtain ⟨o11, h⟩ := h
      refine z_idiv dX8_quiet_30 o10 o11 ?_
      refine z_i2l dX8_quiet_31 ?_
      obtain ⟨o12, h⟩ := h
      refine z_lmul dX8_quiet_32 o12 ?_
      refine z_nameJ (fun x13 e14 => ?_)
      have h := h x13 e14
      refine z_lstore_n dX8_quiet_33 (by decide) (L' := [(0, zrv a0), (1, zjv x13), (3, ziv a3)]) [1, 0, 2] rfl ?_
      obtain ⟨o15, h⟩ := h
      refine z_iinc 2 dX8_quiet_34 rfl (by decide) o15 (L' := [(0, zrv a0), (1, zjv x13), (3, ziv (a3 + 1))]) [1, 2, 0] rfl ?_
      refine z_goto (tgt := 4) dX8_quiet_37 (by decide) ?_
      exact h
set_option maxRecDepth 100000 in
set_option maxHeartbeats 4000000 in
theorem en_X8_quiet {E : zE} {F : Int → Prop} {S : zS} {a0 : Int} {V : zH}
    (h : ∀ X : zX, zl_X8_quiet_4 E X F S a0 1 0 V) :
    SpG E 1 zm_X8_quiet [zrv a0] S V F := by
  refine Sp.of (plainFor_of_name (by decide +kernel)) (Nat.le_of_ble_eq_true rfl) (fun hok X => ?_)
  have h := h X
  show Zr E X (zRoom 1 0 0) zm_X8_quiet (zQm E X (zpG S V F) 0 0) 0 0 0 [(0, zrv a0)] [] S V
  refine z_lconst (v := 1) dX8_quiet_0 (by decide) ⟨by decide, by decide⟩ ?_
  refine z_lstore_n dX8_quiet_1 (by decide) (L' := [(0, zrv a0), (1, zjv 1)]) [1, 0] rfl ?_
  refine z_iconst dX8_quiet_2 ⟨by decide, by decide⟩ ?_
  refine z_istore_n dX8_quiet_3 (by decide) (L' := [(0, zrv a0), (1, zjv 1), (3, ziv 0)]) [1, 2, 0] rfl ?_
  exact h
def zl_X8_least_39 (E : zE) (X : zX) (F : Int → zH → Prop) (S : zS) (a0 a1 a2 : Int) (V : zH) : Prop := Zr E X (zRoom 6 0 0) zm_X8_least (zQm E X (zpJ S F) 0 0) 0 0 39 [(0, zrv a0), (1, ziv a1), (2, ziv a2)] [] S V
def zl_X8_least_81 (E : zE) (X : zX) (F : Int → zH → Prop) (S : zS) (a0 a1 a2 : Int) (V : zH) : Prop := Zr E X (zRoom 6 0 0) zm_X8_least (zQm E X (zpJ S F) 0 0) 0 0 81 [(0, zrv a0), (1, ziv a1), (2, zjv a2)] [] S V
def zl_X8_least_120 (E : zE) (X : zX) (F : Int → zH → Prop) (S : zS) (a0 a1 a2 a4 : Int) (V : zH) : Prop := Zr E X (zRoom 6 0 0) zm_X8_least (zQm E X (zpJ S F) 0 0) 0 0 120 [(0, zrv a0), (1, ziv a1), (2, zjv a2), (4, ziv a4)] [] S V
set_option maxRecDepth 100000 in
set_option maxHeartbeats 4000000 in
theorem wp_X8_least_39 {E : zE} {X : zX} {F : Int → zH → Prop} {S : zS} {a0 a1 a2 : Int} {V : zH}
    (h : ((a1 ≤ a2) → (((S a0).1 = 11) ∧ SpG E 1 zm_X8_costOf [zrv a0] S V (fun x3 => SpV E 0 zm_X8_keepsRow [zrv a0, zrv (V a0 20), ziv a1] S V (fun V6 => zl_X8_least_81 E X F S a0 a1 x3 V6)))) ∧ ((a2 < a1) → (((S a0).1 = 11) ∧ (z32 (37 * a1)) ∧ (z32 ((37 * a1) + a2)) ∧ ((S (V a0 9)).1 = 1) ∧ ((0 : Int) ≤ (37 * a1) + a2 ∧ (37 * a1) + a2 < (S (V a0 9)).2) ∧ ((S (V a0 16)).1 = 1) ∧ ((0 : Int) ≤ a2 ∧ a2 < (S (V a0 16)).2) ∧ ∀ V14 : zH, V14 = zput V (V a0 16) a2 (V (V a0 9) ((37 * a1) + a2)) → (z32 (a2 + 1)) ∧ zl_X8_least_39 E X F S a0 a1 (a2 + 1) V14))) :
    zl_X8_least_39 E X F S a0 a1 a2 V := by
  unfold zl_X8_least_39
  refine z_iload_n 2 dX8_least_39 rfl ?_
  refine z_iload_n 1 dX8_least_40 rfl ?_
  refine z_icmp_ge dX8_least_41 (tgt := 67) (by decide) (fun c1 => ?_) (fun c1 => ?_)
  · have h := h.1 c1
    refine z_aload_n 0 dX8_least_67 rfl ?_
    obtain ⟨o2, h⟩ := h
    refine z_cVG [] (zk_RX8_229 _ rfl) dX8_least_68 o2 (by decide) rfl rfl (Nat.le_of_ble_eq_true rfl) (Nat.le_of_ble_eq_true rfl) (Nat.le_of_ble_eq_true rfl) (Nat.le_of_ble_eq_true rfl) (Nat.le_of_ble_eq_true rfl) h (fun x3 h => ?_)
    refine z_lstore_n dX8_least_71 (by decide) (L' := [(0, zrv a0), (1, ziv a1), (2, zjv x3)]) [1, 2, 0] rfl ?_
    refine z_aload_n 0 dX8_least_72 rfl ?_
    refine z_aload_n 0 dX8_least_73 rfl ?_
    refine zgf_8_20 dX8_least_74 (zf_RX8_43 _ rfl) o2 ?_
    refine z_iload_n 1 dX8_least_77 rfl ?_
    refine z_cVV [zrv (V a0 20), ziv a1] (zk_RX8_232 _ rfl) dX8_least_78 o2 (by decide) rfl rfl (Nat.le_of_ble_eq_true rfl) (Nat.le_of_ble_eq_true rfl) (Nat.le_of_ble_eq_true rfl) (Nat.le_of_ble_eq_true rfl) (Nat.le_of_ble_eq_true rfl) h (fun V6 h => ?_)
    exact h
  · have h := h.2 c1
    refine z_aload_n 0 dX8_least_44 rfl ?_
    obtain ⟨o7, h⟩ := h
    refine zgf_8_16 dX8_least_45 (zf_RX8_40 _ rfl) o7 ?_
    refine z_iload_n 2 dX8_least_48 rfl ?_
    refine z_aload_n 0 dX8_least_49 rfl ?_
    refine zgf_8_9 dX8_least_50 (zf_RX8_28 _ rfl) o7 ?_
    refine z_bipush dX8_least_53 ⟨by decide, by decide⟩ (by decide) ?_
    refine z_iload_n 1 dX8_least_55 rfl ?_
    obtain ⟨o8, h⟩ := h
    refine z_imul dX8_least_56 o8 ?_
    refine z_iload_n 2 dX8_least_57 rfl ?_
    obtain ⟨o9, h⟩ := h
    refine z_iadd dX8_least_58 o9 ?_
    obtain ⟨o10, h⟩ := h
    obtain ⟨o11, h⟩ := h
    refine z_iald dX8_least_59 o10 o11 ?_
    obtain ⟨o12, h⟩ := h
    obtain ⟨o13, h⟩ := h
    refine z_iast dX8_least_60 o12 o13 ?_
    refine z_nameV (fun V14 e15 => ?_)
    have h := h V14 e15
    obtain ⟨o16, h⟩ := h
    refine z_iinc 2 dX8_least_61 rfl (by decide) o16 (L' := [(0, zrv a0), (1, ziv a1), (2, ziv (a2 + 1))]) [1, 2, 0] rfl ?_
    refine z_goto (tgt := 39) dX8_least_64 (by decide) ?_
    exact h
set_option maxRecDepth 100000 in
set_option maxHeartbeats 4000000 in
theorem wp_X8_least_81 {E : zE} {X : zX} {F : Int → zH → Prop} {S : zS} {a0 a1 a2 : Int} {V : zH}
    (h : ((S a0).1 = 11) ∧ SpI E 2 zm_X8_follows [zrv a0, ziv a1] S V (fun x2 V3 => ((x2 = 0) → (zl_X8_least_120 E X F S a0 a1 a2 0 V3)) ∧ ((x2 ≠ 0) → (SpG E 1 zm_X8_costOf [zrv a0] S V3 (fun x5 => ((a2 ≤ x5) → (zl_X8_least_81 E X F S a0 a1 a2 V3)) ∧ ((x5 < a2) → (SpV E 0 zm_X8_keepsRow [zrv a0, zrv (V3 a0 20), ziv a1] S V3 (fun V9 => zl_X8_least_81 E X F S a0 a1 x5 V9)))))))) :
    zl_X8_least_81 E X F S a0 a1 a2 V := by
  unfold zl_X8_least_81
  refine z_aload_n 0 dX8_least_81 rfl ?_
  refine z_iload_n 1 dX8_least_82 rfl ?_
  obtain ⟨o1, h⟩ := h
  refine z_cVI [ziv a1] (zk_RX8_201 _ rfl) dX8_least_83 o1 (by decide) rfl rfl (Nat.le_of_ble_eq_true rfl) (Nat.le_of_ble_eq_true rfl) (Nat.le_of_ble_eq_true rfl) (Nat.le_of_ble_eq_true rfl) (Nat.le_of_ble_eq_true rfl) h (fun x2 V3 h => ?_)
  refine z_if_eq dX8_least_86 (tgt := 117) (by decide) (fun c4 => ?_) (fun c4 => ?_)
  · have h := h.1 c4
    refine z_iconst dX8_least_117 ⟨by decide, by decide⟩ ?_
    refine z_istore dX8_least_118 (by decide) (L' := [(0, zrv a0), (1, ziv a1), (2, zjv a2), (4, ziv 0)]) [1, 2, 3, 0] rfl ?_
    exact h
  · have h := h.2 c4
    refine z_aload_n 0 dX8_least_89 rfl ?_
    refine z_cVG [] (zk_RX8_229 _ rfl) dX8_least_90 o1 (by decide) rfl rfl (Nat.le_of_ble_eq_true rfl) (Nat.le_of_ble_eq_true rfl) (Nat.le_of_ble_eq_true rfl) (Nat.le_of_ble_eq_true rfl) (Nat.le_of_ble_eq_true rfl) h (fun x5 h => ?_)
    refine z_lstore dX8_least_93 (by decide) (L' := [(0, zrv a0), (1, ziv a1), (2, zjv a2), (4, zjv x5)]) [1, 2, 3, 0] rfl ?_
    refine z_lload 3 dX8_least_95 rfl ?_
    refine z_lload_n 2 dX8_least_97 rfl ?_
    refine z_lif_ge dX8_least_98 dX8_least_99 (tgt := 114) (by decide) (fun c7 => ?_) (fun c7 => ?_)
    · have h := h.1 c7
      refine z_goto (tgt := 81) dX8_least_114 (by decide) ?_
      refine z_loc (L' := [(0, zrv a0), (1, ziv a1), (2, zjv a2)]) [0, 1, 2] rfl ?_
      exact h
    · have h := h.2 c7
      refine z_lload 3 dX8_least_102 rfl ?_
      refine z_lstore_n dX8_least_104 (by decide) (L' := [(0, zrv a0), (1, ziv a1), (2, zjv x5), (4, zjv x5)]) [1, 2, 0, 3] rfl ?_
      refine z_aload_n 0 dX8_least_105 rfl ?_
      refine z_aload_n 0 dX8_least_106 rfl ?_
      refine zgf_8_20 dX8_least_107 (zf_RX8_43 _ rfl) o1 ?_
      refine z_iload_n 1 dX8_least_110 rfl ?_
      refine z_cVV [zrv (V3 a0 20), ziv a1] (zk_RX8_232 _ rfl) dX8_least_111 o1 (by decide) rfl rfl (Nat.le_of_ble_eq_true rfl) (Nat.le_of_ble_eq_true rfl) (Nat.le_of_ble_eq_true rfl) (Nat.le_of_ble_eq_true rfl) (Nat.le_of_ble_eq_true rfl) h (fun V9 h => ?_)
      refine z_goto (tgt := 81) dX8_least_114 (by decide) ?_
      refine z_loc (L' := [(0, zrv a0), (1, ziv a1), (2, zjv x5)]) [0, 1, 2] rfl ?_
      exact h
set_option maxRecDepth 100000 in
set_option maxHeartbeats 4000000 in
theorem wp_X8_least_120 {E : zE} {X : zX} {F : Int → zH → Prop} {S : zS} {a0 a1 a2 a4 : Int} {V : zH}
    (h : ((a1 ≤ a4) → (F a2 V)) ∧ ((a4 < a1) → (((S a0).1 = 11) ∧ ((S (V a0 20)).1 = 1) ∧ ((0 : Int) ≤ a4 ∧ a4 < (S (V a0 20)).2) ∧ ((S (V a0 16)).1 = 1) ∧ ((0 : Int) ≤ a4 ∧ a4 < (S (V a0 16)).2) ∧ ∀ V7 : zH, V7 = zput V (V a0 16) a4 (V (V a0 20) a4) → (z32 (a4 + 1)) ∧ zl_X8_least_120 E X F S a0 a1 a2 (a4 + 1) V7))) :
    zl_X8_least_120 E X F S a0 a1 a2 a4 V := by
  unfold zl_X8_least_120
  refine z_iload 3 dX8_least_120 rfl ?_
  refine z_iload_n 1 dX8_least_122 rfl ?_
  refine z_icmp_ge dX8_least_123 (tgt := 146) (by decide) (fun c1 => ?_) (fun c1 => ?_)
  · have h := h.1 c1
    refine z_lload_n 2 dX8_least_146 rfl ?_
    exact z_retJ dX8_least_147 rfl h
  · have h := h.2 c1
    refine z_aload_n 0 dX8_least_126 rfl ?_
    obtain ⟨o2, h⟩ := h
    refine zgf_8_16 dX8_least_127 (zf_RX8_40 _ rfl) o2 ?_
    refine z_iload 3 dX8_least_130 rfl ?_
    refine z_aload_n 0 dX8_least_132 rfl ?_
    refine zgf_8_20 dX8_least_133 (zf_RX8_43 _ rfl) o2 ?_
    refine z_iload 3 dX8_least_136 rfl ?_
    obtain ⟨o3, h⟩ := h
    obtain ⟨o4, h⟩ := h
    refine z_iald dX8_least_138 o3 o4 ?_
    obtain ⟨o5, h⟩ := h
    obtain ⟨o6, h⟩ := h
    refine z_iast dX8_least_139 o5 o6 ?_
    refine z_nameV (fun V7 e8 => ?_)
    have h := h V7 e8
    obtain ⟨o9, h⟩ := h
    refine z_iinc 3 dX8_least_140 rfl (by decide) o9 (L' := [(0, zrv a0), (1, ziv a1), (2, zjv a2), (4, ziv (a4 + 1))]) [1, 2, 3, 0] rfl ?_
    refine z_goto (tgt := 120) dX8_least_143 (by decide) ?_
    exact h
set_option maxRecDepth 100000 in
set_option maxHeartbeats 4000000 in
theorem en_X8_least {E : zE} {F : Int → zH → Prop} {S : zS} {a0 : Int} {V : zH}
    (h : ∀ X : zX, ((S a0).1 = 11) ∧ SpI E 5 zm_X8_canBe [zrv a0] S V (fun x2 V3 => ((x2 ≠ 0) → (SpG E 1 zm_X8_quiet [zrv a0] S V3 (fun x5 => ((x5 ≤ 65536) → (SpF E 0 zm_X8_buttons [zrv a0] S V3 (fun x8 => SpV E 0 zm_X8_tells [zrv a0, ziv x8, ziv 1] S V3 (fun V11 => zl_X8_least_39 E X F S a0 x8 0 V11)))) ∧ ((65536 < x5) → (F (-2) V3))))) ∧ ((x2 = 0) → (F (-1) V3)))) :
    SpJ E 6 zm_X8_least [zrv a0] S V F := by
  refine Sp.of (plainFor_of_name (by decide +kernel)) (Nat.le_of_ble_eq_true rfl) (fun hok X => ?_)
  have h := h X
  show Zr E X (zRoom 6 0 0) zm_X8_least (zQm E X (zpJ S F) 0 0) 0 0 0 [(0, zrv a0)] [] S V
  refine z_aload_n 0 dX8_least_0 rfl ?_
  obtain ⟨o1, h⟩ := h
  refine z_cVI [] (zk_RX8_184 _ rfl) dX8_least_1 o1 (by decide) rfl rfl (Nat.le_of_ble_eq_true rfl) (Nat.le_of_ble_eq_true rfl) (Nat.le_of_ble_eq_true rfl) (Nat.le_of_ble_eq_true rfl) (Nat.le_of_ble_eq_true rfl) h (fun x2 V3 h => ?_)
  refine z_if_ne dX8_least_4 (tgt := 11) (by decide) (fun c4 => ?_) (fun c4 => ?_)
  · have h := h.1 c4
    refine z_aload_n 0 dX8_least_11 rfl ?_
    refine z_cVG [] (zk_RX8_223 _ rfl) dX8_least_12 o1 (by decide) rfl rfl (Nat.le_of_ble_eq_true rfl) (Nat.le_of_ble_eq_true rfl) (Nat.le_of_ble_eq_true rfl) (Nat.le_of_ble_eq_true rfl) (Nat.le_of_ble_eq_true rfl) h (fun x5 h => ?_)
    refine z_ldc2 (c := 65536) (zd_RX8_219 _ rfl) (by decide) ⟨by decide, by decide⟩ dX8_least_15 ?_
    refine z_lif_le dX8_least_18 dX8_least_19 (tgt := 26) (by decide) (fun c7 => ?_) (fun c7 => ?_)
    · have h := h.1 c7
      refine z_aload_n 0 dX8_least_26 rfl ?_
      refine z_cVF [] (zk_RX8_89 _ rfl) dX8_least_27 o1 (by decide) rfl rfl (Nat.le_of_ble_eq_true rfl) (Nat.le_of_ble_eq_true rfl) (Nat.le_of_ble_eq_true rfl) (Nat.le_of_ble_eq_true rfl) (Nat.le_of_ble_eq_true rfl) h (fun x8 h => ?_)
      refine z_istore_n dX8_least_30 (by decide) (L' := [(0, zrv a0), (1, ziv x8)]) [1, 0] rfl ?_
      refine z_aload_n 0 dX8_least_31 rfl ?_
      refine z_iload_n 1 dX8_least_32 rfl ?_
      refine z_iconst dX8_least_33 ⟨by decide, by decide⟩ ?_
      refine z_cVV [ziv x8, ziv 1] (zk_RX8_188 _ rfl) dX8_least_34 o1 (by decide) rfl rfl (Nat.le_of_ble_eq_true rfl) (Nat.le_of_ble_eq_true rfl) (Nat.le_of_ble_eq_true rfl) (Nat.le_of_ble_eq_true rfl) (Nat.le_of_ble_eq_true rfl) h (fun V11 h => ?_)
      refine z_iconst dX8_least_37 ⟨by decide, by decide⟩ ?_
      refine z_istore_n dX8_least_38 (by decide) (L' := [(0, zrv a0), (1, ziv x8), (2, ziv 0)]) [1, 2, 0] rfl ?_
      exact h
    · have h := h.2 c7
      refine z_ldc2 (c := (-2)) (zd_RX8_227 _ rfl) (by decide) ⟨by decide, by decide⟩ dX8_least_22 ?_
      exact z_retJ dX8_least_25 rfl h
  · have h := h.2 c4
    refine z_ldc2 (c := (-1)) (zd_RX8_221 _ rfl) (by decide) ⟨by decide, by decide⟩ dX8_least_7 ?_
    exact z_retJ dX8_least_10 rfl h
def zl_X8_keepsRow_2 (E : zE) (X : zX) (F : zH → Prop) (S : zS) (a0 a1 a2 a3 : Int) (V : zH) : Prop := Zr E X (zRoom 0 0 0) zm_X8_keepsRow (zQm E X (zpV S F) 0 0) 0 0 2 [(0, zrv a0), (1, zrv a1), (2, ziv a2), (3, ziv a3)] [] S V
set_option maxRecDepth 100000 in
set_option maxHeartbeats 4000000 in
theorem wp_X8_keepsRow_2 {E : zE} {X : zX} {F : zH → Prop} {S : zS} {a0 a1 a2 a3 : Int} {V : zH}
    (h : ((a2 ≤ a3) → (F V)) ∧ ((a3 < a2) → (((S a0).1 = 11) ∧ ((S (V a0 16)).1 = 1) ∧ ((0 : Int) ≤ a3 ∧ a3 < (S (V a0 16)).2) ∧ ((S a1).1 = 1) ∧ ((0 : Int) ≤ a3 ∧ a3 < (S a1).2) ∧ ∀ V7 : zH, V7 = zput V a1 a3 (V (V a0 16) a3) → (z32 (a3 + 1)) ∧ zl_X8_keepsRow_2 E X F S a0 a1 a2 (a3 + 1) V7))) :
    zl_X8_keepsRow_2 E X F S a0 a1 a2 a3 V := by
  unfold zl_X8_keepsRow_2
  refine z_iload_n 3 dX8_keepsRow_2 rfl ?_
  refine z_iload_n 2 dX8_keepsRow_3 rfl ?_
  refine z_icmp_ge dX8_keepsRow_4 (tgt := 22) (by decide) (fun c1 => ?_) (fun c1 => ?_)
  · have h := h.1 c1
    exact z_retV dX8_keepsRow_22 rfl h
  · have h := h.2 c1
    refine z_aload_n 1 dX8_keepsRow_7 rfl ?_
    refine z_iload_n 3 dX8_keepsRow_8 rfl ?_
    refine z_aload_n 0 dX8_keepsRow_9 rfl ?_
    obtain ⟨o2, h⟩ := h
    refine zgf_8_16 dX8_keepsRow_10 (zf_RX8_40 _ rfl) o2 ?_
    refine z_iload_n 3 dX8_keepsRow_13 rfl ?_
    obtain ⟨o3, h⟩ := h
    obtain ⟨o4, h⟩ := h
    refine z_iald dX8_keepsRow_14 o3 o4 ?_
    obtain ⟨o5, h⟩ := h
    obtain ⟨o6, h⟩ := h
    refine z_iast dX8_keepsRow_15 o5 o6 ?_
    refine z_nameV (fun V7 e8 => ?_)
    have h := h V7 e8
    obtain ⟨o9, h⟩ := h
    refine z_iinc 3 dX8_keepsRow_16 rfl (by decide) o9 (L' := [(0, zrv a0), (1, zrv a1), (2, ziv a2), (3, ziv (a3 + 1))]) [1, 2, 3, 0] rfl ?_
    refine z_goto (tgt := 2) dX8_keepsRow_19 (by decide) ?_
    exact h
set_option maxRecDepth 100000 in
set_option maxHeartbeats 4000000 in
theorem en_X8_keepsRow {E : zE} {F : zH → Prop} {S : zS} {a0 a1 a2 : Int} {V : zH}
    (h : z32 a2 → ∀ X : zX, zl_X8_keepsRow_2 E X F S a0 a1 a2 0 V) :
    SpV E 0 zm_X8_keepsRow [zrv a0, zrv a1, ziv a2] S V F := by
  refine Sp.of (plainFor_of_name (by decide +kernel)) (Nat.le_of_ble_eq_true rfl) (fun hok X => ?_)
  have h := h (hok _ (List.mem_cons_of_mem _ (List.mem_cons_of_mem _ (List.mem_cons_self)))) X
  show Zr E X (zRoom 0 0 0) zm_X8_keepsRow (zQm E X (zpV S F) 0 0) 0 0 0 [(0, zrv a0), (1, zrv a1), (2, ziv a2)] [] S V
  refine z_iconst dX8_keepsRow_0 ⟨by decide, by decide⟩ ?_
  refine z_istore_n dX8_keepsRow_1 (by decide) (L' := [(0, zrv a0), (1, zrv a1), (2, ziv a2), (3, ziv 0)]) [1, 2, 3, 0] rfl ?_
  exact h
def zl_X8_pushes_4 (E : zE) (X : zX) (F : Int → Prop) (S : zS) (a0 a1 a3 : Int) (V : zH) : Prop := Zr E X (zRoom 1 0 0) zm_X8_pushes (zQm E X (zpG S V F) 0 0) 0 0 4 [(0, zrv a0), (1, zjv a1), (3, ziv a3)] [] S V
set_option maxRecDepth 100000 in
set_option maxHeartbeats 4000000 in
theorem wp_X8_pushes_4 {E : zE} {X : zX} {F : Int → Prop} {S : zS} {a0 a1 a3 : Int} {V : zH}
    (h : ((S a0).1 = 11) ∧ SpF E 0 zm_X8_buttons [zrv a0] S V (fun x2 => ((x2 ≤ a3) → (F a1)) ∧ ((a3 < x2) → (((65536 < a1) → (F a1)) ∧ ((a1 ≤ 65536) → (SpF E 0 zm_X8_isStuck [zrv a0, ziv a3] S V (fun x6 => ((x6 = 0) → (SpF E 0 zm_X8_m [zrv a0] S V (fun x9 => (z64 (a1 * x9)) ∧ ∀ x12 : Int, x12 = a1 * x9 → (z32 (a3 + 1)) ∧ zl_X8_pushes_4 E X F S a0 x12 (a3 + 1) V))) ∧ ((x6 ≠ 0) → ((z64 (a1 * 1)) ∧ ∀ x16 : Int, x16 = a1 * 1 → (z32 (a3 + 1)) ∧ zl_X8_pushes_4 E X F S a0 x16 (a3 + 1) V))))))))) :
    zl_X8_pushes_4 E X F S a0 a1 a3 V := by
  unfold zl_X8_pushes_4
  refine z_iload_n 2 dX8_pushes_4 rfl ?_
  refine z_aload_n 0 dX8_pushes_5 rfl ?_
  obtain ⟨o1, h⟩ := h
  refine z_cVF [] (zk_RX8_89 _ rfl) dX8_pushes_6 o1 (by decide) rfl rfl (Nat.le_of_ble_eq_true rfl) (Nat.le_of_ble_eq_true rfl) (Nat.le_of_ble_eq_true rfl) (Nat.le_of_ble_eq_true rfl) (Nat.le_of_ble_eq_true rfl) h (fun x2 h => ?_)
  refine z_icmp_ge dX8_pushes_9 (tgt := 46) (by decide) (fun c4 => ?_) (fun c4 => ?_)
  · have h := h.1 c4
    refine z_lload_n 1 dX8_pushes_46 rfl ?_
    exact z_retFJ dX8_pushes_47 rfl h
  · have h := h.2 c4
    refine z_lload_n 1 dX8_pushes_12 rfl ?_
    refine z_ldc2 (c := 65536) (zd_RX8_219 _ rfl) (by decide) ⟨by decide, by decide⟩ dX8_pushes_13 ?_
    refine z_lif_gt dX8_pushes_16 dX8_pushes_17 (tgt := 46) (by decide) (fun c5 => ?_) (fun c5 => ?_)
    · have h := h.1 c5
      refine z_lload_n 1 dX8_pushes_46 rfl ?_
      exact z_retFJ dX8_pushes_47 rfl h
    · have h := h.2 c5
      refine z_lload_n 1 dX8_pushes_20 rfl ?_
      refine z_aload_n 0 dX8_pushes_21 rfl ?_
      refine z_iload_n 2 dX8_pushes_22 rfl ?_
      refine z_cVF [ziv a3] (zk_RX8_137 _ rfl) dX8_pushes_23 o1 (by decide) rfl rfl (Nat.le_of_ble_eq_true rfl) (Nat.le_of_ble_eq_true rfl) (Nat.le_of_ble_eq_true rfl) (Nat.le_of_ble_eq_true rfl) (Nat.le_of_ble_eq_true rfl) h (fun x6 h => ?_)
      refine z_if_eq dX8_pushes_26 (tgt := 33) (by decide) (fun c8 => ?_) (fun c8 => ?_)
      · have h := h.1 c8
        refine z_aload_n 0 dX8_pushes_33 rfl ?_
        refine z_cVF [] (zk_RX8_96 _ rfl) dX8_pushes_34 o1 (by decide) rfl rfl (Nat.le_of_ble_eq_true rfl) (Nat.le_of_ble_eq_true rfl) (Nat.le_of_ble_eq_true rfl) (Nat.le_of_ble_eq_true rfl) (Nat.le_of_ble_eq_true rfl) h (fun x9 h => ?_)
        refine z_i2l dX8_pushes_37 ?_
        obtain ⟨o11, h⟩ := h
        refine z_lmul dX8_pushes_38 o11 ?_
        refine z_nameJ (fun x12 e13 => ?_)
        have h := h x12 e13
        refine z_lstore_n dX8_pushes_39 (by decide) (L' := [(0, zrv a0), (1, zjv x12), (3, ziv a3)]) [1, 0, 2] rfl ?_
        obtain ⟨o14, h⟩ := h
        refine z_iinc 2 dX8_pushes_40 rfl (by decide) o14 (L' := [(0, zrv a0), (1, zjv x12), (3, ziv (a3 + 1))]) [1, 2, 0] rfl ?_
        refine z_goto (tgt := 4) dX8_pushes_43 (by decide) ?_
        exact h
      · have h := h.2 c8
        refine z_lconst (v := 1) dX8_pushes_29 (by decide) ⟨by decide, by decide⟩ ?_
        refine z_goto (tgt := 38) dX8_pushes_30 (by decide) ?_
        obtain ⟨o15, h⟩ := h
        refine z_lmul dX8_pushes_38 o15 ?_
        refine z_nameJ (fun x16 e17 => ?_)
        have h := h x16 e17
        refine z_lstore_n dX8_pushes_39 (by decide) (L' := [(0, zrv a0), (1, zjv x16), (3, ziv a3)]) [1, 0, 2] rfl ?_
        obtain ⟨o18, h⟩ := h
        refine z_iinc 2 dX8_pushes_40 rfl (by decide) o18 (L' := [(0, zrv a0), (1, zjv x16), (3, ziv (a3 + 1))]) [1, 2, 0] rfl ?_
        refine z_goto (tgt := 4) dX8_pushes_43 (by decide) ?_
        exact h
set_option maxRecDepth 100000 in
set_option maxHeartbeats 4000000 in
theorem en_X8_pushes {E : zE} {F : Int → Prop} {S : zS} {a0 : Int} {V : zH}
    (h : ∀ X : zX, zl_X8_pushes_4 E X F S a0 1 0 V) :
    SpG E 1 zm_X8_pushes [zrv a0] S V F := by
  refine Sp.of (plainFor_of_name (by decide +kernel)) (Nat.le_of_ble_eq_true rfl) (fun hok X => ?_)
  have h := h X
  show Zr E X (zRoom 1 0 0) zm_X8_pushes (zQm E X (zpG S V F) 0 0) 0 0 0 [(0, zrv a0)] [] S V
  refine z_lconst (v := 1) dX8_pushes_0 (by decide) ⟨by decide, by decide⟩ ?_
  refine z_lstore_n dX8_pushes_1 (by decide) (L' := [(0, zrv a0), (1, zjv 1)]) [1, 0] rfl ?_
  refine z_iconst dX8_pushes_2 ⟨by decide, by decide⟩ ?_
  refine z_istore_n dX8_pushes_3 (by decide) (L' := [(0, zrv a0), (1, zjv 1), (3, ziv 0)]) [1, 2, 0] rfl ?_
  exact h
def zl_X8_numberOf_9 (E : zE) (X : zX) (F : Int → Prop) (S : zS) (a0 a1 a2 : Int) (V : zH) : Prop := Zr E X (zRoom 1 0 0) zm_X8_numberOf (zQm E X (zpF S V F) 0 0) 0 0 9 [(0, zrv a0), (1, ziv a1), (2, ziv a2)] [] S V
set_option maxRecDepth 100000 in
set_option maxHeartbeats 4000000 in
theorem wp_X8_numberOf_9 {E : zE} {X : zX} {F : Int → Prop} {S : zS} {a0 a1 a2 : Int} {V : zH}
    (h : ((a2 < 0) → (F a1)) ∧ ((0 ≤ a2) → (((S a0).1 = 11) ∧ SpF E 0 zm_X8_isStuck [zrv a0, ziv a2] S V (fun x3 => ((x3 ≠ 0) → ((z32 (a2 + (-1))) ∧ zl_X8_numberOf_9 E X F S a0 a1 (a2 + (-1)) V)) ∧ ((x3 = 0) → (SpF E 0 zm_X8_pivot [zrv a0, ziv a2] S V (fun x7 => (z32 (a1 * x7)) ∧ ((S (V a0 16)).1 = 1) ∧ ((0 : Int) ≤ a2 ∧ a2 < (S (V a0 16)).2) ∧ (z32 ((a1 * x7) + (V (V a0 16) a2))) ∧ ∀ x13 : Int, x13 = (a1 * x7) + (V (V a0 16) a2) → (z32 (a2 + (-1))) ∧ zl_X8_numberOf_9 E X F S a0 x13 (a2 + (-1)) V))))))) :
    zl_X8_numberOf_9 E X F S a0 a1 a2 V := by
  unfold zl_X8_numberOf_9
  refine z_iload_n 2 dX8_numberOf_9 rfl ?_
  refine z_if_lt dX8_numberOf_10 (tgt := 42) (by decide) (fun c1 => ?_) (fun c1 => ?_)
  · have h := h.1 c1
    refine z_iload_n 1 dX8_numberOf_42 rfl ?_
    exact z_retFI dX8_numberOf_43 rfl h
  · have h := h.2 c1
    refine z_aload_n 0 dX8_numberOf_13 rfl ?_
    refine z_iload_n 2 dX8_numberOf_14 rfl ?_
    obtain ⟨o2, h⟩ := h
    refine z_cVF [ziv a2] (zk_RX8_137 _ rfl) dX8_numberOf_15 o2 (by decide) rfl rfl (Nat.le_of_ble_eq_true rfl) (Nat.le_of_ble_eq_true rfl) (Nat.le_of_ble_eq_true rfl) (Nat.le_of_ble_eq_true rfl) (Nat.le_of_ble_eq_true rfl) h (fun x3 h => ?_)
    refine z_if_ne dX8_numberOf_18 (tgt := 36) (by decide) (fun c5 => ?_) (fun c5 => ?_)
    · have h := h.1 c5
      obtain ⟨o6, h⟩ := h
      refine z_iinc 2 dX8_numberOf_36 rfl (by decide) o6 (L' := [(0, zrv a0), (1, ziv a1), (2, ziv (a2 + (-1)))]) [1, 2, 0] rfl ?_
      refine z_goto (tgt := 9) dX8_numberOf_39 (by decide) ?_
      exact h
    · have h := h.2 c5
      refine z_iload_n 1 dX8_numberOf_21 rfl ?_
      refine z_aload_n 0 dX8_numberOf_22 rfl ?_
      refine z_iload_n 2 dX8_numberOf_23 rfl ?_
      refine z_cVF [ziv a2] (zk_RX8_181 _ rfl) dX8_numberOf_24 o2 (by decide) rfl rfl (Nat.le_of_ble_eq_true rfl) (Nat.le_of_ble_eq_true rfl) (Nat.le_of_ble_eq_true rfl) (Nat.le_of_ble_eq_true rfl) (Nat.le_of_ble_eq_true rfl) h (fun x7 h => ?_)
      obtain ⟨o9, h⟩ := h
      refine z_imul dX8_numberOf_27 o9 ?_
      refine z_aload_n 0 dX8_numberOf_28 rfl ?_
      refine zgf_8_16 dX8_numberOf_29 (zf_RX8_40 _ rfl) o2 ?_
      refine z_iload_n 2 dX8_numberOf_32 rfl ?_
      obtain ⟨o10, h⟩ := h
      obtain ⟨o11, h⟩ := h
      refine z_iald dX8_numberOf_33 o10 o11 ?_
      obtain ⟨o12, h⟩ := h
      refine z_iadd dX8_numberOf_34 o12 ?_
      refine z_nameI (fun x13 e14 => ?_)
      have h := h x13 e14
      refine z_istore_n dX8_numberOf_35 (by decide) (L' := [(0, zrv a0), (1, ziv x13), (2, ziv a2)]) [1, 0, 2] rfl ?_
      obtain ⟨o15, h⟩ := h
      refine z_iinc 2 dX8_numberOf_36 rfl (by decide) o15 (L' := [(0, zrv a0), (1, ziv x13), (2, ziv (a2 + (-1)))]) [1, 2, 0] rfl ?_
      refine z_goto (tgt := 9) dX8_numberOf_39 (by decide) ?_
      exact h
set_option maxRecDepth 100000 in
set_option maxHeartbeats 4000000 in
theorem en_X8_numberOf {E : zE} {F : Int → Prop} {S : zS} {a0 : Int} {V : zH}
    (h : ∀ X : zX, ((S a0).1 = 11) ∧ SpF E 0 zm_X8_buttons [zrv a0] S V (fun x2 => (z32 (x2 - 1)) ∧ zl_X8_numberOf_9 E X F S a0 0 (x2 - 1) V)) :
    SpF E 1 zm_X8_numberOf [zrv a0] S V F := by
  refine Sp.of (plainFor_of_name (by decide +kernel)) (Nat.le_of_ble_eq_true rfl) (fun hok X => ?_)
  have h := h X
  show Zr E X (zRoom 1 0 0) zm_X8_numberOf (zQm E X (zpF S V F) 0 0) 0 0 0 [(0, zrv a0)] [] S V
  refine z_iconst dX8_numberOf_0 ⟨by decide, by decide⟩ ?_
  refine z_istore_n dX8_numberOf_1 (by decide) (L' := [(0, zrv a0), (1, ziv 0)]) [1, 0] rfl ?_
  refine z_aload_n 0 dX8_numberOf_2 rfl ?_
  obtain ⟨o1, h⟩ := h
  refine z_cVF [] (zk_RX8_89 _ rfl) dX8_numberOf_3 o1 (by decide) rfl rfl (Nat.le_of_ble_eq_true rfl) (Nat.le_of_ble_eq_true rfl) (Nat.le_of_ble_eq_true rfl) (Nat.le_of_ble_eq_true rfl) (Nat.le_of_ble_eq_true rfl) h (fun x2 h => ?_)
  refine z_iconst dX8_numberOf_6 ⟨by decide, by decide⟩ ?_
  obtain ⟨o4, h⟩ := h
  refine z_isub dX8_numberOf_7 o4 ?_
  refine z_istore_n dX8_numberOf_8 (by decide) (L' := [(0, zrv a0), (1, ziv 0), (2, ziv (x2 - 1))]) [1, 2, 0] rfl ?_
  exact h
def zl_X8_pushing_4 (E : zE) (X : zX) (F : zH → Prop) (S : zS) (a0 a2 a3 : Int) (V : zH) : Prop := Zr E X (zRoom 1 0 0) zm_X8_pushing (zQm E X (zpV S F) 0 0) 0 0 4 [(0, zrv a0), (2, ziv a2), (3, ziv a3)] [] S V
set_option maxRecDepth 100000 in
set_option maxHeartbeats 4000000 in
theorem wp_X8_pushing_4 {E : zE} {X : zX} {F : zH → Prop} {S : zS} {a0 a2 a3 : Int} {V : zH}
    (h : ((S a0).1 = 11) ∧ SpF E 0 zm_X8_buttons [zrv a0] S V (fun x2 => ((x2 ≤ a3) → (F V)) ∧ ((a3 < x2) → (SpF E 0 zm_X8_isStuck [zrv a0, ziv a3] S V (fun x5 => ((x5 = 0) → (SpF E 0 zm_X8_m [zrv a0] S V (fun x8 => ((0 : Int) ≤ a2) ∧ ((0 : Int) < x8) ∧ ((S (V a0 16)).1 = 1) ∧ ((0 : Int) ≤ a3 ∧ a3 < (S (V a0 16)).2) ∧ ∀ V14 : zH, V14 = zput V (V a0 16) a3 (a2 % x8) → SpF E 0 zm_X8_isStuck [zrv a0, ziv a3] S V14 (fun x16 => ((x16 = 0) → (SpF E 0 zm_X8_m [zrv a0] S V14 (fun x19 => ((0 : Int) < x19) ∧ ∀ x22 : Int, x22 = a2 / x19 → (z32 (a3 + 1)) ∧ zl_X8_pushing_4 E X F S a0 x22 (a3 + 1) V14))) ∧ ((x16 ≠ 0) → ((z32 (a3 + 1)) ∧ zl_X8_pushing_4 E X F S a0 a2 (a3 + 1) V14)))))) ∧ ((x5 ≠ 0) → (((S (V a0 16)).1 = 1) ∧ ((0 : Int) ≤ a3 ∧ a3 < (S (V a0 16)).2) ∧ ∀ V28 : zH, V28 = zput V (V a0 16) a3 0 → SpF E 0 zm_X8_isStuck [zrv a0, ziv a3] S V28 (fun x30 => ((x30 = 0) → (SpF E 0 zm_X8_m [zrv a0] S V28 (fun x33 => ((0 : Int) ≤ a2) ∧ ((0 : Int) < x33) ∧ ∀ x37 : Int, x37 = a2 / x33 → (z32 (a3 + 1)) ∧ zl_X8_pushing_4 E X F S a0 x37 (a3 + 1) V28))) ∧ ((x30 ≠ 0) → ((z32 (a3 + 1)) ∧ zl_X8_pushing_4 E X F S a0 a2 (a3 + 1) V28)))))))))) :
    zl_X8_pushing_4 E X F S a0 a2 a3 V := by
  unfold zl_X8_pushing_4
  refine z_iload_n 2 dX8_pushing_4 rfl ?_
  refine z_aload_n 0 dX8_pushing_5 rfl ?_
  obtain ⟨o1, h⟩ := h
  refine z_cVF [] (zk_RX8_89 _ rfl) dX8_pushing_6 o1 (by decide) rfl rfl (Nat.le_of_ble_eq_true rfl) (Nat.le_of_ble_eq_true rfl) (Nat.le_of_ble_eq_true rfl) (Nat.le_of_ble_eq_true rfl) (Nat.le_of_ble_eq_true rfl) h (fun x2 h => ?_)
  refine z_icmp_ge dX8_pushing_9 (tgt := 61) (by decide) (fun c4 => ?_) (fun c4 => ?_)
  · have h := h.1 c4
    exact z_retV dX8_pushing_61 rfl h
  · have h := h.2 c4
    refine z_aload_n 0 dX8_pushing_12 rfl ?_
    refine zgf_8_16 dX8_pushing_13 (zf_RX8_40 _ rfl) o1 ?_
    refine z_iload_n 2 dX8_pushing_16 rfl ?_
    refine z_aload_n 0 dX8_pushing_17 rfl ?_
    refine z_iload_n 2 dX8_pushing_18 rfl ?_
    refine z_cVF [ziv a3] (zk_RX8_137 _ rfl) dX8_pushing_19 o1 (by decide) rfl rfl (Nat.le_of_ble_eq_true rfl) (Nat.le_of_ble_eq_true rfl) (Nat.le_of_ble_eq_true rfl) (Nat.le_of_ble_eq_true rfl) (Nat.le_of_ble_eq_true rfl) h (fun x5 h => ?_)
    refine z_if_eq dX8_pushing_22 (tgt := 29) (by decide) (fun c7 => ?_) (fun c7 => ?_)
    · have h := h.1 c7
      refine z_iload_n 1 dX8_pushing_29 rfl ?_
      refine z_aload_n 0 dX8_pushing_30 rfl ?_
      refine z_cVF [] (zk_RX8_96 _ rfl) dX8_pushing_31 o1 (by decide) rfl rfl (Nat.le_of_ble_eq_true rfl) (Nat.le_of_ble_eq_true rfl) (Nat.le_of_ble_eq_true rfl) (Nat.le_of_ble_eq_true rfl) (Nat.le_of_ble_eq_true rfl) h (fun x8 h => ?_)
      obtain ⟨o10, h⟩ := h
      obtain ⟨o11, h⟩ := h
      refine z_irem dX8_pushing_34 o10 o11 ?_
      obtain ⟨o12, h⟩ := h
      obtain ⟨o13, h⟩ := h
      refine z_iast dX8_pushing_35 o12 o13 ?_
      refine z_nameV (fun V14 e15 => ?_)
      have h := h V14 e15
      refine z_aload_n 0 dX8_pushing_36 rfl ?_
      refine z_iload_n 2 dX8_pushing_37 rfl ?_
      refine z_cVF [ziv a3] (zk_RX8_137 _ rfl) dX8_pushing_38 o1 (by decide) rfl rfl (Nat.le_of_ble_eq_true rfl) (Nat.le_of_ble_eq_true rfl) (Nat.le_of_ble_eq_true rfl) (Nat.le_of_ble_eq_true rfl) (Nat.le_of_ble_eq_true rfl) h (fun x16 h => ?_)
      refine z_if_eq dX8_pushing_41 (tgt := 48) (by decide) (fun c18 => ?_) (fun c18 => ?_)
      · have h := h.1 c18
        refine z_iload_n 1 dX8_pushing_48 rfl ?_
        refine z_aload_n 0 dX8_pushing_49 rfl ?_
        refine z_cVF [] (zk_RX8_96 _ rfl) dX8_pushing_50 o1 (by decide) rfl rfl (Nat.le_of_ble_eq_true rfl) (Nat.le_of_ble_eq_true rfl) (Nat.le_of_ble_eq_true rfl) (Nat.le_of_ble_eq_true rfl) (Nat.le_of_ble_eq_true rfl) h (fun x19 h => ?_)
        obtain ⟨o21, h⟩ := h
        refine z_idiv dX8_pushing_53 o10 o21 ?_
        refine z_nameI (fun x22 e23 => ?_)
        have h := h x22 e23
        refine z_istore_n dX8_pushing_54 (by decide) (L' := [(0, zrv a0), (2, ziv x22), (3, ziv a3)]) [1, 0, 2] rfl ?_
        obtain ⟨o24, h⟩ := h
        refine z_iinc 2 dX8_pushing_55 rfl (by decide) o24 (L' := [(0, zrv a0), (2, ziv x22), (3, ziv (a3 + 1))]) [1, 2, 0] rfl ?_
        refine z_goto (tgt := 4) dX8_pushing_58 (by decide) ?_
        exact h
      · have h := h.2 c18
        refine z_iload_n 1 dX8_pushing_44 rfl ?_
        refine z_goto (tgt := 54) dX8_pushing_45 (by decide) ?_
        refine z_istore_n dX8_pushing_54 (by decide) (L' := [(0, zrv a0), (2, ziv a2), (3, ziv a3)]) [1, 0, 2] rfl ?_
        obtain ⟨o25, h⟩ := h
        refine z_iinc 2 dX8_pushing_55 rfl (by decide) o25 (L' := [(0, zrv a0), (2, ziv a2), (3, ziv (a3 + 1))]) [1, 2, 0] rfl ?_
        refine z_goto (tgt := 4) dX8_pushing_58 (by decide) ?_
        exact h
    · have h := h.2 c7
      refine z_iconst dX8_pushing_25 ⟨by decide, by decide⟩ ?_
      refine z_goto (tgt := 35) dX8_pushing_26 (by decide) ?_
      obtain ⟨o26, h⟩ := h
      obtain ⟨o27, h⟩ := h
      refine z_iast dX8_pushing_35 o26 o27 ?_
      refine z_nameV (fun V28 e29 => ?_)
      have h := h V28 e29
      refine z_aload_n 0 dX8_pushing_36 rfl ?_
      refine z_iload_n 2 dX8_pushing_37 rfl ?_
      refine z_cVF [ziv a3] (zk_RX8_137 _ rfl) dX8_pushing_38 o1 (by decide) rfl rfl (Nat.le_of_ble_eq_true rfl) (Nat.le_of_ble_eq_true rfl) (Nat.le_of_ble_eq_true rfl) (Nat.le_of_ble_eq_true rfl) (Nat.le_of_ble_eq_true rfl) h (fun x30 h => ?_)
      refine z_if_eq dX8_pushing_41 (tgt := 48) (by decide) (fun c32 => ?_) (fun c32 => ?_)
      · have h := h.1 c32
        refine z_iload_n 1 dX8_pushing_48 rfl ?_
        refine z_aload_n 0 dX8_pushing_49 rfl ?_
        refine z_cVF [] (zk_RX8_96 _ rfl) dX8_pushing_50 o1 (by decide) rfl rfl (Nat.le_of_ble_eq_true rfl) (Nat.le_of_ble_eq_true rfl) (Nat.le_of_ble_eq_true rfl) (Nat.le_of_ble_eq_true rfl) (Nat.le_of_ble_eq_true rfl) h (fun x33 h => ?_)
        obtain ⟨o35, h⟩ := h
        obtain ⟨o36, h⟩ := h
        refine z_idiv dX8_pushing_53 o35 o36 ?_
        refine z_nameI (fun x37 e38 => ?_)
        have h := h x37 e38
        refine z_istore_n dX8_pushing_54 (by decide) (L' := [(0, zrv a0), (2, ziv x37), (3, ziv a3)]) [1, 0, 2] rfl ?_
        obtain ⟨o39, h⟩ := h
        refine z_iinc 2 dX8_pushing_55 rfl (by decide) o39 (L' := [(0, zrv a0), (2, ziv x37), (3, ziv (a3 + 1))]) [1, 2, 0] rfl ?_
        refine z_goto (tgt := 4) dX8_pushing_58 (by decide) ?_
        exact h
      · have h := h.2 c32
        refine z_iload_n 1 dX8_pushing_44 rfl ?_
        refine z_goto (tgt := 54) dX8_pushing_45 (by decide) ?_
        refine z_istore_n dX8_pushing_54 (by decide) (L' := [(0, zrv a0), (2, ziv a2), (3, ziv a3)]) [1, 0, 2] rfl ?_
        obtain ⟨o40, h⟩ := h
        refine z_iinc 2 dX8_pushing_55 rfl (by decide) o40 (L' := [(0, zrv a0), (2, ziv a2), (3, ziv (a3 + 1))]) [1, 2, 0] rfl ?_
        refine z_goto (tgt := 4) dX8_pushing_58 (by decide) ?_
        exact h
set_option maxRecDepth 100000 in
set_option maxHeartbeats 4000000 in
theorem en_X8_pushing {E : zE} {F : zH → Prop} {S : zS} {a0 a1 : Int} {V : zH}
    (h : z32 a1 → ∀ X : zX, zl_X8_pushing_4 E X F S a0 a1 0 V) :
    SpV E 1 zm_X8_pushing [zrv a0, ziv a1] S V F := by
  refine Sp.of (plainFor_of_name (by decide +kernel)) (Nat.le_of_ble_eq_true rfl) (fun hok X => ?_)
  have h := h (hok _ (List.mem_cons_of_mem _ (List.mem_cons_self))) X
  show Zr E X (zRoom 1 0 0) zm_X8_pushing (zQm E X (zpV S F) 0 0) 0 0 0 [(0, zrv a0), (1, ziv a1)] [] S V
  refine z_iload_n 1 dX8_pushing_0 rfl ?_
  refine z_istore_n dX8_pushing_1 (by decide) (L' := [(0, zrv a0), (1, ziv a1), (2, ziv a1)]) [1, 2, 0] rfl ?_
  refine z_iconst dX8_pushing_2 ⟨by decide, by decide⟩ ?_
  refine z_istore_n dX8_pushing_3 (by decide) (L' := [(0, zrv a0), (1, ziv a1), (2, ziv a1), (3, ziv 0)]) [1, 2, 3, 0] rfl ?_
  refine z_loc (L' := [(0, zrv a0), (2, ziv a1), (3, ziv 0)]) [0, 2, 3] rfl ?_
  exact h
def zl_X8_worst_49 (E : zE) (X : zX) (F : Int → zH → Prop) (S : zS) (a0 a1 a3 a4 a5 : Int) (V : zH) : Prop := Zr E X (zRoom 6 0 0) zm_X8_worst (zQm E X (zpJ S F) 0 0) 0 0 49 [(0, zrv a0), (1, zjv a1), (3, ziv a3), (4, ziv a4), (5, ziv a5)] [] S V
def zl_X8_worst_75 (E : zE) (X : zX) (F : Int → zH → Prop) (S : zS) (a0 a1 a3 a5 : Int) (V : zH) : Prop := Zr E X (zRoom 6 0 0) zm_X8_worst (zQm E X (zpJ S F) 0 0) 0 0 75 [(0, zrv a0), (1, zjv a1), (3, ziv a3), (5, ziv a5)] [] S V
def zl_X8_worst_139 (E : zE) (X : zX) (F : Int → zH → Prop) (S : zS) (a0 a1 a3 a5 a7 : Int) (V : zH) : Prop := Zr E X (zRoom 6 0 0) zm_X8_worst (zQm E X (zpJ S F) 0 0) 0 0 139 [(0, zrv a0), (1, zjv a1), (3, ziv a3), (5, zjv a5), (7, ziv a7)] [] S V
def zl_X8_worst_223 (E : zE) (X : zX) (F : Int → zH → Prop) (S : zS) (a0 a1 a3 a5 a7 a10 : Int) (V : zH) : Prop := Zr E X (zRoom 6 0 0) zm_X8_worst (zQm E X (zpJ S F) 0 0) 0 0 223 [(0, zrv a0), (1, zjv a1), (3, ziv a3), (5, zjv a5), (7, ziv a7), (10, ziv a10)] [] S V
def zl_X8_worst_269 (E : zE) (X : zX) (F : Int → zH → Prop) (S : zS) (a0 a5 a7 : Int) (V : zH) : Prop := Zr E X (zRoom 6 0 0) zm_X8_worst (zQm E X (zpJ S F) 0 0) 0 0 269 [(0, zrv a0), (5, zjv a5), (7, ziv a7)] [] S V
set_option maxRecDepth 100000 in
set_option maxHeartbeats 4000000 in
theorem wp_X8_worst_49 {E : zE} {X : zX} {F : Int → zH → Prop} {S : zS} {a0 a1 a3 a4 a5 : Int} {V : zH}
    (h : ((a4 ≤ a5) → (zl_X8_worst_75 E X F S a0 a1 a3 0 V)) ∧ ((a5 < a4) → (((S a0).1 = 11) ∧ ((S (V a0 22)).1 = 2) ∧ ((0 : Int) ≤ a5 ∧ a5 < (S (V a0 22)).2) ∧ ∀ V5 : zH, V5 = zput V (V a0 22) a5 9223372036854775807 → (z32 (a5 + 1)) ∧ zl_X8_worst_49 E X F S a0 a1 a3 a4 (a5 + 1) V5))) :
    zl_X8_worst_49 E X F S a0 a1 a3 a4 a5 V := by
  unfold zl_X8_worst_49
  refine z_iload 4 dX8_worst_49 rfl ?_
  refine z_iload 3 dX8_worst_51 rfl ?_
  refine z_icmp_ge dX8_worst_53 (tgt := 72) (by decide) (fun c1 => ?_) (fun c1 => ?_)
  · have h := h.1 c1
    refine z_iconst dX8_worst_72 ⟨by decide, by decide⟩ ?_
    refine z_istore dX8_worst_73 (by decide) (L' := [(0, zrv a0), (1, zjv a1), (3, ziv a3), (4, ziv a4), (5, ziv 0)]) [1, 2, 3, 4, 0] rfl ?_
    refine z_loc (L' := [(0, zrv a0), (1, zjv a1), (3, ziv a3), (5, ziv 0)]) [0, 1, 2, 4] rfl ?_
    exact h
  · have h := h.2 c1
    refine z_aload_n 0 dX8_worst_56 rfl ?_
    obtain ⟨o2, h⟩ := h
    refine zgf_8_22 dX8_worst_57 (zf_RX8_50 _ rfl) o2 ?_
    refine z_iload 4 dX8_worst_60 rfl ?_
    refine z_ldc2 (c := 9223372036854775807) (zd_RX8_241 _ rfl) (by decide) ⟨by decide, by decide⟩ dX8_worst_62 ?_
    obtain ⟨o3, h⟩ := h
    obtain ⟨o4, h⟩ := h
    refine z_last dX8_worst_65 o3 o4 ?_
    refine z_nameV (fun V5 e6 => ?_)
    have h := h V5 e6
    obtain ⟨o7, h⟩ := h
    refine z_iinc 4 dX8_worst_66 rfl (by decide) o7 (L' := [(0, zrv a0), (1, zjv a1), (3, ziv a3), (4, ziv a4), (5, ziv (a5 + 1))]) [1, 2, 3, 4, 0] rfl ?_
    refine z_goto (tgt := 49) dX8_worst_69 (by decide) ?_
    exact h
set_option maxRecDepth 100000 in
set_option maxHeartbeats 4000000 in
theorem wp_X8_worst_75 {E : zE} {X : zX} {F : Int → zH → Prop} {S : zS} {a0 a1 a3 a5 : Int} {V : zH}
    (h : ((a1 ≤ a5) → (zl_X8_worst_139 E X F S a0 a1 a3 (-1) 0 V)) ∧ ((a5 < a1) → (((S a0).1 = 11) ∧ SpV E 1 zm_X8_pushing [zrv a0, ziv a5] S V (fun V4 => SpG E 1 zm_X8_costOf [zrv a0] S V4 (fun x5 => SpV E 1 zm_X8_lower [zrv a0, ziv a3] S V4 (fun V8 => SpF E 1 zm_X8_numberOf [zrv a0] S V8 (fun x9 => ((S (V8 a0 22)).1 = 2) ∧ ((0 : Int) ≤ x9 ∧ x9 < (S (V8 a0 22)).2) ∧ SpG E 0 zm_J9_min_f86c9 [zjv (V8 (V8 a0 22) x9), zjv x5] S V8 (fun x13 => ∀ V15 : zH, V15 = zput V8 (V8 a0 22) x9 x13 → (z32 (a5 + 1)) ∧ zl_X8_worst_75 E X F S a0 a1 a3 (a5 + 1) V15)))))))) :
    zl_X8_worst_75 E X F S a0 a1 a3 a5 V := by
  unfold zl_X8_worst_75
  refine z_iload 3 dX8_worst_75 rfl ?_
  refine z_i2l dX8_worst_77 ?_
  refine z_lload_n 1 dX8_worst_78 rfl ?_
  refine z_lif_ge dX8_worst_79 dX8_worst_80 (tgt := 131) (by decide) (fun c1 => ?_) (fun c1 => ?_)
  · have h := h.1 c1
    refine z_ldc2 (c := (-1)) (zd_RX8_221 _ rfl) (by decide) ⟨by decide, by decide⟩ dX8_worst_131 ?_
    refine z_lstore dX8_worst_134 (by decide) (L' := [(0, zrv a0), (1, zjv a1), (3, ziv a3), (5, zjv (-1))]) [1, 2, 3, 0] rfl ?_
    refine z_iconst dX8_worst_136 ⟨by decide, by decide⟩ ?_
    refine z_istore dX8_worst_137 (by decide) (L' := [(0, zrv a0), (1, zjv a1), (3, ziv a3), (5, zjv (-1)), (7, ziv 0)]) [1, 2, 3, 4, 0] rfl ?_
    exact h
  · have h := h.2 c1
    refine z_aload_n 0 dX8_worst_83 rfl ?_
    refine z_iload 3 dX8_worst_84 rfl ?_
    obtain ⟨o2, h⟩ := h
    refine z_cVV [ziv a5] (zk_RX8_243 _ rfl) dX8_worst_86 o2 (by decide) rfl rfl (Nat.le_of_ble_eq_true rfl) (Nat.le_of_ble_eq_true rfl) (Nat.le_of_ble_eq_true rfl) (Nat.le_of_ble_eq_true rfl) (Nat.le_of_ble_eq_true rfl) h (fun V4 h => ?_)
    refine z_aload_n 0 dX8_worst_89 rfl ?_
    refine z_cVG [] (zk_RX8_229 _ rfl) dX8_worst_90 o2 (by decide) rfl rfl (Nat.le_of_ble_eq_true rfl) (Nat.le_of_ble_eq_true rfl) (Nat.le_of_ble_eq_true rfl) (Nat.le_of_ble_eq_true rfl) (Nat.le_of_ble_eq_true rfl) h (fun x5 h => ?_)
    refine z_lstore dX8_worst_93 (by decide) (L' := [(0, zrv a0), (1, zjv a1), (3, ziv a3), (5, ziv a5), (6, zjv x5)]) [1, 2, 3, 4, 0] rfl ?_
    refine z_aload_n 0 dX8_worst_95 rfl ?_
    refine z_iload_n 2 dX8_worst_96 rfl ?_
    refine z_cVV [ziv a3] (zk_RX8_204 _ rfl) dX8_worst_97 o2 (by decide) rfl rfl (Nat.le_of_ble_eq_true rfl) (Nat.le_of_ble_eq_true rfl) (Nat.le_of_ble_eq_true rfl) (Nat.le_of_ble_eq_true rfl) (Nat.le_of_ble_eq_true rfl) h (fun V8 h => ?_)
    refine z_aload_n 0 dX8_worst_100 rfl ?_
    refine z_cVF [] (zk_RX8_246 _ rfl) dX8_worst_101 o2 (by decide) rfl rfl (Nat.le_of_ble_eq_true rfl) (Nat.le_of_ble_eq_true rfl) (Nat.le_of_ble_eq_true rfl) (Nat.le_of_ble_eq_true rfl) (Nat.le_of_ble_eq_true rfl) h (fun x9 h => ?_)
    refine z_istore dX8_worst_104 (by decide) (L' := [(0, zrv a0), (1, zjv a1), (3, ziv a3), (5, ziv a5), (6, zjv x5), (8, ziv x9)]) [1, 2, 3, 4, 5, 0] rfl ?_
    refine z_aload_n 0 dX8_worst_106 rfl ?_
    refine zgf_8_22 dX8_worst_107 (zf_RX8_50 _ rfl) o2 ?_
    refine z_iload 5 dX8_worst_110 rfl ?_
    refine z_aload_n 0 dX8_worst_112 rfl ?_
    refine zgf_8_22 dX8_worst_113 (zf_RX8_50 _ rfl) o2 ?_
    refine z_iload 5 dX8_worst_116 rfl ?_
    obtain ⟨o11, h⟩ := h
    obtain ⟨o12, h⟩ := h
    refine z_lald dX8_worst_118 o11 o12 ?_
    refine z_lload 4 dX8_worst_119 rfl ?_
    refine z_cSG [zjv (V8 (V8 a0 22) x9), zjv x5] (zk_RX8_249 _ rfl) dX8_worst_121 rfl rfl (Nat.le_of_ble_eq_true rfl) (Nat.le_of_ble_eq_true rfl) (Nat.le_of_ble_eq_true rfl) (Nat.le_of_ble_eq_true rfl) (Nat.le_of_ble_eq_true rfl) h (fun x13 h => ?_)
    refine z_last dX8_worst_124 o11 o12 ?_
    refine z_nameV (fun V15 e16 => ?_)
    have h := h V15 e16
    obtain ⟨o17, h⟩ := h
    refine z_iinc 3 dX8_worst_125 rfl (by decide) o17 (L' := [(0, zrv a0), (1, zjv a1), (3, ziv a3), (5, ziv (a5 + 1)), (6, zjv x5), (8, ziv x9)]) [1, 2, 3, 0, 4, 5] rfl ?_
    refine z_goto (tgt := 75) dX8_worst_128 (by decide) ?_
    refine z_loc (L' := [(0, zrv a0), (1, zjv a1), (3, ziv a3), (5, ziv (a5 + 1))]) [0, 1, 2, 3] rfl ?_
    exact h
set_option maxRecDepth 100000 in
set_option maxHeartbeats 4000000 in
theorem wp_X8_worst_139 {E : zE} {X : zX} {F : Int → zH → Prop} {S : zS} {a0 a1 a3 a5 a7 : Int} {V : zH}
    (h : ((a1 ≤ a7) → (((S a0).1 = 11) ∧ SpF E 0 zm_X8_n [zrv a0] S V (fun x3 => SpV E 0 zm_X8_tells [zrv a0, ziv x3, ziv 0] S V (fun V6 => zl_X8_worst_269 E X F S a0 a5 0 V6)))) ∧ ((a7 < a1) → (((S a0).1 = 11) ∧ SpV E 1 zm_X8_pushing [zrv a0, ziv a7] S V (fun V9 => SpV E 0 zm_X8_keepsRow [zrv a0, zrv (V9 a0 21), ziv a3] S V9 (fun V11 => SpV E 1 zm_X8_lower [zrv a0, ziv a3] S V11 (fun V13 => SpF E 0 zm_X8_isLikeRow [zrv a0, zrv (V13 a0 21), ziv a3] S V13 (fun x14 => ((x14 ≠ 0) → (SpF E 1 zm_X8_numberOf [zrv a0] S V13 (fun x17 => ((S (V13 a0 22)).1 = 2) ∧ ((0 : Int) ≤ x17 ∧ x17 < (S (V13 a0 22)).2) ∧ ∀ x21 : Int, x21 = V13 (V13 a0 22) x17 → ((a5 < x21) → (zl_X8_worst_223 E X F S a0 a1 a3 x21 a7 0 V13)) ∧ ((x21 ≤ a5) → (((x21 ≠ a5) → ((z32 (a7 + 1)) ∧ zl_X8_worst_139 E X F S a0 a1 a3 a5 (a7 + 1) V13)) ∧ ((x21 = a5) → (SpF E 5 zm_X8_isAhead [zrv a0] S V13 (fun x26 => ((x26 = 0) → ((z32 (a7 + 1)) ∧ zl_X8_worst_139 E X F S a0 a1 a3 a5 (a7 + 1) V13)) ∧ ((x26 ≠ 0) → (zl_X8_worst_223 E X F S a0 a1 a3 x21 a7 0 V13)))))))))) ∧ ((x14 = 0) → ((z32 (a7 + 1)) ∧ zl_X8_worst_139 E X F S a0 a1 a3 a5 (a7 + 1) V13))))))))) :
    zl_X8_worst_139 E X F S a0 a1 a3 a5 a7 V := by
  unfold zl_X8_worst_139
  refine z_iload 4 dX8_worst_139 rfl ?_
  refine z_i2l dX8_worst_141 ?_
  refine z_lload_n 1 dX8_worst_142 rfl ?_
  refine z_lif_ge dX8_worst_143 dX8_worst_144 (tgt := 257) (by decide) (fun c1 => ?_) (fun c1 => ?_)
  · have h := h.1 c1
    refine z_aload_n 0 dX8_worst_257 rfl ?_
    refine z_aload_n 0 dX8_worst_258 rfl ?_
    obtain ⟨o2, h⟩ := h
    refine z_cVF [] (zk_RX8_84 _ rfl) dX8_worst_259 o2 (by decide) rfl rfl (Nat.le_of_ble_eq_true rfl) (Nat.le_of_ble_eq_true rfl) (Nat.le_of_ble_eq_true rfl) (Nat.le_of_ble_eq_true rfl) (Nat.le_of_ble_eq_true rfl) h (fun x3 h => ?_)
    refine z_iconst dX8_worst_262 ⟨by decide, by decide⟩ ?_
    refine z_cVV [ziv x3, ziv 0] (zk_RX8_188 _ rfl) dX8_worst_263 o2 (by decide) rfl rfl (Nat.le_of_ble_eq_true rfl) (Nat.le_of_ble_eq_true rfl) (Nat.le_of_ble_eq_true rfl) (Nat.le_of_ble_eq_true rfl) (Nat.le_of_ble_eq_true rfl) h (fun V6 h => ?_)
    refine z_iconst dX8_worst_266 ⟨by decide, by decide⟩ ?_
    refine z_istore dX8_worst_267 (by decide) (L' := [(0, zrv a0), (1, zjv a1), (3, ziv a3), (5, zjv a5), (7, ziv 0)]) [1, 2, 3, 4, 0] rfl ?_
    refine z_loc (L' := [(0, zrv a0), (5, zjv a5), (7, ziv 0)]) [0, 3, 4] rfl ?_
    exact h
  · have h := h.2 c1
    refine z_aload_n 0 dX8_worst_147 rfl ?_
    refine z_iload 4 dX8_worst_148 rfl ?_
    obtain ⟨o7, h⟩ := h
    refine z_cVV [ziv a7] (zk_RX8_243 _ rfl) dX8_worst_150 o7 (by decide) rfl rfl (Nat.le_of_ble_eq_true rfl) (Nat.le_of_ble_eq_true rfl) (Nat.le_of_ble_eq_true rfl) (Nat.le_of_ble_eq_true rfl) (Nat.le_of_ble_eq_true rfl) h (fun V9 h => ?_)
    refine z_aload_n 0 dX8_worst_153 rfl ?_
    refine z_aload_n 0 dX8_worst_154 rfl ?_
    refine zgf_8_21 dX8_worst_155 (zf_RX8_46 _ rfl) o7 ?_
    refine z_iload_n 2 dX8_worst_158 rfl ?_
    refine z_cVV [zrv (V9 a0 21), ziv a3] (zk_RX8_232 _ rfl) dX8_worst_159 o7 (by decide) rfl rfl (Nat.le_of_ble_eq_true rfl) (Nat.le_of_ble_eq_true rfl) (Nat.le_of_ble_eq_true rfl) (Nat.le_of_ble_eq_true rfl) (Nat.le_of_ble_eq_true rfl) h (fun V11 h => ?_)
    refine z_aload_n 0 dX8_worst_162 rfl ?_
    refine z_iload_n 2 dX8_worst_163 rfl ?_
    refine z_cVV [ziv a3] (zk_RX8_204 _ rfl) dX8_worst_164 o7 (by decide) rfl rfl (Nat.le_of_ble_eq_true rfl) (Nat.le_of_ble_eq_true rfl) (Nat.le_of_ble_eq_true rfl) (Nat.le_of_ble_eq_true rfl) (Nat.le_of_ble_eq_true rfl) h (fun V13 h => ?_)
    refine z_aload_n 0 dX8_worst_167 rfl ?_
    refine z_aload_n 0 dX8_worst_168 rfl ?_
    refine zgf_8_21 dX8_worst_169 (zf_RX8_46 _ rfl) o7 ?_
    refine z_iload_n 2 dX8_worst_172 rfl ?_
    refine z_cVF [zrv (V13 a0 21), ziv a3] (zk_RX8_252 _ rfl) dX8_worst_173 o7 (by decide) rfl rfl (Nat.le_of_ble_eq_true rfl) (Nat.le_of_ble_eq_true rfl) (Nat.le_of_ble_eq_true rfl) (Nat.le_of_ble_eq_true rfl) (Nat.le_of_ble_eq_true rfl) h (fun x14 h => ?_)
    refine z_if_ne dX8_worst_176 (tgt := 182) (by decide) (fun c16 => ?_) (fun c16 => ?_)
    · have h := h.1 c16
      refine z_aload_n 0 dX8_worst_182 rfl ?_
      refine zgf_8_22 dX8_worst_183 (zf_RX8_50 _ rfl) o7 ?_
      refine z_aload_n 0 dX8_worst_186 rfl ?_
      refine z_cVF [] (zk_RX8_246 _ rfl) dX8_worst_187 o7 (by decide) rfl rfl (Nat.le_of_ble_eq_true rfl) (Nat.le_of_ble_eq_true rfl) (Nat.le_of_ble_eq_true rfl) (Nat.le_of_ble_eq_true rfl) (Nat.le_of_ble_eq_true rfl) h (fun x17 h => ?_)
      obtain ⟨o19, h⟩ := h
      obtain ⟨o20, h⟩ := h
      refine z_lald dX8_worst_190 o19 o20 ?_
      refine z_nameJ (fun x21 e22 => ?_)
      have h := h x21 e22
      refine z_lstore dX8_worst_191 (by decide) (L' := [(0, zrv a0), (1, zjv a1), (3, ziv a3), (5, zjv a5), (7, ziv a7), (8, zjv x21)]) [1, 2, 3, 4, 5, 0] rfl ?_
      refine z_lload 5 dX8_worst_193 rfl ?_
      refine z_lload 3 dX8_worst_195 rfl ?_
      refine z_lif_gt dX8_worst_197 dX8_worst_198 (tgt := 216) (by decide) (fun c23 => ?_) (fun c23 => ?_)
      · have h := h.1 c23
        refine z_lload 5 dX8_worst_216 rfl ?_
        refine z_lstore dX8_worst_218 (by decide) (L' := [(0, zrv a0), (1, zjv a1), (3, ziv a3), (5, zjv x21), (7, ziv a7), (8, zjv x21)]) [1, 2, 3, 0, 4, 5] rfl ?_
        refine z_iconst dX8_worst_220 ⟨by decide, by decide⟩ ?_
        refine z_istore dX8_worst_221 (by decide) (L' := [(0, zrv a0), (1, zjv a1), (3, ziv a3), (5, zjv x21), (7, ziv a7), (8, zjv x21), (10, ziv 0)]) [1, 2, 3, 4, 5, 6, 0] rfl ?_
        refine z_loc (L' := [(0, zrv a0), (1, zjv a1), (3, ziv a3), (5, zjv x21), (7, ziv a7), (10, ziv 0)]) [0, 1, 2, 3, 4, 6] rfl ?_
        exact h
      · have h := h.2 c23
        refine z_lload 5 dX8_worst_201 rfl ?_
        refine z_lload 3 dX8_worst_203 rfl ?_
        refine z_lif_ne dX8_worst_205 dX8_worst_206 (tgt := 251) (by decide) (fun c24 => ?_) (fun c24 => ?_)
        · have h := h.1 c24
          obtain ⟨o25, h⟩ := h
          refine z_iinc 4 dX8_worst_251 rfl (by decide) o25 (L' := [(0, zrv a0), (1, zjv a1), (3, ziv a3), (5, zjv a5), (7, ziv (a7 + 1)), (8, zjv x21)]) [1, 2, 3, 4, 0, 5] rfl ?_
          refine z_goto (tgt := 139) dX8_worst_254 (by decide) ?_
          refine z_loc (L' := [(0, zrv a0), (1, zjv a1), (3, ziv a3), (5, zjv a5), (7, ziv (a7 + 1))]) [0, 1, 2, 3, 4] rfl ?_
          exact h
        · have h := h.2 c24
          refine z_aload_n 0 dX8_worst_209 rfl ?_
          refine z_cVF [] (zk_RX8_256 _ rfl) dX8_worst_210 o7 (by decide) rfl rfl (Nat.le_of_ble_eq_true rfl) (Nat.le_of_ble_eq_true rfl) (Nat.le_of_ble_eq_true rfl) (Nat.le_of_ble_eq_true rfl) (Nat.le_of_ble_eq_true rfl) h (fun x26 h => ?_)
          refine z_if_eq dX8_worst_213 (tgt := 251) (by decide) (fun c28 => ?_) (fun c28 => ?_)
          · have h := h.1 c28
            obtain ⟨o29, h⟩ := h
            refine z_iinc 4 dX8_worst_251 rfl (by decide) o29 (L' := [(0, zrv a0), (1, zjv a1), (3, ziv a3), (5, zjv a5), (7, ziv (a7 + 1)), (8, zjv x21)]) [1, 2, 3, 4, 0, 5] rfl ?_
            refine z_goto (tgt := 139) dX8_worst_254 (by decide) ?_
            refine z_loc (L' := [(0, zrv a0), (1, zjv a1), (3, ziv a3), (5, zjv a5), (7, ziv (a7 + 1))]) [0, 1, 2, 3, 4] rfl ?_
            exact h
          · have h := h.2 c28
            refine z_lload 5 dX8_worst_216 rfl ?_
            refine z_lstore dX8_worst_218 (by decide) (L' := [(0, zrv a0), (1, zjv a1), (3, ziv a3), (5, zjv x21), (7, ziv a7), (8, zjv x21)]) [1, 2, 3, 0, 4, 5] rfl ?_
            refine z_iconst dX8_worst_220 ⟨by decide, by decide⟩ ?_
            refine z_istore dX8_worst_221 (by decide) (L' := [(0, zrv a0), (1, zjv a1), (3, ziv a3), (5, zjv x21), (7, ziv a7), (8, zjv x21), (10, ziv 0)]) [1, 2, 3, 4, 5, 6, 0] rfl ?_
            refine z_loc (L' := [(0, zrv a0), (1, zjv a1), (3, ziv a3), (5, zjv x21), (7, ziv a7), (10, ziv 0)]) [0, 1, 2, 3, 4, 6] rfl ?_
            exact h
    · have h := h.2 c16
      refine z_goto (tgt := 251) dX8_worst_179 (by decide) ?_
      obtain ⟨o30, h⟩ := h
      refine z_iinc 4 dX8_worst_251 rfl (by decide) o30 (L' := [(0, zrv a0), (1, zjv a1), (3, ziv a3), (5, zjv a5), (7, ziv (a7 + 1))]) [1, 2, 3, 4, 0] rfl ?_
      refine z_goto (tgt := 139) dX8_worst_254 (by decide) ?_
      exact h
set_option maxRecDepth 100000 in
set_option maxHeartbeats 4000000 in
theorem wp_X8_worst_223 {E : zE} {X : zX} {F : Int → zH → Prop} {S : zS} {a0 a1 a3 a5 a7 a10 : Int} {V : zH}
    (h : ((S a0).1 = 11) ∧ SpF E 0 zm_X8_n [zrv a0] S V (fun x2 => ((x2 ≤ a10) → ((z32 (a7 + 1)) ∧ zl_X8_worst_139 E X F S a0 a1 a3 a5 (a7 + 1) V)) ∧ ((a10 < x2) → (SpF E 4 zm_X8_made [zrv a0, ziv a10] S V (fun x6 => ((S (V a0 20)).1 = 1) ∧ ((0 : Int) ≤ a10 ∧ a10 < (S (V a0 20)).2) ∧ ∀ V10 : zH, V10 = zput V (V a0 20) a10 x6 → (z32 (a10 + 1)) ∧ zl_X8_worst_223 E X F S a0 a1 a3 a5 a7 (a10 + 1) V10))))) :
    zl_X8_worst_223 E X F S a0 a1 a3 a5 a7 a10 V := by
  unfold zl_X8_worst_223
  refine z_iload 5 dX8_worst_223 rfl ?_
  refine z_aload_n 0 dX8_worst_225 rfl ?_
  obtain ⟨o1, h⟩ := h
  refine z_cVF [] (zk_RX8_84 _ rfl) dX8_worst_226 o1 (by decide) rfl rfl (Nat.le_of_ble_eq_true rfl) (Nat.le_of_ble_eq_true rfl) (Nat.le_of_ble_eq_true rfl) (Nat.le_of_ble_eq_true rfl) (Nat.le_of_ble_eq_true rfl) h (fun x2 h => ?_)
  refine z_icmp_ge dX8_worst_229 (tgt := 251) (by decide) (fun c4 => ?_) (fun c4 => ?_)
  · have h := h.1 c4
    obtain ⟨o5, h⟩ := h
    refine z_iinc 4 dX8_worst_251 rfl (by decide) o5 (L' := [(0, zrv a0), (1, zjv a1), (3, ziv a3), (5, zjv a5), (7, ziv (a7 + 1)), (10, ziv a10)]) [1, 2, 3, 4, 0, 5] rfl ?_
    refine z_goto (tgt := 139) dX8_worst_254 (by decide) ?_
    refine z_loc (L' := [(0, zrv a0), (1, zjv a1), (3, ziv a3), (5, zjv a5), (7, ziv (a7 + 1))]) [0, 1, 2, 3, 4] rfl ?_
    exact h
  · have h := h.2 c4
    refine z_aload_n 0 dX8_worst_232 rfl ?_
    refine zgf_8_20 dX8_worst_233 (zf_RX8_43 _ rfl) o1 ?_
    refine z_iload 5 dX8_worst_236 rfl ?_
    refine z_aload_n 0 dX8_worst_238 rfl ?_
    refine z_iload 5 dX8_worst_239 rfl ?_
    refine z_cVF [ziv a10] (zk_RX8_259 _ rfl) dX8_worst_241 o1 (by decide) rfl rfl (Nat.le_of_ble_eq_true rfl) (Nat.le_of_ble_eq_true rfl) (Nat.le_of_ble_eq_true rfl) (Nat.le_of_ble_eq_true rfl) (Nat.le_of_ble_eq_true rfl) h (fun x6 h => ?_)
    obtain ⟨o8, h⟩ := h
    obtain ⟨o9, h⟩ := h
    refine z_iast dX8_worst_244 o8 o9 ?_
    refine z_nameV (fun V10 e11 => ?_)
    have h := h V10 e11
    obtain ⟨o12, h⟩ := h
    refine z_iinc 5 dX8_worst_245 rfl (by decide) o12 (L' := [(0, zrv a0), (1, zjv a1), (3, ziv a3), (5, zjv a5), (7, ziv a7), (10, ziv (a10 + 1))]) [1, 2, 3, 4, 5, 0] rfl ?_
    refine z_goto (tgt := 223) dX8_worst_248 (by decide) ?_
    exact h
set_option maxRecDepth 100000 in
set_option maxHeartbeats 4000000 in
theorem wp_X8_worst_269 {E : zE} {X : zX} {F : Int → zH → Prop} {S : zS} {a0 a5 a7 : Int} {V : zH}
    (h : ((S a0).1 = 11) ∧ SpF E 0 zm_X8_n [zrv a0] S V (fun x2 => ((x2 ≤ a7) → (F a5 V)) ∧ ((a7 < x2) → (((S (V a0 20)).1 = 1) ∧ ((0 : Int) ≤ a7 ∧ a7 < (S (V a0 20)).2) ∧ ((S (V a0 16)).1 = 1) ∧ ((0 : Int) ≤ a7 ∧ a7 < (S (V a0 16)).2) ∧ ∀ V9 : zH, V9 = zput V (V a0 16) a7 (V (V a0 20) a7) → (z32 (a7 + 1)) ∧ zl_X8_worst_269 E X F S a0 a5 (a7 + 1) V9)))) :
    zl_X8_worst_269 E X F S a0 a5 a7 V := by
  unfold zl_X8_worst_269
  refine z_iload 2 dX8_worst_269 rfl ?_
  refine z_aload_n 0 dX8_worst_271 rfl ?_
  obtain ⟨o1, h⟩ := h
  refine z_cVF [] (zk_RX8_84 _ rfl) dX8_worst_272 o1 (by decide) rfl rfl (Nat.le_of_ble_eq_true rfl) (Nat.le_of_ble_eq_true rfl) (Nat.le_of_ble_eq_true rfl) (Nat.le_of_ble_eq_true rfl) (Nat.le_of_ble_eq_true rfl) h (fun x2 h => ?_)
  refine z_icmp_ge dX8_worst_275 (tgt := 298) (by decide) (fun c4 => ?_) (fun c4 => ?_)
  · have h := h.1 c4
    refine z_lload 1 dX8_worst_298 rfl ?_
    exact z_retJ dX8_worst_300 rfl h
  · have h := h.2 c4
    refine z_aload_n 0 dX8_worst_278 rfl ?_
    refine zgf_8_16 dX8_worst_279 (zf_RX8_40 _ rfl) o1 ?_
    refine z_iload 2 dX8_worst_282 rfl ?_
    refine z_aload_n 0 dX8_worst_284 rfl ?_
    refine zgf_8_20 dX8_worst_285 (zf_RX8_43 _ rfl) o1 ?_
    refine z_iload 2 dX8_worst_288 rfl ?_
    obtain ⟨o5, h⟩ := h
    obtain ⟨o6, h⟩ := h
    refine z_iald dX8_worst_290 o5 o6 ?_
    obtain ⟨o7, h⟩ := h
    obtain ⟨o8, h⟩ := h
    refine z_iast dX8_worst_291 o7 o8 ?_
    refine z_nameV (fun V9 e10 => ?_)
    have h := h V9 e10
    obtain ⟨o11, h⟩ := h
    refine z_iinc 2 dX8_worst_292 rfl (by decide) o11 (L' := [(0, zrv a0), (5, zjv a5), (7, ziv (a7 + 1))]) [1, 2, 0] rfl ?_
    refine z_goto (tgt := 269) dX8_worst_295 (by decide) ?_
    exact h
set_option maxRecDepth 100000 in
set_option maxHeartbeats 4000000 in
theorem en_X8_worst {E : zE} {F : Int → zH → Prop} {S : zS} {a0 : Int} {V : zH}
    (h : ∀ X : zX, ((S a0).1 = 11) ∧ SpV E 4 zm_X8_pushings [zrv a0] S V (fun V3 => SpG E 1 zm_X8_pushes [zrv a0] S V3 (fun x4 => SpG E 1 zm_X8_quiet [zrv a0] S V3 (fun x6 => ((65536 < x6) → (F (-2) V3)) ∧ ((x6 ≤ 65536) → (((x4 ≤ 65536) → (SpF E 0 zm_X8_buttons [zrv a0] S V3 (fun x10 => SpG E 1 zm_X8_quiet [zrv a0] S V3 (fun x12 => ((0 : Int) ≤ x4) ∧ ((0 : Int) < x12) ∧ ∀ x16 : Int, x16 = zl2i (x4 / x12) → zl_X8_worst_49 E X F S a0 x4 x10 x16 0 V3)))) ∧ ((65536 < x4) → (F (-2) V3)))))))) :
    SpJ E 6 zm_X8_worst [zrv a0] S V F := by
  refine Sp.of (plainFor_of_name (by decide +kernel)) (Nat.le_of_ble_eq_true rfl) (fun hok X => ?_)
  have h := h X
  show Zr E X (zRoom 6 0 0) zm_X8_worst (zQm E X (zpJ S F) 0 0) 0 0 0 [(0, zrv a0)] [] S V
  refine z_aload_n 0 dX8_worst_0 rfl ?_
  obtain ⟨o1, h⟩ := h
  refine z_cVV [] (zk_RX8_178 _ rfl) dX8_worst_1 o1 (by decide) rfl rfl (Nat.le_of_ble_eq_true rfl) (Nat.le_of_ble_eq_true rfl) (Nat.le_of_ble_eq_true rfl) (Nat.le_of_ble_eq_true rfl) (Nat.le_of_ble_eq_true rfl) h (fun V3 h => ?_)
  refine z_aload_n 0 dX8_worst_4 rfl ?_
  refine z_cVG [] (zk_RX8_236 _ rfl) dX8_worst_5 o1 (by decide) rfl rfl (Nat.le_of_ble_eq_true rfl) (Nat.le_of_ble_eq_true rfl) (Nat.le_of_ble_eq_true rfl) (Nat.le_of_ble_eq_true rfl) (Nat.le_of_ble_eq_true rfl) h (fun x4 h => ?_)
  refine z_lstore_n dX8_worst_8 (by decide) (L' := [(0, zrv a0), (1, zjv x4)]) [1, 0] rfl ?_
  refine z_aload_n 0 dX8_worst_9 rfl ?_
  refine z_cVG [] (zk_RX8_223 _ rfl) dX8_worst_10 o1 (by decide) rfl rfl (Nat.le_of_ble_eq_true rfl) (Nat.le_of_ble_eq_true rfl) (Nat.le_of_ble_eq_true rfl) (Nat.le_of_ble_eq_true rfl) (Nat.le_of_ble_eq_true rfl) h (fun x6 h => ?_)
  refine z_ldc2 (c := 65536) (zd_RX8_219 _ rfl) (by decide) ⟨by decide, by decide⟩ dX8_worst_13 ?_
  refine z_lif_gt dX8_worst_16 dX8_worst_17 (tgt := 28) (by decide) (fun c8 => ?_) (fun c8 => ?_)
  · have h := h.1 c8
    refine z_ldc2 (c := (-2)) (zd_RX8_227 _ rfl) (by decide) ⟨by decide, by decide⟩ dX8_worst_28 ?_
    exact z_retJ dX8_worst_31 rfl h
  · have h := h.2 c8
    refine z_lload_n 1 dX8_worst_20 rfl ?_
    refine z_ldc2 (c := 65536) (zd_RX8_219 _ rfl) (by decide) ⟨by decide, by decide⟩ dX8_worst_21 ?_
    refine z_lif_le dX8_worst_24 dX8_worst_25 (tgt := 32) (by decide) (fun c9 => ?_) (fun c9 => ?_)
    · have h := h.1 c9
      refine z_aload_n 0 dX8_worst_32 rfl ?_
      refine z_cVF [] (zk_RX8_89 _ rfl) dX8_worst_33 o1 (by decide) rfl rfl (Nat.le_of_ble_eq_true rfl) (Nat.le_of_ble_eq_true rfl) (Nat.le_of_ble_eq_true rfl) (Nat.le_of_ble_eq_true rfl) (Nat.le_of_ble_eq_true rfl) h (fun x10 h => ?_)
      refine z_istore_n dX8_worst_36 (by decide) (L' := [(0, zrv a0), (1, zjv x4), (3, ziv x10)]) [1, 2, 0] rfl ?_
      refine z_lload_n 1 dX8_worst_37 rfl ?_
      refine z_aload_n 0 dX8_worst_38 rfl ?_
      refine z_cVG [] (zk_RX8_223 _ rfl) dX8_worst_39 o1 (by decide) rfl rfl (Nat.le_of_ble_eq_true rfl) (Nat.le_of_ble_eq_true rfl) (Nat.le_of_ble_eq_true rfl) (Nat.le_of_ble_eq_true rfl) (Nat.le_of_ble_eq_true rfl) h (fun x12 h => ?_)
      obtain ⟨o14, h⟩ := h
      obtain ⟨o15, h⟩ := h
      refine z_ldiv dX8_worst_42 o14 o15 ?_
      refine z_l2i dX8_worst_43 ?_
      refine z_nameI (fun x16 e17 => ?_)
      have h := h x16 e17
      refine z_istore dX8_worst_44 (by decide) (L' := [(0, zrv a0), (1, zjv x4), (3, ziv x10), (4, ziv x16)]) [1, 2, 3, 0] rfl ?_
      refine z_iconst dX8_worst_46 ⟨by decide, by decide⟩ ?_
      refine z_istore dX8_worst_47 (by decide) (L' := [(0, zrv a0), (1, zjv x4), (3, ziv x10), (4, ziv x16), (5, ziv 0)]) [1, 2, 3, 4, 0] rfl ?_
      exact h
    · have h := h.2 c9
      refine z_ldc2 (c := (-2)) (zd_RX8_227 _ rfl) (by decide) ⟨by decide, by decide⟩ dX8_worst_28 ?_
      exact z_retJ dX8_worst_31 rfl h
def zl_X8_isLikeRow_5 (E : zE) (X : zX) (F : Int → Prop) (S : zS) (a0 a1 a2 a3 a4 : Int) (V : zH) : Prop := Zr E X (zRoom 0 0 0) zm_X8_isLikeRow (zQm E X (zpF S V F) 0 0) 0 0 5 [(0, zrv a0), (1, zrv a1), (2, ziv a2), (3, ziv a3), (4, ziv a4)] [] S V
set_option maxRecDepth 100000 in
set_option maxHeartbeats 4000000 in
theorem wp_X8_isLikeRow_5 {E : zE} {X : zX} {F : Int → Prop} {S : zS} {a0 a1 a2 a3 a4 : Int} {V : zH}
    (h : ((a2 ≤ a4) → ((a3 = 0 ∨ a3 = 1) ∧ F a3)) ∧ ((a4 < a2) → (((a3 = 0) → ((z32 (a4 + 1)) ∧ zl_X8_isLikeRow_5 E X F S a0 a1 a2 0 (a4 + 1) V)) ∧ ((a3 ≠ 0) → (((S a1).1 = 1) ∧ ((0 : Int) ≤ a4 ∧ a4 < (S a1).2) ∧ ((S a0).1 = 11) ∧ ((S (V a0 16)).1 = 1) ∧ ((0 : Int) ≤ a4 ∧ a4 < (S (V a0 16)).2) ∧ ((V a1 a4 ≠ V (V a0 16) a4) → ((z32 (a4 + 1)) ∧ zl_X8_isLikeRow_5 E X F S a0 a1 a2 0 (a4 + 1) V)) ∧ ((V a1 a4 = V (V a0 16) a4) → ((z32 (a4 + 1)) ∧ zl_X8_isLikeRow_5 E X F S a0 a1 a2 1 (a4 + 1) V))))))) :
    zl_X8_isLikeRow_5 E X F S a0 a1 a2 a3 a4 V := by
  unfold zl_X8_isLikeRow_5
  refine z_iload 4 dX8_isLikeRow_5 rfl ?_
  refine z_iload_n 2 dX8_isLikeRow_7 rfl ?_
  refine z_icmp_ge dX8_isLikeRow_8 (tgt := 41) (by decide) (fun c1 => ?_) (fun c1 => ?_)
  · have h := h.1 c1
    refine z_iload_n 3 dX8_isLikeRow_41 rfl ?_
    obtain ⟨o2, h⟩ := h
    exact z_retFZ dX8_isLikeRow_42 rfl o2 h
  · have h := h.2 c1
    refine z_iload_n 3 dX8_isLikeRow_11 rfl ?_
    refine z_if_eq dX8_isLikeRow_12 (tgt := 33) (by decide) (fun c3 => ?_) (fun c3 => ?_)
    · have h := h.1 c3
      refine z_iconst dX8_isLikeRow_33 ⟨by decide, by decide⟩ ?_
      refine z_istore_n dX8_isLikeRow_34 (by decide) (L' := [(0, zrv a0), (1, zrv a1), (2, ziv a2), (3, ziv 0), (4, ziv a4)]) [1, 2, 3, 0, 4] rfl ?_
      obtain ⟨o4, h⟩ := h
      refine z_iinc 4 dX8_isLikeRow_35 rfl (by decide) o4 (L' := [(0, zrv a0), (1, zrv a1), (2, ziv a2), (3, ziv 0), (4, ziv (a4 + 1))]) [1, 2, 3, 4, 0] rfl ?_
      refine z_goto (tgt := 5) dX8_isLikeRow_38 (by decide) ?_
      exact h
    · have h := h.2 c3
      refine z_aload_n 1 dX8_isLikeRow_15 rfl ?_
      refine z_iload 4 dX8_isLikeRow_16 rfl ?_
      obtain ⟨o5, h⟩ := h
      obtain ⟨o6, h⟩ := h
      refine z_iald dX8_isLikeRow_18 o5 o6 ?_
      refine z_aload_n 0 dX8_isLikeRow_19 rfl ?_
      obtain ⟨o7, h⟩ := h
      refine zgf_8_16 dX8_isLikeRow_20 (zf_RX8_40 _ rfl) o7 ?_
      refine z_iload 4 dX8_isLikeRow_23 rfl ?_
      obtain ⟨o8, h⟩ := h
      obtain ⟨o9, h⟩ := h
      refine z_iald dX8_isLikeRow_25 o8 o9 ?_
      refine z_icmp_ne dX8_isLikeRow_26 (tgt := 33) (by decide) (fun c10 => ?_) (fun c10 => ?_)
      · have h := h.1 c10
        refine z_iconst dX8_isLikeRow_33 ⟨by decide, by decide⟩ ?_
        refine z_istore_n dX8_isLikeRow_34 (by decide) (L' := [(0, zrv a0), (1, zrv a1), (2, ziv a2), (3, ziv 0), (4, ziv a4)]) [1, 2, 3, 0, 4] rfl ?_
        obtain ⟨o11, h⟩ := h
        refine z_iinc 4 dX8_isLikeRow_35 rfl (by decide) o11 (L' := [(0, zrv a0), (1, zrv a1), (2, ziv a2), (3, ziv 0), (4, ziv (a4 + 1))]) [1, 2, 3, 4, 0] rfl ?_
        refine z_goto (tgt := 5) dX8_isLikeRow_38 (by decide) ?_
        exact h
      · have h := h.2 c10
        refine z_iconst dX8_isLikeRow_29 ⟨by decide, by decide⟩ ?_
        refine z_goto (tgt := 34) dX8_isLikeRow_30 (by decide) ?_
        refine z_istore_n dX8_isLikeRow_34 (by decide) (L' := [(0, zrv a0), (1, zrv a1), (2, ziv a2), (3, ziv 1), (4, ziv a4)]) [1, 2, 3, 0, 4] rfl ?_
        obtain ⟨o12, h⟩ := h
        refine z_iinc 4 dX8_isLikeRow_35 rfl (by decide) o12 (L' := [(0, zrv a0), (1, zrv a1), (2, ziv a2), (3, ziv 1), (4, ziv (a4 + 1))]) [1, 2, 3, 4, 0] rfl ?_
        refine z_goto (tgt := 5) dX8_isLikeRow_38 (by decide) ?_
        exact h
set_option maxRecDepth 100000 in
set_option maxHeartbeats 4000000 in
theorem en_X8_isLikeRow {E : zE} {F : Int → Prop} {S : zS} {a0 a1 a2 : Int} {V : zH}
    (h : z32 a2 → ∀ X : zX, zl_X8_isLikeRow_5 E X F S a0 a1 a2 1 0 V) :
    SpF E 0 zm_X8_isLikeRow [zrv a0, zrv a1, ziv a2] S V F := by
  refine Sp.of (plainFor_of_name (by decide +kernel)) (Nat.le_of_ble_eq_true rfl) (fun hok X => ?_)
  have h := h (hok _ (List.mem_cons_of_mem _ (List.mem_cons_of_mem _ (List.mem_cons_self)))) X
  show Zr E X (zRoom 0 0 0) zm_X8_isLikeRow (zQm E X (zpF S V F) 0 0) 0 0 0 [(0, zrv a0), (1, zrv a1), (2, ziv a2)] [] S V
  refine z_iconst dX8_isLikeRow_0 ⟨by decide, by decide⟩ ?_
  refine z_istore_n dX8_isLikeRow_1 (by decide) (L' := [(0, zrv a0), (1, zrv a1), (2, ziv a2), (3, ziv 1)]) [1, 2, 3, 0] rfl ?_
  refine z_iconst dX8_isLikeRow_2 ⟨by decide, by decide⟩ ?_
  refine z_istore dX8_isLikeRow_3 (by decide) (L' := [(0, zrv a0), (1, zrv a1), (2, ziv a2), (3, ziv 1), (4, ziv 0)]) [1, 2, 3, 4, 0] rfl ?_
  exact h
def zl_X8_made_4 (E : zE) (X : zX) (F : Int → Prop) (S : zS) (a0 a1 a2 a3 : Int) (V : zH) : Prop := Zr E X (zRoom 4 0 0) zm_X8_made (zQm E X (zpF S V F) 0 0) 0 0 4 [(0, zrv a0), (1, ziv a1), (2, ziv a2), (3, ziv a3)] [] S V
set_option maxRecDepth 100000 in
set_option maxHeartbeats 4000000 in
theorem wp_X8_made_4 {E : zE} {X : zX} {F : Int → Prop} {S : zS} {a0 a1 a2 a3 : Int} {V : zH}
    (h : ((S a0).1 = 11) ∧ SpF E 0 zm_X8_buttons [zrv a0] S V (fun x2 => ((x2 ≤ a3) → (SpF E 0 zm_X8_m [zrv a0] S V (fun x5 => ((0 : Int) ≤ a2) ∧ ((0 : Int) < x5) ∧ F (a2 % x5)))) ∧ ((a3 < x2) → (((S (V a0 16)).1 = 1) ∧ ((0 : Int) ≤ a3 ∧ a3 < (S (V a0 16)).2) ∧ SpF E 3 zm_X8_steps [zrv a0, ziv a3, ziv a1] S V (fun x11 => (z32 ((V (V a0 16) a3) * x11)) ∧ (z32 (a2 + ((V (V a0 16) a3) * x11))) ∧ ∀ x15 : Int, x15 = a2 + ((V (V a0 16) a3) * x11) → (z32 (a3 + 1)) ∧ zl_X8_made_4 E X F S a0 a1 x15 (a3 + 1) V))))) :
    zl_X8_made_4 E X F S a0 a1 a2 a3 V := by
  unfold zl_X8_made_4
  refine z_iload_n 3 dX8_made_4 rfl ?_
  refine z_aload_n 0 dX8_made_5 rfl ?_
  obtain ⟨o1, h⟩ := h
  refine z_cVF [] (zk_RX8_89 _ rfl) dX8_made_6 o1 (by decide) rfl rfl (Nat.le_of_ble_eq_true rfl) (Nat.le_of_ble_eq_true rfl) (Nat.le_of_ble_eq_true rfl) (Nat.le_of_ble_eq_true rfl) (Nat.le_of_ble_eq_true rfl) h (fun x2 h => ?_)
  refine z_icmp_ge dX8_made_9 (tgt := 34) (by decide) (fun c4 => ?_) (fun c4 => ?_)
  · have h := h.1 c4
    refine z_iload_n 2 dX8_made_34 rfl ?_
    refine z_aload_n 0 dX8_made_35 rfl ?_
    refine z_cVF [] (zk_RX8_96 _ rfl) dX8_made_36 o1 (by decide) rfl rfl (Nat.le_of_ble_eq_true rfl) (Nat.le_of_ble_eq_true rfl) (Nat.le_of_ble_eq_true rfl) (Nat.le_of_ble_eq_true rfl) (Nat.le_of_ble_eq_true rfl) h (fun x5 h => ?_)
    obtain ⟨o7, h⟩ := h
    obtain ⟨o8, h⟩ := h
    refine z_irem dX8_made_39 o7 o8 ?_
    exact z_retFI dX8_made_40 rfl h
  · have h := h.2 c4
    refine z_iload_n 2 dX8_made_12 rfl ?_
    refine z_aload_n 0 dX8_made_13 rfl ?_
    refine zgf_8_16 dX8_made_14 (zf_RX8_40 _ rfl) o1 ?_
    refine z_iload_n 3 dX8_made_17 rfl ?_
    obtain ⟨o9, h⟩ := h
    obtain ⟨o10, h⟩ := h
    refine z_iald dX8_made_18 o9 o10 ?_
    refine z_aload_n 0 dX8_made_19 rfl ?_
    refine z_iload_n 3 dX8_made_20 rfl ?_
    refine z_iload_n 1 dX8_made_21 rfl ?_
    refine z_cVF [ziv a3, ziv a1] (zk_RX8_134 _ rfl) dX8_made_22 o1 (by decide) rfl rfl (Nat.le_of_ble_eq_true rfl) (Nat.le_of_ble_eq_true rfl) (Nat.le_of_ble_eq_true rfl) (Nat.le_of_ble_eq_true rfl) (Nat.le_of_ble_eq_true rfl) h (fun x11 h => ?_)
    obtain ⟨o13, h⟩ := h
    refine z_imul dX8_made_25 o13 ?_
    obtain ⟨o14, h⟩ := h
    refine z_iadd dX8_made_26 o14 ?_
    refine z_nameI (fun x15 e16 => ?_)
    have h := h x15 e16
    refine z_istore_n dX8_made_27 (by decide) (L' := [(0, zrv a0), (1, ziv a1), (2, ziv x15), (3, ziv a3)]) [1, 2, 0, 3] rfl ?_
    obtain ⟨o17, h⟩ := h
    refine z_iinc 3 dX8_made_28 rfl (by decide) o17 (L' := [(0, zrv a0), (1, ziv a1), (2, ziv x15), (3, ziv (a3 + 1))]) [1, 2, 3, 0] rfl ?_
    refine z_goto (tgt := 4) dX8_made_31 (by decide) ?_
    exact h
set_option maxRecDepth 100000 in
set_option maxHeartbeats 4000000 in
theorem en_X8_made {E : zE} {F : Int → Prop} {S : zS} {a0 a1 : Int} {V : zH}
    (h : z32 a1 → ∀ X : zX, zl_X8_made_4 E X F S a0 a1 0 0 V) :
    SpF E 4 zm_X8_made [zrv a0, ziv a1] S V F := by
  refine Sp.of (plainFor_of_name (by decide +kernel)) (Nat.le_of_ble_eq_true rfl) (fun hok X => ?_)
  have h := h (hok _ (List.mem_cons_of_mem _ (List.mem_cons_self))) X
  show Zr E X (zRoom 4 0 0) zm_X8_made (zQm E X (zpF S V F) 0 0) 0 0 0 [(0, zrv a0), (1, ziv a1)] [] S V
  refine z_iconst dX8_made_0 ⟨by decide, by decide⟩ ?_
  refine z_istore_n dX8_made_1 (by decide) (L' := [(0, zrv a0), (1, ziv a1), (2, ziv 0)]) [1, 2, 0] rfl ?_
  refine z_iconst dX8_made_2 ⟨by decide, by decide⟩ ?_
  refine z_istore_n dX8_made_3 (by decide) (L' := [(0, zrv a0), (1, ziv a1), (2, ziv 0), (3, ziv 0)]) [1, 2, 3, 0] rfl ?_
  exact h
def zl_X8_isAhead_2 (E : zE) (X : zX) (F : Int → Prop) (S : zS) (a0 a1 : Int) (V : zH) : Prop := Zr E X (zRoom 5 0 0) zm_X8_isAhead (zQm E X (zpF S V F) 0 0) 0 0 2 [(0, zrv a0), (1, ziv a1)] [] S V
set_option maxRecDepth 100000 in
set_option maxHeartbeats 4000000 in
theorem wp_X8_isAhead_2 {E : zE} {X : zX} {F : Int → Prop} {S : zS} {a0 a1 : Int} {V : zH}
    (h : ((S a0).1 = 11) ∧ SpF E 0 zm_X8_n [zrv a0] S V (fun x2 => ((x2 ≤ a1) → (F 0)) ∧ ((a1 < x2) → (SpF E 4 zm_X8_made [zrv a0, ziv a1] S V (fun x5 => ((S (V a0 20)).1 = 1) ∧ ((0 : Int) ≤ a1 ∧ a1 < (S (V a0 20)).2) ∧ ((x5 = V (V a0 20) a1) → ((z32 (a1 + 1)) ∧ zl_X8_isAhead_2 E X F S a0 (a1 + 1) V)) ∧ ((x5 ≠ V (V a0 20) a1) → (((V (V a0 20) a1 ≤ x5) → (F 0)) ∧ ((x5 < V (V a0 20) a1) → (F 1))))))))) :
    zl_X8_isAhead_2 E X F S a0 a1 V := by
  unfold zl_X8_isAhead_2
  refine z_iload_n 1 dX8_isAhead_2 rfl ?_
  refine z_aload_n 0 dX8_isAhead_3 rfl ?_
  obtain ⟨o1, h⟩ := h
  refine z_cVF [] (zk_RX8_84 _ rfl) dX8_isAhead_4 o1 (by decide) rfl rfl (Nat.le_of_ble_eq_true rfl) (Nat.le_of_ble_eq_true rfl) (Nat.le_of_ble_eq_true rfl) (Nat.le_of_ble_eq_true rfl) (Nat.le_of_ble_eq_true rfl) h (fun x2 h => ?_)
  refine z_icmp_ge dX8_isAhead_7 (tgt := 48) (by decide) (fun c4 => ?_) (fun c4 => ?_)
  · have h := h.1 c4
    refine z_iconst dX8_isAhead_48 ⟨by decide, by decide⟩ ?_
    exact z_retFZ dX8_isAhead_49 rfl (Or.inl rfl) h
  · have h := h.2 c4
    refine z_aload_n 0 dX8_isAhead_10 rfl ?_
    refine z_iload_n 1 dX8_isAhead_11 rfl ?_
    refine z_cVF [ziv a1] (zk_RX8_259 _ rfl) dX8_isAhead_12 o1 (by decide) rfl rfl (Nat.le_of_ble_eq_true rfl) (Nat.le_of_ble_eq_true rfl) (Nat.le_of_ble_eq_true rfl) (Nat.le_of_ble_eq_true rfl) (Nat.le_of_ble_eq_true rfl) h (fun x5 h => ?_)
    refine z_istore_n dX8_isAhead_15 (by decide) (L' := [(0, zrv a0), (1, ziv a1), (2, ziv x5)]) [1, 2, 0] rfl ?_
    refine z_iload_n 2 dX8_isAhead_16 rfl ?_
    refine z_aload_n 0 dX8_isAhead_17 rfl ?_
    refine zgf_8_20 dX8_isAhead_18 (zf_RX8_43 _ rfl) o1 ?_
    refine z_iload_n 1 dX8_isAhead_21 rfl ?_
    obtain ⟨o7, h⟩ := h
    obtain ⟨o8, h⟩ := h
    refine z_iald dX8_isAhead_22 o7 o8 ?_
    refine z_icmp_eq dX8_isAhead_23 (tgt := 42) (by decide) (fun c9 => ?_) (fun c9 => ?_)
    · have h := h.1 c9
      obtain ⟨o10, h⟩ := h
      refine z_iinc 1 dX8_isAhead_42 rfl (by decide) o10 (L' := [(0, zrv a0), (1, ziv (a1 + 1)), (2, ziv x5)]) [1, 0, 2] rfl ?_
      refine z_goto (tgt := 2) dX8_isAhead_45 (by decide) ?_
      refine z_loc (L' := [(0, zrv a0), (1, ziv (a1 + 1))]) [0, 1] rfl ?_
      exact h
    · have h := h.2 c9
      refine z_iload_n 2 dX8_isAhead_26 rfl ?_
      refine z_aload_n 0 dX8_isAhead_27 rfl ?_
      refine zgf_8_20 dX8_isAhead_28 (zf_RX8_43 _ rfl) o1 ?_
      refine z_iload_n 1 dX8_isAhead_31 rfl ?_
      refine z_iald dX8_isAhead_32 o7 o8 ?_
      refine z_icmp_ge dX8_isAhead_33 (tgt := 40) (by decide) (fun c11 => ?_) (fun c11 => ?_)
      · have h := h.1 c11
        refine z_iconst dX8_isAhead_40 ⟨by decide, by decide⟩ ?_
        exact z_retFZ dX8_isAhead_41 rfl (Or.inl rfl) h
      · have h := h.2 c11
        refine z_iconst dX8_isAhead_36 ⟨by decide, by decide⟩ ?_
        refine z_goto (tgt := 41) dX8_isAhead_37 (by decide) ?_
        exact z_retFZ dX8_isAhead_41 rfl (Or.inr rfl) h
set_option maxRecDepth 100000 in
set_option maxHeartbeats 4000000 in
theorem en_X8_isAhead {E : zE} {F : Int → Prop} {S : zS} {a0 : Int} {V : zH}
    (h : ∀ X : zX, zl_X8_isAhead_2 E X F S a0 0 V) :
    SpF E 5 zm_X8_isAhead [zrv a0] S V F := by
  refine Sp.of (plainFor_of_name (by decide +kernel)) (Nat.le_of_ble_eq_true rfl) (fun hok X => ?_)
  have h := h X
  show Zr E X (zRoom 5 0 0) zm_X8_isAhead (zQm E X (zpF S V F) 0 0) 0 0 0 [(0, zrv a0)] [] S V
  refine z_iconst dX8_isAhead_0 ⟨by decide, by decide⟩ ?_
  refine z_istore_n dX8_isAhead_1 (by decide) (L' := [(0, zrv a0), (1, ziv 0)]) [1, 0] rfl ?_
  exact h
def zl_X8_apply_26 (E : zE) (X : zX) (F : Int → zH → Prop) (S : zS) (a0 a1 a2 : Int) (V : zH) : Prop := Zr E X (zRoom 5 0 0) zm_X8_apply (zQm E X (zpI S F) 0 0) 0 0 26 [(0, zrv a0), (1, ziv a1), (2, ziv a2)] [] S V
def zl_X8_apply_94 (E : zE) (X : zX) (F : Int → zH → Prop) (S : zS) (a0 a2 a3 : Int) (V : zH) : Prop := Zr E X (zRoom 5 0 0) zm_X8_apply (zQm E X (zpI S F) 0 0) 0 0 94 [(0, zrv a0), (2, ziv a2), (3, ziv a3)] [] S V
set_option maxRecDepth 100000 in
set_option maxHeartbeats 4000000 in
theorem wp_X8_apply_26 {E : zE} {X : zX} {F : Int → zH → Prop} {S : zS} {a0 a1 a2 : Int} {V : zH}
    (h : ((S a0).1 = 11) ∧ SpF E 0 zm_X8_buttons [zrv a0] S V (fun x2 => ((x2 ≤ a2) → (((a1 ≠ 0) → (SpV E 0 zm_X8_act [zrv a0] S V (fun V7 => zl_X8_apply_94 E X F S a0 0 0 V7))) ∧ ((a1 = 0) → (F (-1) V)))) ∧ ((a2 < x2) → (((a1 = 0) → (((a1 ≠ 0) → (SpV E 0 zm_X8_act [zrv a0] S V (fun V11 => zl_X8_apply_94 E X F S a0 0 0 V11))) ∧ ((a1 = 0) → (F (-1) V)))) ∧ ((a1 ≠ 0) → (((S (V a0 16)).1 = 1) ∧ ((0 : Int) ≤ a2 ∧ a2 < (S (V a0 16)).2) ∧ SpF E 0 zm_X8_m [zrv a0] S V (fun x14 => ((x14 ≤ V (V a0 16) a2) → ((z32 (a2 + 1)) ∧ zl_X8_apply_26 E X F S a0 0 (a2 + 1) V)) ∧ ((V (V a0 16) a2 < x14) → (SpF E 0 zm_X8_isStuck [zrv a0, ziv a2] S V (fun x18 => ((x18 = 0) → ((z32 (a2 + 1)) ∧ zl_X8_apply_26 E X F S a0 1 (a2 + 1) V)) ∧ ((x18 ≠ 0) → (((V (V a0 16) a2 ≠ 0) → ((z32 (a2 + 1)) ∧ zl_X8_apply_26 E X F S a0 0 (a2 + 1) V)) ∧ ((V (V a0 16) a2 = 0) → ((z32 (a2 + 1)) ∧ zl_X8_apply_26 E X F S a0 1 (a2 + 1) V)))))))))))))) :
    zl_X8_apply_26 E X F S a0 a1 a2 V := by
  unfold zl_X8_apply_26
  refine z_iload_n 2 dX8_apply_26 rfl ?_
  refine z_aload_n 0 dX8_apply_27 rfl ?_
  obtain ⟨o1, h⟩ := h
  refine z_cVF [] (zk_RX8_89 _ rfl) dX8_apply_28 o1 (by decide) rfl rfl (Nat.le_of_ble_eq_true rfl) (Nat.le_of_ble_eq_true rfl) (Nat.le_of_ble_eq_true rfl) (Nat.le_of_ble_eq_true rfl) (Nat.le_of_ble_eq_true rfl) h (fun x2 h => ?_)
  refine z_icmp_ge dX8_apply_31 (tgt := 80) (by decide) (fun c4 => ?_) (fun c4 => ?_)
  · have h := h.1 c4
    refine z_iload_n 1 dX8_apply_80 rfl ?_
    refine z_if_ne dX8_apply_81 (tgt := 86) (by decide) (fun c5 => ?_) (fun c5 => ?_)
    · have h := h.1 c5
      refine z_aload_n 0 dX8_apply_86 rfl ?_
      refine z_cVV [] (zk_RX8_99 _ rfl) dX8_apply_87 o1 (by decide) rfl rfl (Nat.le_of_ble_eq_true rfl) (Nat.le_of_ble_eq_true rfl) (Nat.le_of_ble_eq_true rfl) (Nat.le_of_ble_eq_true rfl) (Nat.le_of_ble_eq_true rfl) h (fun V7 h => ?_)
      refine z_iconst dX8_apply_90 ⟨by decide, by decide⟩ ?_
      refine z_istore_n dX8_apply_91 (by decide) (L' := [(0, zrv a0), (1, ziv a1), (2, ziv 0)]) [1, 2, 0] rfl ?_
      refine z_iconst dX8_apply_92 ⟨by decide, by decide⟩ ?_
      refine z_istore_n dX8_apply_93 (by decide) (L' := [(0, zrv a0), (1, ziv a1), (2, ziv 0), (3, ziv 0)]) [1, 2, 3, 0] rfl ?_
      refine z_loc (L' := [(0, zrv a0), (2, ziv 0), (3, ziv 0)]) [0, 2, 3] rfl ?_
      exact h
    · have h := h.2 c5
      refine z_iconst dX8_apply_84 ⟨by decide, by decide⟩ ?_
      exact z_retI dX8_apply_85 rfl h
  · have h := h.2 c4
    refine z_iload_n 1 dX8_apply_34 rfl ?_
    refine z_if_eq dX8_apply_35 (tgt := 80) (by decide) (fun c8 => ?_) (fun c8 => ?_)
    · have h := h.1 c8
      refine z_iload_n 1 dX8_apply_80 rfl ?_
      refine z_if_ne dX8_apply_81 (tgt := 86) (by decide) (fun c9 => ?_) (fun c9 => ?_)
      · have h := h.1 c9
        refine z_aload_n 0 dX8_apply_86 rfl ?_
        refine z_cVV [] (zk_RX8_99 _ rfl) dX8_apply_87 o1 (by decide) rfl rfl (Nat.le_of_ble_eq_true rfl) (Nat.le_of_ble_eq_true rfl) (Nat.le_of_ble_eq_true rfl) (Nat.le_of_ble_eq_true rfl) (Nat.le_of_ble_eq_true rfl) h (fun V11 h => ?_)
        refine z_iconst dX8_apply_90 ⟨by decide, by decide⟩ ?_
        refine z_istore_n dX8_apply_91 (by decide) (L' := [(0, zrv a0), (1, ziv a1), (2, ziv 0)]) [1, 2, 0] rfl ?_
        refine z_iconst dX8_apply_92 ⟨by decide, by decide⟩ ?_
        refine z_istore_n dX8_apply_93 (by decide) (L' := [(0, zrv a0), (1, ziv a1), (2, ziv 0), (3, ziv 0)]) [1, 2, 3, 0] rfl ?_
        refine z_loc (L' := [(0, zrv a0), (2, ziv 0), (3, ziv 0)]) [0, 2, 3] rfl ?_
        exact h
      · have h := h.2 c9
        refine z_iconst dX8_apply_84 ⟨by decide, by decide⟩ ?_
        exact z_retI dX8_apply_85 rfl h
    · have h := h.2 c8
      refine z_aload_n 0 dX8_apply_38 rfl ?_
      refine zgf_8_16 dX8_apply_39 (zf_RX8_40 _ rfl) o1 ?_
      refine z_iload_n 2 dX8_apply_42 rfl ?_
      obtain ⟨o12, h⟩ := h
      obtain ⟨o13, h⟩ := h
      refine z_iald dX8_apply_43 o12 o13 ?_
      refine z_aload_n 0 dX8_apply_44 rfl ?_
      refine z_cVF [] (zk_RX8_96 _ rfl) dX8_apply_45 o1 (by decide) rfl rfl (Nat.le_of_ble_eq_true rfl) (Nat.le_of_ble_eq_true rfl) (Nat.le_of_ble_eq_true rfl) (Nat.le_of_ble_eq_true rfl) (Nat.le_of_ble_eq_true rfl) h (fun x14 h => ?_)
      refine z_icmp_ge dX8_apply_48 (tgt := 72) (by decide) (fun c16 => ?_) (fun c16 => ?_)
      · have h := h.1 c16
        refine z_iconst dX8_apply_72 ⟨by decide, by decide⟩ ?_
        refine z_istore_n dX8_apply_73 (by decide) (L' := [(0, zrv a0), (1, ziv 0), (2, ziv a2)]) [1, 0, 2] rfl ?_
        obtain ⟨o17, h⟩ := h
        refine z_iinc 2 dX8_apply_74 rfl (by decide) o17 (L' := [(0, zrv a0), (1, ziv 0), (2, ziv (a2 + 1))]) [1, 2, 0] rfl ?_
        refine z_goto (tgt := 26) dX8_apply_77 (by decide) ?_
        exact h
      · have h := h.2 c16
        refine z_aload_n 0 dX8_apply_51 rfl ?_
        refine z_iload_n 2 dX8_apply_52 rfl ?_
        refine z_cVF [ziv a2] (zk_RX8_137 _ rfl) dX8_apply_53 o1 (by decide) rfl rfl (Nat.le_of_ble_eq_true rfl) (Nat.le_of_ble_eq_true rfl) (Nat.le_of_ble_eq_true rfl) (Nat.le_of_ble_eq_true rfl) (Nat.le_of_ble_eq_true rfl) h (fun x18 h => ?_)
        refine z_if_eq dX8_apply_56 (tgt := 68) (by decide) (fun c20 => ?_) (fun c20 => ?_)
        · have h := h.1 c20
          refine z_iconst dX8_apply_68 ⟨by decide, by decide⟩ ?_
          refine z_goto (tgt := 73) dX8_apply_69 (by decide) ?_
          refine z_istore_n dX8_apply_73 (by decide) (L' := [(0, zrv a0), (1, ziv 1), (2, ziv a2)]) [1, 0, 2] rfl ?_
          obtain ⟨o21, h⟩ := h
          refine z_iinc 2 dX8_apply_74 rfl (by decide) o21 (L' := [(0, zrv a0), (1, ziv 1), (2, ziv (a2 + 1))]) [1, 2, 0] rfl ?_
          refine z_goto (tgt := 26) dX8_apply_77 (by decide) ?_
          exact h
        · have h := h.2 c20
          refine z_aload_n 0 dX8_apply_59 rfl ?_
          refine zgf_8_16 dX8_apply_60 (zf_RX8_40 _ rfl) o1 ?_
          refine z_iload_n 2 dX8_apply_63 rfl ?_
          refine z_iald dX8_apply_64 o12 o13 ?_
          refine z_if_ne dX8_apply_65 (tgt := 72) (by decide) (fun c22 => ?_) (fun c22 => ?_)
          · have h := h.1 c22
            refine z_iconst dX8_apply_72 ⟨by decide, by decide⟩ ?_
            refine z_istore_n dX8_apply_73 (by decide) (L' := [(0, zrv a0), (1, ziv 0), (2, ziv a2)]) [1, 0, 2] rfl ?_
            obtain ⟨o23, h⟩ := h
            refine z_iinc 2 dX8_apply_74 rfl (by decide) o23 (L' := [(0, zrv a0), (1, ziv 0), (2, ziv (a2 + 1))]) [1, 2, 0] rfl ?_
            refine z_goto (tgt := 26) dX8_apply_77 (by decide) ?_
            exact h
          · have h := h.2 c22
            refine z_iconst dX8_apply_68 ⟨by decide, by decide⟩ ?_
            refine z_goto (tgt := 73) dX8_apply_69 (by decide) ?_
            refine z_istore_n dX8_apply_73 (by decide) (L' := [(0, zrv a0), (1, ziv 1), (2, ziv a2)]) [1, 0, 2] rfl ?_
            obtain ⟨o24, h⟩ := h
            refine z_iinc 2 dX8_apply_74 rfl (by decide) o24 (L' := [(0, zrv a0), (1, ziv 1), (2, ziv (a2 + 1))]) [1, 2, 0] rfl ?_
            refine z_goto (tgt := 26) dX8_apply_77 (by decide) ?_
            exact h
set_option maxRecDepth 100000 in
set_option maxHeartbeats 4000000 in
theorem wp_X8_apply_94 {E : zE} {X : zX} {F : Int → zH → Prop} {S : zS} {a0 a2 a3 : Int} {V : zH}
    (h : ((S a0).1 = 11) ∧ SpF E 0 zm_X8_n [zrv a0] S V (fun x2 => ((x2 ≤ a3) → (F a2 V)) ∧ ((a3 < x2) → ((z32 (4 + a3)) ∧ ((S (V a0 0)).1 = 1) ∧ ((0 : Int) ≤ 4 + a3 ∧ 4 + a3 < (S (V a0 0)).2) ∧ SpF E 4 zm_X8_made [zrv a0, ziv a3] S V (fun x8 => (z32 ((V (V a0 0) (4 + a3)) + x8)) ∧ SpF E 0 zm_X8_m [zrv a0] S V (fun x11 => ((0 : Int) ≤ (V (V a0 0) (4 + a3)) + x8) ∧ ((0 : Int) < x11) ∧ ∀ x15 : Int, x15 = ((V (V a0 0) (4 + a3)) + x8) % x11 → ((x15 = V (V a0 0) (4 + a3)) → ((z32 (a2 + 0)) ∧ ∀ V19 : zH, V19 = zput V (V a0 0) (4 + a3) x15 → (z32 (a3 + 1)) ∧ zl_X8_apply_94 E X F S a0 (a2 + 0) (a3 + 1) V19)) ∧ ((x15 ≠ V (V a0 0) (4 + a3)) → ((z32 (a2 + 1)) ∧ ∀ V23 : zH, V23 = zput V (V a0 0) (4 + a3) x15 → (z32 (a3 + 1)) ∧ zl_X8_apply_94 E X F S a0 (a2 + 1) (a3 + 1) V23)))))))) :
    zl_X8_apply_94 E X F S a0 a2 a3 V := by
  unfold zl_X8_apply_94
  refine z_iload_n 2 dX8_apply_94 rfl ?_
  refine z_aload_n 0 dX8_apply_95 rfl ?_
  obtain ⟨o1, h⟩ := h
  refine z_cVF [] (zk_RX8_84 _ rfl) dX8_apply_96 o1 (by decide) rfl rfl (Nat.le_of_ble_eq_true rfl) (Nat.le_of_ble_eq_true rfl) (Nat.le_of_ble_eq_true rfl) (Nat.le_of_ble_eq_true rfl) (Nat.le_of_ble_eq_true rfl) h (fun x2 h => ?_)
  refine z_icmp_ge dX8_apply_99 (tgt := 160) (by decide) (fun c4 => ?_) (fun c4 => ?_)
  · have h := h.1 c4
    refine z_iload_n 1 dX8_apply_160 rfl ?_
    exact z_retI dX8_apply_161 rfl h
  · have h := h.2 c4
    refine z_aload_n 0 dX8_apply_102 rfl ?_
    refine zgf_8_0 dX8_apply_103 (zf_RX8_9 _ rfl) o1 ?_
    refine z_iconst dX8_apply_106 ⟨by decide, by decide⟩ ?_
    refine z_iload_n 2 dX8_apply_107 rfl ?_
    obtain ⟨o5, h⟩ := h
    refine z_iadd dX8_apply_108 o5 ?_
    obtain ⟨o6, h⟩ := h
    obtain ⟨o7, h⟩ := h
    refine z_iald dX8_apply_109 o6 o7 ?_
    refine z_aload_n 0 dX8_apply_110 rfl ?_
    refine z_iload_n 2 dX8_apply_111 rfl ?_
    refine z_cVF [ziv a3] (zk_RX8_259 _ rfl) dX8_apply_112 o1 (by decide) rfl rfl (Nat.le_of_ble_eq_true rfl) (Nat.le_of_ble_eq_true rfl) (Nat.le_of_ble_eq_true rfl) (Nat.le_of_ble_eq_true rfl) (Nat.le_of_ble_eq_true rfl) h (fun x8 h => ?_)
    obtain ⟨o10, h⟩ := h
    refine z_iadd dX8_apply_115 o10 ?_
    refine z_aload_n 0 dX8_apply_116 rfl ?_
    refine z_cVF [] (zk_RX8_96 _ rfl) dX8_apply_117 o1 (by decide) rfl rfl (Nat.le_of_ble_eq_true rfl) (Nat.le_of_ble_eq_true rfl) (Nat.le_of_ble_eq_true rfl) (Nat.le_of_ble_eq_true rfl) (Nat.le_of_ble_eq_true rfl) h (fun x11 h => ?_)
    obtain ⟨o13, h⟩ := h
    obtain ⟨o14, h⟩ := h
    refine z_irem dX8_apply_120 o13 o14 ?_
    refine z_nameI (fun x15 e16 => ?_)
    have h := h x15 e16
    refine z_istore dX8_apply_121 (by decide) (L' := [(0, zrv a0), (2, ziv a2), (3, ziv a3), (4, ziv x15)]) [1, 2, 3, 0] rfl ?_
    refine z_iload_n 1 dX8_apply_123 rfl ?_
    refine z_iload 3 dX8_apply_124 rfl ?_
    refine z_aload_n 0 dX8_apply_126 rfl ?_
    refine zgf_8_0 dX8_apply_127 (zf_RX8_9 _ rfl) o1 ?_
    refine z_iconst dX8_apply_130 ⟨by decide, by decide⟩ ?_
    refine z_iload_n 2 dX8_apply_131 rfl ?_
    refine z_iadd dX8_apply_132 o5 ?_
    refine z_iald dX8_apply_133 o6 o7 ?_
    refine z_icmp_eq dX8_apply_134 (tgt := 141) (by decide) (fun c17 => ?_) (fun c17 => ?_)
    · have h := h.1 c17
      refine z_iconst dX8_apply_141 ⟨by decide, by decide⟩ ?_
      obtain ⟨o18, h⟩ := h
      refine z_iadd dX8_apply_142 o18 ?_
      refine z_istore_n dX8_apply_143 (by decide) (L' := [(0, zrv a0), (2, ziv (a2 + 0)), (3, ziv a3), (4, ziv x15)]) [1, 0, 2, 3] rfl ?_
      refine z_aload_n 0 dX8_apply_144 rfl ?_
      refine zgf_8_0 dX8_apply_145 (zf_RX8_9 _ rfl) o1 ?_
      refine z_iconst dX8_apply_148 ⟨by decide, by decide⟩ ?_
      refine z_iload_n 2 dX8_apply_149 rfl ?_
      refine z_iadd dX8_apply_150 o5 ?_
      refine z_iload 3 dX8_apply_151 rfl ?_
      refine z_iast dX8_apply_153 o6 o7 ?_
      refine z_nameV (fun V19 e20 => ?_)
      have h := h V19 e20
      obtain ⟨o21, h⟩ := h
      refine z_iinc 2 dX8_apply_154 rfl (by decide) o21 (L' := [(0, zrv a0), (2, ziv (a2 + 0)), (3, ziv (a3 + 1)), (4, ziv x15)]) [1, 2, 0, 3] rfl ?_
      refine z_goto (tgt := 94) dX8_apply_157 (by decide) ?_
      refine z_loc (L' := [(0, zrv a0), (2, ziv (a2 + 0)), (3, ziv (a3 + 1))]) [0, 1, 2] rfl ?_
      exact h
    · have h := h.2 c17
      refine z_iconst dX8_apply_137 ⟨by decide, by decide⟩ ?_
      refine z_goto (tgt := 142) dX8_apply_138 (by decide) ?_
      obtain ⟨o22, h⟩ := h
      refine z_iadd dX8_apply_142 o22 ?_
      refine z_istore_n dX8_apply_143 (by decide) (L' := [(0, zrv a0), (2, ziv (a2 + 1)), (3, ziv a3), (4, ziv x15)]) [1, 0, 2, 3] rfl ?_
      refine z_aload_n 0 dX8_apply_144 rfl ?_
      refine zgf_8_0 dX8_apply_145 (zf_RX8_9 _ rfl) o1 ?_
      refine z_iconst dX8_apply_148 ⟨by decide, by decide⟩ ?_
      refine z_iload_n 2 dX8_apply_149 rfl ?_
      refine z_iadd dX8_apply_150 o5 ?_
      refine z_iload 3 dX8_apply_151 rfl ?_
      refine z_iast dX8_apply_153 o6 o7 ?_
      refine z_nameV (fun V23 e24 => ?_)
      have h := h V23 e24
      obtain ⟨o25, h⟩ := h
      refine z_iinc 2 dX8_apply_154 rfl (by decide) o25 (L' := [(0, zrv a0), (2, ziv (a2 + 1)), (3, ziv (a3 + 1)), (4, ziv x15)]) [1, 2, 0, 3] rfl ?_
      refine z_goto (tgt := 94) dX8_apply_157 (by decide) ?_
      refine z_loc (L' := [(0, zrv a0), (2, ziv (a2 + 1)), (3, ziv (a3 + 1))]) [0, 1, 2] rfl ?_
      exact h
set_option maxRecDepth 100000 in
set_option maxHeartbeats 4000000 in
theorem en_X8_apply {E : zE} {F : Int → zH → Prop} {S : zS} {a0 : Int} {V : zH}
    (h : ∀ X : zX, ((S a0).1 = 11) ∧ ((V a0 18 = 0) → (zl_X8_apply_26 E X F S a0 0 0 V)) ∧ ((V a0 18 ≠ 0) → (SpF E 0 zm_X8_buttons [zrv a0] S V (fun x3 => ((V a0 17 ≠ x3) → (zl_X8_apply_26 E X F S a0 0 0 V)) ∧ ((V a0 17 = x3) → (zl_X8_apply_26 E X F S a0 1 0 V)))))) :
    SpI E 5 zm_X8_apply [zrv a0] S V F := by
  refine Sp.of (plainFor_of_name (by decide +kernel)) (Nat.le_of_ble_eq_true rfl) (fun hok X => ?_)
  have h := h X
  show Zr E X (zRoom 5 0 0) zm_X8_apply (zQm E X (zpI S F) 0 0) 0 0 0 [(0, zrv a0)] [] S V
  refine z_aload_n 0 dX8_apply_0 rfl ?_
  obtain ⟨o1, h⟩ := h
  refine zgf_8_18 dX8_apply_1 (zf_RX8_175 _ rfl) o1 ?_
  refine z_if_eq dX8_apply_4 (tgt := 22) (by decide) (fun c2 => ?_) (fun c2 => ?_)
  · have h := h.1 c2
    refine z_iconst dX8_apply_22 ⟨by decide, by decide⟩ ?_
    refine z_istore_n dX8_apply_23 (by decide) (L' := [(0, zrv a0), (1, ziv 0)]) [1, 0] rfl ?_
    refine z_iconst dX8_apply_24 ⟨by decide, by decide⟩ ?_
    refine z_istore_n dX8_apply_25 (by decide) (L' := [(0, zrv a0), (1, ziv 0), (2, ziv 0)]) [1, 2, 0] rfl ?_
    exact h
  · have h := h.2 c2
    refine z_aload_n 0 dX8_apply_7 rfl ?_
    refine zgf_8_17 dX8_apply_8 (zf_RX8_172 _ rfl) o1 ?_
    refine z_aload_n 0 dX8_apply_11 rfl ?_
    refine z_cVF [] (zk_RX8_89 _ rfl) dX8_apply_12 o1 (by decide) rfl rfl (Nat.le_of_ble_eq_true rfl) (Nat.le_of_ble_eq_true rfl) (Nat.le_of_ble_eq_true rfl) (Nat.le_of_ble_eq_true rfl) (Nat.le_of_ble_eq_true rfl) h (fun x3 h => ?_)
    refine z_icmp_ne dX8_apply_15 (tgt := 22) (by decide) (fun c5 => ?_) (fun c5 => ?_)
    · have h := h.1 c5
      refine z_iconst dX8_apply_22 ⟨by decide, by decide⟩ ?_
      refine z_istore_n dX8_apply_23 (by decide) (L' := [(0, zrv a0), (1, ziv 0)]) [1, 0] rfl ?_
      refine z_iconst dX8_apply_24 ⟨by decide, by decide⟩ ?_
      refine z_istore_n dX8_apply_25 (by decide) (L' := [(0, zrv a0), (1, ziv 0), (2, ziv 0)]) [1, 2, 0] rfl ?_
      exact h
    · have h := h.2 c5
      refine z_iconst dX8_apply_18 ⟨by decide, by decide⟩ ?_
      refine z_goto (tgt := 23) dX8_apply_19 (by decide) ?_
      refine z_istore_n dX8_apply_23 (by decide) (L' := [(0, zrv a0), (1, ziv 1)]) [1, 0] rfl ?_
      refine z_iconst dX8_apply_24 ⟨by decide, by decide⟩ ?_
      refine z_istore_n dX8_apply_25 (by decide) (L' := [(0, zrv a0), (1, ziv 1), (2, ziv 0)]) [1, 2, 0] rfl ?_
      exact h
set_option maxRecDepth 100000 in
set_option maxHeartbeats 4000000 in
theorem en_X8_tell {E : zE} {F : Int → zH → Prop} {S : zS} {a0 a1 : Int} {V : zH}
    (h : z32 a1 → ((S a0).1 = 11) ∧ ((V a0 24 = 36) → (F (-1) V)) ∧ ((V a0 24 ≠ 36) → (SpF E 0 zm_X8_in [zjv a1, zjv 0, zjv 11] S V (fun x3 => ((x3 ≠ 0) → (((S (V a0 23)).1 = 1) ∧ ((0 : Int) ≤ V a0 24 ∧ V a0 24 < (S (V a0 23)).2) ∧ ∀ V8 : zH, V8 = zput V (V a0 23) (V a0 24) a1 → (z32 ((V a0 24) + 1)) ∧ ∀ V11 : zH, V11 = zput V8 a0 24 ((V a0 24) + 1) → F ((V a0 24) + 1) V11)) ∧ ((x3 = 0) → (F (-1) V)))))) :
    SpI E 1 zm_X8_tell [zrv a0, ziv a1] S V F := by
  refine Sp.of (plainFor_of_name (by decide +kernel)) (Nat.le_of_ble_eq_true rfl) (fun hok X => ?_)
  have h := h (hok _ (List.mem_cons_of_mem _ (List.mem_cons_self)))
  show Zr E X (zRoom 1 0 0) zm_X8_tell (zQm E X (zpI S F) 0 0) 0 0 0 [(0, zrv a0), (1, ziv a1)] [] S V
  refine z_aload_n 0 dX8_tell_0 rfl ?_
  obtain ⟨o1, h⟩ := h
  refine zgf_8_24 dX8_tell_1 (zf_RX8_262 _ rfl) o1 ?_
  refine z_bipush dX8_tell_4 ⟨by decide, by decide⟩ (by decide) ?_
  refine z_icmp_eq dX8_tell_6 (tgt := 21) (by decide) (fun c2 => ?_) (fun c2 => ?_)
  · have h := h.1 c2
    refine z_iconst dX8_tell_21 ⟨by decide, by decide⟩ ?_
    exact z_retI dX8_tell_22 rfl h
  · have h := h.2 c2
    refine z_iload_n 1 dX8_tell_9 rfl ?_
    refine z_i2l dX8_tell_10 ?_
    refine z_lconst (v := 0) dX8_tell_11 (by decide) ⟨by decide, by decide⟩ ?_
    refine z_ldc2 (c := 11) (zd_RX8_265 _ rfl) (by decide) ⟨by decide, by decide⟩ dX8_tell_12 ?_
    refine z_cSF [zjv a1, zjv 0, zjv 11] (zk_RX8_69 _ rfl) dX8_tell_15 rfl rfl (Nat.le_of_ble_eq_true rfl) (Nat.le_of_ble_eq_true rfl) (Nat.le_of_ble_eq_true rfl) (Nat.le_of_ble_eq_true rfl) (Nat.le_of_ble_eq_true rfl) h (fun x3 h => ?_)
    refine z_if_ne dX8_tell_18 (tgt := 23) (by decide) (fun c5 => ?_) (fun c5 => ?_)
    · have h := h.1 c5
      refine z_aload_n 0 dX8_tell_23 rfl ?_
      refine zgf_8_23 dX8_tell_24 (zf_RX8_53 _ rfl) o1 ?_
      refine z_aload_n 0 dX8_tell_27 rfl ?_
      refine zgf_8_24 dX8_tell_28 (zf_RX8_262 _ rfl) o1 ?_
      refine z_iload_n 1 dX8_tell_31 rfl ?_
      obtain ⟨o6, h⟩ := h
      obtain ⟨o7, h⟩ := h
      refine z_iast dX8_tell_32 o6 o7 ?_
      refine z_nameV (fun V8 e9 => ?_)
      have h := h V8 e9
      refine z_aload_n 0 dX8_tell_33 rfl ?_
      refine z_dup (zref_cat _) dX8_tell_34 ?_
      refine zgf_8_24 dX8_tell_35 (zf_RX8_262 _ rfl) o1 ?_
      refine z_topI (zfr_k e9 o6 o1 (by decide)) ?_
      refine z_iconst dX8_tell_38 ⟨by decide, by decide⟩ ?_
      obtain ⟨o10, h⟩ := h
      refine z_iadd dX8_tell_39 o10 ?_
      refine zpf_8_24 dX8_tell_40 (zf_RX8_262 _ rfl) o1 ?_
      refine z_nameV (fun V11 e12 => ?_)
      have h := h V11 e12
      refine z_aload_n 0 dX8_tell_43 rfl ?_
      refine zgf_8_24 dX8_tell_44 (zf_RX8_262 _ rfl) o1 ?_
      refine z_topI (zfr_s e12) ?_
      exact z_retI dX8_tell_47 rfl h
    · have h := h.2 c5
      refine z_iconst dX8_tell_21 ⟨by decide, by decide⟩ ?_
      exact z_retI dX8_tell_22 rfl h
def zl_X8_check_43 (E : zE) (X : zX) (F : Int → zH → Prop) (S : zS) (a0 a1 a2 a3 : Int) (V : zH) : Prop := Zr E X (zRoom 5 0 0) zm_X8_check (zQm E X (zpI S F) 0 0) 0 0 43 [(0, zrv a0), (1, ziv a1), (2, ziv a2), (3, ziv a3)] [] S V
set_option maxRecDepth 100000 in
set_option maxHeartbeats 4000000 in
theorem wp_X8_check_43 {E : zE} {X : zX} {F : Int → zH → Prop} {S : zS} {a0 a1 a2 a3 : Int} {V : zH}
    (h : ((S a0).1 = 11) ∧ ((V a0 24 ≤ a3) → (∀ V3 : zH, V3 = zput V a0 24 0 → ((a2 ≠ 0) → (((a1 ≠ 0) → (SpF E 4 zm_X8_weightsWrong [zrv a0] S V3 (fun x7 => F x7 V3))) ∧ ((a1 = 0) → (SpF E 4 zm_X8_pushingWrong [zrv a0] S V3 (fun x9 => F x9 V3))))) ∧ ((a2 = 0) → (F 100 V3)))) ∧ ((a3 < V a0 24) → (((a2 = 0) → ((z32 (a3 + 1)) ∧ zl_X8_check_43 E X F S a0 a1 0 (a3 + 1) V)) ∧ ((a2 ≠ 0) → (((S (V a0 23)).1 = 1) ∧ ((0 : Int) ≤ a3 ∧ a3 < (S (V a0 23)).2) ∧ SpF E 0 zm_X8_m [zrv a0] S V (fun x15 => ((x15 ≤ V (V a0 23) a3) → ((z32 (a3 + 1)) ∧ zl_X8_check_43 E X F S a0 a1 0 (a3 + 1) V)) ∧ ((V (V a0 23) a3 < x15) → ((z32 (a3 + 1)) ∧ zl_X8_check_43 E X F S a0 a1 1 (a3 + 1) V)))))))) :
    zl_X8_check_43 E X F S a0 a1 a2 a3 V := by
  unfold zl_X8_check_43
  refine z_iload_n 3 dX8_check_43 rfl ?_
  refine z_aload_n 0 dX8_check_44 rfl ?_
  obtain ⟨o1, h⟩ := h
  refine zgf_8_24 dX8_check_45 (zf_RX8_262 _ rfl) o1 ?_
  refine z_icmp_ge dX8_check_48 (tgt := 80) (by decide) (fun c2 => ?_) (fun c2 => ?_)
  · have h := h.1 c2
    refine z_aload_n 0 dX8_check_80 rfl ?_
    refine z_iconst dX8_check_81 ⟨by decide, by decide⟩ ?_
    refine zpf_8_24 dX8_check_82 (zf_RX8_262 _ rfl) o1 ?_
    refine z_nameV (fun V3 e4 => ?_)
    have h := h V3 e4
    refine z_iload_n 2 dX8_check_85 rfl ?_
    refine z_if_ne dX8_check_86 (tgt := 94) (by decide) (fun c5 => ?_) (fun c5 => ?_)
    · have h := h.1 c5
      refine z_iload_n 1 dX8_check_94 rfl ?_
      refine z_if_ne dX8_check_95 (tgt := 105) (by decide) (fun c6 => ?_) (fun c6 => ?_)
      · have h := h.1 c6
        refine z_aload_n 0 dX8_check_105 rfl ?_
        refine z_cVF [] (zk_RX8_270 _ rfl) dX8_check_106 o1 (by decide) rfl rfl (Nat.le_of_ble_eq_true rfl) (Nat.le_of_ble_eq_true rfl) (Nat.le_of_ble_eq_true rfl) (Nat.le_of_ble_eq_true rfl) (Nat.le_of_ble_eq_true rfl) h (fun x7 h => ?_)
        exact z_retI dX8_check_109 rfl h
      · have h := h.2 c6
        refine z_aload_n 0 dX8_check_98 rfl ?_
        refine z_cVF [] (zk_RX8_267 _ rfl) dX8_check_99 o1 (by decide) rfl rfl (Nat.le_of_ble_eq_true rfl) (Nat.le_of_ble_eq_true rfl) (Nat.le_of_ble_eq_true rfl) (Nat.le_of_ble_eq_true rfl) (Nat.le_of_ble_eq_true rfl) h (fun x9 h => ?_)
        refine z_goto (tgt := 109) dX8_check_102 (by decide) ?_
        exact z_retI dX8_check_109 rfl h
    · have h := h.2 c5
      refine z_bipush dX8_check_89 ⟨by decide, by decide⟩ (by decide) ?_
      refine z_goto (tgt := 109) dX8_check_91 (by decide) ?_
      exact z_retI dX8_check_109 rfl h
  · have h := h.2 c2
    refine z_iload_n 2 dX8_check_51 rfl ?_
    refine z_if_eq dX8_check_52 (tgt := 72) (by decide) (fun c11 => ?_) (fun c11 => ?_)
    · have h := h.1 c11
      refine z_iconst dX8_check_72 ⟨by decide, by decide⟩ ?_
      refine z_istore_n dX8_check_73 (by decide) (L' := [(0, zrv a0), (1, ziv a1), (2, ziv 0), (3, ziv a3)]) [1, 2, 0, 3] rfl ?_
      obtain ⟨o12, h⟩ := h
      refine z_iinc 3 dX8_check_74 rfl (by decide) o12 (L' := [(0, zrv a0), (1, ziv a1), (2, ziv 0), (3, ziv (a3 + 1))]) [1, 2, 3, 0] rfl ?_
      refine z_goto (tgt := 43) dX8_check_77 (by decide) ?_
      exact h
    · have h := h.2 c11
      refine z_aload_n 0 dX8_check_55 rfl ?_
      refine zgf_8_23 dX8_check_56 (zf_RX8_53 _ rfl) o1 ?_
      refine z_iload_n 3 dX8_check_59 rfl ?_
      obtain ⟨o13, h⟩ := h
      obtain ⟨o14, h⟩ := h
      refine z_iald dX8_check_60 o13 o14 ?_
      refine z_aload_n 0 dX8_check_61 rfl ?_
      refine z_cVF [] (zk_RX8_96 _ rfl) dX8_check_62 o1 (by decide) rfl rfl (Nat.le_of_ble_eq_true rfl) (Nat.le_of_ble_eq_true rfl) (Nat.le_of_ble_eq_true rfl) (Nat.le_of_ble_eq_true rfl) (Nat.le_of_ble_eq_true rfl) h (fun x15 h => ?_)
      refine z_icmp_ge dX8_check_65 (tgt := 72) (by decide) (fun c17 => ?_) (fun c17 => ?_)
      · have h := h.1 c17
        refine z_iconst dX8_check_72 ⟨by decide, by decide⟩ ?_
        refine z_istore_n dX8_check_73 (by decide) (L' := [(0, zrv a0), (1, ziv a1), (2, ziv 0), (3, ziv a3)]) [1, 2, 0, 3] rfl ?_
        obtain ⟨o18, h⟩ := h
        refine z_iinc 3 dX8_check_74 rfl (by decide) o18 (L' := [(0, zrv a0), (1, ziv a1), (2, ziv 0), (3, ziv (a3 + 1))]) [1, 2, 3, 0] rfl ?_
        refine z_goto (tgt := 43) dX8_check_77 (by decide) ?_
        exact h
      · have h := h.2 c17
        refine z_iconst dX8_check_68 ⟨by decide, by decide⟩ ?_
        refine z_goto (tgt := 73) dX8_check_69 (by decide) ?_
        refine z_istore_n dX8_check_73 (by decide) (L' := [(0, zrv a0), (1, ziv a1), (2, ziv 1), (3, ziv a3)]) [1, 2, 0, 3] rfl ?_
        obtain ⟨o19, h⟩ := h
        refine z_iinc 3 dX8_check_74 rfl (by decide) o19 (L' := [(0, zrv a0), (1, ziv a1), (2, ziv 1), (3, ziv (a3 + 1))]) [1, 2, 3, 0] rfl ?_
        refine z_goto (tgt := 43) dX8_check_77 (by decide) ?_
        exact h
set_option maxRecDepth 100000 in
set_option maxHeartbeats 4000000 in
theorem en_X8_check {E : zE} {F : Int → zH → Prop} {S : zS} {a0 a1 : Int} {V : zH}
    (h : z32 a1 → ∀ X : zX, SpF E 0 zm_X8_in [zjv a1, zjv 0, zjv 1] S V (fun x1 => ((x1 ≠ 0) → (((S a0).1 = 11) ∧ ((a1 ≠ 0) → (SpF E 0 zm_X8_n [zrv a0] S V (fun x6 => ((V a0 24 ≠ x6) → (zl_X8_check_43 E X F S a0 a1 0 0 V)) ∧ ((V a0 24 = x6) → (zl_X8_check_43 E X F S a0 a1 1 0 V))))) ∧ ((a1 = 0) → (SpF E 0 zm_X8_buttons [zrv a0] S V (fun x9 => ((V a0 24 ≠ x9) → (zl_X8_check_43 E X F S a0 a1 0 0 V)) ∧ ((V a0 24 = x9) → (zl_X8_check_43 E X F S a0 a1 1 0 V))))))) ∧ ((x1 = 0) → (F (-2) V)))) :
    SpI E 5 zm_X8_check [zrv a0, ziv a1] S V F := by
  refine Sp.of (plainFor_of_name (by decide +kernel)) (Nat.le_of_ble_eq_true rfl) (fun hok X => ?_)
  have h := h (hok _ (List.mem_cons_of_mem _ (List.mem_cons_self))) X
  show Zr E X (zRoom 5 0 0) zm_X8_check (zQm E X (zpI S F) 0 0) 0 0 0 [(0, zrv a0), (1, ziv a1)] [] S V
  refine z_iload_n 1 dX8_check_0 rfl ?_
  refine z_i2l dX8_check_1 ?_
  refine z_lconst (v := 0) dX8_check_2 (by decide) ⟨by decide, by decide⟩ ?_
  refine z_lconst (v := 1) dX8_check_3 (by decide) ⟨by decide, by decide⟩ ?_
  refine z_cSF [zjv a1, zjv 0, zjv 1] (zk_RX8_69 _ rfl) dX8_check_4 rfl rfl (Nat.le_of_ble_eq_true rfl) (Nat.le_of_ble_eq_true rfl) (Nat.le_of_ble_eq_true rfl) (Nat.le_of_ble_eq_true rfl) (Nat.le_of_ble_eq_true rfl) h (fun x1 h => ?_)
  refine z_if_ne dX8_check_7 (tgt := 13) (by decide) (fun c3 => ?_) (fun c3 => ?_)
  · have h := h.1 c3
    refine z_aload_n 0 dX8_check_13 rfl ?_
    obtain ⟨o4, h⟩ := h
    refine zgf_8_24 dX8_check_14 (zf_RX8_262 _ rfl) o4 ?_
    refine z_iload_n 1 dX8_check_17 rfl ?_
    refine z_if_ne dX8_check_18 (tgt := 28) (by decide) (fun c5 => ?_) (fun c5 => ?_)
    · have h := h.1 c5
      refine z_aload_n 0 dX8_check_28 rfl ?_
      refine z_cVF [] (zk_RX8_84 _ rfl) dX8_check_29 o4 (by decide) rfl rfl (Nat.le_of_ble_eq_true rfl) (Nat.le_of_ble_eq_true rfl) (Nat.le_of_ble_eq_true rfl) (Nat.le_of_ble_eq_true rfl) (Nat.le_of_ble_eq_true rfl) h (fun x6 h => ?_)
      refine z_icmp_ne dX8_check_32 (tgt := 39) (by decide) (fun c8 => ?_) (fun c8 => ?_)
      · have h := h.1 c8
        refine z_iconst dX8_check_39 ⟨by decide, by decide⟩ ?_
        refine z_istore_n dX8_check_40 (by decide) (L' := [(0, zrv a0), (1, ziv a1), (2, ziv 0)]) [1, 2, 0] rfl ?_
        refine z_iconst dX8_check_41 ⟨by decide, by decide⟩ ?_
        refine z_istore_n dX8_check_42 (by decide) (L' := [(0, zrv a0), (1, ziv a1), (2, ziv 0), (3, ziv 0)]) [1, 2, 3, 0] rfl ?_
        exact h
      · have h := h.2 c8
        refine z_iconst dX8_check_35 ⟨by decide, by decide⟩ ?_
        refine z_goto (tgt := 40) dX8_check_36 (by decide) ?_
        refine z_istore_n dX8_check_40 (by decide) (L' := [(0, zrv a0), (1, ziv a1), (2, ziv 1)]) [1, 2, 0] rfl ?_
        refine z_iconst dX8_check_41 ⟨by decide, by decide⟩ ?_
        refine z_istore_n dX8_check_42 (by decide) (L' := [(0, zrv a0), (1, ziv a1), (2, ziv 1), (3, ziv 0)]) [1, 2, 3, 0] rfl ?_
        exact h
    · have h := h.2 c5
      refine z_aload_n 0 dX8_check_21 rfl ?_
      refine z_cVF [] (zk_RX8_89 _ rfl) dX8_check_22 o4 (by decide) rfl rfl (Nat.le_of_ble_eq_true rfl) (Nat.le_of_ble_eq_true rfl) (Nat.le_of_ble_eq_true rfl) (Nat.le_of_ble_eq_true rfl) (Nat.le_of_ble_eq_true rfl) h (fun x9 h => ?_)
      refine z_goto (tgt := 32) dX8_check_25 (by decide) ?_
      refine z_icmp_ne dX8_check_32 (tgt := 39) (by decide) (fun c11 => ?_) (fun c11 => ?_)
      · have h := h.1 c11
        refine z_iconst dX8_check_39 ⟨by decide, by decide⟩ ?_
        refine z_istore_n dX8_check_40 (by decide) (L' := [(0, zrv a0), (1, ziv a1), (2, ziv 0)]) [1, 2, 0] rfl ?_
        refine z_iconst dX8_check_41 ⟨by decide, by decide⟩ ?_
        refine z_istore_n dX8_check_42 (by decide) (L' := [(0, zrv a0), (1, ziv a1), (2, ziv 0), (3, ziv 0)]) [1, 2, 3, 0] rfl ?_
        exact h
      · have h := h.2 c11
        refine z_iconst dX8_check_35 ⟨by decide, by decide⟩ ?_
        refine z_goto (tgt := 40) dX8_check_36 (by decide) ?_
        refine z_istore_n dX8_check_40 (by decide) (L' := [(0, zrv a0), (1, ziv a1), (2, ziv 1)]) [1, 2, 0] rfl ?_
        refine z_iconst dX8_check_41 ⟨by decide, by decide⟩ ?_
        refine z_istore_n dX8_check_42 (by decide) (L' := [(0, zrv a0), (1, ziv a1), (2, ziv 1), (3, ziv 0)]) [1, 2, 3, 0] rfl ?_
        exact h
  · have h := h.2 c3
    refine z_bipush dX8_check_10 ⟨by decide, by decide⟩ (by decide) ?_
    exact z_retI dX8_check_12 rfl h
def zl_X8_pushingWrong_2 (E : zE) (X : zX) (F : Int → Prop) (S : zS) (a0 a1 : Int) (V : zH) : Prop := Zr E X (zRoom 4 0 0) zm_X8_pushingWrong (zQm E X (zpF S V F) 0 0) 0 0 2 [(0, zrv a0), (1, ziv a1)] [] S V
def zl_X8_pushingWrong_41 (E : zE) (X : zX) (F : Int → Prop) (S : zS) (a0 a1 : Int) (V : zH) : Prop := Zr E X (zRoom 4 0 0) zm_X8_pushingWrong (zQm E X (zpF S V F) 0 0) 0 0 41 [(0, zrv a0), (1, ziv a1)] [] S V
def zl_X8_pushingWrong_53 (E : zE) (X : zX) (F : Int → Prop) (S : zS) (a0 a1 a2 a3 : Int) (V : zH) : Prop := Zr E X (zRoom 4 0 0) zm_X8_pushingWrong (zQm E X (zpF S V F) 0 0) 0 0 53 [(0, zrv a0), (1, ziv a1), (2, ziv a2), (3, ziv a3)] [] S V
set_option maxRecDepth 100000 in
set_option maxHeartbeats 4000000 in
theorem wp_X8_pushingWrong_2 {E : zE} {X : zX} {F : Int → Prop} {S : zS} {a0 a1 : Int} {V : zH}
    (h : ((S a0).1 = 11) ∧ SpF E 0 zm_X8_buttons [zrv a0] S V (fun x2 => ((x2 ≤ a1) → (zl_X8_pushingWrong_41 E X F S a0 0 V)) ∧ ((a1 < x2) → (SpF E 0 zm_X8_isStuck [zrv a0, ziv a1] S V (fun x5 => ((x5 = 0) → ((z32 (a1 + 1)) ∧ zl_X8_pushingWrong_2 E X F S a0 (a1 + 1) V)) ∧ ((x5 ≠ 0) → (((S (V a0 23)).1 = 1) ∧ ((0 : Int) ≤ a1 ∧ a1 < (S (V a0 23)).2) ∧ ((V (V a0 23) a1 = 0) → ((z32 (a1 + 1)) ∧ zl_X8_pushingWrong_2 E X F S a0 (a1 + 1) V)) ∧ ((V (V a0 23) a1 ≠ 0) → ((z32 (200 + a1)) ∧ F (200 + a1)))))))))) :
    zl_X8_pushingWrong_2 E X F S a0 a1 V := by
  unfold zl_X8_pushingWrong_2
  refine z_iload_n 1 dX8_pushingWrong_2 rfl ?_
  refine z_aload_n 0 dX8_pushingWrong_3 rfl ?_
  obtain ⟨o1, h⟩ := h
  refine z_cVF [] (zk_RX8_89 _ rfl) dX8_pushingWrong_4 o1 (by decide) rfl rfl (Nat.le_of_ble_eq_true rfl) (Nat.le_of_ble_eq_true rfl) (Nat.le_of_ble_eq_true rfl) (Nat.le_of_ble_eq_true rfl) (Nat.le_of_ble_eq_true rfl) h (fun x2 h => ?_)
  refine z_icmp_ge dX8_pushingWrong_7 (tgt := 39) (by decide) (fun c4 => ?_) (fun c4 => ?_)
  · have h := h.1 c4
    refine z_iconst dX8_pushingWrong_39 ⟨by decide, by decide⟩ ?_
    refine z_istore_n dX8_pushingWrong_40 (by decide) (L' := [(0, zrv a0), (1, ziv 0)]) [1, 0] rfl ?_
    exact h
  · have h := h.2 c4
    refine z_aload_n 0 dX8_pushingWrong_10 rfl ?_
    refine z_iload_n 1 dX8_pushingWrong_11 rfl ?_
    refine z_cVF [ziv a1] (zk_RX8_137 _ rfl) dX8_pushingWrong_12 o1 (by decide) rfl rfl (Nat.le_of_ble_eq_true rfl) (Nat.le_of_ble_eq_true rfl) (Nat.le_of_ble_eq_true rfl) (Nat.le_of_ble_eq_true rfl) (Nat.le_of_ble_eq_true rfl) h (fun x5 h => ?_)
    refine z_if_eq dX8_pushingWrong_15 (tgt := 33) (by decide) (fun c7 => ?_) (fun c7 => ?_)
    · have h := h.1 c7
      obtain ⟨o8, h⟩ := h
      refine z_iinc 1 dX8_pushingWrong_33 rfl (by decide) o8 (L' := [(0, zrv a0), (1, ziv (a1 + 1))]) [1, 0] rfl ?_
      refine z_goto (tgt := 2) dX8_pushingWrong_36 (by decide) ?_
      exact h
    · have h := h.2 c7
      refine z_aload_n 0 dX8_pushingWrong_18 rfl ?_
      refine zgf_8_23 dX8_pushingWrong_19 (zf_RX8_53 _ rfl) o1 ?_
      refine z_iload_n 1 dX8_pushingWrong_22 rfl ?_
      obtain ⟨o9, h⟩ := h
      obtain ⟨o10, h⟩ := h
      refine z_iald dX8_pushingWrong_23 o9 o10 ?_
      refine z_if_eq dX8_pushingWrong_24 (tgt := 33) (by decide) (fun c11 => ?_) (fun c11 => ?_)
      · have h := h.1 c11
        obtain ⟨o12, h⟩ := h
        refine z_iinc 1 dX8_pushingWrong_33 rfl (by decide) o12 (L' := [(0, zrv a0), (1, ziv (a1 + 1))]) [1, 0] rfl ?_
        refine z_goto (tgt := 2) dX8_pushingWrong_36 (by decide) ?_
        exact h
      · have h := h.2 c11
        refine z_sipush dX8_pushingWrong_27 ⟨by decide, by decide⟩ (by decide) ?_
        refine z_iload_n 1 dX8_pushingWrong_30 rfl ?_
        obtain ⟨o13, h⟩ := h
        refine z_iadd dX8_pushingWrong_31 o13 ?_
        exact z_retFI dX8_pushingWrong_32 rfl h
set_option maxRecDepth 100000 in
set_option maxHeartbeats 4000000 in
theorem wp_X8_pushingWrong_41 {E : zE} {X : zX} {F : Int → Prop} {S : zS} {a0 a1 : Int} {V : zH}
    (h : ((S a0).1 = 11) ∧ SpF E 0 zm_X8_n [zrv a0] S V (fun x2 => ((x2 ≤ a1) → (F (-1))) ∧ ((a1 < x2) → (zl_X8_pushingWrong_53 E X F S a0 a1 0 0 V)))) :
    zl_X8_pushingWrong_41 E X F S a0 a1 V := by
  unfold zl_X8_pushingWrong_41
  refine z_iload_n 1 dX8_pushingWrong_41 rfl ?_
  refine z_aload_n 0 dX8_pushingWrong_42 rfl ?_
  obtain ⟨o1, h⟩ := h
  refine z_cVF [] (zk_RX8_84 _ rfl) dX8_pushingWrong_43 o1 (by decide) rfl rfl (Nat.le_of_ble_eq_true rfl) (Nat.le_of_ble_eq_true rfl) (Nat.le_of_ble_eq_true rfl) (Nat.le_of_ble_eq_true rfl) (Nat.le_of_ble_eq_true rfl) h (fun x2 h => ?_)
  refine z_icmp_ge dX8_pushingWrong_46 (tgt := 112) (by decide) (fun c4 => ?_) (fun c4 => ?_)
  · have h := h.1 c4
    refine z_iconst dX8_pushingWrong_112 ⟨by decide, by decide⟩ ?_
    exact z_retFI dX8_pushingWrong_113 rfl h
  · have h := h.2 c4
    refine z_iconst dX8_pushingWrong_49 ⟨by decide, by decide⟩ ?_
    refine z_istore_n dX8_pushingWrong_50 (by decide) (L' := [(0, zrv a0), (1, ziv a1), (2, ziv 0)]) [1, 2, 0] rfl ?_
    refine z_iconst dX8_pushingWrong_51 ⟨by decide, by decide⟩ ?_
    refine z_istore_n dX8_pushingWrong_52 (by decide) (L' := [(0, zrv a0), (1, ziv a1), (2, ziv 0), (3, ziv 0)]) [1, 2, 3, 0] rfl ?_
    exact h
set_option maxRecDepth 100000 in
set_option maxHeartbeats 4000000 in
theorem wp_X8_pushingWrong_53 {E : zE} {X : zX} {F : Int → Prop} {S : zS} {a0 a1 a2 a3 : Int} {V : zH}
    (h : ((S a0).1 = 11) ∧ SpF E 0 zm_X8_buttons [zrv a0] S V (fun x2 => ((x2 ≤ a3) → (SpF E 0 zm_X8_m [zrv a0] S V (fun x5 => ((0 : Int) ≤ a2) ∧ ((0 : Int) < x5) ∧ (z32 (4 + a1)) ∧ ((S (V a0 0)).1 = 1) ∧ ((0 : Int) ≤ 4 + a1 ∧ 4 + a1 < (S (V a0 0)).2) ∧ ((a2 % x5 = V (V a0 0) (4 + a1)) → ((z32 (a1 + 1)) ∧ zl_X8_pushingWrong_41 E X F S a0 (a1 + 1) V)) ∧ ((a2 % x5 ≠ V (V a0 0) (4 + a1)) → ((z32 (300 + a1)) ∧ F (300 + a1)))))) ∧ ((a3 < x2) → (((S (V a0 23)).1 = 1) ∧ ((0 : Int) ≤ a3 ∧ a3 < (S (V a0 23)).2) ∧ SpF E 3 zm_X8_steps [zrv a0, ziv a3, ziv a1] S V (fun x17 => (z32 ((V (V a0 23) a3) * x17)) ∧ (z32 (a2 + ((V (V a0 23) a3) * x17))) ∧ ∀ x21 : Int, x21 = a2 + ((V (V a0 23) a3) * x17) → (z32 (a3 + 1)) ∧ zl_X8_pushingWrong_53 E X F S a0 a1 x21 (a3 + 1) V))))) :
    zl_X8_pushingWrong_53 E X F S a0 a1 a2 a3 V := by
  unfold zl_X8_pushingWrong_53
  refine z_iload_n 3 dX8_pushingWrong_53 rfl ?_
  refine z_aload_n 0 dX8_pushingWrong_54 rfl ?_
  obtain ⟨o1, h⟩ := h
  refine z_cVF [] (zk_RX8_89 _ rfl) dX8_pushingWrong_55 o1 (by decide) rfl rfl (Nat.le_of_ble_eq_true rfl) (Nat.le_of_ble_eq_true rfl) (Nat.le_of_ble_eq_true rfl) (Nat.le_of_ble_eq_true rfl) (Nat.le_of_ble_eq_true rfl) h (fun x2 h => ?_)
  refine z_icmp_ge dX8_pushingWrong_58 (tgt := 83) (by decide) (fun c4 => ?_) (fun c4 => ?_)
  · have h := h.1 c4
    refine z_iload_n 2 dX8_pushingWrong_83 rfl ?_
    refine z_aload_n 0 dX8_pushingWrong_84 rfl ?_
    refine z_cVF [] (zk_RX8_96 _ rfl) dX8_pushingWrong_85 o1 (by decide) rfl rfl (Nat.le_of_ble_eq_true rfl) (Nat.le_of_ble_eq_true rfl) (Nat.le_of_ble_eq_true rfl) (Nat.le_of_ble_eq_true rfl) (Nat.le_of_ble_eq_true rfl) h (fun x5 h => ?_)
    obtain ⟨o7, h⟩ := h
    obtain ⟨o8, h⟩ := h
    refine z_irem dX8_pushingWrong_88 o7 o8 ?_
    refine z_aload_n 0 dX8_pushingWrong_89 rfl ?_
    refine zgf_8_0 dX8_pushingWrong_90 (zf_RX8_9 _ rfl) o1 ?_
    refine z_iconst dX8_pushingWrong_93 ⟨by decide, by decide⟩ ?_
    refine z_iload_n 1 dX8_pushingWrong_94 rfl ?_
    obtain ⟨o9, h⟩ := h
    refine z_iadd dX8_pushingWrong_95 o9 ?_
    obtain ⟨o10, h⟩ := h
    obtain ⟨o11, h⟩ := h
    refine z_iald dX8_pushingWrong_96 o10 o11 ?_
    refine z_icmp_eq dX8_pushingWrong_97 (tgt := 106) (by decide) (fun c12 => ?_) (fun c12 => ?_)
    · have h := h.1 c12
      obtain ⟨o13, h⟩ := h
      refine z_iinc 1 dX8_pushingWrong_106 rfl (by decide) o13 (L' := [(0, zrv a0), (1, ziv (a1 + 1)), (2, ziv a2), (3, ziv a3)]) [1, 0, 2, 3] rfl ?_
      refine z_goto (tgt := 41) dX8_pushingWrong_109 (by decide) ?_
      refine z_loc (L' := [(0, zrv a0), (1, ziv (a1 + 1))]) [0, 1] rfl ?_
      exact h
    · have h := h.2 c12
      refine z_sipush dX8_pushingWrong_100 ⟨by decide, by decide⟩ (by decide) ?_
      refine z_iload_n 1 dX8_pushingWrong_103 rfl ?_
      obtain ⟨o14, h⟩ := h
      refine z_iadd dX8_pushingWrong_104 o14 ?_
      exact z_retFI dX8_pushingWrong_105 rfl h
  · have h := h.2 c4
    refine z_iload_n 2 dX8_pushingWrong_61 rfl ?_
    refine z_aload_n 0 dX8_pushingWrong_62 rfl ?_
    refine zgf_8_23 dX8_pushingWrong_63 (zf_RX8_53 _ rfl) o1 ?_
    refine z_iload_n 3 dX8_pushingWrong_66 rfl ?_
    obtain ⟨o15, h⟩ := h
    obtain ⟨o16, h⟩ := h
    refine z_iald dX8_pushingWrong_67 o15 o16 ?_
    refine z_aload_n 0 dX8_pushingWrong_68 rfl ?_
    refine z_iload_n 3 dX8_pushingWrong_69 rfl ?_
    refine z_iload_n 1 dX8_pushingWrong_70 rfl ?_
    refine z_cVF [ziv a3, ziv a1] (zk_RX8_134 _ rfl) dX8_pushingWrong_71 o1 (by decide) rfl rfl (Nat.le_of_ble_eq_true rfl) (Nat.le_of_ble_eq_true rfl) (Nat.le_of_ble_eq_true rfl) (Nat.le_of_ble_eq_true rfl) (Nat.le_of_ble_eq_true rfl) h (fun x17 h => ?_)
    obtain ⟨o19, h⟩ := h
    refine z_imul dX8_pushingWrong_74 o19 ?_
    obtain ⟨o20, h⟩ := h
    refine z_iadd dX8_pushingWrong_75 o20 ?_
    refine z_nameI (fun x21 e22 => ?_)
    have h := h x21 e22
    refine z_istore_n dX8_pushingWrong_76 (by decide) (L' := [(0, zrv a0), (1, ziv a1), (2, ziv x21), (3, ziv a3)]) [1, 2, 0, 3] rfl ?_
    obtain ⟨o23, h⟩ := h
    refine z_iinc 3 dX8_pushingWrong_77 rfl (by decide) o23 (L' := [(0, zrv a0), (1, ziv a1), (2, ziv x21), (3, ziv (a3 + 1))]) [1, 2, 3, 0] rfl ?_
    refine z_goto (tgt := 53) dX8_pushingWrong_80 (by decide) ?_
    exact h
set_option maxRecDepth 100000 in
set_option maxHeartbeats 4000000 in
theorem en_X8_pushingWrong {E : zE} {F : Int → Prop} {S : zS} {a0 : Int} {V : zH}
    (h : ∀ X : zX, zl_X8_pushingWrong_2 E X F S a0 0 V) :
    SpF E 4 zm_X8_pushingWrong [zrv a0] S V F := by
  refine Sp.of (plainFor_of_name (by decide +kernel)) (Nat.le_of_ble_eq_true rfl) (fun hok X => ?_)
  have h := h X
  show Zr E X (zRoom 4 0 0) zm_X8_pushingWrong (zQm E X (zpF S V F) 0 0) 0 0 0 [(0, zrv a0)] [] S V
  refine z_iconst dX8_pushingWrong_0 ⟨by decide, by decide⟩ ?_
  refine z_istore_n dX8_pushingWrong_1 (by decide) (L' := [(0, zrv a0), (1, ziv 0)]) [1, 0] rfl ?_
  exact h
def zl_X8_weightsWrong_2 (E : zE) (X : zX) (F : Int → Prop) (S : zS) (a0 a1 : Int) (V : zH) : Prop := Zr E X (zRoom 4 0 0) zm_X8_weightsWrong (zQm E X (zpF S V F) 0 0) 0 0 2 [(0, zrv a0), (1, ziv a1)] [] S V
def zl_X8_weightsWrong_14 (E : zE) (X : zX) (F : Int → Prop) (S : zS) (a0 a1 a2 a3 : Int) (V : zH) : Prop := Zr E X (zRoom 4 0 0) zm_X8_weightsWrong (zQm E X (zpF S V F) 0 0) 0 0 14 [(0, zrv a0), (1, ziv a1), (2, ziv a2), (3, ziv a3)] [] S V
def zl_X8_weightsWrong_77 (E : zE) (X : zX) (F : Int → Prop) (S : zS) (a0 a1 a2 : Int) (V : zH) : Prop := Zr E X (zRoom 4 0 0) zm_X8_weightsWrong (zQm E X (zpF S V F) 0 0) 0 0 77 [(0, zrv a0), (1, ziv a1), (2, ziv a2)] [] S V
set_option maxRecDepth 100000 in
set_option maxHeartbeats 4000000 in
theorem wp_X8_weightsWrong_2 {E : zE} {X : zX} {F : Int → Prop} {S : zS} {a0 a1 : Int} {V : zH}
    (h : ((S a0).1 = 11) ∧ SpF E 0 zm_X8_buttons [zrv a0] S V (fun x2 => ((x2 ≤ a1) → (zl_X8_weightsWrong_77 E X F S a0 0 0 V)) ∧ ((a1 < x2) → (zl_X8_weightsWrong_14 E X F S a0 a1 0 0 V)))) :
    zl_X8_weightsWrong_2 E X F S a0 a1 V := by
  unfold zl_X8_weightsWrong_2
  refine z_iload_n 1 dX8_weightsWrong_2 rfl ?_
  refine z_aload_n 0 dX8_weightsWrong_3 rfl ?_
  obtain ⟨o1, h⟩ := h
  refine z_cVF [] (zk_RX8_89 _ rfl) dX8_weightsWrong_4 o1 (by decide) rfl rfl (Nat.le_of_ble_eq_true rfl) (Nat.le_of_ble_eq_true rfl) (Nat.le_of_ble_eq_true rfl) (Nat.le_of_ble_eq_true rfl) (Nat.le_of_ble_eq_true rfl) h (fun x2 h => ?_)
  refine z_icmp_ge dX8_weightsWrong_7 (tgt := 73) (by decide) (fun c4 => ?_) (fun c4 => ?_)
  · have h := h.1 c4
    refine z_iconst dX8_weightsWrong_73 ⟨by decide, by decide⟩ ?_
    refine z_istore_n dX8_weightsWrong_74 (by decide) (L' := [(0, zrv a0), (1, ziv 0)]) [1, 0] rfl ?_
    refine z_iconst dX8_weightsWrong_75 ⟨by decide, by decide⟩ ?_
    refine z_istore_n dX8_weightsWrong_76 (by decide) (L' := [(0, zrv a0), (1, ziv 0), (2, ziv 0)]) [1, 2, 0] rfl ?_
    exact h
  · have h := h.2 c4
    refine z_iconst dX8_weightsWrong_10 ⟨by decide, by decide⟩ ?_
    refine z_istore_n dX8_weightsWrong_11 (by decide) (L' := [(0, zrv a0), (1, ziv a1), (2, ziv 0)]) [1, 2, 0] rfl ?_
    refine z_iconst dX8_weightsWrong_12 ⟨by decide, by decide⟩ ?_
    refine z_istore_n dX8_weightsWrong_13 (by decide) (L' := [(0, zrv a0), (1, ziv a1), (2, ziv 0), (3, ziv 0)]) [1, 2, 3, 0] rfl ?_
    exact h
set_option maxRecDepth 100000 in
set_option maxHeartbeats 4000000 in
theorem wp_X8_weightsWrong_14 {E : zE} {X : zX} {F : Int → Prop} {S : zS} {a0 a1 a2 a3 : Int} {V : zH}
    (h : ((S a0).1 = 11) ∧ SpF E 0 zm_X8_n [zrv a0] S V (fun x2 => ((x2 ≤ a3) → (SpF E 0 zm_X8_m [zrv a0] S V (fun x5 => ((0 : Int) ≤ a2) ∧ ((0 : Int) < x5) ∧ ((a2 % x5 = 0) → ((z32 (a1 + 1)) ∧ zl_X8_weightsWrong_2 E X F S a0 (a1 + 1) V)) ∧ ((a2 % x5 ≠ 0) → ((z32 (200 + a1)) ∧ F (200 + a1)))))) ∧ ((a3 < x2) → (SpF E 0 zm_X8_isStuck [zrv a0, ziv a1] S V (fun x12 => ((x12 ≠ 0) → (SpF E 0 zm_X8_m [zrv a0] S V (fun x15 => ((0 : Int) ≤ a2) ∧ ((0 : Int) < x15) ∧ ((a2 % x15 = 0) → ((z32 (a1 + 1)) ∧ zl_X8_weightsWrong_2 E X F S a0 (a1 + 1) V)) ∧ ((a2 % x15 ≠ 0) → ((z32 (200 + a1)) ∧ F (200 + a1)))))) ∧ ((x12 = 0) → (((S (V a0 23)).1 = 1) ∧ ((0 : Int) ≤ a3 ∧ a3 < (S (V a0 23)).2) ∧ SpF E 3 zm_X8_steps [zrv a0, ziv a1, ziv a3] S V (fun x24 => (z32 ((V (V a0 23) a3) * x24)) ∧ (z32 (a2 + ((V (V a0 23) a3) * x24))) ∧ ∀ x28 : Int, x28 = a2 + ((V (V a0 23) a3) * x24) → (z32 (a3 + 1)) ∧ zl_X8_weightsWrong_14 E X F S a0 a1 x28 (a3 + 1) V)))))))) :
    zl_X8_weightsWrong_14 E X F S a0 a1 a2 a3 V := by
  unfold zl_X8_weightsWrong_14
  refine z_iload_n 3 dX8_weightsWrong_14 rfl ?_
  refine z_aload_n 0 dX8_weightsWrong_15 rfl ?_
  obtain ⟨o1, h⟩ := h
  refine z_cVF [] (zk_RX8_84 _ rfl) dX8_weightsWrong_16 o1 (by decide) rfl rfl (Nat.le_of_ble_eq_true rfl) (Nat.le_of_ble_eq_true rfl) (Nat.le_of_ble_eq_true rfl) (Nat.le_of_ble_eq_true rfl) (Nat.le_of_ble_eq_true rfl) h (fun x2 h => ?_)
  refine z_icmp_ge dX8_weightsWrong_19 (tgt := 52) (by decide) (fun c4 => ?_) (fun c4 => ?_)
  · have h := h.1 c4
    refine z_iload_n 2 dX8_weightsWrong_52 rfl ?_
    refine z_aload_n 0 dX8_weightsWrong_53 rfl ?_
    refine z_cVF [] (zk_RX8_96 _ rfl) dX8_weightsWrong_54 o1 (by decide) rfl rfl (Nat.le_of_ble_eq_true rfl) (Nat.le_of_ble_eq_true rfl) (Nat.le_of_ble_eq_true rfl) (Nat.le_of_ble_eq_true rfl) (Nat.le_of_ble_eq_true rfl) h (fun x5 h => ?_)
    obtain ⟨o7, h⟩ := h
    obtain ⟨o8, h⟩ := h
    refine z_irem dX8_weightsWrong_57 o7 o8 ?_
    refine z_if_eq dX8_weightsWrong_58 (tgt := 67) (by decide) (fun c9 => ?_) (fun c9 => ?_)
    · have h := h.1 c9
      obtain ⟨o10, h⟩ := h
      refine z_iinc 1 dX8_weightsWrong_67 rfl (by decide) o10 (L' := [(0, zrv a0), (1, ziv (a1 + 1)), (2, ziv a2), (3, ziv a3)]) [1, 0, 2, 3] rfl ?_
      refine z_goto (tgt := 2) dX8_weightsWrong_70 (by decide) ?_
      refine z_loc (L' := [(0, zrv a0), (1, ziv (a1 + 1))]) [0, 1] rfl ?_
      exact h
    · have h := h.2 c9
      refine z_sipush dX8_weightsWrong_61 ⟨by decide, by decide⟩ (by decide) ?_
      refine z_iload_n 1 dX8_weightsWrong_64 rfl ?_
      obtain ⟨o11, h⟩ := h
      refine z_iadd dX8_weightsWrong_65 o11 ?_
      exact z_retFI dX8_weightsWrong_66 rfl h
  · have h := h.2 c4
    refine z_aload_n 0 dX8_weightsWrong_22 rfl ?_
    refine z_iload_n 1 dX8_weightsWrong_23 rfl ?_
    refine z_cVF [ziv a1] (zk_RX8_137 _ rfl) dX8_weightsWrong_24 o1 (by decide) rfl rfl (Nat.le_of_ble_eq_true rfl) (Nat.le_of_ble_eq_true rfl) (Nat.le_of_ble_eq_true rfl) (Nat.le_of_ble_eq_true rfl) (Nat.le_of_ble_eq_true rfl) h (fun x12 h => ?_)
    refine z_if_ne dX8_weightsWrong_27 (tgt := 52) (by decide) (fun c14 => ?_) (fun c14 => ?_)
    · have h := h.1 c14
      refine z_iload_n 2 dX8_weightsWrong_52 rfl ?_
      refine z_aload_n 0 dX8_weightsWrong_53 rfl ?_
      refine z_cVF [] (zk_RX8_96 _ rfl) dX8_weightsWrong_54 o1 (by decide) rfl rfl (Nat.le_of_ble_eq_true rfl) (Nat.le_of_ble_eq_true rfl) (Nat.le_of_ble_eq_true rfl) (Nat.le_of_ble_eq_true rfl) (Nat.le_of_ble_eq_true rfl) h (fun x15 h => ?_)
      obtain ⟨o17, h⟩ := h
      obtain ⟨o18, h⟩ := h
      refine z_irem dX8_weightsWrong_57 o17 o18 ?_
      refine z_if_eq dX8_weightsWrong_58 (tgt := 67) (by decide) (fun c19 => ?_) (fun c19 => ?_)
      · have h := h.1 c19
        obtain ⟨o20, h⟩ := h
        refine z_iinc 1 dX8_weightsWrong_67 rfl (by decide) o20 (L' := [(0, zrv a0), (1, ziv (a1 + 1)), (2, ziv a2), (3, ziv a3)]) [1, 0, 2, 3] rfl ?_
        refine z_goto (tgt := 2) dX8_weightsWrong_70 (by decide) ?_
        refine z_loc (L' := [(0, zrv a0), (1, ziv (a1 + 1))]) [0, 1] rfl ?_
        exact h
      · have h := h.2 c19
        refine z_sipush dX8_weightsWrong_61 ⟨by decide, by decide⟩ (by decide) ?_
        refine z_iload_n 1 dX8_weightsWrong_64 rfl ?_
        obtain ⟨o21, h⟩ := h
        refine z_iadd dX8_weightsWrong_65 o21 ?_
        exact z_retFI dX8_weightsWrong_66 rfl h
    · have h := h.2 c14
      refine z_iload_n 2 dX8_weightsWrong_30 rfl ?_
      refine z_aload_n 0 dX8_weightsWrong_31 rfl ?_
      refine zgf_8_23 dX8_weightsWrong_32 (zf_RX8_53 _ rfl) o1 ?_
      refine z_iload_n 3 dX8_weightsWrong_35 rfl ?_
      obtain ⟨o22, h⟩ := h
      obtain ⟨o23, h⟩ := h
      refine z_iald dX8_weightsWrong_36 o22 o23 ?_
      refine z_aload_n 0 dX8_weightsWrong_37 rfl ?_
      refine z_iload_n 1 dX8_weightsWrong_38 rfl ?_
      refine z_iload_n 3 dX8_weightsWrong_39 rfl ?_
      refine z_cVF [ziv a1, ziv a3] (zk_RX8_134 _ rfl) dX8_weightsWrong_40 o1 (by decide) rfl rfl (Nat.le_of_ble_eq_true rfl) (Nat.le_of_ble_eq_true rfl) (Nat.le_of_ble_eq_true rfl) (Nat.le_of_ble_eq_true rfl) (Nat.le_of_ble_eq_true rfl) h (fun x24 h => ?_)
      obtain ⟨o26, h⟩ := h
      refine z_imul dX8_weightsWrong_43 o26 ?_
      obtain ⟨o27, h⟩ := h
      refine z_iadd dX8_weightsWrong_44 o27 ?_
      refine z_nameI (fun x28 e29 => ?_)
      have h := h x28 e29
      refine z_istore_n dX8_weightsWrong_45 (by decide) (L' := [(0, zrv a0), (1, ziv a1), (2, ziv x28), (3, ziv a3)]) [1, 2, 0, 3] rfl ?_
      obtain ⟨o30, h⟩ := h
      refine z_iinc 3 dX8_weightsWrong_46 rfl (by decide) o30 (L' := [(0, zrv a0), (1, ziv a1), (2, ziv x28), (3, ziv (a3 + 1))]) [1, 2, 3, 0] rfl ?_
      refine z_goto (tgt := 14) dX8_weightsWrong_49 (by decide) ?_
      exact h
set_option maxRecDepth 100000 in
set_option maxHeartbeats 4000000 in
theorem wp_X8_weightsWrong_77 {E : zE} {X : zX} {F : Int → Prop} {S : zS} {a0 a1 a2 : Int} {V : zH}
    (h : ((S a0).1 = 11) ∧ SpF E 0 zm_X8_n [zrv a0] S V (fun x2 => ((x2 ≤ a2) → (SpF E 0 zm_X8_m [zrv a0] S V (fun x5 => ((0 : Int) ≤ a1) ∧ ((0 : Int) < x5) ∧ ((a1 % x5 = 0) → (F 300)) ∧ ((a1 % x5 ≠ 0) → (F (-1)))))) ∧ ((a2 < x2) → (((S (V a0 23)).1 = 1) ∧ ((0 : Int) ≤ a2 ∧ a2 < (S (V a0 23)).2) ∧ (z32 (4 + a2)) ∧ ((S (V a0 0)).1 = 1) ∧ ((0 : Int) ≤ 4 + a2 ∧ 4 + a2 < (S (V a0 0)).2) ∧ (z32 ((V (V a0 23) a2) * (V (V a0 0) (4 + a2)))) ∧ (z32 (a1 + ((V (V a0 23) a2) * (V (V a0 0) (4 + a2))))) ∧ ∀ x17 : Int, x17 = a1 + ((V (V a0 23) a2) * (V (V a0 0) (4 + a2))) → (z32 (a2 + 1)) ∧ zl_X8_weightsWrong_77 E X F S a0 x17 (a2 + 1) V)))) :
    zl_X8_weightsWrong_77 E X F S a0 a1 a2 V := by
  unfold zl_X8_weightsWrong_77
  refine z_iload_n 2 dX8_weightsWrong_77 rfl ?_
  refine z_aload_n 0 dX8_weightsWrong_78 rfl ?_
  obtain ⟨o1, h⟩ := h
  refine z_cVF [] (zk_RX8_84 _ rfl) dX8_weightsWrong_79 o1 (by decide) rfl rfl (Nat.le_of_ble_eq_true rfl) (Nat.le_of_ble_eq_true rfl) (Nat.le_of_ble_eq_true rfl) (Nat.le_of_ble_eq_true rfl) (Nat.le_of_ble_eq_true rfl) h (fun x2 h => ?_)
  refine z_icmp_ge dX8_weightsWrong_82 (tgt := 109) (by decide) (fun c4 => ?_) (fun c4 => ?_)
  · have h := h.1 c4
    refine z_iload_n 1 dX8_weightsWrong_109 rfl ?_
    refine z_aload_n 0 dX8_weightsWrong_110 rfl ?_
    refine z_cVF [] (zk_RX8_96 _ rfl) dX8_weightsWrong_111 o1 (by decide) rfl rfl (Nat.le_of_ble_eq_true rfl) (Nat.le_of_ble_eq_true rfl) (Nat.le_of_ble_eq_true rfl) (Nat.le_of_ble_eq_true rfl) (Nat.le_of_ble_eq_true rfl) h (fun x5 h => ?_)
    obtain ⟨o7, h⟩ := h
    obtain ⟨o8, h⟩ := h
    refine z_irem dX8_weightsWrong_114 o7 o8 ?_
    refine z_if_eq dX8_weightsWrong_115 (tgt := 122) (by decide) (fun c9 => ?_) (fun c9 => ?_)
    · have h := h.1 c9
      refine z_sipush dX8_weightsWrong_122 ⟨by decide, by decide⟩ (by decide) ?_
      exact z_retFI dX8_weightsWrong_125 rfl h
    · have h := h.2 c9
      refine z_iconst dX8_weightsWrong_118 ⟨by decide, by decide⟩ ?_
      refine z_goto (tgt := 125) dX8_weightsWrong_119 (by decide) ?_
      exact z_retFI dX8_weightsWrong_125 rfl h
  · have h := h.2 c4
    refine z_iload_n 1 dX8_weightsWrong_85 rfl ?_
    refine z_aload_n 0 dX8_weightsWrong_86 rfl ?_
    refine zgf_8_23 dX8_weightsWrong_87 (zf_RX8_53 _ rfl) o1 ?_
    refine z_iload_n 2 dX8_weightsWrong_90 rfl ?_
    obtain ⟨o10, h⟩ := h
    obtain ⟨o11, h⟩ := h
    refine z_iald dX8_weightsWrong_91 o10 o11 ?_
    refine z_aload_n 0 dX8_weightsWrong_92 rfl ?_
    refine zgf_8_0 dX8_weightsWrong_93 (zf_RX8_9 _ rfl) o1 ?_
    refine z_iconst dX8_weightsWrong_96 ⟨by decide, by decide⟩ ?_
    refine z_iload_n 2 dX8_weightsWrong_97 rfl ?_
    obtain ⟨o12, h⟩ := h
    refine z_iadd dX8_weightsWrong_98 o12 ?_
    obtain ⟨o13, h⟩ := h
    obtain ⟨o14, h⟩ := h
    refine z_iald dX8_weightsWrong_99 o13 o14 ?_
    obtain ⟨o15, h⟩ := h
    refine z_imul dX8_weightsWrong_100 o15 ?_
    obtain ⟨o16, h⟩ := h
    refine z_iadd dX8_weightsWrong_101 o16 ?_
    refine z_nameI (fun x17 e18 => ?_)
    have h := h x17 e18
    refine z_istore_n dX8_weightsWrong_102 (by decide) (L' := [(0, zrv a0), (1, ziv x17), (2, ziv a2)]) [1, 0, 2] rfl ?_
    obtain ⟨o19, h⟩ := h
    refine z_iinc 2 dX8_weightsWrong_103 rfl (by decide) o19 (L' := [(0, zrv a0), (1, ziv x17), (2, ziv (a2 + 1))]) [1, 2, 0] rfl ?_
    refine z_goto (tgt := 77) dX8_weightsWrong_106 (by decide) ?_
    exact h
set_option maxRecDepth 100000 in
set_option maxHeartbeats 4000000 in
theorem en_X8_weightsWrong {E : zE} {F : Int → Prop} {S : zS} {a0 : Int} {V : zH}
    (h : ∀ X : zX, zl_X8_weightsWrong_2 E X F S a0 0 V) :
    SpF E 4 zm_X8_weightsWrong [zrv a0] S V F := by
  refine Sp.of (plainFor_of_name (by decide +kernel)) (Nat.le_of_ble_eq_true rfl) (fun hok X => ?_)
  have h := h X
  show Zr E X (zRoom 4 0 0) zm_X8_weightsWrong (zQm E X (zpF S V F) 0 0) 0 0 0 [(0, zrv a0)] [] S V
  refine z_iconst dX8_weightsWrong_0 ⟨by decide, by decide⟩ ?_
  refine z_istore_n dX8_weightsWrong_1 (by decide) (L' := [(0, zrv a0), (1, ziv 0)]) [1, 0] rfl ?_
  exact h
