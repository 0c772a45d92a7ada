set_option maxRecDepth 100000 in
set_option maxHeartbeats 4000000 in
theorem en_X8_init {E : zE} {F : zS → zH → Prop} {mc ms : Nat} {S : zS} {a0 : Int} {V : zH}
    (h : ((S a0).1 = 11) ∧ (0 < a0) ∧ (0 + 1 ≤ mc ∧ 0 + 1516 ≤ ms) ∧ ∀ r4 : Int, 0 < r4 → ((S r4).1 = 0 ∧ ∀ q : Int, (S q).1 ≠ 0 → q < r4 ∧ (S (r4 - 1)).1 ≠ 0) → ∀ (S7 : zS) (V8 : zH), S7 = zSn S r4 (1, 1516) → V8 = zVn V r4 → ∀ V13 : zH, V13 = zput V8 a0 0 r4 → (0 + 1 + 1 ≤ mc ∧ 0 + 1516 + 1516 ≤ ms) ∧ ∀ r16 : Int, 0 < r16 → ((S7 r16).1 = 0 ∧ ∀ q : Int, (S7 q).1 ≠ 0 → q < r16 ∧ (S7 (r16 - 1)).1 ≠ 0) → ∀ (S19 : zS) (V20 : zH), S19 = zSn S7 r16 (1, 1516) → V20 = zVn V13 r16 → ∀ V26 : zH, V26 = zput V20 a0 1 r16 → (0 + 1 + 1 + 1 ≤ mc ∧ 0 + 1516 + 1516 + 90960 ≤ ms) ∧ ∀ r29 : Int, 0 < r29 → ((S19 r29).1 = 0 ∧ ∀ q : Int, (S19 q).1 ≠ 0 → q < r29 ∧ (S19 (r29 - 1)).1 ≠ 0) → ∀ (S32 : zS) (V33 : zH), S32 = zSn S19 r29 (1, 90960) → V33 = zVn V26 r29 → ∀ V40 : zH, V40 = zput V33 a0 3 r29 → ∀ V42 : zH, V42 = zput V40 a0 6 (-1) → (0 + 1 + 1 + 1 + 1 ≤ mc ∧ 0 + 1516 + 1516 + 90960 + 80 ≤ ms) ∧ ∀ r45 : Int, 0 < r45 → ((S32 r45).1 = 0 ∧ ∀ q : Int, (S32 q).1 ≠ 0 → q < r45 ∧ (S32 (r45 - 1)).1 ≠ 0) → ∀ (S48 : zS) (V49 : zH), S48 = zSn S32 r45 (2, 80) → V49 = zVn V42 r45 → ∀ V57 : zH, V57 = zput V49 a0 8 r45 → (0 + 1 + 1 + 1 + 1 + 1 ≤ mc ∧ 0 + 1516 + 1516 + 90960 + 80 + 1369 ≤ ms) ∧ ∀ r60 : Int, 0 < r60 → ((S48 r60).1 = 0 ∧ ∀ q : Int, (S48 q).1 ≠ 0 → q < r60 ∧ (S48 (r60 - 1)).1 ≠ 0) → ∀ (S63 : zS) (V64 : zH), S63 = zSn S48 r60 (1, 1369) → V64 = zVn V57 r60 → ∀ V73 : zH, V73 = zput V64 a0 9 r60 → (0 + 1 + 1 + 1 + 1 + 1 + 1 ≤ mc ∧ 0 + 1516 + 1516 + 90960 + 80 + 1369 + 37 ≤ ms) ∧ ∀ r76 : Int, 0 < r76 → ((S63 r76).1 = 0 ∧ ∀ q : Int, (S63 q).1 ≠ 0 → q < r76 ∧ (S63 (r76 - 1)).1 ≠ 0) → ∀ (S79 : zS) (V80 : zH), S79 = zSn S63 r76 (1, 37) → V80 = zVn V73 r76 → ∀ V90 : zH, V90 = zput V80 a0 11 r76 → (0 + 1 + 1 + 1 + 1 + 1 + 1 + 1 ≤ mc ∧ 0 + 1516 + 1516 + 90960 + 80 + 1369 + 37 + 37 ≤ ms) ∧ ∀ r93 : Int, 0 < r93 → ((S79 r93).1 = 0 ∧ ∀ q : Int, (S79 q).1 ≠ 0 → q < r93 ∧ (S79 (r93 - 1)).1 ≠ 0) → ∀ (S96 : zS) (V97 : zH), S96 = zSn S79 r93 (1, 37) → V97 = zVn V90 r93 → ∀ V108 : zH, V108 = zput V97 a0 12 r93 → (0 + 1 + 1 + 1 + 1 + 1 + 1 + 1 + 1 ≤ mc ∧ 0 + 1516 + 1516 + 90960 + 80 + 1369 + 37 + 37 + 37 ≤ ms) ∧ ∀ r111 : Int, 0 < r111 → ((S96 r111).1 = 0 ∧ ∀ q : Int, (S96 q).1 ≠ 0 → q < r111 ∧ (S96 (r111 - 1)).1 ≠ 0) → ∀ (S114 : zS) (V115 : zH), S114 = zSn S96 r111 (1, 37) → V115 = zVn V108 r111 → ∀ V127 : zH, V127 = zput V115 a0 13 r111 → (0 + 1 + 1 + 1 + 1 + 1 + 1 + 1 + 1 + 1 ≤ mc ∧ 0 + 1516 + 1516 + 90960 + 80 + 1369 + 37 + 37 + 37 + 36 ≤ ms) ∧ ∀ r130 : Int, 0 < r130 → ((S114 r130).1 = 0 ∧ ∀ q : Int, (S114 q).1 ≠ 0 → q < r130 ∧ (S114 (r130 - 1)).1 ≠ 0) → ∀ (S133 : zS) (V134 : zH), S133 = zSn S114 r130 (1, 36) → V134 = zVn V127 r130 → ∀ V147 : zH, V147 = zput V134 a0 16 r130 → (0 + 1 + 1 + 1 + 1 + 1 + 1 + 1 + 1 + 1 + 1 ≤ mc ∧ 0 + 1516 + 1516 + 90960 + 80 + 1369 + 37 + 37 + 37 + 36 + 36 ≤ ms) ∧ ∀ r150 : Int, 0 < r150 → ((S133 r150).1 = 0 ∧ ∀ q : Int, (S133 q).1 ≠ 0 → q < r150 ∧ (S133 (r150 - 1)).1 ≠ 0) → ∀ (S153 : zS) (V154 : zH), S153 = zSn S133 r150 (1, 36) → V154 = zVn V147 r150 → ∀ V168 : zH, V168 = zput V154 a0 20 r150 → (0 + 1 + 1 + 1 + 1 + 1 + 1 + 1 + 1 + 1 + 1 + 1 ≤ mc ∧ 0 + 1516 + 1516 + 90960 + 80 + 1369 + 37 + 37 + 37 + 36 + 36 + 36 ≤ ms) ∧ ∀ r171 : Int, 0 < r171 → ((S153 r171).1 = 0 ∧ ∀ q : Int, (S153 q).1 ≠ 0 → q < r171 ∧ (S153 (r171 - 1)).1 ≠ 0) → ∀ (S174 : zS) (V175 : zH), S174 = zSn S153 r171 (1, 36) → V175 = zVn V168 r171 → ∀ V190 : zH, V190 = zput V175 a0 21 r171 → (0 + 1 + 1 + 1 + 1 + 1 + 1 + 1 + 1 + 1 + 1 + 1 + 1 ≤ mc ∧ 0 + 1516 + 1516 + 90960 + 80 + 1369 + 37 + 37 + 37 + 36 + 36 + 36 + 65536 ≤ ms) ∧ ∀ r193 : Int, 0 < r193 → ((S174 r193).1 = 0 ∧ ∀ q : Int, (S174 q).1 ≠ 0 → q < r193 ∧ (S174 (r193 - 1)).1 ≠ 0) → ∀ (S196 : zS) (V197 : zH), S196 = zSn S174 r193 (2, 65536) → V197 = zVn V190 r193 → ∀ V213 : zH, V213 = zput V197 a0 22 r193 → (0 + 1 + 1 + 1 + 1 + 1 + 1 + 1 + 1 + 1 + 1 + 1 + 1 + 1 ≤ mc ∧ 0 + 1516 + 1516 + 90960 + 80 + 1369 + 37 + 37 + 37 + 36 + 36 + 36 + 65536 + 36 ≤ ms) ∧ ∀ r216 : Int, 0 < r216 → ((S196 r216).1 = 0 ∧ ∀ q : Int, (S196 q).1 ≠ 0 → q < r216 ∧ (S196 (r216 - 1)).1 ≠ 0) → ∀ (S219 : zS) (V220 : zH), S219 = zSn S196 r216 (1, 36) → V220 = zVn V213 r216 → ∀ V237 : zH, V237 = zput V220 a0 23 r216 → (0 + 1 + 1 + 1 + 1 + 1 + 1 + 1 + 1 + 1 + 1 + 1 + 1 + 1 ≤ mc ∧ 0 + 1516 + 1516 + 90960 + 80 + 1369 + 37 + 37 + 37 + 36 + 36 + 36 + 65536 + 36 ≤ ms) ∧ SpV E 0 zm_X8_set [zrv a0, ziv 1, ziv 2, ziv 1] S219 V237 (fun V240 => F S219 V240)) :
    SaV E 1 mc ms zm_X8_init [zrv a0] S V F := by
  refine Sp.of (plainFor_of_name (by decide +kernel)) (Nat.le_of_ble_eq_true rfl) (fun hok X => ?_)
  have h := h
  show Zr E X (zRoom 1 mc ms) zm_X8_init (zQm E X (zaV F) mc ms) 0 0 0 [(0, zrv a0)] [] S V
  refine z_aload_n 0 dX8_init_0 rfl ?_
  obtain ⟨o1, h⟩ := h
  obtain ⟨o2, h⟩ := h
  refine z_objInit dX8_init_1 (zk_RX8_3 _ rfl) zw_oi1 zw_oi2 o2 (Nat.le_of_ble_eq_true rfl) (Nat.le_of_ble_eq_true rfl) (Nat.le_of_ble_eq_true rfl) ?_
  refine z_aload_n 0 dX8_init_4 rfl ?_
  refine z_sipush dX8_init_5 ⟨by decide, by decide⟩ (by decide) ?_
  obtain ⟨o3, h⟩ := h
  refine z_newi dX8_init_8 zw_arri (by decide) (by decide) o3.1 o3.2 (fun r4 q5 f6 => ?_)
  refine z_nameS (fun S7 V8 e9 e10 => ?_)
  have h := h r4 q5 f6 S7 V8 e9 e10
  have o11 : (S7 a0).1 = 11 := zSn_k e9 o1 f6.1 (by decide)
  have o12 : (S7 r4).1 = 1 := zSn_r e9
  refine zpf_8_0 rfl rfl dX8_init_10 (zf_RX8_9 _ rfl) o11 ?_
  refine z_nameV (fun V13 e14 => ?_)
  have h := h V13 e14
  refine z_aload_n 0 dX8_init_13 rfl ?_
  refine z_sipush dX8_init_14 ⟨by decide, by decide⟩ (by decide) ?_
  obtain ⟨o15, h⟩ := h
  refine z_newi dX8_init_17 zw_arri (by decide) (by decide) o15.1 o15.2 (fun r16 q17 f18 => ?_)
  refine z_nameS (fun S19 V20 e21 e22 => ?_)
  have h := h r16 q17 f18 S19 V20 e21 e22
  have o23 : (S19 a0).1 = 11 := zSn_k e21 o11 f18.1 (by decide)
  have o24 : (S19 r4).1 = 1 := zSn_k e21 o12 f18.1 (by decide)
  have o25 : (S19 r16).1 = 1 := zSn_r e21
  refine zpf_8_1 rfl rfl dX8_init_19 (zf_RX8_13 _ rfl) o23 ?_
  refine z_nameV (fun V26 e27 => ?_)
  have h := h V26 e27
  refine z_aload_n 0 dX8_init_22 rfl ?_
  refine z_ldc (c := 90960) (zd_RX8_16 _ rfl) (by decide) ⟨by decide, by decide⟩ dX8_init_23 ?_
  obtain ⟨o28, h⟩ := h
  refine z_newi dX8_init_25 zw_arri (by decide) (by decide) o28.1 o28.2 (fun r29 q30 f31 => ?_)
  refine z_nameS (fun S32 V33 e34 e35 => ?_)
  have h := h r29 q30 f31 S32 V33 e34 e35
  have o36 : (S32 a0).1 = 11 := zSn_k e34 o23 f31.1 (by decide)
  have o37 : (S32 r4).1 = 1 := zSn_k e34 o24 f31.1 (by decide)
  have o38 : (S32 r16).1 = 1 := zSn_k e34 o25 f31.1 (by decide)
  have o39 : (S32 r29).1 = 1 := zSn_r e34
  refine zpf_8_3 rfl rfl dX8_init_27 (zf_RX8_17 _ rfl) o36 ?_
  refine z_nameV (fun V40 e41 => ?_)
  have h := h V40 e41
  refine z_aload_n 0 dX8_init_30 rfl ?_
  refine z_iconst dX8_init_31 ⟨by decide, by decide⟩ ?_
  refine zpf_8_6 dX8_init_32 (zf_RX8_20 _ rfl) o36 ?_
  refine z_nameV (fun V42 e43 => ?_)
  have h := h V42 e43
  refine z_aload_n 0 dX8_init_35 rfl ?_
  refine z_bipush dX8_init_36 ⟨by decide, by decide⟩ (by decide) ?_
  obtain ⟨o44, h⟩ := h
  refine z_newl dX8_init_38 zw_arrj (by decide) (by decide) o44.1 o44.2 (fun r45 q46 f47 => ?_)
  refine z_nameS (fun S48 V49 e50 e51 => ?_)
  have h := h r45 q46 f47 S48 V49 e50 e51
  have o52 : (S48 a0).1 = 11 := zSn_k e50 o36 f47.1 (by decide)
  have o53 : (S48 r4).1 = 1 := zSn_k e50 o37 f47.1 (by decide)
  have o54 : (S48 r16).1 = 1 := zSn_k e50 o38 f47.1 (by decide)
  have o55 : (S48 r29).1 = 1 := zSn_k e50 o39 f47.1 (by decide)
  have o56 : (S48 r45).1 = 2 := zSn_r e50
  refine zpf_8_8 rfl rfl dX8_init_40 (zf_RX8_24 _ rfl) o52 ?_
  refine z_nameV (fun V57 e58 => ?_)
  have h := h V57 e58
  refine z_aload_n 0 dX8_init_43 rfl ?_
  refine z_sipush dX8_init_44 ⟨by decide, by decide⟩ (by decide) ?_
  obtain ⟨o59, h⟩ := h
  refine z_newi dX8_init_47 zw_arri (by decide) (by decide) o59.1 o59.2 (fun r60 q61 f62 => ?_)
  refine z_nameS (fun S63 V64 e65 e66 => ?_)
  have h := h r60 q61 f62 S63 V64 e65 e66
  have o67 : (S63 a0).1 = 11 := zSn_k e65 o52 f62.1 (by decide)
  have o68 : (S63 r4).1 = 1 := zSn_k e65 o53 f62.1 (by decide)
  have o69 : (S63 r16).1 = 1 := zSn_k e65 o54 f62.1 (by decide)
  have o70 : (S63 r29).1 = 1 := zSn_k e65 o55 f62.1 (by decide)
  have o71 : (S63 r45).1 = 2 := zSn_k e65 o56 f62.1 (by decide)
  have o72 : (S63 r60).1 = 1 := zSn_r e65
  refine zpf_8_9 rfl rfl dX8_init_49 (zf_RX8_28 _ rfl) o67 ?_
  refine z_nameV (fun V73 e74 => ?_)
  have h := h V73 e74
  refine z_aload_n 0 dX8_init_52 rfl ?_
  refine z_bipush dX8_init_53 ⟨by decide, by decide⟩ (by decide) ?_
  obtain ⟨o75, h⟩ := h
  refine z_newi dX8_init_55 zw_arri (by decide) (by decide) o75.1 o75.2 (fun r76 q77 f78 => ?_)
  refine z_nameS (fun S79 V80 e81 e82 => ?_)
  have h := h r76 q77 f78 S79 V80 e81 e82
  have o83 : (S79 a0).1 = 11 := zSn_k e81 o67 f78.1 (by decide)
  have o84 : (S79 r4).1 = 1 := zSn_k e81 o68 f78.1 (by decide)
  have o85 : (S79 r16).1 = 1 := zSn_k e81 o69 f78.1 (by decide)
  have o86 : (S79 r29).1 = 1 := zSn_k e81 o70 f78.1 (by decide)
  have o87 : (S79 r45).1 = 2 := zSn_k e81 o71 f78.1 (by decide)
  have o88 : (S79 r60).1 = 1 := zSn_k e81 o72 f78.1 (by decide)
  have o89 : (S79 r76).1 = 1 := zSn_r e81
  refine zpf_8_11 rfl rfl dX8_init_57 (zf_RX8_31 _ rfl) o83 ?_
  refine z_nameV (fun V90 e91 => ?_)
  have h := h V90 e91
  refine z_aload_n 0 dX8_init_60 rfl ?_
  refine z_bipush dX8_init_61 ⟨by decide, by decide⟩ (by decide) ?_
  obtain ⟨o92, h⟩ := h
  refine z_newi dX8_init_63 zw_arri (by decide) (by decide) o92.1 o92.2 (fun r93 q94 f95 => ?_)
  refine z_nameS (fun S96 V97 e98 e99 => ?_)
  have h := h r93 q94 f95 S96 V97 e98 e99
  have o100 : (S96 a0).1 = 11 := zSn_k e98 o83 f95.1 (by decide)
  have o101 : (S96 r4).1 = 1 := zSn_k e98 o84 f95.1 (by decide)
  have o102 : (S96 r16).1 = 1 := zSn_k e98 o85 f95.1 (by decide)
  have o103 : (S96 r29).1 = 1 := zSn_k e98 o86 f95.1 (by decide)
  have o104 : (S96 r45).1 = 2 := zSn_k e98 o87 f95.1 (by decide)
  have o105 : (S96 r60).1 = 1 := zSn_k e98 o88 f95.1 (by decide)
  have o106 : (S96 r76).1 = 1 := zSn_k e98 o89 f95.1 (by decide)
  have o107 : (S96 r93).1 = 1 := zSn_r e98
  refine zpf_8_12 rfl rfl dX8_init_65 (zf_RX8_34 _ rfl) o100 ?_
  refine z_nameV (fun V108 e109 => ?_)
  have h := h V108 e109
  refine z_aload_n 0 dX8_init_68 rfl ?_
  refine z_bipush dX8_init_69 ⟨by decide, by decide⟩ (by decide) ?_
  obtain ⟨o110, h⟩ := h
  refine z_newi dX8_init_71 zw_arri (by decide) (by decide) o110.1 o110.2 (fun r111 q112 f113 => ?_)
  refine z_nameS (fun S114 V115 e116 e117 => ?_)
  have h := h r111 q112 f113 S114 V115 e116 e117
  have o118 : (S114 a0).1 = 11 := zSn_k e116 o100 f113.1 (by decide)
  have o119 : (S114 r4).1 = 1 := zSn_k e116 o101 f113.1 (by decide)
  have o120 : (S114 r16).1 = 1 := zSn_k e116 o102 f113.1 (by decide)
  have o121 : (S114 r29).1 = 1 := zSn_k e116 o103 f113.1 (by decide)
  have o122 : (S114 r45).1 = 2 := zSn_k e116 o104 f113.1 (by decide)
  have o123 : (S114 r60).1 = 1 := zSn_k e116 o105 f113.1 (by decide)
  have o124 : (S114 r76).1 = 1 := zSn_k e116 o106 f113.1 (by decide)
  have o125 : (S114 r93).1 = 1 := zSn_k e116 o107 f113.1 (by decide)
  have o126 : (S114 r111).1 = 1 := zSn_r e116
  refine zpf_8_13 rfl rfl dX8_init_73 (zf_RX8_37 _ rfl) o118 ?_
  refine z_nameV (fun V127 e128 => ?_)
  have h := h V127 e128
  refine z_aload_n 0 dX8_init_76 rfl ?_
  refine z_bipush dX8_init_77 ⟨by decide, by decide⟩ (by decide) ?_
  obtain ⟨o129, h⟩ := h
  refine z_newi dX8_init_79 zw_arri (by decide) (by decide) o129.1 o129.2 (fun r130 q131 f132 => ?_)
  refine z_nameS (fun S133 V134 e135 e136 => ?_)
  have h := h r130 q131 f132 S133 V134 e135 e136
  have o137 : (S133 a0).1 = 11 := zSn_k e135 o118 f132.1 (by decide)
  have o138 : (S133 r4).1 = 1 := zSn_k e135 o119 f132.1 (by decide)
  have o139 : (S133 r16).1 = 1 := zSn_k e135 o120 f132.1 (by decide)
  have o140 : (S133 r29).1 = 1 := zSn_k e135 o121 f132.1 (by decide)
  have o141 : (S133 r45).1 = 2 := zSn_k e135 o122 f132.1 (by decide)
  have o142 : (S133 r60).1 = 1 := zSn_k e135 o123 f132.1 (by decide)
  have o143 : (S133 r76).1 = 1 := zSn_k e135 o124 f132.1 (by decide)
  have o144 : (S133 r93).1 = 1 := zSn_k e135 o125 f132.1 (by decide)
  have o145 : (S133 r111).1 = 1 := zSn_k e135 o126 f132.1 (by decide)
  have o146 : (S133 r130).1 = 1 := zSn_r e135
  refine zpf_8_16 rfl rfl dX8_init_81 (zf_RX8_40 _ rfl) o137 ?_
  refine z_nameV (fun V147 e148 => ?_)
  have h := h V147 e148
  refine z_aload_n 0 dX8_init_84 rfl ?_
  refine z_bipush dX8_init_85 ⟨by decide, by decide⟩ (by decide) ?_
  obtain ⟨o149, h⟩ := h
  refine z_newi dX8_init_87 zw_arri (by decide) (by decide) o149.1 o149.2 (fun r150 q151 f152 => ?_)
  refine z_nameS (fun S153 V154 e155 e156 => ?_)
  have h := h r150 q151 f152 S153 V154 e155 e156
  have o157 : (S153 a0).1 = 11 := zSn_k e155 o137 f152.1 (by decide)
  have o158 : (S153 r4).1 = 1 := zSn_k e155 o138 f152.1 (by decide)
  have o159 : (S153 r16).1 = 1 := zSn_k e155 o139 f152.1 (by decide)
  have o160 : (S153 r29).1 = 1 := zSn_k e155 o140 f152.1 (by decide)
  have o161 : (S153 r45).1 = 2 := zSn_k e155 o141 f152.1 (by decide)
  have o162 : (S153 r60).1 = 1 := zSn_k e155 o142 f152.1 (by decide)
  have o163 : (S153 r76).1 = 1 := zSn_k e155 o143 f152.1 (by decide)
  have o164 : (S153 r93).1 = 1 := zSn_k e155 o144 f152.1 (by decide)
  have o165 : (S153 r111).1 = 1 := zSn_k e155 o145 f152.1 (by decide)
  have o166 : (S153 r130).1 = 1 := zSn_k e155 o146 f152.1 (by decide)
  have o167 : (S153 r150).1 = 1 := zSn_r e155
  refine zpf_8_20 rfl rfl dX8_init_89 (zf_RX8_43 _ rfl) o157 ?_
  refine z_nameV (fun V168 e169 => ?_)
  have h := h V168 e169
  refine z_aload_n 0 dX8_init_92 rfl ?_
  refine z_bipush dX8_init_93 ⟨by decide, by decide⟩ (by decide) ?_
  obtain ⟨o170, h⟩ := h
  refine z_newi dX8_init_95 zw_arri (by decide) (by decide) o170.1 o170.2 (fun r171 q172 f173 => ?_)
  refine z_nameS (fun S174 V175 e176 e177 => ?_)
  have h := h r171 q172 f173 S174 V175 e176 e177
  have o178 : (S174 a0).1 = 11 := zSn_k e176 o157 f173.1 (by decide)
  have o179 : (S174 r4).1 = 1 := zSn_k e176 o158 f173.1 (by decide)
  have o180 : (S174 r16).1 = 1 := zSn_k e176 o159 f173.1 (by decide)
  have o181 : (S174 r29).1 = 1 := zSn_k e176 o160 f173.1 (by decide)
  have o182 : (S174 r45).1 = 2 := zSn_k e176 o161 f173.1 (by decide)
  have o183 : (S174 r60).1 = 1 := zSn_k e176 o162 f173.1 (by decide)
  have o184 : (S174 r76).1 = 1 := zSn_k e176 o163 f173.1 (by decide)
  have o185 : (S174 r93).1 = 1 := zSn_k e176 o164 f173.1 (by decide)
  have o186 : (S174 r111).1 = 1 := zSn_k e176 o165 f173.1 (by decide)
  have o187 : (S174 r130).1 = 1 := zSn_k e176 o166 f173.1 (by decide)
  have o188 : (S174 r150).1 = 1 := zSn_k e176 o167 f173.1 (by decide)
  have o189 : (S174 r171).1 = 1 := zSn_r e176
  refine zpf_8_21 rfl rfl dX8_init_97 (zf_RX8_46 _ rfl) o178 ?_
  refine z_nameV (fun V190 e191 => ?_)
  have h := h V190 e191
  refine z_aload_n 0 dX8_init_100 rfl ?_
  refine z_ldc (c := 65536) (zd_RX8_49 _ rfl) (by decide) ⟨by decide, by decide⟩ dX8_init_101 ?_
  obtain ⟨o192, h⟩ := h
  refine z_newl dX8_init_103 zw_arrj (by decide) (by decide) o192.1 o192.2 (fun r193 q194 f195 => ?_)
  refine z_nameS (fun S196 V197 e198 e199 => ?_)
  have h := h r193 q194 f195 S196 V197 e198 e199
  have o200 : (S196 a0).1 = 11 := zSn_k e198 o178 f195.1 (by decide)
  have o201 : (S196 r4).1 = 1 := zSn_k e198 o179 f195.1 (by decide)
  have o202 : (S196 r16).1 = 1 := zSn_k e198 o180 f195.1 (by decide)
  have o203 : (S196 r29).1 = 1 := zSn_k e198 o181 f195.1 (by decide)
  have o204 : (S196 r45).1 = 2 := zSn_k e198 o182 f195.1 (by decide)
  have o205 : (S196 r60).1 = 1 := zSn_k e198 o183 f195.1 (by decide)
  have o206 : (S196 r76).1 = 1 := zSn_k e198 o184 f195.1 (by decide)
  have o207 : (S196 r93).1 = 1 := zSn_k e198 o185 f195.1 (by decide)
  have o208 : (S196 r111).1 = 1 := zSn_k e198 o186 f195.1 (by decide)
  have o209 : (S196 r130).1 = 1 := zSn_k e198 o187 f195.1 (by decide)
  have o210 : (S196 r150).1 = 1 := zSn_k e198 o188 f195.1 (by decide)
  have o211 : (S196 r171).1 = 1 := zSn_k e198 o189 f195.1 (by decide)
  have o212 : (S196 r193).1 = 2 := zSn_r e198
  refine zpf_8_22 rfl rfl dX8_init_105 (zf_RX8_50 _ rfl) o200 ?_
  refine z_nameV (fun V213 e214 => ?_)
  have h := h V213 e214
  refine z_aload_n 0 dX8_init_108 rfl ?_
  refine z_bipush dX8_init_109 ⟨by decide, by decide⟩ (by decide) ?_
  obtain ⟨o215, h⟩ := h
  refine z_newi dX8_init_111 zw_arri (by decide) (by decide) o215.1 o215.2 (fun r216 q217 f218 => ?_)
  refine z_nameS (fun S219 V220 e221 e222 => ?_)
  have h := h r216 q217 f218 S219 V220 e221 e222
  have o223 : (S219 a0).1 = 11 := zSn_k e221 o200 f218.1 (by decide)
  have o224 : (S219 r4).1 = 1 := zSn_k e221 o201 f218.1 (by decide)
  have o225 : (S219 r16).1 = 1 := zSn_k e221 o202 f218.1 (by decide)
  have o226 : (S219 r29).1 = 1 := zSn_k e221 o203 f218.1 (by decide)
  have o227 : (S219 r45).1 = 2 := zSn_k e221 o204 f218.1 (by decide)
  have o228 : (S219 r60).1 = 1 := zSn_k e221 o205 f218.1 (by decide)
  have o229 : (S219 r76).1 = 1 := zSn_k e221 o206 f218.1 (by decide)
  have o230 : (S219 r93).1 = 1 := zSn_k e221 o207 f218.1 (by decide)
  have o231 : (S219 r111).1 = 1 := zSn_k e221 o208 f218.1 (by decide)
  have o232 : (S219 r130).1 = 1 := zSn_k e221 o209 f218.1 (by decide)
  have o233 : (S219 r150).1 = 1 := zSn_k e221 o210 f218.1 (by decide)
  have o234 : (S219 r171).1 = 1 := zSn_k e221 o211 f218.1 (by decide)
  have o235 : (S219 r193).1 = 2 := zSn_k e221 o212 f218.1 (by decide)
  have o236 : (S219 r216).1 = 1 := zSn_r e221
  refine zpf_8_23 rfl rfl dX8_init_113 (zf_RX8_53 _ rfl) o223 ?_
  refine z_nameV (fun V237 e238 => ?_)
  have h := h V237 e238
  refine z_aload_n 0 dX8_init_116 rfl ?_
  refine z_iconst dX8_init_117 ⟨by decide, by decide⟩ ?_
  refine z_iconst dX8_init_118 ⟨by decide, by decide⟩ ?_
  refine z_iconst dX8_init_119 ⟨by decide, by decide⟩ ?_
  obtain ⟨o241, h⟩ := h
  refine z_cVV [ziv 1, ziv 2, ziv 1] (zk_RX8_56 _ rfl) dX8_init_120 o223 (by decide) rfl rfl (Nat.le_of_ble_eq_true rfl) (Nat.le_of_ble_eq_true rfl) (Nat.le_of_ble_eq_true rfl) o241.1 o241.2 h (fun V240 h => ?_)
  exact z_retaV dX8_init_123 rfl o241.1 o241.2 h
set_option maxRecDepth 100000 in
set_option maxHeartbeats 4000000 in
theorem en_X8_in {E : zE} {F : Int → Prop} {S : zS} {a0 a2 a4 : Int} {V : zH}
    (h : z64 a0 → z64 a2 → z64 a4 → ((a0 < a2) → (F 0)) ∧ ((a2 ≤ a0) → (((a4 < a0) → (F 0)) ∧ ((a0 ≤ a4) → (F 1))))) :
    SpF E 0 zm_X8_in [zjv a0, zjv a2, zjv a4] S V F := by
  refine Sp.of (plainFor_of_name (by decide +kernel)) (Nat.le_of_ble_eq_true rfl) (fun hok X => ?_)
  have h := h (hok _ (List.mem_cons_self)) (hok _ (List.mem_cons_of_mem _ (List.mem_cons_self))) (hok _ (List.mem_cons_of_mem _ (List.mem_cons_of_mem _ (List.mem_cons_self))))
  show Zr E X (zRoom 0 0 0) zm_X8_in (zQm E X (zpF S V F) 0 0) 0 0 0 [(0, zjv a0), (2, zjv a2), (4, zjv a4)] [] S V
  refine z_lload_n 0 dX8_in_0 rfl ?_
  refine z_lload_n 1 dX8_in_1 rfl ?_
  refine z_lif_lt dX8_in_2 dX8_in_3 (tgt := 17) (by decide) (fun c1 => ?_) (fun c1 => ?_)
  · have h := h.1 c1
    refine z_iconst dX8_in_17 ⟨by decide, by decide⟩ ?_
    exact z_retFZ dX8_in_18 rfl (Or.inl rfl) h
  · have h := h.2 c1
    refine z_lload_n 0 dX8_in_6 rfl ?_
    refine z_lload 2 dX8_in_7 rfl ?_
    refine z_lif_gt dX8_in_9 dX8_in_10 (tgt := 17) (by decide) (fun c2 => ?_) (fun c2 => ?_)
    · have h := h.1 c2
      refine z_iconst dX8_in_17 ⟨by decide, by decide⟩ ?_
      exact z_retFZ dX8_in_18 rfl (Or.inl rfl) h
    · have h := h.2 c2
      refine z_iconst dX8_in_13 ⟨by decide, by decide⟩ ?_
      refine z_goto (tgt := 18) dX8_in_14 (by decide) ?_
      exact z_retFZ dX8_in_18 rfl (Or.inr rfl) h
def zl_X8_set_3 (E : zE) (X : zX) (F : zH → Prop) (S : zS) (a0 a1 a2 a3 a4 : Int) (V : zH) : Prop := Zr E X (zRoom 0 0 0) zm_X8_set (zQm E X (zpV S F) 0 0) 0 0 3 [(0, zrv a0), (1, ziv a1), (2, ziv a2), (3, ziv a3), (4, ziv a4)] [] S V
set_option maxRecDepth 100000 in
set_option maxHeartbeats 4000000 in
theorem wp_X8_set_3 {E : zE} {X : zX} {F : zH → Prop} {S : zS} {a0 a1 a2 a3 a4 : Int} {V : zH}
    (h : ((1516 ≤ a4) → (((S a0).1 = 11) ∧ ((S (V a0 0)).1 = 1) ∧ ((0 : Int) ≤ 0 ∧ 0 < (S (V a0 0)).2) ∧ ∀ V5 : zH, V5 = zput V (V a0 0) 0 a1 → ((0 : Int) ≤ 1 ∧ 1 < (S (V a0 0)).2) ∧ ∀ V8 : zH, V8 = zput V5 (V a0 0) 1 a2 → ((0 : Int) ≤ 2 ∧ 2 < (S (V a0 0)).2) ∧ ∀ V11 : zH, V11 = zput V8 (V a0 0) 2 a3 → ∀ V13 : zH, V13 = zput V11 a0 5 0 → ∀ V15 : zH, V15 = zput V13 a0 19 0 → F V15)) ∧ ((a4 < 1516) → (((S a0).1 = 11) ∧ ((S (V a0 0)).1 = 1) ∧ ((0 : Int) ≤ a4 ∧ a4 < (S (V a0 0)).2) ∧ ∀ V20 : zH, V20 = zput V (V a0 0) a4 0 → (z32 (a4 + 1)) ∧ zl_X8_set_3 E X F S a0 a1 a2 a3 (a4 + 1) V20))) :
    zl_X8_set_3 E X F S a0 a1 a2 a3 a4 V := by
  unfold zl_X8_set_3
  refine z_iload 4 dX8_set_3 rfl ?_
  refine z_sipush dX8_set_5 ⟨by decide, by decide⟩ (by decide) ?_
  refine z_icmp_ge dX8_set_8 (tgt := 25) (by decide) (fun c1 => ?_) (fun c1 => ?_)
  · have h := h.1 c1
    refine z_aload_n 0 dX8_set_25 rfl ?_
    obtain ⟨o2, h⟩ := h
    refine zgf_8_0 dX8_set_26 (zf_RX8_9 _ rfl) o2 ?_
    refine z_iconst dX8_set_29 ⟨by decide, by decide⟩ ?_
    refine z_iload_n 1 dX8_set_30 rfl ?_
    obtain ⟨o3, h⟩ := h
    obtain ⟨o4, h⟩ := h
    refine z_iast dX8_set_31 o3 o4 ?_
    refine z_nameV (fun V5 e6 => ?_)
    have h := h V5 e6
    refine z_aload_n 0 dX8_set_32 rfl ?_
    refine zgf_8_0 dX8_set_33 (zf_RX8_9 _ rfl) o2 ?_
    refine z_topR (zfr_k e6 o3 o2 (by decide)) ?_
    refine z_iconst dX8_set_36 ⟨by decide, by decide⟩ ?_
    refine z_iload_n 2 dX8_set_37 rfl ?_
    obtain ⟨o7, h⟩ := h
    refine z_iast dX8_set_38 o3 o7 ?_
    refine z_nameV (fun V8 e9 => ?_)
    have h := h V8 e9
    refine z_aload_n 0 dX8_set_39 rfl ?_
    refine zgf_8_0 dX8_set_40 (zf_RX8_9 _ rfl) o2 ?_
    refine z_topR ((zfr_k e9 o3 o2 (by decide)).trans (zfr_k e6 o3 o2 (by decide))) ?_
    refine z_iconst dX8_set_43 ⟨by decide, by decide⟩ ?_
    refine z_iload_n 3 dX8_set_44 rfl ?_
    obtain ⟨o10, h⟩ := h
    refine z_iast dX8_set_45 o3 o10 ?_
    refine z_nameV (fun V11 e12 => ?_)
    have h := h V11 e12
    refine z_aload_n 0 dX8_set_46 rfl ?_
    refine z_iconst dX8_set_47 ⟨by decide, by decide⟩ ?_
    refine zpf_8_5 dX8_set_48 (zf_RX8_60 _ rfl) o2 ?_
    refine z_nameV (fun V13 e14 => ?_)
    have h := h V13 e14
    refine z_aload_n 0 dX8_set_51 rfl ?_
    refine z_iconst dX8_set_52 ⟨by decide, by decide⟩ ?_
    refine zpf_8_19 dX8_set_53 (zf_RX8_63 _ rfl) o2 (Or.inl rfl) ?_
    refine z_nameV (fun V15 e16 => ?_)
    have h := h V15 e16
    exact z_retV dX8_set_56 rfl h
  · have h := h.2 c1
    refine z_aload_n 0 dX8_set_11 rfl ?_
    obtain ⟨o17, h⟩ := h
    refine zgf_8_0 dX8_set_12 (zf_RX8_9 _ rfl) o17 ?_
    refine z_iload 4 dX8_set_15 rfl ?_
    refine z_iconst dX8_set_17 ⟨by decide, by decide⟩ ?_
    obtain ⟨o18, h⟩ := h
    obtain ⟨o19, h⟩ := h
    refine z_iast dX8_set_18 o18 o19 ?_
    refine z_nameV (fun V20 e21 => ?_)
    have h := h V20 e21
    obtain ⟨o22, h⟩ := h
    refine z_iinc 4 dX8_set_19 rfl (by decide) o22 (L' := [(0, zrv a0), (1, ziv a1), (2, ziv a2), (3, ziv a3), (4, ziv (a4 + 1))]) [1, 2, 3, 4, 0] rfl ?_
    refine z_goto (tgt := 3) dX8_set_22 (by decide) ?_
    exact h
set_option maxRecDepth 100000 in
set_option maxHeartbeats 4000000 in
theorem en_X8_set {E : zE} {F : zH → Prop} {S : zS} {a0 a1 a2 a3 : Int} {V : zH}
    (h : z32 a1 → z32 a2 → z32 a3 → ∀ X : zX, zl_X8_set_3 E X F S a0 a1 a2 a3 0 V) :
    SpV E 0 zm_X8_set [zrv a0, ziv a1, ziv a2, ziv a3] S V F := by
  refine Sp.of (plainFor_of_name (by decide +kernel)) (Nat.le_of_ble_eq_true rfl) (fun hok X => ?_)
  have h := h (hok _ (List.mem_cons_of_mem _ (List.mem_cons_self))) (hok _ (List.mem_cons_of_mem _ (List.mem_cons_of_mem _ (List.mem_cons_self)))) (hok _ (List.mem_cons_of_mem _ (List.mem_cons_of_mem _ (List.mem_cons_of_mem _ (List.mem_cons_self))))) X
  show Zr E X (zRoom 0 0 0) zm_X8_set (zQm E X (zpV S F) 0 0) 0 0 0 [(0, zrv a0), (1, ziv a1), (2, ziv a2), (3, ziv a3)] [] S V
  refine z_iconst dX8_set_0 ⟨by decide, by decide⟩ ?_
  refine z_istore dX8_set_1 (by decide) (L' := [(0, zrv a0), (1, ziv a1), (2, ziv a2), (3, ziv a3), (4, ziv 0)]) [1, 2, 3, 4, 0] rfl ?_
  exact h
set_option maxRecDepth 100000 in
set_option maxHeartbeats 4000000 in
theorem en_X8_n {E : zE} {F : Int → Prop} {S : zS} {a0 : Int} {V : zH}
    (h : ((S a0).1 = 11) ∧ ((S (V a0 0)).1 = 1) ∧ ((0 : Int) ≤ 0 ∧ 0 < (S (V a0 0)).2) ∧ F (V (V a0 0) 0)) :
    SpF E 0 zm_X8_n [zrv a0] S V F := by
  refine Sp.of (plainFor_of_name (by decide +kernel)) (Nat.le_of_ble_eq_true rfl) (fun hok X => ?_)
  have h := h
  show Zr E X (zRoom 0 0 0) zm_X8_n (zQm E X (zpF S V F) 0 0) 0 0 0 [(0, zrv a0)] [] S V
  refine z_aload_n 0 dX8_n_0 rfl ?_
  obtain ⟨o1, h⟩ := h
  refine zgf_8_0 dX8_n_1 (zf_RX8_9 _ rfl) o1 ?_
  refine z_iconst dX8_n_4 ⟨by decide, by decide⟩ ?_
  obtain ⟨o2, h⟩ := h
  obtain ⟨o3, h⟩ := h
  refine z_iald dX8_n_5 o2 o3 ?_
  exact z_retFI dX8_n_6 rfl h
set_option maxRecDepth 100000 in
set_option maxHeartbeats 4000000 in
theorem en_X8_m {E : zE} {F : Int → Prop} {S : zS} {a0 : Int} {V : zH}
    (h : ((S a0).1 = 11) ∧ ((S (V a0 0)).1 = 1) ∧ ((0 : Int) ≤ 1 ∧ 1 < (S (V a0 0)).2) ∧ F (V (V a0 0) 1)) :
    SpF E 0 zm_X8_m [zrv a0] S V F := by
  refine Sp.of (plainFor_of_name (by decide +kernel)) (Nat.le_of_ble_eq_true rfl) (fun hok X => ?_)
  have h := h
  show Zr E X (zRoom 0 0 0) zm_X8_m (zQm E X (zpF S V F) 0 0) 0 0 0 [(0, zrv a0)] [] S V
  refine z_aload_n 0 dX8_m_0 rfl ?_
  obtain ⟨o1, h⟩ := h
  refine zgf_8_0 dX8_m_1 (zf_RX8_9 _ rfl) o1 ?_
  refine z_iconst dX8_m_4 ⟨by decide, by decide⟩ ?_
  obtain ⟨o2, h⟩ := h
  obtain ⟨o3, h⟩ := h
  refine z_iald dX8_m_5 o2 o3 ?_
  exact z_retFI dX8_m_6 rfl h
set_option maxRecDepth 100000 in
set_option maxHeartbeats 4000000 in
theorem en_X8_w {E : zE} {F : Int → Prop} {S : zS} {a0 : Int} {V : zH}
    (h : ((S a0).1 = 11) ∧ ((S (V a0 0)).1 = 1) ∧ ((0 : Int) ≤ 2 ∧ 2 < (S (V a0 0)).2) ∧ F (V (V a0 0) 2)) :
    SpF E 0 zm_X8_w [zrv a0] S V F := by
  refine Sp.of (plainFor_of_name (by decide +kernel)) (Nat.le_of_ble_eq_true rfl) (fun hok X => ?_)
  have h := h
  show Zr E X (zRoom 0 0 0) zm_X8_w (zQm E X (zpF S V F) 0 0) 0 0 0 [(0, zrv a0)] [] S V
  refine z_aload_n 0 dX8_w_0 rfl ?_
  obtain ⟨o1, h⟩ := h
  refine zgf_8_0 dX8_w_1 (zf_RX8_9 _ rfl) o1 ?_
  refine z_iconst dX8_w_4 ⟨by decide, by decide⟩ ?_
  obtain ⟨o2, h⟩ := h
  obtain ⟨o3, h⟩ := h
  refine z_iald dX8_w_5 o2 o3 ?_
  exact z_retFI dX8_w_6 rfl h
set_option maxRecDepth 100000 in
set_option maxHeartbeats 4000000 in
theorem en_X8_buttons {E : zE} {F : Int → Prop} {S : zS} {a0 : Int} {V : zH}
    (h : ((S a0).1 = 11) ∧ ((S (V a0 0)).1 = 1) ∧ ((0 : Int) ≤ 3 ∧ 3 < (S (V a0 0)).2) ∧ F (V (V a0 0) 3)) :
    SpF E 0 zm_X8_buttons [zrv a0] S V F := by
  refine Sp.of (plainFor_of_name (by decide +kernel)) (Nat.le_of_ble_eq_true rfl) (fun hok X => ?_)
  have h := h
  show Zr E X (zRoom 0 0 0) zm_X8_buttons (zQm E X (zpF S V F) 0 0) 0 0 0 [(0, zrv a0)] [] S V
  refine z_aload_n 0 dX8_buttons_0 rfl ?_
  obtain ⟨o1, h⟩ := h
  refine zgf_8_0 dX8_buttons_1 (zf_RX8_9 _ rfl) o1 ?_
  refine z_iconst dX8_buttons_4 ⟨by decide, by decide⟩ ?_
  obtain ⟨o2, h⟩ := h
  obtain ⟨o3, h⟩ := h
  refine z_iald dX8_buttons_5 o2 o3 ?_
  exact z_retFI dX8_buttons_6 rfl h
set_option maxRecDepth 100000 in
set_option maxHeartbeats 4000000 in
theorem en_X8_plate {E : zE} {F : Int → zH → Prop} {S : zS} {a0 a1 a2 a3 : Int} {V : zH}
    (h : z32 a1 → z32 a2 → z32 a3 → SpF E 0 zm_X8_in [zjv a1, zjv 1, zjv 36] S V (fun x1 => ((x1 = 0) → (F 0 V)) ∧ ((x1 ≠ 0) → (SpF E 0 zm_X8_in [zjv a2, zjv 2, zjv 12] S V (fun x4 => ((x4 = 0) → (F 0 V)) ∧ ((x4 ≠ 0) → (SpF E 0 zm_X8_in [zjv a3, zjv 1, zjv a1] S V (fun x7 => ((x7 ≠ 0) → (((S a0).1 = 11) ∧ SpV E 0 zm_X8_set [zrv a0, ziv a1, ziv a2, ziv a3] S V (fun V12 => F 1 V12))) ∧ ((x7 = 0) → (F 0 V)))))))))) :
    SpI E 1 zm_X8_plate [zrv a0, ziv a1, ziv a2, ziv a3] S V F := by
  refine Sp.of (plainFor_of_name (by decide +kernel)) (Nat.le_of_ble_eq_true rfl) (fun hok X => ?_)
  have h := h (hok _ (List.mem_cons_of_mem _ (List.mem_cons_self))) (hok _ (List.mem_cons_of_mem _ (List.mem_cons_of_mem _ (List.mem_cons_self)))) (hok _ (List.mem_cons_of_mem _ (List.mem_cons_of_mem _ (List.mem_cons_of_mem _ (List.mem_cons_self)))))
  show Zr E X (zRoom 1 0 0) zm_X8_plate (zQm E X (zpI S F) 0 0) 0 0 0 [(0, zrv a0), (1, ziv a1), (2, ziv a2), (3, ziv a3)] [] S V
  refine z_iload_n 1 dX8_plate_0 rfl ?_
  refine z_i2l dX8_plate_1 ?_
  refine z_lconst (v := 1) dX8_plate_2 (by decide) ⟨by decide, by decide⟩ ?_
  refine z_ldc2 (c := 36) (zd_RX8_67 _ rfl) (by decide) ⟨by decide, by decide⟩ dX8_plate_3 ?_
  refine z_cSF [zjv a1, zjv 1, zjv 36] (zk_RX8_69 _ rfl) dX8_plate_6 rfl rfl (Nat.le_of_ble_eq_true rfl) (Nat.le_of_ble_eq_true rfl) (Nat.le_of_ble_eq_true rfl) (Nat.le_of_ble_eq_true rfl) (Nat.le_of_ble_eq_true rfl) h (fun x1 h => ?_)
  refine z_if_eq dX8_plate_9 (tgt := 37) (by decide) (fun c3 => ?_) (fun c3 => ?_)
  · have h := h.1 c3
    refine z_iconst dX8_plate_37 ⟨by decide, by decide⟩ ?_
    exact z_retZ dX8_plate_38 rfl (Or.inl rfl) h
  · have h := h.2 c3
    refine z_iload_n 2 dX8_plate_12 rfl ?_
    refine z_i2l dX8_plate_13 ?_
    refine z_ldc2 (c := 2) (zd_RX8_73 _ rfl) (by decide) ⟨by decide, by decide⟩ dX8_plate_14 ?_
    refine z_ldc2 (c := 12) (zd_RX8_75 _ rfl) (by decide) ⟨by decide, by decide⟩ dX8_plate_17 ?_
    refine z_cSF [zjv a2, zjv 2, zjv 12] (zk_RX8_69 _ rfl) dX8_plate_20 rfl rfl (Nat.le_of_ble_eq_true rfl) (Nat.le_of_ble_eq_true rfl) (Nat.le_of_ble_eq_true rfl) (Nat.le_of_ble_eq_true rfl) (Nat.le_of_ble_eq_true rfl) h (fun x4 h => ?_)
    refine z_if_eq dX8_plate_23 (tgt := 37) (by decide) (fun c6 => ?_) (fun c6 => ?_)
    · have h := h.1 c6
      refine z_iconst dX8_plate_37 ⟨by decide, by decide⟩ ?_
      exact z_retZ dX8_plate_38 rfl (Or.inl rfl) h
    · have h := h.2 c6
      refine z_iload_n 3 dX8_plate_26 rfl ?_
      refine z_i2l dX8_plate_27 ?_
      refine z_lconst (v := 1) dX8_plate_28 (by decide) ⟨by decide, by decide⟩ ?_
      refine z_iload_n 1 dX8_plate_29 rfl ?_
      refine z_i2l dX8_plate_30 ?_
      refine z_cSF [zjv a3, zjv 1, zjv a1] (zk_RX8_69 _ rfl) dX8_plate_31 rfl rfl (Nat.le_of_ble_eq_true rfl) (Nat.le_of_ble_eq_true rfl) (Nat.le_of_ble_eq_true rfl) (Nat.le_of_ble_eq_true rfl) (Nat.le_of_ble_eq_true rfl) h (fun x7 h => ?_)
      refine z_if_ne dX8_plate_34 (tgt := 39) (by decide) (fun c9 => ?_) (fun c9 => ?_)
      · have h := h.1 c9
        refine z_aload_n 0 dX8_plate_39 rfl ?_
        refine z_iload_n 1 dX8_plate_40 rfl ?_
        refine z_iload_n 2 dX8_plate_41 rfl ?_
        refine z_iload_n 3 dX8_plate_42 rfl ?_
        obtain ⟨o10, h⟩ := h
        refine z_cVV [ziv a1, ziv a2, ziv a3] (zk_RX8_56 _ rfl) dX8_plate_43 o10 (by decide) rfl rfl (Nat.le_of_ble_eq_true rfl) (Nat.le_of_ble_eq_true rfl) (Nat.le_of_ble_eq_true rfl) (Nat.le_of_ble_eq_true rfl) (Nat.le_of_ble_eq_true rfl) h (fun V12 h => ?_)
        refine z_iconst dX8_plate_46 ⟨by decide, by decide⟩ ?_
        exact z_retZ dX8_plate_47 rfl (Or.inr rfl) h
      · have h := h.2 c9
        refine z_iconst dX8_plate_37 ⟨by decide, by decide⟩ ?_
        exact z_retZ dX8_plate_38 rfl (Or.inl rfl) h
def zl_X8_act_15 (E : zE) (X : zX) (F : zH → Prop) (S : zS) (a0 a1 : Int) (V : zH) : Prop := Zr E X (zRoom 0 0 0) zm_X8_act (zQm E X (zpV S F) 0 0) 0 0 15 [(0, zrv a0), (1, ziv a1)] [] S V
set_option maxRecDepth 100000 in
set_option maxHeartbeats 4000000 in
theorem wp_X8_act_15 {E : zE} {X : zX} {F : zH → Prop} {S : zS} {a0 a1 : Int} {V : zH}
    (h : ((1516 ≤ a1) → (((S a0).1 = 11) ∧ ((60 ≤ V a0 5) → (∀ V4 : zH, V4 = zput V a0 5 60 → ∀ V6 : zH, V6 = zput V4 a0 19 0 → F V6)) ∧ ((V a0 5 < 60) → ((z32 ((V a0 5) + 1)) ∧ ∀ V9 : zH, V9 = zput V a0 5 ((V a0 5) + 1) → ∀ V11 : zH, V11 = zput V9 a0 19 0 → F V11)))) ∧ ((a1 < 1516) → (((S a0).1 = 11) ∧ (z32 ((V a0 4) * 1516)) ∧ (z32 (((V a0 4) * 1516) + a1)) ∧ ((S (V a0 0)).1 = 1) ∧ ((0 : Int) ≤ a1 ∧ a1 < (S (V a0 0)).2) ∧ ((S (V a0 3)).1 = 1) ∧ ((0 : Int) ≤ ((V a0 4) * 1516) + a1 ∧ ((V a0 4) * 1516) + a1 < (S (V a0 3)).2) ∧ ∀ V20 : zH, V20 = zput V (V a0 3) (((V a0 4) * 1516) + a1) (V (V a0 0) a1) → (z32 (a1 + 1)) ∧ zl_X8_act_15 E X F S a0 (a1 + 1) V20))) :
    zl_X8_act_15 E X F S a0 a1 V := by
  unfold zl_X8_act_15
  refine z_iload_n 1 dX8_act_15 rfl ?_
  refine z_sipush dX8_act_16 ⟨by decide, by decide⟩ (by decide) ?_
  refine z_icmp_ge dX8_act_19 (tgt := 49) (by decide) (fun c1 => ?_) (fun c1 => ?_)
  · have h := h.1 c1
    refine z_aload_n 0 dX8_act_49 rfl ?_
    refine z_aload_n 0 dX8_act_50 rfl ?_
    obtain ⟨o2, h⟩ := h
    refine zgf_8_5 dX8_act_51 (zf_RX8_60 _ rfl) o2 ?_
    refine z_bipush dX8_act_54 ⟨by decide, by decide⟩ (by decide) ?_
    refine z_icmp_ge dX8_act_56 (tgt := 68) (by decide) (fun c3 => ?_) (fun c3 => ?_)
    · have h := h.1 c3
      refine z_bipush dX8_act_68 ⟨by decide, by decide⟩ (by decide) ?_
      refine zpf_8_5 dX8_act_70 (zf_RX8_60 _ rfl) o2 ?_
      refine z_nameV (fun V4 e5 => ?_)
      have h := h V4 e5
      refine z_aload_n 0 dX8_act_73 rfl ?_
      refine z_iconst dX8_act_74 ⟨by decide, by decide⟩ ?_
      refine zpf_8_19 dX8_act_75 (zf_RX8_63 _ rfl) o2 (Or.inl rfl) ?_
      refine z_nameV (fun V6 e7 => ?_)
      have h := h V6 e7
      exact z_retV dX8_act_78 rfl h
    · have h := h.2 c3
      refine z_aload_n 0 dX8_act_59 rfl ?_
      refine zgf_8_5 dX8_act_60 (zf_RX8_60 _ rfl) o2 ?_
      refine z_iconst dX8_act_63 ⟨by decide, by decide⟩ ?_
      obtain ⟨o8, h⟩ := h
      refine z_iadd dX8_act_64 o8 ?_
      refine z_goto (tgt := 70) dX8_act_65 (by decide) ?_
      refine zpf_8_5 dX8_act_70 (zf_RX8_60 _ rfl) o2 ?_
      refine z_nameV (fun V9 e10 => ?_)
      have h := h V9 e10
      refine z_aload_n 0 dX8_act_73 rfl ?_
      refine z_iconst dX8_act_74 ⟨by decide, by decide⟩ ?_
      refine zpf_8_19 dX8_act_75 (zf_RX8_63 _ rfl) o2 (Or.inl rfl) ?_
      refine z_nameV (fun V11 e12 => ?_)
      have h := h V11 e12
      exact z_retV dX8_act_78 rfl h
  · have h := h.2 c1
    refine z_aload_n 0 dX8_act_22 rfl ?_
    obtain ⟨o13, h⟩ := h
    refine zgf_8_3 dX8_act_23 (zf_RX8_17 _ rfl) o13 ?_
    refine z_aload_n 0 dX8_act_26 rfl ?_
    refine zgf_8_4 dX8_act_27 (zf_RX8_77 _ rfl) o13 ?_
    refine z_sipush dX8_act_30 ⟨by decide, by decide⟩ (by decide) ?_
    obtain ⟨o14, h⟩ := h
    refine z_imul dX8_act_33 o14 ?_
    refine z_iload_n 1 dX8_act_34 rfl ?_
    obtain ⟨o15, h⟩ := h
    refine z_iadd dX8_act_35 o15 ?_
    refine z_aload_n 0 dX8_act_36 rfl ?_
    refine zgf_8_0 dX8_act_37 (zf_RX8_9 _ rfl) o13 ?_
    refine z_iload_n 1 dX8_act_40 rfl ?_
    obtain ⟨o16, h⟩ := h
    obtain ⟨o17, h⟩ := h
    refine z_iald dX8_act_41 o16 o17 ?_
    obtain ⟨o18, h⟩ := h
    obtain ⟨o19, h⟩ := h
    refine z_iast dX8_act_42 o18 o19 ?_
    refine z_nameV (fun V20 e21 => ?_)
    have h := h V20 e21
    obtain ⟨o22, h⟩ := h
    refine z_iinc 1 dX8_act_43 rfl (by decide) o22 (L' := [(0, zrv a0), (1, ziv (a1 + 1))]) [1, 0] rfl ?_
    refine z_goto (tgt := 15) dX8_act_46 (by decide) ?_
    exact h
set_option maxRecDepth 100000 in
set_option maxHeartbeats 4000000 in
theorem en_X8_act {E : zE} {F : zH → Prop} {S : zS} {a0 : Int} {V : zH}
    (h : ∀ X : zX, ((S a0).1 = 11) ∧ (z32 ((V a0 4) + 1)) ∧ ((0 : Int) ≤ (V a0 4) + 1) ∧ ∀ V4 : zH, V4 = zput V a0 4 (((V a0 4) + 1) % 60) → zl_X8_act_15 E X F S a0 0 V4) :
    SpV E 0 zm_X8_act [zrv a0] S V F := by
  refine Sp.of (plainFor_of_name (by decide +kernel)) (Nat.le_of_ble_eq_true rfl) (fun hok X => ?_)
  have h := h X
  show Zr E X (zRoom 0 0 0) zm_X8_act (zQm E X (zpV S F) 0 0) 0 0 0 [(0, zrv a0)] [] S V
  refine z_aload_n 0 dX8_act_0 rfl ?_
  refine z_aload_n 0 dX8_act_1 rfl ?_
  obtain ⟨o1, h⟩ := h
  refine zgf_8_4 dX8_act_2 (zf_RX8_77 _ rfl) o1 ?_
  refine z_iconst dX8_act_5 ⟨by decide, by decide⟩ ?_
  obtain ⟨o2, h⟩ := h
  refine z_iadd dX8_act_6 o2 ?_
  refine z_bipush dX8_act_7 ⟨by decide, by decide⟩ (by decide) ?_
  obtain ⟨o3, h⟩ := h
  refine z_irem dX8_act_9 o3 (by decide) ?_
  refine zpf_8_4 dX8_act_10 (zf_RX8_77 _ rfl) o1 ?_
  refine z_nameV (fun V4 e5 => ?_)
  have h := h V4 e5
  refine z_iconst dX8_act_13 ⟨by decide, by decide⟩ ?_
  refine z_istore_n dX8_act_14 (by decide) (L' := [(0, zrv a0), (1, ziv 0)]) [1, 0] rfl ?_
  exact h
set_option maxRecDepth 100000 in
set_option maxHeartbeats 4000000 in
theorem en_X8_isLine {E : zE} {F : Int → Prop} {S : zS} {a0 a1 : Int} {V : zH}
    (h : z32 a1 → ((a1 < 100) → (((a1 < 0) → (F 0)) ∧ ((0 ≤ a1) → (((S a0).1 = 11) ∧ SpF E 0 zm_X8_w [zrv a0] S V (fun x4 => (z32 (a1 * x4)) ∧ SpF E 0 zm_X8_n [zrv a0] S V (fun x7 => ((x7 ≤ a1 * x4) → (F 0)) ∧ ((a1 * x4 < x7) → (F 1)))))))) ∧ ((100 ≤ a1) → ((z32 (a1 - 100)) ∧ ((S a0).1 = 11) ∧ SpF E 0 zm_X8_w [zrv a0] S V (fun x12 => ((x12 ≤ a1 - 100) → (F 0)) ∧ ((a1 - 100 < x12) → (F 1)))))) :
    SpF E 1 zm_X8_isLine [zrv a0, ziv a1] S V F := by
  refine Sp.of (plainFor_of_name (by decide +kernel)) (Nat.le_of_ble_eq_true rfl) (fun hok X => ?_)
  have h := h (hok _ (List.mem_cons_of_mem _ (List.mem_cons_self)))
  show Zr E X (zRoom 1 0 0) zm_X8_isLine (zQm E X (zpF S V F) 0 0) 0 0 0 [(0, zrv a0), (1, ziv a1)] [] S V
  refine z_iload_n 1 dX8_isLine_0 rfl ?_
  refine z_bipush dX8_isLine_1 ⟨by decide, by decide⟩ (by decide) ?_
  refine z_icmp_lt dX8_isLine_3 (tgt := 25) (by decide) (fun c1 => ?_) (fun c1 => ?_)
  · have h := h.1 c1
    refine z_iload_n 1 dX8_isLine_25 rfl ?_
    refine z_if_lt dX8_isLine_26 (tgt := 46) (by decide) (fun c2 => ?_) (fun c2 => ?_)
    · have h := h.1 c2
      refine z_iconst dX8_isLine_46 ⟨by decide, by decide⟩ ?_
      exact z_retFZ dX8_isLine_47 rfl (Or.inl rfl) h
    · have h := h.2 c2
      refine z_iload_n 1 dX8_isLine_29 rfl ?_
      refine z_aload_n 0 dX8_isLine_30 rfl ?_
      obtain ⟨o3, h⟩ := h
      refine z_cVF [] (zk_RX8_80 _ rfl) dX8_isLine_31 o3 (by decide) rfl rfl (Nat.le_of_ble_eq_true rfl) (Nat.le_of_ble_eq_true rfl) (Nat.le_of_ble_eq_true rfl) (Nat.le_of_ble_eq_true rfl) (Nat.le_of_ble_eq_true rfl) h (fun x4 h => ?_)
      obtain ⟨o6, h⟩ := h
      refine z_imul dX8_isLine_34 o6 ?_
      refine z_aload_n 0 dX8_isLine_35 rfl ?_
      refine z_cVF [] (zk_RX8_84 _ rfl) dX8_isLine_36 o3 (by decide) rfl rfl (Nat.le_of_ble_eq_true rfl) (Nat.le_of_ble_eq_true rfl) (Nat.le_of_ble_eq_true rfl) (Nat.le_of_ble_eq_true rfl) (Nat.le_of_ble_eq_true rfl) h (fun x7 h => ?_)
      refine z_icmp_ge dX8_isLine_39 (tgt := 46) (by decide) (fun c9 => ?_) (fun c9 => ?_)
      · have h := h.1 c9
        refine z_iconst dX8_isLine_46 ⟨by decide, by decide⟩ ?_
        exact z_retFZ dX8_isLine_47 rfl (Or.inl rfl) h
      · have h := h.2 c9
        refine z_iconst dX8_isLine_42 ⟨by decide, by decide⟩ ?_
        refine z_goto (tgt := 47) dX8_isLine_43 (by decide) ?_
        exact z_retFZ dX8_isLine_47 rfl (Or.inr rfl) h
  · have h := h.2 c1
    refine z_iload_n 1 dX8_isLine_6 rfl ?_
    refine z_bipush dX8_isLine_7 ⟨by decide, by decide⟩ (by decide) ?_
    obtain ⟨o10, h⟩ := h
    refine z_isub dX8_isLine_9 o10 ?_
    refine z_aload_n 0 dX8_isLine_10 rfl ?_
    obtain ⟨o11, h⟩ := h
    refine z_cVF [] (zk_RX8_80 _ rfl) dX8_isLine_11 o11 (by decide) rfl rfl (Nat.le_of_ble_eq_true rfl) (Nat.le_of_ble_eq_true rfl) (Nat.le_of_ble_eq_true rfl) (Nat.le_of_ble_eq_true rfl) (Nat.le_of_ble_eq_true rfl) h (fun x12 h => ?_)
    refine z_icmp_ge dX8_isLine_14 (tgt := 21) (by decide) (fun c14 => ?_) (fun c14 => ?_)
    · have h := h.1 c14
      refine z_iconst dX8_isLine_21 ⟨by decide, by decide⟩ ?_
      refine z_goto (tgt := 47) dX8_isLine_22 (by decide) ?_
      exact z_retFZ dX8_isLine_47 rfl (Or.inl rfl) h
    · have h := h.2 c14
      refine z_iconst dX8_isLine_17 ⟨by decide, by decide⟩ ?_
      refine z_goto (tgt := 47) dX8_isLine_18 (by decide) ?_
      exact z_retFZ dX8_isLine_47 rfl (Or.inr rfl) h
def zl_X8_button_37 (E : zE) (X : zX) (F : Int → zH → Prop) (S : zS) (a0 a1 a2 a3 a4 : Int) (V : zH) : Prop := Zr E X (zRoom 2 0 0) zm_X8_button (zQm E X (zpI S F) 0 0) 0 0 37 [(0, zrv a0), (1, ziv a1), (2, ziv a2), (3, ziv a3), (4, ziv a4)] [] S V
def zl_X8_button_105 (E : zE) (X : zX) (F : Int → zH → Prop) (S : zS) (a0 a1 a2 a3 a4 : Int) (V : zH) : Prop := Zr E X (zRoom 2 0 0) zm_X8_button (zQm E X (zpI S F) 0 0) 0 0 105 [(0, zrv a0), (1, ziv a1), (2, ziv a2), (3, ziv a3), (4, ziv a4)] [] S V
def zl_X8_button_211 (E : zE) (X : zX) (F : Int → zH → Prop) (S : zS) (a0 a5 a6 : Int) (V : zH) : Prop := Zr E X (zRoom 2 0 0) zm_X8_button (zQm E X (zpI S F) 0 0) 0 0 211 [(0, zrv a0), (5, ziv a5), (6, ziv a6)] [] S V
set_option maxRecDepth 100000 in
set_option maxHeartbeats 4000000 in
theorem wp_X8_button_37 {E : zE} {X : zX} {F : Int → zH → Prop} {S : zS} {a0 a1 a2 a3 a4 : Int} {V : zH}
    (h : ((S a0).1 = 11) ∧ SpF E 1 zm_X8_isLine [zrv a0, ziv a2] S V (fun x2 => ((x2 = 0) → (F (-1) V)) ∧ ((x2 ≠ 0) → (SpF E 0 zm_X8_m [zrv a0] S V (fun x5 => (z32 (x5 - 1)) ∧ SpF E 0 zm_X8_in [zjv a3, zjv 0, zjv (x5 - 1)] S V (fun x8 => ((x8 = 0) → (F (-1) V)) ∧ ((x8 ≠ 0) → (((a1 ≠ 4) → (zl_X8_button_105 E X F S a0 a1 a2 a3 a4 V)) ∧ ((a1 = 4) → (SpF E 0 zm_X8_buttons [zrv a0] S V (fun x12 => (z32 (x12 - 1)) ∧ SpF E 0 zm_X8_in [zjv a4, zjv 0, zjv (x12 - 1)] S V (fun x15 => ((x15 ≠ 0) → (zl_X8_button_105 E X F S a0 a1 a2 a3 a4 V)) ∧ ((x15 = 0) → (F (-1) V)))))))))))))) :
    zl_X8_button_37 E X F S a0 a1 a2 a3 a4 V := by
  unfold zl_X8_button_37
  refine z_aload_n 0 dX8_button_37 rfl ?_
  refine z_iload_n 2 dX8_button_38 rfl ?_
  obtain ⟨o1, h⟩ := h
  refine z_cVF [ziv a2] (zk_RX8_92 _ rfl) dX8_button_39 o1 (by decide) rfl rfl (Nat.le_of_ble_eq_true rfl) (Nat.le_of_ble_eq_true rfl) (Nat.le_of_ble_eq_true rfl) (Nat.le_of_ble_eq_true rfl) (Nat.le_of_ble_eq_true rfl) h (fun x2 h => ?_)
  refine z_goto (tgt := 58) dX8_button_42 (by decide) ?_
  refine z_istore dX8_button_58 (by decide) (L' := [(0, zrv a0), (1, ziv a1), (2, ziv a2), (3, ziv a3), (4, ziv a4), (5, ziv x2)]) [1, 2, 3, 4, 5, 0] rfl ?_
  refine z_iload 5 dX8_button_60 rfl ?_
  refine z_if_eq dX8_button_62 (tgt := 103) (by decide) (fun c4 => ?_) (fun c4 => ?_)
  · have h := h.1 c4
    refine z_iconst dX8_button_103 ⟨by decide, by decide⟩ ?_
    exact z_retI dX8_button_104 rfl h
  · have h := h.2 c4
    refine z_iload_n 3 dX8_button_65 rfl ?_
    refine z_i2l dX8_button_66 ?_
    refine z_lconst (v := 0) dX8_button_67 (by decide) ⟨by decide, by decide⟩ ?_
    refine z_aload_n 0 dX8_button_68 rfl ?_
    refine z_cVF [] (zk_RX8_96 _ rfl) dX8_button_69 o1 (by decide) rfl rfl (Nat.le_of_ble_eq_true rfl) (Nat.le_of_ble_eq_true rfl) (Nat.le_of_ble_eq_true rfl) (Nat.le_of_ble_eq_true rfl) (Nat.le_of_ble_eq_true rfl) h (fun x5 h => ?_)
    refine z_iconst dX8_button_72 ⟨by decide, by decide⟩ ?_
    obtain ⟨o7, h⟩ := h
    refine z_isub dX8_button_73 o7 ?_
    refine z_i2l dX8_button_74 ?_
    refine z_cSF [zjv a3, zjv 0, zjv (x5 - 1)] (zk_RX8_69 _ rfl) dX8_button_75 rfl rfl (Nat.le_of_ble_eq_true rfl) (Nat.le_of_ble_eq_true rfl) (Nat.le_of_ble_eq_true rfl) (Nat.le_of_ble_eq_true rfl) (Nat.le_of_ble_eq_true rfl) h (fun x8 h => ?_)
    refine z_if_eq dX8_button_78 (tgt := 103) (by decide) (fun c10 => ?_) (fun c10 => ?_)
    · have h := h.1 c10
      refine z_iconst dX8_button_103 ⟨by decide, by decide⟩ ?_
      exact z_retI dX8_button_104 rfl h
    · have h := h.2 c10
      refine z_iload_n 1 dX8_button_81 rfl ?_
      refine z_iconst dX8_button_82 ⟨by decide, by decide⟩ ?_
      refine z_icmp_ne dX8_button_83 (tgt := 105) (by decide) (fun c11 => ?_) (fun c11 => ?_)
      · have h := h.1 c11
        refine z_loc (L' := [(0, zrv a0), (1, ziv a1), (2, ziv a2), (3, ziv a3), (4, ziv a4)]) [0, 1, 2, 3, 4] rfl ?_
        exact h
      · have h := h.2 c11
        refine z_iload 4 dX8_button_86 rfl ?_
        refine z_i2l dX8_button_88 ?_
        refine z_lconst (v := 0) dX8_button_89 (by decide) ⟨by decide, by decide⟩ ?_
        refine z_aload_n 0 dX8_button_90 rfl ?_
        refine z_cVF [] (zk_RX8_89 _ rfl) dX8_button_91 o1 (by decide) rfl rfl (Nat.le_of_ble_eq_true rfl) (Nat.le_of_ble_eq_true rfl) (Nat.le_of_ble_eq_true rfl) (Nat.le_of_ble_eq_true rfl) (Nat.le_of_ble_eq_true rfl) h (fun x12 h => ?_)
        refine z_iconst dX8_button_94 ⟨by decide, by decide⟩ ?_
        obtain ⟨o14, h⟩ := h
        refine z_isub dX8_button_95 o14 ?_
        refine z_i2l dX8_button_96 ?_
        refine z_cSF [zjv a4, zjv 0, zjv (x12 - 1)] (zk_RX8_69 _ rfl) dX8_button_97 rfl rfl (Nat.le_of_ble_eq_true rfl) (Nat.le_of_ble_eq_true rfl) (Nat.le_of_ble_eq_true rfl) (Nat.le_of_ble_eq_true rfl) (Nat.le_of_ble_eq_true rfl) h (fun x15 h => ?_)
        refine z_if_ne dX8_button_100 (tgt := 105) (by decide) (fun c17 => ?_) (fun c17 => ?_)
        · have h := h.1 c17
          refine z_loc (L' := [(0, zrv a0), (1, ziv a1), (2, ziv a2), (3, ziv a3), (4, ziv a4)]) [0, 1, 2, 3, 4] rfl ?_
          exact h
        · have h := h.2 c17
          refine z_iconst dX8_button_103 ⟨by decide, by decide⟩ ?_
          exact z_retI dX8_button_104 rfl h
set_option maxRecDepth 100000 in
set_option maxHeartbeats 4000000 in
theorem wp_X8_button_105 {E : zE} {X : zX} {F : Int → zH → Prop} {S : zS} {a0 a1 a2 a3 a4 : Int} {V : zH}
    (h : ((S a0).1 = 11) ∧ SpV E 0 zm_X8_act [zrv a0] S V (fun V3 => SpF E 0 zm_X8_buttons [zrv a0] S V3 (fun x4 => ((S (V3 a0 0)).1 = 1) ∧ ((0 : Int) ≤ 3 ∧ 3 < (S (V3 a0 0)).2) ∧ (z32 ((V3 (V3 a0 0) 3) + 1)) ∧ ∀ V9 : zH, V9 = zput V3 (V3 a0 0) 3 ((V3 (V3 a0 0) 3) + 1) → (z32 (40 + x4)) ∧ ((0 : Int) ≤ 40 + x4 ∧ 40 + x4 < (S (V3 a0 0)).2) ∧ ∀ V13 : zH, V13 = zput V9 (V3 a0 0) (40 + x4) a1 → (z32 (76 + x4)) ∧ ((a1 ≠ 0) → (((0 : Int) ≤ 76 + x4 ∧ 76 + x4 < (S (V3 a0 0)).2) ∧ ∀ V18 : zH, V18 = zput V13 (V3 a0 0) (76 + x4) a2 → (z32 (112 + x4)) ∧ ((a1 ≠ 0) → (((0 : Int) ≤ 112 + x4 ∧ 112 + x4 < (S (V3 a0 0)).2) ∧ ∀ V23 : zH, V23 = zput V18 (V3 a0 0) (112 + x4) a3 → (z32 (148 + x4)) ∧ ((a1 ≠ 4) → (((0 : Int) ≤ 148 + x4 ∧ 148 + x4 < (S (V3 a0 0)).2) ∧ ∀ V28 : zH, V28 = zput V23 (V3 a0 0) (148 + x4) 0 → (z32 (184 + x4)) ∧ ((0 : Int) ≤ 184 + x4 ∧ 184 + x4 < (S (V3 a0 0)).2) ∧ ∀ V32 : zH, V32 = zput V28 (V3 a0 0) (184 + x4) 1 → zl_X8_button_211 E X F S a0 x4 0 V32)) ∧ ((a1 = 4) → (((0 : Int) ≤ 148 + x4 ∧ 148 + x4 < (S (V3 a0 0)).2) ∧ ∀ V35 : zH, V35 = zput V23 (V3 a0 0) (148 + x4) a4 → (z32 (184 + x4)) ∧ ((0 : Int) ≤ 184 + x4 ∧ 184 + x4 < (S (V3 a0 0)).2) ∧ ∀ V39 : zH, V39 = zput V35 (V3 a0 0) (184 + x4) 1 → zl_X8_button_211 E X F S a0 x4 0 V39)))) ∧ ((a1 = 0) → (((0 : Int) ≤ 112 + x4 ∧ 112 + x4 < (S (V3 a0 0)).2) ∧ ∀ V42 : zH, V42 = zput V18 (V3 a0 0) (112 + x4) 0 → (z32 (148 + x4)) ∧ ((a1 ≠ 4) → (((0 : Int) ≤ 148 + x4 ∧ 148 + x4 < (S (V3 a0 0)).2) ∧ ∀ V47 : zH, V47 = zput V42 (V3 a0 0) (148 + x4) 0 → (z32 (184 + x4)) ∧ ((0 : Int) ≤ 184 + x4 ∧ 184 + x4 < (S (V3 a0 0)).2) ∧ ∀ V51 : zH, V51 = zput V47 (V3 a0 0) (184 + x4) 1 → zl_X8_button_211 E X F S a0 x4 0 V51)) ∧ ((a1 = 4) → (((0 : Int) ≤ 148 + x4 ∧ 148 + x4 < (S (V3 a0 0)).2) ∧ ∀ V54 : zH, V54 = zput V42 (V3 a0 0) (148 + x4) a4 → (z32 (184 + x4)) ∧ ((0 : Int) ≤ 184 + x4 ∧ 184 + x4 < (S (V3 a0 0)).2) ∧ ∀ V58 : zH, V58 = zput V54 (V3 a0 0) (184 + x4) 1 → zl_X8_button_211 E X F S a0 x4 0 V58)))))) ∧ ((a1 = 0) → (((0 : Int) ≤ 76 + x4 ∧ 76 + x4 < (S (V3 a0 0)).2) ∧ ∀ V61 : zH, V61 = zput V13 (V3 a0 0) (76 + x4) 0 → (z32 (112 + x4)) ∧ ((a1 ≠ 0) → (((0 : Int) ≤ 112 + x4 ∧ 112 + x4 < (S (V3 a0 0)).2) ∧ ∀ V66 : zH, V66 = zput V61 (V3 a0 0) (112 + x4) a3 → (z32 (148 + x4)) ∧ ((a1 ≠ 4) → (((0 : Int) ≤ 148 + x4 ∧ 148 + x4 < (S (V3 a0 0)).2) ∧ ∀ V71 : zH, V71 = zput V66 (V3 a0 0) (148 + x4) 0 → (z32 (184 + x4)) ∧ ((0 : Int) ≤ 184 + x4 ∧ 184 + x4 < (S (V3 a0 0)).2) ∧ ∀ V75 : zH, V75 = zput V71 (V3 a0 0) (184 + x4) 1 → zl_X8_button_211 E X F S a0 x4 0 V75)) ∧ ((a1 = 4) → (((0 : Int) ≤ 148 + x4 ∧ 148 + x4 < (S (V3 a0 0)).2) ∧ ∀ V78 : zH, V78 = zput V66 (V3 a0 0) (148 + x4) a4 → (z32 (184 + x4)) ∧ ((0 : Int) ≤ 184 + x4 ∧ 184 + x4 < (S (V3 a0 0)).2) ∧ ∀ V82 : zH, V82 = zput V78 (V3 a0 0) (184 + x4) 1 → zl_X8_button_211 E X F S a0 x4 0 V82)))) ∧ ((a1 = 0) → (((0 : Int) ≤ 112 + x4 ∧ 112 + x4 < (S (V3 a0 0)).2) ∧ ∀ V85 : zH, V85 = zput V61 (V3 a0 0) (112 + x4) 0 → (z32 (148 + x4)) ∧ ((a1 ≠ 4) → (((0 : Int) ≤ 148 + x4 ∧ 148 + x4 < (S (V3 a0 0)).2) ∧ ∀ V90 : zH, V90 = zput V85 (V3 a0 0) (148 + x4) 0 → (z32 (184 + x4)) ∧ ((0 : Int) ≤ 184 + x4 ∧ 184 + x4 < (S (V3 a0 0)).2) ∧ ∀ V94 : zH, V94 = zput V90 (V3 a0 0) (184 + x4) 1 → zl_X8_button_211 E X F S a0 x4 0 V94)) ∧ ((a1 = 4) → (((0 : Int) ≤ 148 + x4 ∧ 148 + x4 < (S (V3 a0 0)).2) ∧ ∀ V97 : zH, V97 = zput V85 (V3 a0 0) (148 + x4) a4 → (z32 (184 + x4)) ∧ ((0 : Int) ≤ 184 + x4 ∧ 184 + x4 < (S (V3 a0 0)).2) ∧ ∀ V101 : zH, V101 = zput V97 (V3 a0 0) (184 + x4) 1 → zl_X8_button_211 E X F S a0 x4 0 V101))))))))) :
    zl_X8_button_105 E X F S a0 a1 a2 a3 a4 V := by
  unfold zl_X8_button_105
  refine z_aload_n 0 dX8_button_105 rfl ?_
  obtain ⟨o1, h⟩ := h
  refine z_cVV [] (zk_RX8_99 _ rfl) dX8_button_106 o1 (by decide) rfl rfl (Nat.le_of_ble_eq_true rfl) (Nat.le_of_ble_eq_true rfl) (Nat.le_of_ble_eq_true rfl) (Nat.le_of_ble_eq_true rfl) (Nat.le_of_ble_eq_true rfl) h (fun V3 h => ?_)
  refine z_aload_n 0 dX8_button_109 rfl ?_
  refine z_cVF [] (zk_RX8_89 _ rfl) dX8_button_110 o1 (by decide) rfl rfl (Nat.le_of_ble_eq_true rfl) (Nat.le_of_ble_eq_true rfl) (Nat.le_of_ble_eq_true rfl) (Nat.le_of_ble_eq_true rfl) (Nat.le_of_ble_eq_true rfl) h (fun x4 h => ?_)
  refine z_istore dX8_button_113 (by decide) (L' := [(0, zrv a0), (1, ziv a1), (2, ziv a2), (3, ziv a3), (4, ziv a4), (5, ziv x4)]) [1, 2, 3, 4, 5, 0] rfl ?_
  refine z_aload_n 0 dX8_button_115 rfl ?_
  refine zgf_8_0 dX8_button_116 (zf_RX8_9 _ rfl) o1 ?_
  refine z_iconst dX8_button_119 ⟨by decide, by decide⟩ ?_
  refine z_dup2 rfl (zref_cat _) dX8_button_120 ?_
  obtain ⟨o6, h⟩ := h
  obtain ⟨o7, h⟩ := h
  refine z_iald dX8_button_121 o6 o7 ?_
  refine z_iconst dX8_button_122 ⟨by decide, by decide⟩ ?_
  obtain ⟨o8, h⟩ := h
  refine z_iadd dX8_button_123 o8 ?_
  refine z_iast dX8_button_124 o6 o7 ?_
  refine z_nameV (fun V9 e10 => ?_)
  have h := h V9 e10
  refine z_aload_n 0 dX8_button_125 rfl ?_
  refine zgf_8_0 dX8_button_126 (zf_RX8_9 _ rfl) o1 ?_
  refine z_topR (zfr_k e10 o6 o1 (by decide)) ?_
  refine z_bipush dX8_button_129 ⟨by decide, by decide⟩ (by decide) ?_
  refine z_iload 5 dX8_button_131 rfl ?_
  obtain ⟨o11, h⟩ := h
  refine z_iadd dX8_button_133 o11 ?_
  refine z_iload_n 1 dX8_button_134 rfl ?_
  obtain ⟨o12, h⟩ := h
  refine z_iast dX8_button_135 o6 o12 ?_
  refine z_nameV (fun V13 e14 => ?_)
  have h := h V13 e14
  refine z_aload_n 0 dX8_button_136 rfl ?_
  refine zgf_8_0 dX8_button_137 (zf_RX8_9 _ rfl) o1 ?_
  refine z_topR ((zfr_k e14 o6 o1 (by decide)).trans (zfr_k e10 o6 o1 (by decide))) ?_
  refine z_bipush dX8_button_140 ⟨by decide, by decide⟩ (by decide) ?_
  refine z_iload 5 dX8_button_142 rfl ?_
  obtain ⟨o15, h⟩ := h
  refine z_iadd dX8_button_144 o15 ?_
  refine z_iload_n 1 dX8_button_145 rfl ?_
  refine z_if_ne dX8_button_146 (tgt := 153) (by decide) (fun c16 => ?_) (fun c16 => ?_)
  · have h := h.1 c16
    refine z_iload_n 2 dX8_button_153 rfl ?_
    obtain ⟨o17, h⟩ := h
    refine z_iast dX8_button_154 o6 o17 ?_
    refine z_nameV (fun V18 e19 => ?_)
    have h := h V18 e19
    refine z_aload_n 0 dX8_button_155 rfl ?_
    refine zgf_8_0 dX8_button_156 (zf_RX8_9 _ rfl) o1 ?_
    refine z_topR (((zfr_k e19 o6 o1 (by decide)).trans (zfr_k e14 o6 o1 (by decide))).trans (zfr_k e10 o6 o1 (by decide))) ?_
    refine z_bipush dX8_button_159 ⟨by decide, by decide⟩ (by decide) ?_
    refine z_iload 5 dX8_button_161 rfl ?_
    obtain ⟨o20, h⟩ := h
    refine z_iadd dX8_button_163 o20 ?_
    refine z_iload_n 1 dX8_button_164 rfl ?_
    refine z_if_ne dX8_button_165 (tgt := 172) (by decide) (fun c21 => ?_) (fun c21 => ?_)
    · have h := h.1 c21
      refine z_iload_n 3 dX8_button_172 rfl ?_
      obtain ⟨o22, h⟩ := h
      refine z_iast dX8_button_173 o6 o22 ?_
      refine z_nameV (fun V23 e24 => ?_)
      have h := h V23 e24
      refine z_aload_n 0 dX8_button_174 rfl ?_
      refine zgf_8_0 dX8_button_175 (zf_RX8_9 _ rfl) o1 ?_
      refine z_topR ((((zfr_k e24 o6 o1 (by decide)).trans (zfr_k e19 o6 o1 (by decide))).trans (zfr_k e14 o6 o1 (by decide))).trans (zfr_k e10 o6 o1 (by decide))) ?_
      refine z_sipush dX8_button_178 ⟨by decide, by decide⟩ (by decide) ?_
      refine z_iload 5 dX8_button_181 rfl ?_
      obtain ⟨o25, h⟩ := h
      refine z_iadd dX8_button_183 o25 ?_
      refine z_iload_n 1 dX8_button_184 rfl ?_
      refine z_iconst dX8_button_185 ⟨by decide, by decide⟩ ?_
      refine z_icmp_ne dX8_button_186 (tgt := 194) (by decide) (fun c26 => ?_) (fun c26 => ?_)
      · have h := h.1 c26
        refine z_iconst dX8_button_194 ⟨by decide, by decide⟩ ?_
        obtain ⟨o27, h⟩ := h
        refine z_iast dX8_button_195 o6 o27 ?_
        refine z_nameV (fun V28 e29 => ?_)
        have h := h V28 e29
        refine z_aload_n 0 dX8_button_196 rfl ?_
        refine zgf_8_0 dX8_button_197 (zf_RX8_9 _ rfl) o1 ?_
        refine z_topR (((((zfr_k e29 o6 o1 (by decide)).trans (zfr_k e24 o6 o1 (by decide))).trans (zfr_k e19 o6 o1 (by decide))).trans (zfr_k e14 o6 o1 (by decide))).trans (zfr_k e10 o6 o1 (by decide))) ?_
        refine z_sipush dX8_button_200 ⟨by decide, by decide⟩ (by decide) ?_
        refine z_iload 5 dX8_button_203 rfl ?_
        obtain ⟨o30, h⟩ := h
        refine z_iadd dX8_button_205 o30 ?_
        refine z_iconst dX8_button_206 ⟨by decide, by decide⟩ ?_
        obtain ⟨o31, h⟩ := h
        refine z_iast dX8_button_207 o6 o31 ?_
        refine z_nameV (fun V32 e33 => ?_)
        have h := h V32 e33
        refine z_iconst dX8_button_208 ⟨by decide, by decide⟩ ?_
        refine z_istore dX8_button_209 (by decide) (L' := [(0, zrv a0), (1, ziv a1), (2, ziv a2), (3, ziv a3), (4, ziv a4), (5, ziv x4), (6, ziv 0)]) [1, 2, 3, 4, 5, 6, 0] rfl ?_
        refine z_loc (L' := [(0, zrv a0), (5, ziv x4), (6, ziv 0)]) [0, 5, 6] rfl ?_
        exact h
      · have h := h.2 c26
        refine z_iload 4 dX8_button_189 rfl ?_
        refine z_goto (tgt := 195) dX8_button_191 (by decide) ?_
        obtain ⟨o34, h⟩ := h
        refine z_iast dX8_button_195 o6 o34 ?_
        refine z_nameV (fun V35 e36 => ?_)
        have h := h V35 e36
        refine z_aload_n 0 dX8_button_196 rfl ?_
        refine zgf_8_0 dX8_button_197 (zf_RX8_9 _ rfl) o1 ?_
        refine z_topR (((((zfr_k e36 o6 o1 (by decide)).trans (zfr_k e24 o6 o1 (by decide))).trans (zfr_k e19 o6 o1 (by decide))).trans (zfr_k e14 o6 o1 (by decide))).trans (zfr_k e10 o6 o1 (by decide))) ?_
        refine z_sipush dX8_button_200 ⟨by decide, by decide⟩ (by decide) ?_
        refine z_iload 5 dX8_button_203 rfl ?_
        obtain ⟨o37, h⟩ := h
        refine z_iadd dX8_button_205 o37 ?_
        refine z_iconst dX8_button_206 ⟨by decide, by decide⟩ ?_
        obtain ⟨o38, h⟩ := h
        refine z_iast dX8_button_207 o6 o38 ?_
        refine z_nameV (fun V39 e40 => ?_)
        have h := h V39 e40
        refine z_iconst dX8_button_208 ⟨by decide, by decide⟩ ?_
        refine z_istore dX8_button_209 (by decide) (L' := [(0, zrv a0), (1, ziv a1), (2, ziv a2), (3, ziv a3), (4, ziv a4), (5, ziv x4), (6, ziv 0)]) [1, 2, 3, 4, 5, 6, 0] rfl ?_
        refine z_loc (L' := [(0, zrv a0), (5, ziv x4), (6, ziv 0)]) [0, 5, 6] rfl ?_
        exact h
    · have h := h.2 c21
      refine z_iconst dX8_button_168 ⟨by decide, by decide⟩ ?_
      refine z_goto (tgt := 173) dX8_button_169 (by decide) ?_
      obtain ⟨o41, h⟩ := h
      refine z_iast dX8_button_173 o6 o41 ?_
      refine z_nameV (fun V42 e43 => ?_)
      have h := h V42 e43
      refine z_aload_n 0 dX8_button_174 rfl ?_
      refine zgf_8_0 dX8_button_175 (zf_RX8_9 _ rfl) o1 ?_
      refine z_topR ((((zfr_k e43 o6 o1 (by decide)).trans (zfr_k e19 o6 o1 (by decide))).trans (zfr_k e14 o6 o1 (by decide))).trans (zfr_k e10 o6 o1 (by decide))) ?_
      refine z_sipush dX8_button_178 ⟨by decide, by decide⟩ (by decide) ?_
      refine z_iload 5 dX8_button_181 rfl ?_
      obtain ⟨o44, h⟩ := h
      refine z_iadd dX8_button_183 o44 ?_
      refine z_iload_n 1 dX8_button_184 rfl ?_
      refine z_iconst dX8_button_185 ⟨by decide, by decide⟩ ?_
      refine z_icmp_ne dX8_button_186 (tgt := 194) (by decide) (fun c45 => ?_) (fun c45 => ?_)
      · have h := h.1 c45
        refine z_iconst dX8_button_194 ⟨by decide, by decide⟩ ?_
        obtain ⟨o46, h⟩ := h
        refine z_iast dX8_button_195 o6 o46 ?_
        refine z_nameV (fun V47 e48 => ?_)
        have h := h V47 e48
        refine z_aload_n 0 dX8_button_196 rfl ?_
        refine zgf_8_0 dX8_button_197 (zf_RX8_9 _ rfl) o1 ?_
        refine z_topR (((((zfr_k e48 o6 o1 (by decide)).trans (zfr_k e43 o6 o1 (by decide))).trans (zfr_k e19 o6 o1 (by decide))).trans (zfr_k e14 o6 o1 (by decide))).trans (zfr_k e10 o6 o1 (by decide))) ?_
        refine z_sipush dX8_button_200 ⟨by decide, by decide⟩ (by decide) ?_
        refine z_iload 5 dX8_button_203 rfl ?_
        obtain ⟨o49, h⟩ := h
        refine z_iadd dX8_button_205 o49 ?_
        refine z_iconst dX8_button_206 ⟨by decide, by decide⟩ ?_
        obtain ⟨o50, h⟩ := h
        refine z_iast dX8_button_207 o6 o50 ?_
        refine z_nameV (fun V51 e52 => ?_)
        have h := h V51 e52
        refine z_iconst dX8_button_208 ⟨by decide, by decide⟩ ?_
        refine z_istore dX8_button_209 (by decide) (L' := [(0, zrv a0), (1, ziv a1), (2, ziv a2), (3, ziv a3), (4, ziv a4), (5, ziv x4), (6, ziv 0)]) [1, 2, 3, 4, 5, 6, 0] rfl ?_
        refine z_loc (L' := [(0, zrv a0), (5, ziv x4), (6, ziv 0)]) [0, 5, 6] rfl ?_
        exact h
      · have h := h.2 c45
        refine z_iload 4 dX8_button_189 rfl ?_
        refine z_goto (tgt := 195) dX8_button_191 (by decide) ?_
        obtain ⟨o53, h⟩ := h
        refine z_iast dX8_button_195 o6 o53 ?_
        refine z_nameV (fun V54 e55 => ?_)
        have h := h V54 e55
        refine z_aload_n 0 dX8_button_196 rfl ?_
        refine zgf_8_0 dX8_button_197 (zf_RX8_9 _ rfl) o1 ?_
        refine z_topR (((((zfr_k e55 o6 o1 (by decide)).trans (zfr_k e43 o6 o1 (by decide))).trans (zfr_k e19 o6 o1 (by decide))).trans (zfr_k e14 o6 o1 (by decide))).trans (zfr_k e10 o6 o1 (by decide))) ?_
        refine z_sipush dX8_button_200 ⟨by decide, by decide⟩ (by decide) ?_
        refine z_iload 5 dX8_button_203 rfl ?_
        obtain ⟨o56, h⟩ := h
        refine z_iadd dX8_button_205 o56 ?_
        refine z_iconst dX8_button_206 ⟨by decide, by decide⟩ ?_
        obtain ⟨o57, h⟩ := h
        refine z_iast dX8_button_207 o6 o57 ?_
        refine z_nameV (fun V58 e59 => ?_)
        have h := h V58 e59
        refine z_iconst dX8_button_208 ⟨by decide, by decide⟩ ?_
        refine z_istore dX8_button_209 (by decide) (L' := [(0, zrv a0), (1, ziv a1), (2, ziv a2), (3, ziv a3), (4, ziv a4), (5, ziv x4), (6, ziv 0)]) [1, 2, 3, 4, 5, 6, 0] rfl ?_
        refine z_loc (L' := [(0, zrv a0), (5, ziv x4), (6, ziv 0)]) [0, 5, 6] rfl ?_
        exact h
  · have h := h.2 c16
    refine z_iconst dX8_button_149 ⟨by decide, by decide⟩ ?_
    refine z_goto (tgt := 154) dX8_button_150 (by decide) ?_
    obtain ⟨o60, h⟩ := h
    refine z_iast dX8_button_154 o6 o60 ?_
    refine z_nameV (fun V61 e62 => ?_)
    have h := h V61 e62
    refine z_aload_n 0 dX8_button_155 rfl ?_
    refine zgf_8_0 dX8_button_156 (zf_RX8_9 _ rfl) o1 ?_
    refine z_topR (((zfr_k e62 o6 o1 (by decide)).trans (zfr_k e14 o6 o1 (by decide))).trans (zfr_k e10 o6 o1 (by decide))) ?_
    refine z_bipush dX8_button_159 ⟨by decide, by decide⟩ (by decide) ?_
    refine z_iload 5 dX8_button_161 rfl ?_
    obtain ⟨o63, h⟩ := h
    refine z_iadd dX8_button_163 o63 ?_
    refine z_iload_n 1 dX8_button_164 rfl ?_
    refine z_if_ne dX8_button_165 (tgt := 172) (by decide) (fun c64 => ?_) (fun c64 => ?_)
    · have h := h.1 c64
      refine z_iload_n 3 dX8_button_172 rfl ?_
      obtain ⟨o65, h⟩ := h
      refine z_iast dX8_button_173 o6 o65 ?_
      refine z_nameV (fun V66 e67 => ?_)
      have h := h V66 e67
      refine z_aload_n 0 dX8_button_174 rfl ?_
      refine zgf_8_0 dX8_button_175 (zf_RX8_9 _ rfl) o1 ?_
      refine z_topR ((((zfr_k e67 o6 o1 (by decide)).trans (zfr_k e62 o6 o1 (by decide))).trans (zfr_k e14 o6 o1 (by decide))).trans (zfr_k e10 o6 o1 (by decide))) ?_
      refine z_sipush dX8_button_178 ⟨by decide, by decide⟩ (by decide) ?_
      refine z_iload 5 dX8_button_181 rfl ?_
      obtain ⟨o68, h⟩ := h
      refine z_iadd dX8_button_183 o68 ?_
      refine z_iload_n 1 dX8_button_184 rfl ?_
      refine z_iconst dX8_button_185 ⟨by decide, by decide⟩ ?_
      refine z_icmp_ne dX8_button_186 (tgt := 194) (by decide) (fun c69 => ?_) (fun c69 => ?_)
      · have h := h.1 c69
        refine z_iconst dX8_button_194 ⟨by decide, by decide⟩ ?_
        obtain ⟨o70, h⟩ := h
        refine z_iast dX8_button_195 o6 o70 ?_
        refine z_nameV (fun V71 e72 => ?_)
        have h := h V71 e72
        refine z_aload_n 0 dX8_button_196 rfl ?_
        refine zgf_8_0 dX8_button_197 (zf_RX8_9 _ rfl) o1 ?_
        refine z_topR (((((zfr_k e72 o6 o1 (by decide)).trans (zfr_k e67 o6 o1 (by decide))).trans (zfr_k e62 o6 o1 (by decide))).trans (zfr_k e14 o6 o1 (by decide))).trans (zfr_k e10 o6 o1 (by decide))) ?_
        refine z_sipush dX8_button_200 ⟨by decide, by decide⟩ (by decide) ?_
        refine z_iload 5 dX8_button_203 rfl ?_
        obtain ⟨o73, h⟩ := h
        refine z_iadd dX8_button_205 o73 ?_
        refine z_iconst dX8_button_206 ⟨by decide, by decide⟩ ?_
        obtain ⟨o74, h⟩ := h
        refine z_iast dX8_button_207 o6 o74 ?_
        refine z_nameV (fun V75 e76 => ?_)
        have h := h V75 e76
        refine z_iconst dX8_button_208 ⟨by decide, by decide⟩ ?_
        refine z_istore dX8_button_209 (by decide) (L' := [(0, zrv a0), (1, ziv a1), (2, ziv a2), (3, ziv a3), (4, ziv a4), (5, ziv x4), (6, ziv 0)]) [1, 2, 3, 4, 5, 6, 0] rfl ?_
        refine z_loc (L' := [(0, zrv a0), (5, ziv x4), (6, ziv 0)]) [0, 5, 6] rfl ?_
        exact h
      · have h := h.2 c69
        refine z_iload 4 dX8_button_189 rfl ?_
        refine z_goto (tgt := 195) dX8_button_191 (by decide) ?_
        obtain ⟨o77, h⟩ := h
        refine z_iast dX8_button_195 o6 o77 ?_
        refine z_nameV (fun V78 e79 => ?_)
        have h := h V78 e79
        refine z_aload_n 0 dX8_button_196 rfl ?_
        refine zgf_8_0 dX8_button_197 (zf_RX8_9 _ rfl) o1 ?_
        refine z_topR (((((zfr_k e79 o6 o1 (by decide)).trans (zfr_k e67 o6 o1 (by decide))).trans (zfr_k e62 o6 o1 (by decide))).trans (zfr_k e14 o6 o1 (by decide))).trans (zfr_k e10 o6 o1 (by decide))) ?_
        refine z_sipush dX8_button_200 ⟨by decide, by decide⟩ (by decide) ?_
        refine z_iload 5 dX8_button_203 rfl ?_
        obtain ⟨o80, h⟩ := h
        refine z_iadd dX8_button_205 o80 ?_
        refine z_iconst dX8_button_206 ⟨by decide, by decide⟩ ?_
        obtain ⟨o81, h⟩ := h
        refine z_iast dX8_button_207 o6 o81 ?_
        refine z_nameV (fun V82 e83 => ?_)
        have h := h V82 e83
        refine z_iconst dX8_button_208 ⟨by decide, by decide⟩ ?_
        refine z_istore dX8_button_209 (by decide) (L' := [(0, zrv a0), (1, ziv a1), (2, ziv a2), (3, ziv a3), (4, ziv a4), (5, ziv x4), (6, ziv 0)]) [1, 2, 3, 4, 5, 6, 0] rfl ?_
        refine z_loc (L' := [(0, zrv a0), (5, ziv x4), (6, ziv 0)]) [0, 5, 6] rfl ?_
        exact h
    · have h := h.2 c64
      refine z_iconst dX8_button_168 ⟨by decide, by decide⟩ ?_
      refine z_goto (tgt := 173) dX8_button_169 (by decide) ?_
      obtain ⟨o84, h⟩ := h
      refine z_iast dX8_button_173 o6 o84 ?_
      refine z_nameV (fun V85 e86 => ?_)
      have h := h V85 e86
      refine z_aload_n 0 dX8_button_174 rfl ?_
      refine zgf_8_0 dX8_button_175 (zf_RX8_9 _ rfl) o1 ?_
      refine z_topR ((((zfr_k e86 o6 o1 (by decide)).trans (zfr_k e62 o6 o1 (by decide))).trans (zfr_k e14 o6 o1 (by decide))).trans (zfr_k e10 o6 o1 (by decide))) ?_
      refine z_sipush dX8_button_178 ⟨by decide, by decide⟩ (by decide) ?_
      refine z_iload 5 dX8_button_181 rfl ?_
      obtain ⟨o87, h⟩ := h
      refine z_iadd dX8_button_183 o87 ?_
      refine z_iload_n 1 dX8_button_184 rfl ?_
      refine z_iconst dX8_button_185 ⟨by decide, by decide⟩ ?_
      refine z_icmp_ne dX8_button_186 (tgt := 194) (by decide) (fun c88 => ?_) (fun c88 => ?_)
      · have h := h.1 c88
        refine z_iconst dX8_button_194 ⟨by decide, by decide⟩ ?_
        obtain ⟨o89, h⟩ := h
        refine z_iast dX8_button_195 o6 o89 ?_
        refine z_nameV (fun V90 e91 => ?_)
        have h := h V90 e91
        refine z_aload_n 0 dX8_button_196 rfl ?_
        refine zgf_8_0 dX8_button_197 (zf_RX8_9 _ rfl) o1 ?_
        refine z_topR (((((zfr_k e91 o6 o1 (by decide)).trans (zfr_k e86 o6 o1 (by decide))).trans (zfr_k e62 o6 o1 (by decide))).trans (zfr_k e14 o6 o1 (by decide))).trans (zfr_k e10 o6 o1 (by decide))) ?_
        refine z_sipush dX8_button_200 ⟨by decide, by decide⟩ (by decide) ?_
        refine z_iload 5 dX8_button_203 rfl ?_
        obtain ⟨o92, h⟩ := h
        refine z_iadd dX8_button_205 o92 ?_
        refine z_iconst dX8_button_206 ⟨by decide, by decide⟩ ?_
        obtain ⟨o93, h⟩ := h
        refine z_iast dX8_button_207 o6 o93 ?_
        refine z_nameV (fun V94 e95 => ?_)
        have h := h V94 e95
        refine z_iconst dX8_button_208 ⟨by decide, by decide⟩ ?_
        refine z_istore dX8_button_209 (by decide) (L' := [(0, zrv a0), (1, ziv a1), (2, ziv a2), (3, ziv a3), (4, ziv a4), (5, ziv x4), (6, ziv 0)]) [1, 2, 3, 4, 5, 6, 0] rfl ?_
        refine z_loc (L' := [(0, zrv a0), (5, ziv x4), (6, ziv 0)]) [0, 5, 6] rfl ?_
        exact h
      · have h := h.2 c88
        refine z_iload 4 dX8_button_189 rfl ?_
        refine z_goto (tgt := 195) dX8_button_191 (by decide) ?_
        obtain ⟨o96, h⟩ := h
        refine z_iast dX8_button_195 o6 o96 ?_
        refine z_nameV (fun V97 e98 => ?_)
        have h := h V97 e98
        refine z_aload_n 0 dX8_button_196 rfl ?_
        refine zgf_8_0 dX8_button_197 (zf_RX8_9 _ rfl) o1 ?_
        refine z_topR (((((zfr_k e98 o6 o1 (by decide)).trans (zfr_k e86 o6 o1 (by decide))).trans (zfr_k e62 o6 o1 (by decide))).trans (zfr_k e14 o6 o1 (by decide))).trans (zfr_k e10 o6 o1 (by decide))) ?_
        refine z_sipush dX8_button_200 ⟨by decide, by decide⟩ (by decide) ?_
        refine z_iload 5 dX8_button_203 rfl ?_
        obtain ⟨o99, h⟩ := h
        refine z_iadd dX8_button_205 o99 ?_
        refine z_iconst dX8_button_206 ⟨by decide, by decide⟩ ?_
        obtain ⟨o100, h⟩ := h
        refine z_iast dX8_button_207 o6 o100 ?_
        refine z_nameV (fun V101 e102 => ?_)
        have h := h V101 e102
        refine z_iconst dX8_button_208 ⟨by decide, by decide⟩ ?_
        refine z_istore dX8_button_209 (by decide) (L' := [(0, zrv a0), (1, ziv a1), (2, ziv a2), (3, ziv a3), (4, ziv a4), (5, ziv x4), (6, ziv 0)]) [1, 2, 3, 4, 5, 6, 0] rfl ?_
        refine z_loc (L' := [(0, zrv a0), (5, ziv x4), (6, ziv 0)]) [0, 5, 6] rfl ?_
        exact h
set_option maxRecDepth 100000 in
set_option maxHeartbeats 4000000 in
theorem wp_X8_button_211 {E : zE} {X : zX} {F : Int → zH → Prop} {S : zS} {a0 a5 a6 : Int} {V : zH}
    (h : ((36 ≤ a6) → (F a5 V)) ∧ ((a6 < 36) → (((S a0).1 = 11) ∧ (z32 (36 * a5)) ∧ (z32 (220 + (36 * a5))) ∧ (z32 ((220 + (36 * a5)) + a6)) ∧ ((S (V a0 0)).1 = 1) ∧ ((0 : Int) ≤ (220 + (36 * a5)) + a6 ∧ (220 + (36 * a5)) + a6 < (S (V a0 0)).2) ∧ ∀ V8 : zH, V8 = zput V (V a0 0) ((220 + (36 * a5)) + a6) 0 → (z32 (a6 + 1)) ∧ zl_X8_button_211 E X F S a0 a5 (a6 + 1) V8))) :
    zl_X8_button_211 E X F S a0 a5 a6 V := by
  unfold zl_X8_button_211
  refine z_iload 2 dX8_button_211 rfl ?_
  refine z_bipush dX8_button_213 ⟨by decide, by decide⟩ (by decide) ?_
  refine z_icmp_ge dX8_button_215 (tgt := 242) (by decide) (fun c1 => ?_) (fun c1 => ?_)
  · have h := h.1 c1
    refine z_iload 1 dX8_button_242 rfl ?_
    exact z_retI dX8_button_244 rfl h
  · have h := h.2 c1
    refine z_aload_n 0 dX8_button_218 rfl ?_
    obtain ⟨o2, h⟩ := h
    refine zgf_8_0 dX8_button_219 (zf_RX8_9 _ rfl) o2 ?_
    refine z_sipush dX8_button_222 ⟨by decide, by decide⟩ (by decide) ?_
    refine z_bipush dX8_button_225 ⟨by decide, by decide⟩ (by decide) ?_
    refine z_iload 1 dX8_button_227 rfl ?_
    obtain ⟨o3, h⟩ := h
    refine z_imul dX8_button_229 o3 ?_
    obtain ⟨o4, h⟩ := h
    refine z_iadd dX8_button_230 o4 ?_
    refine z_iload 2 dX8_button_231 rfl ?_
    obtain ⟨o5, h⟩ := h
    refine z_iadd dX8_button_233 o5 ?_
    refine z_iconst dX8_button_234 ⟨by decide, by decide⟩ ?_
    obtain ⟨o6, h⟩ := h
    obtain ⟨o7, h⟩ := h
    refine z_iast dX8_button_235 o6 o7 ?_
    refine z_nameV (fun V8 e9 => ?_)
    have h := h V8 e9
    obtain ⟨o10, h⟩ := h
    refine z_iinc 2 dX8_button_236 rfl (by decide) o10 (L' := [(0, zrv a0), (5, ziv a5), (6, ziv (a6 + 1))]) [1, 2, 0] rfl ?_
    refine z_goto (tgt := 211) dX8_button_239 (by decide) ?_
    exact h
set_option maxRecDepth 100000 in
set_option maxHeartbeats 4000000 in
theorem en_X8_button {E : zE} {F : Int → zH → Prop} {S : zS} {a0 a1 a2 a3 a4 : Int} {V : zH}
    (h : z32 a1 → z32 a2 → z32 a3 → z32 a4 → ∀ X : zX, SpF E 0 zm_X8_in [zjv a1, zjv 0, zjv 4] S V (fun x1 => ((x1 = 0) → (F (-1) V)) ∧ ((x1 ≠ 0) → (((S a0).1 = 11) ∧ SpF E 0 zm_X8_buttons [zrv a0] S V (fun x5 => ((x5 ≠ 36) → (((a1 = 0) → (zl_X8_button_105 E X F S a0 a1 a2 a3 a4 V)) ∧ ((a1 ≠ 0) → (((a1 = 2) → (zl_X8_button_37 E X F S a0 a1 a2 a3 a4 V)) ∧ ((a1 ≠ 2) → (((a1 ≠ 3) → (SpF E 0 zm_X8_n [zrv a0] S V (fun x11 => (z32 (x11 - 1)) ∧ SpF E 0 zm_X8_in [zjv a2, zjv 0, zjv (x11 - 1)] S V (fun x14 => ((x14 = 0) → (F (-1) V)) ∧ ((x14 ≠ 0) → (SpF E 0 zm_X8_m [zrv a0] S V (fun x17 => (z32 (x17 - 1)) ∧ SpF E 0 zm_X8_in [zjv a3, zjv 0, zjv (x17 - 1)] S V (fun x20 => ((x20 = 0) → (F (-1) V)) ∧ ((x20 ≠ 0) → (((a1 ≠ 4) → (zl_X8_button_105 E X F S a0 a1 a2 a3 a4 V)) ∧ ((a1 = 4) → (SpF E 0 zm_X8_buttons [zrv a0] S V (fun x24 => (z32 (x24 - 1)) ∧ SpF E 0 zm_X8_in [zjv a4, zjv 0, zjv (x24 - 1)] S V (fun x27 => ((x27 ≠ 0) → (zl_X8_button_105 E X F S a0 a1 a2 a3 a4 V)) ∧ ((x27 = 0) → (F (-1) V)))))))))))))))) ∧ ((a1 = 3) → (zl_X8_button_37 E X F S a0 a1 a2 a3 a4 V)))))))) ∧ ((x5 = 36) → (F (-1) V))))))) :
    SpI E 2 zm_X8_button [zrv a0, ziv a1, ziv a2, ziv a3, ziv a4] S V F := by
  refine Sp.of (plainFor_of_name (by decide +kernel)) (Nat.le_of_ble_eq_true rfl) (fun hok X => ?_)
  have h := h (hok _ (List.mem_cons_of_mem _ (List.mem_cons_self))) (hok _ (List.mem_cons_of_mem _ (List.mem_cons_of_mem _ (List.mem_cons_self)))) (hok _ (List.mem_cons_of_mem _ (List.mem_cons_of_mem _ (List.mem_cons_of_mem _ (List.mem_cons_self))))) (hok _ (List.mem_cons_of_mem _ (List.mem_cons_of_mem _ (List.mem_cons_of_mem _ (List.mem_cons_of_mem _ (List.mem_cons_self)))))) X
  show Zr E X (zRoom 2 0 0) zm_X8_button (zQm E X (zpI S F) 0 0) 0 0 0 [(0, zrv a0), (1, ziv a1), (2, ziv a2), (3, ziv a3), (4, ziv a4)] [] S V
  refine z_iload_n 1 dX8_button_0 rfl ?_
  refine z_i2l dX8_button_1 ?_
  refine z_lconst (v := 0) dX8_button_2 (by decide) ⟨by decide, by decide⟩ ?_
  refine z_ldc2 (c := 4) (zd_RX8_87 _ rfl) (by decide) ⟨by decide, by decide⟩ dX8_button_3 ?_
  refine z_cSF [zjv a1, zjv 0, zjv 4] (zk_RX8_69 _ rfl) dX8_button_6 rfl rfl (Nat.le_of_ble_eq_true rfl) (Nat.le_of_ble_eq_true rfl) (Nat.le_of_ble_eq_true rfl) (Nat.le_of_ble_eq_true rfl) (Nat.le_of_ble_eq_true rfl) h (fun x1 h => ?_)
  refine z_if_eq dX8_button_9 (tgt := 21) (by decide) (fun c3 => ?_) (fun c3 => ?_)
  · have h := h.1 c3
    refine z_iconst dX8_button_21 ⟨by decide, by decide⟩ ?_
    exact z_retI dX8_button_22 rfl h
  · have h := h.2 c3
    refine z_aload_n 0 dX8_button_12 rfl ?_
    obtain ⟨o4, h⟩ := h
    refine z_cVF [] (zk_RX8_89 _ rfl) dX8_button_13 o4 (by decide) rfl rfl (Nat.le_of_ble_eq_true rfl) (Nat.le_of_ble_eq_true rfl) (Nat.le_of_ble_eq_true rfl) (Nat.le_of_ble_eq_true rfl) (Nat.le_of_ble_eq_true rfl) h (fun x5 h => ?_)
    refine z_bipush dX8_button_16 ⟨by decide, by decide⟩ (by decide) ?_
    refine z_icmp_ne dX8_button_18 (tgt := 23) (by decide) (fun c7 => ?_) (fun c7 => ?_)
    · have h := h.1 c7
      refine z_iload_n 1 dX8_button_23 rfl ?_
      refine z_if_eq dX8_button_24 (tgt := 105) (by decide) (fun c8 => ?_) (fun c8 => ?_)
      · have h := h.1 c8
        exact h
      · have h := h.2 c8
        refine z_iload_n 1 dX8_button_27 rfl ?_
        refine z_iconst dX8_button_28 ⟨by decide, by decide⟩ ?_
        refine z_icmp_eq dX8_button_29 (tgt := 37) (by decide) (fun c9 => ?_) (fun c9 => ?_)
        · have h := h.1 c9
          exact h
        · have h := h.2 c9
          refine z_iload_n 1 dX8_button_32 rfl ?_
          refine z_iconst dX8_button_33 ⟨by decide, by decide⟩ ?_
          refine z_icmp_ne dX8_button_34 (tgt := 45) (by decide) (fun c10 => ?_) (fun c10 => ?_)
          · have h := h.1 c10
            refine z_iload_n 2 dX8_button_45 rfl ?_
            refine z_i2l dX8_button_46 ?_
            refine z_lconst (v := 0) dX8_button_47 (by decide) ⟨by decide, by decide⟩ ?_
            refine z_aload_n 0 dX8_button_48 rfl ?_
            refine z_cVF [] (zk_RX8_84 _ rfl) dX8_button_49 o4 (by decide) rfl rfl (Nat.le_of_ble_eq_true rfl) (Nat.le_of_ble_eq_true rfl) (Nat.le_of_ble_eq_true rfl) (Nat.le_of_ble_eq_true rfl) (Nat.le_of_ble_eq_true rfl) h (fun x11 h => ?_)
            refine z_iconst dX8_button_52 ⟨by decide, by decide⟩ ?_
            obtain ⟨o13, h⟩ := h
            refine z_isub dX8_button_53 o13 ?_
            refine z_i2l dX8_button_54 ?_
            refine z_cSF [zjv a2, zjv 0, zjv (x11 - 1)] (zk_RX8_69 _ rfl) dX8_button_55 rfl rfl (Nat.le_of_ble_eq_true rfl) (Nat.le_of_ble_eq_true rfl) (Nat.le_of_ble_eq_true rfl) (Nat.le_of_ble_eq_true rfl) (Nat.le_of_ble_eq_true rfl) h (fun x14 h => ?_)
            refine z_istore dX8_button_58 (by decide) (L' := [(0, zrv a0), (1, ziv a1), (2, ziv a2), (3, ziv a3), (4, ziv a4), (5, ziv x14)]) [1, 2, 3, 4, 5, 0] rfl ?_
            refine z_iload 5 dX8_button_60 rfl ?_
            refine z_if_eq dX8_button_62 (tgt := 103) (by decide) (fun c16 => ?_) (fun c16 => ?_)
            · have h := h.1 c16
              refine z_iconst dX8_button_103 ⟨by decide, by decide⟩ ?_
              exact z_retI dX8_button_104 rfl h
            · have h := h.2 c16
              refine z_iload_n 3 dX8_button_65 rfl ?_
              refine z_i2l dX8_button_66 ?_
              refine z_lconst (v := 0) dX8_button_67 (by decide) ⟨by decide, by decide⟩ ?_
              refine z_aload_n 0 dX8_button_68 rfl ?_
              refine z_cVF [] (zk_RX8_96 _ rfl) dX8_button_69 o4 (by decide) rfl rfl (Nat.le_of_ble_eq_true rfl) (Nat.le_of_ble_eq_true rfl) (Nat.le_of_ble_eq_true rfl) (Nat.le_of_ble_eq_true rfl) (Nat.le_of_ble_eq_true rfl) h (fun x17 h => ?_)
              refine z_iconst dX8_button_72 ⟨by decide, by decide⟩ ?_
              obtain ⟨o19, h⟩ := h
              refine z_isub dX8_button_73 o19 ?_
              refine z_i2l dX8_button_74 ?_
              refine z_cSF [zjv a3, zjv 0, zjv (x17 - 1)] (zk_RX8_69 _ rfl) dX8_button_75 rfl rfl (Nat.le_of_ble_eq_true rfl) (Nat.le_of_ble_eq_true rfl) (Nat.le_of_ble_eq_true rfl) (Nat.le_of_ble_eq_true rfl) (Nat.le_of_ble_eq_true rfl) h (fun x20 h => ?_)
              refine z_if_eq dX8_button_78 (tgt := 103) (by decide) (fun c22 => ?_) (fun c22 => ?_)
              · have h := h.1 c22
                refine z_iconst dX8_button_103 ⟨by decide, by decide⟩ ?_
                exact z_retI dX8_button_104 rfl h
              · have h := h.2 c22
                refine z_iload_n 1 dX8_button_81 rfl ?_
                refine z_iconst dX8_button_82 ⟨by decide, by decide⟩ ?_
                refine z_icmp_ne dX8_button_83 (tgt := 105) (by decide) (fun c23 => ?_) (fun c23 => ?_)
                · have h := h.1 c23
                  refine z_loc (L' := [(0, zrv a0), (1, ziv a1), (2, ziv a2), (3, ziv a3), (4, ziv a4)]) [0, 1, 2, 3, 4] rfl ?_
                  exact h
                · have h := h.2 c23
                  refine z_iload 4 dX8_button_86 rfl ?_
                  refine z_i2l dX8_button_88 ?_
                  refine z_lconst (v := 0) dX8_button_89 (by decide) ⟨by decide, by decide⟩ ?_
                  refine z_aload_n 0 dX8_button_90 rfl ?_
                  refine z_cVF [] (zk_RX8_89 _ rfl) dX8_button_91 o4 (by decide) rfl rfl (Nat.le_of_ble_eq_true rfl) (Nat.le_of_ble_eq_true rfl) (Nat.le_of_ble_eq_true rfl) (Nat.le_of_ble_eq_true rfl) (Nat.le_of_ble_eq_true rfl) h (fun x24 h => ?_)
                  refine z_iconst dX8_button_94 ⟨by decide, by decide⟩ ?_
                  obtain ⟨o26, h⟩ := h
                  refine z_isub dX8_button_95 o26 ?_
                  refine z_i2l dX8_button_96 ?_
                  refine z_cSF [zjv a4, zjv 0, zjv (x24 - 1)] (zk_RX8_69 _ rfl) dX8_button_97 rfl rfl (Nat.le_of_ble_eq_true rfl) (Nat.le_of_ble_eq_true rfl) (Nat.le_of_ble_eq_true rfl) (Nat.le_of_ble_eq_true rfl) (Nat.le_of_ble_eq_true rfl) h (fun x27 h => ?_)
                  refine z_if_ne dX8_button_100 (tgt := 105) (by decide) (fun c29 => ?_) (fun c29 => ?_)
                  · have h := h.1 c29
                    refine z_loc (L' := [(0, zrv a0), (1, ziv a1), (2, ziv a2), (3, ziv a3), (4, ziv a4)]) [0, 1, 2, 3, 4] rfl ?_
                    exact h
                  · have h := h.2 c29
                    refine z_iconst dX8_button_103 ⟨by decide, by decide⟩ ?_
                    exact z_retI dX8_button_104 rfl h
          · have h := h.2 c10
            exact h
    · have h := h.2 c7
      refine z_iconst dX8_button_21 ⟨by decide, by decide⟩ ?_
      exact z_retI dX8_button_22 rfl h
def zl_X8_board_31 (E : zE) (X : zX) (F : Int → zH → Prop) (S : zS) (a0 a1 a2 : Int) (V : zH) : Prop := Zr E X (zRoom 1 0 0) zm_X8_board (zQm E X (zpI S F) 0 0) 0 0 31 [(0, zrv a0), (1, ziv a1), (2, ziv a2)] [] S V
def zl_X8_board_52 (E : zE) (X : zX) (F : Int → zH → Prop) (S : zS) (a0 a3 : Int) (V : zH) : Prop := Zr E X (zRoom 1 0 0) zm_X8_board (zQm E X (zpI S F) 0 0) 0 0 52 [(0, zrv a0), (3, ziv a3)] [] S V
set_option maxRecDepth 100000 in
set_option maxHeartbeats 4000000 in
theorem wp_X8_board_31 {E : zE} {X : zX} {F : Int → zH → Prop} {S : zS} {a0 a1 a2 : Int} {V : zH}
    (h : ((S a0).1 = 11) ∧ ∀ V2 : zH, V2 = zput V a0 6 a1 → ((a1 ≠ 4) → (∀ V5 : zH, V5 = zput V2 a0 7 a2 → zl_X8_board_52 E X F S a0 0 V5)) ∧ ((a1 = 4) → (∀ V7 : zH, V7 = zput V2 a0 7 0 → zl_X8_board_52 E X F S a0 0 V7))) :
    zl_X8_board_31 E X F S a0 a1 a2 V := by
  unfold zl_X8_board_31
  refine z_aload_n 0 dX8_board_31 rfl ?_
  refine z_iload_n 1 dX8_board_32 rfl ?_
  obtain ⟨o1, h⟩ := h
  refine zpf_8_6 dX8_board_33 (zf_RX8_20 _ rfl) o1 ?_
  refine z_nameV (fun V2 e3 => ?_)
  have h := h V2 e3
  refine z_aload_n 0 dX8_board_36 rfl ?_
  refine z_iload_n 1 dX8_board_37 rfl ?_
  refine z_iconst dX8_board_38 ⟨by decide, by decide⟩ ?_
  refine z_icmp_ne dX8_board_39 (tgt := 46) (by decide) (fun c4 => ?_) (fun c4 => ?_)
  · have h := h.1 c4
    refine z_iload_n 2 dX8_board_46 rfl ?_
    refine zpf_8_7 dX8_board_47 (zf_RX8_104 _ rfl) o1 ?_
    refine z_nameV (fun V5 e6 => ?_)
    have h := h V5 e6
    refine z_iconst dX8_board_50 ⟨by decide, by decide⟩ ?_
    refine z_istore_n dX8_board_51 (by decide) (L' := [(0, zrv a0), (1, ziv a1), (2, ziv a2), (3, ziv 0)]) [1, 2, 3, 0] rfl ?_
    refine z_loc (L' := [(0, zrv a0), (3, ziv 0)]) [0, 3] rfl ?_
    exact h
  · have h := h.2 c4
    refine z_iconst dX8_board_42 ⟨by decide, by decide⟩ ?_
    refine z_goto (tgt := 47) dX8_board_43 (by decide) ?_
    refine zpf_8_7 dX8_board_47 (zf_RX8_104 _ rfl) o1 ?_
    refine z_nameV (fun V7 e8 => ?_)
    have h := h V7 e8
    refine z_iconst dX8_board_50 ⟨by decide, by decide⟩ ?_
    refine z_istore_n dX8_board_51 (by decide) (L' := [(0, zrv a0), (1, ziv a1), (2, ziv a2), (3, ziv 0)]) [1, 2, 3, 0] rfl ?_
    refine z_loc (L' := [(0, zrv a0), (3, ziv 0)]) [0, 3] rfl ?_
    exact h
set_option maxRecDepth 100000 in
set_option maxHeartbeats 4000000 in
theorem wp_X8_board_52 {E : zE} {X : zX} {F : Int → zH → Prop} {S : zS} {a0 a3 : Int} {V : zH}
    (h : ((S a0).1 = 11) ∧ ((V a0 7 ≤ a3) → (F 1 V)) ∧ ((a3 < V a0 7) → (((S (V a0 8)).1 = 2) ∧ ((0 : Int) ≤ a3 ∧ a3 < (S (V a0 8)).2) ∧ ∀ V5 : zH, V5 = zput V (V a0 8) a3 0 → (z32 (a3 + 1)) ∧ zl_X8_board_52 E X F S a0 (a3 + 1) V5))) :
    zl_X8_board_52 E X F S a0 a3 V := by
  unfold zl_X8_board_52
  refine z_iload_n 1 dX8_board_52 rfl ?_
  refine z_aload_n 0 dX8_board_53 rfl ?_
  obtain ⟨o1, h⟩ := h
  refine zgf_8_7 dX8_board_54 (zf_RX8_104 _ rfl) o1 ?_
  refine z_icmp_ge dX8_board_57 (tgt := 73) (by decide) (fun c2 => ?_) (fun c2 => ?_)
  · have h := h.1 c2
    refine z_iconst dX8_board_73 ⟨by decide, by decide⟩ ?_
    exact z_retZ dX8_board_74 rfl (Or.inr rfl) h
  · have h := h.2 c2
    refine z_aload_n 0 dX8_board_60 rfl ?_
    refine zgf_8_8 dX8_board_61 (zf_RX8_24 _ rfl) o1 ?_
    refine z_iload_n 1 dX8_board_64 rfl ?_
    refine z_lconst (v := 0) dX8_board_65 (by decide) ⟨by decide, by decide⟩ ?_
    obtain ⟨o3, h⟩ := h
    obtain ⟨o4, h⟩ := h
    refine z_last dX8_board_66 o3 o4 ?_
    refine z_nameV (fun V5 e6 => ?_)
    have h := h V5 e6
    obtain ⟨o7, h⟩ := h
    refine z_iinc 1 dX8_board_67 rfl (by decide) o7 (L' := [(0, zrv a0), (3, ziv (a3 + 1))]) [1, 0] rfl ?_
    refine z_goto (tgt := 52) dX8_board_70 (by decide) ?_
    exact h
set_option maxRecDepth 100000 in
set_option maxHeartbeats 4000000 in
theorem en_X8_board {E : zE} {F : Int → zH → Prop} {S : zS} {a0 a1 a2 : Int} {V : zH}
    (h : z32 a1 → z32 a2 → ∀ X : zX, SpF E 0 zm_X8_in [zjv a1, zjv 0, zjv 4] S V (fun x1 => ((x1 = 0) → (F 0 V)) ∧ ((x1 ≠ 0) → (((4 ≤ a1) → (zl_X8_board_31 E X F S a0 a1 a2 V)) ∧ ((a1 < 4) → (SpF E 0 zm_X8_in [zjv a2, zjv 0, zjv 80] S V (fun x5 => ((x5 ≠ 0) → (zl_X8_board_31 E X F S a0 a1 a2 V)) ∧ ((x5 = 0) → (F 0 V))))))))) :
    SpI E 1 zm_X8_board [zrv a0, ziv a1, ziv a2] S V F := by
  refine Sp.of (plainFor_of_name (by decide +kernel)) (Nat.le_of_ble_eq_true rfl) (fun hok X => ?_)
  have h := h (hok _ (List.mem_cons_of_mem _ (List.mem_cons_self))) (hok _ (List.mem_cons_of_mem _ (List.mem_cons_of_mem _ (List.mem_cons_self)))) X
  show Zr E X (zRoom 1 0 0) zm_X8_board (zQm E X (zpI S F) 0 0) 0 0 0 [(0, zrv a0), (1, ziv a1), (2, ziv a2)] [] S V
  refine z_iload_n 1 dX8_board_0 rfl ?_
  refine z_i2l dX8_board_1 ?_
  refine z_lconst (v := 0) dX8_board_2 (by decide) ⟨by decide, by decide⟩ ?_
  refine z_ldc2 (c := 4) (zd_RX8_87 _ rfl) (by decide) ⟨by decide, by decide⟩ dX8_board_3 ?_
  refine z_cSF [zjv a1, zjv 0, zjv 4] (zk_RX8_69 _ rfl) dX8_board_6 rfl rfl (Nat.le_of_ble_eq_true rfl) (Nat.le_of_ble_eq_true rfl) (Nat.le_of_ble_eq_true rfl) (Nat.le_of_ble_eq_true rfl) (Nat.le_of_ble_eq_true rfl) h (fun x1 h => ?_)
  refine z_if_eq dX8_board_9 (tgt := 29) (by decide) (fun c3 => ?_) (fun c3 => ?_)
  · have h := h.1 c3
    refine z_iconst dX8_board_29 ⟨by decide, by decide⟩ ?_
    exact z_retZ dX8_board_30 rfl (Or.inl rfl) h
  · have h := h.2 c3
    refine z_iload_n 1 dX8_board_12 rfl ?_
    refine z_iconst dX8_board_13 ⟨by decide, by decide⟩ ?_
    refine z_icmp_ge dX8_board_14 (tgt := 31) (by decide) (fun c4 => ?_) (fun c4 => ?_)
    · have h := h.1 c4
      exact h
    · have h := h.2 c4
      refine z_iload_n 2 dX8_board_17 rfl ?_
      refine z_i2l dX8_board_18 ?_
      refine z_lconst (v := 0) dX8_board_19 (by decide) ⟨by decide, by decide⟩ ?_
      refine z_ldc2 (c := 80) (zd_RX8_102 _ rfl) (by decide) ⟨by decide, by decide⟩ dX8_board_20 ?_
      refine z_cSF [zjv a2, zjv 0, zjv 80] (zk_RX8_69 _ rfl) dX8_board_23 rfl rfl (Nat.le_of_ble_eq_true rfl) (Nat.le_of_ble_eq_true rfl) (Nat.le_of_ble_eq_true rfl) (Nat.le_of_ble_eq_true rfl) (Nat.le_of_ble_eq_true rfl) h (fun x5 h => ?_)
      refine z_if_ne dX8_board_26 (tgt := 31) (by decide) (fun c7 => ?_) (fun c7 => ?_)
      · have h := h.1 c7
        exact h
      · have h := h.2 c7
        refine z_iconst dX8_board_29 ⟨by decide, by decide⟩ ?_
        exact z_retZ dX8_board_30 rfl (Or.inl rfl) h
set_option maxRecDepth 100000 in
set_option maxHeartbeats 4000000 in
theorem en_X8_entry {E : zE} {F : Int → zH → Prop} {S : zS} {a0 a1 a2 : Int} {V : zH}
    (h : z32 a1 → z64 a2 → ((S a0).1 = 11) ∧ SpF E 0 zm_X8_in [zjv (V a0 6), zjv 0, zjv 3] S V (fun x2 => ((x2 = 0) → (F 0 V)) ∧ ((x2 ≠ 0) → ((z32 ((V a0 7) - 1)) ∧ SpF E 0 zm_X8_in [zjv a1, zjv 0, zjv ((V a0 7) - 1)] S V (fun x6 => ((x6 ≠ 0) → (((V a0 6 ≠ 0) → (((V a0 6 ≠ 1) → (((V a0 6 ≠ 2) → (((S (V a0 8)).1 = 2) ∧ ((0 : Int) ≤ a1 ∧ a1 < (S (V a0 8)).2) ∧ ∀ V14 : zH, V14 = zput V (V a0 8) a1 a2 → F 1 V14)) ∧ ((V a0 6 = 2) → (((S (V a0 8)).1 = 2) ∧ ((0 : Int) ≤ a1 ∧ a1 < (S (V a0 8)).2) ∧ ∀ V18 : zH, V18 = zput V (V a0 8) a1 (zl2i a2) → F 1 V18)))) ∧ ((V a0 6 = 1) → (((S (V a0 8)).1 = 2) ∧ ((0 : Int) ≤ a1 ∧ a1 < (S (V a0 8)).2) ∧ ∀ V22 : zH, V22 = zput V (V a0 8) a1 (zi2s (zl2i a2)) → F 1 V22)))) ∧ ((V a0 6 = 0) → (((S (V a0 8)).1 = 2) ∧ ((0 : Int) ≤ a1 ∧ a1 < (S (V a0 8)).2) ∧ ∀ V26 : zH, V26 = zput V (V a0 8) a1 (zi2b (zl2i a2)) → F 1 V26)))) ∧ ((x6 = 0) → (F 0 V))))))) :
    SpI E 1 zm_X8_entry [zrv a0, ziv a1, zjv a2] S V F := by
  refine Sp.of (plainFor_of_name (by decide +kernel)) (Nat.le_of_ble_eq_true rfl) (fun hok X => ?_)
  have h := h (hok _ (List.mem_cons_of_mem _ (List.mem_cons_self))) (hok _ (List.mem_cons_of_mem _ (List.mem_cons_of_mem _ (List.mem_cons_self))))
  show Zr E X (zRoom 1 0 0) zm_X8_entry (zQm E X (zpI S F) 0 0) 0 0 0 [(0, zrv a0), (1, ziv a1), (2, zjv a2)] [] S V
  refine z_aload_n 0 dX8_entry_0 rfl ?_
  obtain ⟨o1, h⟩ := h
  refine zgf_8_6 dX8_entry_1 (zf_RX8_20 _ rfl) o1 ?_
  refine z_i2l dX8_entry_4 ?_
  refine z_lconst (v := 0) dX8_entry_5 (by decide) ⟨by decide, by decide⟩ ?_
  refine z_ldc2 (c := 3) (zd_RX8_107 _ rfl) (by decide) ⟨by decide, by decide⟩ dX8_entry_6 ?_
  refine z_cSF [zjv (V a0 6), zjv 0, zjv 3] (zk_RX8_69 _ rfl) dX8_entry_9 rfl rfl (Nat.le_of_ble_eq_true rfl) (Nat.le_of_ble_eq_true rfl) (Nat.le_of_ble_eq_true rfl) (Nat.le_of_ble_eq_true rfl) (Nat.le_of_ble_eq_true rfl) h (fun x2 h => ?_)
  refine z_if_eq dX8_entry_12 (tgt := 31) (by decide) (fun c4 => ?_) (fun c4 => ?_)
  · have h := h.1 c4
    refine z_iconst dX8_entry_31 ⟨by decide, by decide⟩ ?_
    exact z_retZ dX8_entry_32 rfl (Or.inl rfl) h
  · have h := h.2 c4
    refine z_iload_n 1 dX8_entry_15 rfl ?_
    refine z_i2l dX8_entry_16 ?_
    refine z_lconst (v := 0) dX8_entry_17 (by decide) ⟨by decide, by decide⟩ ?_
    refine z_aload_n 0 dX8_entry_18 rfl ?_
    refine zgf_8_7 dX8_entry_19 (zf_RX8_104 _ rfl) o1 ?_
    refine z_iconst dX8_entry_22 ⟨by decide, by decide⟩ ?_
    obtain ⟨o5, h⟩ := h
    refine z_isub dX8_entry_23 o5 ?_
    refine z_i2l dX8_entry_24 ?_
    refine z_cSF [zjv a1, zjv 0, zjv ((V a0 7) - 1)] (zk_RX8_69 _ rfl) dX8_entry_25 rfl rfl (Nat.le_of_ble_eq_true rfl) (Nat.le_of_ble_eq_true rfl) (Nat.le_of_ble_eq_true rfl) (Nat.le_of_ble_eq_true rfl) (Nat.le_of_ble_eq_true rfl) h (fun x6 h => ?_)
    refine z_if_ne dX8_entry_28 (tgt := 33) (by decide) (fun c8 => ?_) (fun c8 => ?_)
    · have h := h.1 c8
      refine z_aload_n 0 dX8_entry_33 rfl ?_
      refine zgf_8_8 dX8_entry_34 (zf_RX8_24 _ rfl) o1 ?_
      refine z_iload_n 1 dX8_entry_37 rfl ?_
      refine z_aload_n 0 dX8_entry_38 rfl ?_
      refine zgf_8_6 dX8_entry_39 (zf_RX8_20 _ rfl) o1 ?_
      refine z_if_ne dX8_entry_42 (tgt := 52) (by decide) (fun c9 => ?_) (fun c9 => ?_)
      · have h := h.1 c9
        refine z_aload_n 0 dX8_entry_52 rfl ?_
        refine zgf_8_6 dX8_entry_53 (zf_RX8_20 _ rfl) o1 ?_
        refine z_iconst dX8_entry_56 ⟨by decide, by decide⟩ ?_
        refine z_icmp_ne dX8_entry_57 (tgt := 67) (by decide) (fun c10 => ?_) (fun c10 => ?_)
        · have h := h.1 c10
          refine z_aload_n 0 dX8_entry_67 rfl ?_
          refine zgf_8_6 dX8_entry_68 (zf_RX8_20 _ rfl) o1 ?_
          refine z_iconst dX8_entry_71 ⟨by decide, by decide⟩ ?_
          refine z_icmp_ne dX8_entry_72 (tgt := 81) (by decide) (fun c11 => ?_) (fun c11 => ?_)
          · have h := h.1 c11
            refine z_lload_n 2 dX8_entry_81 rfl ?_
            obtain ⟨o12, h⟩ := h
            obtain ⟨o13, h⟩ := h
            refine z_last dX8_entry_82 o12 o13 ?_
            refine z_nameV (fun V14 e15 => ?_)
            have h := h V14 e15
            refine z_iconst dX8_entry_83 ⟨by decide, by decide⟩ ?_
            exact z_retZ dX8_entry_84 rfl (Or.inr rfl) h
          · have h := h.2 c11
            refine z_lload_n 2 dX8_entry_75 rfl ?_
            refine z_l2i dX8_entry_76 ?_
            refine z_i2l dX8_entry_77 ?_
            refine z_goto (tgt := 82) dX8_entry_78 (by decide) ?_
            obtain ⟨o16, h⟩ := h
            obtain ⟨o17, h⟩ := h
            refine z_last dX8_entry_82 o16 o17 ?_
            refine z_nameV (fun V18 e19 => ?_)
            have h := h V18 e19
            refine z_iconst dX8_entry_83 ⟨by decide, by decide⟩ ?_
            exact z_retZ dX8_entry_84 rfl (Or.inr rfl) h
        · have h := h.2 c10
          refine z_lload_n 2 dX8_entry_60 rfl ?_
          refine z_l2i dX8_entry_61 ?_
          refine z_i2s dX8_entry_62 ?_
          refine z_i2l dX8_entry_63 ?_
          refine z_goto (tgt := 82) dX8_entry_64 (by decide) ?_
          obtain ⟨o20, h⟩ := h
          obtain ⟨o21, h⟩ := h
          refine z_last dX8_entry_82 o20 o21 ?_
          refine z_nameV (fun V22 e23 => ?_)
          have h := h V22 e23
          refine z_iconst dX8_entry_83 ⟨by decide, by decide⟩ ?_
          exact z_retZ dX8_entry_84 rfl (Or.inr rfl) h
      · have h := h.2 c9
        refine z_lload_n 2 dX8_entry_45 rfl ?_
        refine z_l2i dX8_entry_46 ?_
        refine z_i2b dX8_entry_47 ?_
        refine z_i2l dX8_entry_48 ?_
        refine z_goto (tgt := 82) dX8_entry_49 (by decide) ?_
        obtain ⟨o24, h⟩ := h
        obtain ⟨o25, h⟩ := h
        refine z_last dX8_entry_82 o24 o25 ?_
        refine z_nameV (fun V26 e27 => ?_)
        have h := h V26 e27
        refine z_iconst dX8_entry_83 ⟨by decide, by decide⟩ ?_
        exact z_retZ dX8_entry_84 rfl (Or.inr rfl) h
    · have h := h.2 c8
      refine z_iconst dX8_entry_31 ⟨by decide, by decide⟩ ?_
      exact z_retZ dX8_entry_32 rfl (Or.inl rfl) h
set_option maxRecDepth 100000 in
set_option maxHeartbeats 4000000 in
theorem en_X8_told {E : zE} {F : Int → Prop} {S : zS} {a0 a1 : Int} {V : zH}
    (h : z32 a1 → ((S a0).1 = 11) ∧ ((V a0 6 ≠ 2) → (((V a0 6 ≠ 3) → (((0 : Int) ≤ a1) ∧ ∀ x5 : Int, x5 = a1 / 1 → ((V a0 6 = 4) → (F 0)) ∧ ((V a0 6 ≠ 4) → (((x5 < V a0 7) → (((S (V a0 8)).1 = 2) ∧ ((0 : Int) ≤ x5 ∧ x5 < (S (V a0 8)).2) ∧ SpF E 0 zm_X8_m [zrv a0] S V (fun x12 => SpG E 0 zm_J9_floorMod_f86c9 [zjv (V (V a0 8) x5), zjv x12] S V (fun x14 => F (zl2i x14))))) ∧ ((V a0 7 ≤ x5) → (F 0)))))) ∧ ((V a0 6 = 3) → (((0 : Int) ≤ a1) ∧ ∀ x17 : Int, x17 = a1 / 64 → ((V a0 6 = 4) → (F 0)) ∧ ((V a0 6 ≠ 4) → (((x17 < V a0 7) → (((S (V a0 8)).1 = 2) ∧ ((0 : Int) ≤ x17 ∧ x17 < (S (V a0 8)).2) ∧ F (zl2i (zlandl (zlshr (V (V a0 8) x17) (a1 % 64)) 1)))) ∧ ((V a0 7 ≤ x17) → (F 0)))))))) ∧ ((V a0 6 = 2) → (((0 : Int) ≤ a1) ∧ ∀ x25 : Int, x25 = a1 / 32 → ((V a0 6 = 4) → (F 0)) ∧ ((V a0 6 ≠ 4) → (((x25 < V a0 7) → (((S (V a0 8)).1 = 2) ∧ ((0 : Int) ≤ x25 ∧ x25 < (S (V a0 8)).2) ∧ F (zl2i (zlandl (zlshr (V (V a0 8) x25) (a1 % 32)) 1)))) ∧ ((V a0 7 ≤ x25) → (F 0))))))) :
    SpF E 1 zm_X8_told [zrv a0, ziv a1] S V F := by
  refine Sp.of (plainFor_of_name (by decide +kernel)) (Nat.le_of_ble_eq_true rfl) (fun hok X => ?_)
  have h := h (hok _ (List.mem_cons_of_mem _ (List.mem_cons_self)))
  show Zr E X (zRoom 1 0 0) zm_X8_told (zQm E X (zpF S V F) 0 0) 0 0 0 [(0, zrv a0), (1, ziv a1)] [] S V
  refine z_aload_n 0 dX8_told_0 rfl ?_
  obtain ⟨o1, h⟩ := h
  refine zgf_8_6 dX8_told_1 (zf_RX8_20 _ rfl) o1 ?_
  refine z_iconst dX8_told_4 ⟨by decide, by decide⟩ ?_
  refine z_icmp_ne dX8_told_5 (tgt := 13) (by decide) (fun c2 => ?_) (fun c2 => ?_)
  · have h := h.1 c2
    refine z_aload_n 0 dX8_told_13 rfl ?_
    refine zgf_8_6 dX8_told_14 (zf_RX8_20 _ rfl) o1 ?_
    refine z_iconst dX8_told_17 ⟨by decide, by decide⟩ ?_
    refine z_icmp_ne dX8_told_18 (tgt := 26) (by decide) (fun c3 => ?_) (fun c3 => ?_)
    · have h := h.1 c3
      refine z_iconst dX8_told_26 ⟨by decide, by decide⟩ ?_
      refine z_istore_n dX8_told_27 (by decide) (L' := [(0, zrv a0), (1, ziv a1), (2, ziv 1)]) [1, 2, 0] rfl ?_
      refine z_iload_n 1 dX8_told_28 rfl ?_
      refine z_iload_n 2 dX8_told_29 rfl ?_
      obtain ⟨o4, h⟩ := h
      refine z_idiv dX8_told_30 o4 (by decide) ?_
      refine z_nameI (fun x5 e6 => ?_)
      have h := h x5 e6
      refine z_istore_n dX8_told_31 (by decide) (L' := [(0, zrv a0), (1, ziv a1), (2, ziv 1), (3, ziv x5)]) [1, 2, 3, 0] rfl ?_
      refine z_aload_n 0 dX8_told_32 rfl ?_
      refine zgf_8_6 dX8_told_33 (zf_RX8_20 _ rfl) o1 ?_
      refine z_iconst dX8_told_36 ⟨by decide, by decide⟩ ?_
      refine z_icmp_eq dX8_told_37 (tgt := 48) (by decide) (fun c7 => ?_) (fun c7 => ?_)
      · have h := h.1 c7
        refine z_iconst dX8_told_48 ⟨by decide, by decide⟩ ?_
        exact z_retFI dX8_told_49 rfl h
      · have h := h.2 c7
        refine z_iload_n 3 dX8_told_40 rfl ?_
        refine z_aload_n 0 dX8_told_41 rfl ?_
        refine zgf_8_7 dX8_told_42 (zf_RX8_104 _ rfl) o1 ?_
        refine z_icmp_lt dX8_told_45 (tgt := 50) (by decide) (fun c8 => ?_) (fun c8 => ?_)
        · have h := h.1 c8
          refine z_iload_n 2 dX8_told_50 rfl ?_
          refine z_iconst dX8_told_51 ⟨by decide, by decide⟩ ?_
          refine z_icmp_ne dX8_told_52 (tgt := 73) (by decide) (fun c9 => ?_) (fun c9 => ?_)
          · exact absurd c9 (by decide)
          refine z_aload_n 0 dX8_told_55 rfl ?_
          refine zgf_8_8 dX8_told_56 (zf_RX8_24 _ rfl) o1 ?_
          refine z_iload_n 3 dX8_told_59 rfl ?_
          obtain ⟨o10, h⟩ := h
          obtain ⟨o11, h⟩ := h
          refine z_lald dX8_told_60 o10 o11 ?_
          refine z_aload_n 0 dX8_told_61 rfl ?_
          refine z_cVF [] (zk_RX8_96 _ rfl) dX8_told_62 o1 (by decide) rfl rfl (Nat.le_of_ble_eq_true rfl) (Nat.le_of_ble_eq_true rfl) (Nat.le_of_ble_eq_true rfl) (Nat.le_of_ble_eq_true rfl) (Nat.le_of_ble_eq_true rfl) h (fun x12 h => ?_)
          refine z_i2l dX8_told_65 ?_
          refine z_cSG [zjv (V (V a0 8) x5), zjv x12] (zk_RX8_109 _ rfl) dX8_told_66 rfl rfl (Nat.le_of_ble_eq_true rfl) (Nat.le_of_ble_eq_true rfl) (Nat.le_of_ble_eq_true rfl) (Nat.le_of_ble_eq_true rfl) (Nat.le_of_ble_eq_true rfl) h (fun x14 h => ?_)
          refine z_l2i dX8_told_69 ?_
          refine z_goto (tgt := 86) dX8_told_70 (by decide) ?_
          exact z_retFI dX8_told_86 rfl h
        · have h := h.2 c8
          refine z_iconst dX8_told_48 ⟨by decide, by decide⟩ ?_
          exact z_retFI dX8_told_49 rfl h
    · have h := h.2 c3
      refine z_bipush dX8_told_21 ⟨by decide, by decide⟩ (by decide) ?_
      refine z_goto (tgt := 27) dX8_told_23 (by decide) ?_
      refine z_istore_n dX8_told_27 (by decide) (L' := [(0, zrv a0), (1, ziv a1), (2, ziv 64)]) [1, 2, 0] rfl ?_
      refine z_iload_n 1 dX8_told_28 rfl ?_
      refine z_iload_n 2 dX8_told_29 rfl ?_
      obtain ⟨o16, h⟩ := h
      refine z_idiv dX8_told_30 o16 (by decide) ?_
      refine z_nameI (fun x17 e18 => ?_)
      have h := h x17 e18
      refine z_istore_n dX8_told_31 (by decide) (L' := [(0, zrv a0), (1, ziv a1), (2, ziv 64), (3, ziv x17)]) [1, 2, 3, 0] rfl ?_
      refine z_aload_n 0 dX8_told_32 rfl ?_
      refine zgf_8_6 dX8_told_33 (zf_RX8_20 _ rfl) o1 ?_
      refine z_iconst dX8_told_36 ⟨by decide, by decide⟩ ?_
      refine z_icmp_eq dX8_told_37 (tgt := 48) (by decide) (fun c19 => ?_) (fun c19 => ?_)
      · have h := h.1 c19
        refine z_iconst dX8_told_48 ⟨by decide, by decide⟩ ?_
        exact z_retFI dX8_told_49 rfl h
      · have h := h.2 c19
        refine z_iload_n 3 dX8_told_40 rfl ?_
        refine z_aload_n 0 dX8_told_41 rfl ?_
        refine zgf_8_7 dX8_told_42 (zf_RX8_104 _ rfl) o1 ?_
        refine z_icmp_lt dX8_told_45 (tgt := 50) (by decide) (fun c20 => ?_) (fun c20 => ?_)
        · have h := h.1 c20
          refine z_iload_n 2 dX8_told_50 rfl ?_
          refine z_iconst dX8_told_51 ⟨by decide, by decide⟩ ?_
          refine z_icmp_ne dX8_told_52 (tgt := 73) (by decide) (fun c21 => ?_) (fun c21 => ?_)
          rotate_left
          · exact absurd c21 (by decide)
          refine z_aload_n 0 dX8_told_73 rfl ?_
          refine zgf_8_8 dX8_told_74 (zf_RX8_24 _ rfl) o1 ?_
          refine z_iload_n 3 dX8_told_77 rfl ?_
          obtain ⟨o22, h⟩ := h
          obtain ⟨o23, h⟩ := h
          refine z_lald dX8_told_78 o22 o23 ?_
          refine z_iload_n 1 dX8_told_79 rfl ?_
          refine z_iload_n 2 dX8_told_80 rfl ?_
          refine z_irem dX8_told_81 o16 (by decide) ?_
          refine z_lshr dX8_told_82 ?_
          refine z_lconst (v := 1) dX8_told_83 (by decide) ⟨by decide, by decide⟩ ?_
          refine z_land dX8_told_84 ?_
          refine z_l2i dX8_told_85 ?_
          exact z_retFI dX8_told_86 rfl h
        · have h := h.2 c20
          refine z_iconst dX8_told_48 ⟨by decide, by decide⟩ ?_
          exact z_retFI dX8_told_49 rfl h
  · have h := h.2 c2
    refine z_bipush dX8_told_8 ⟨by decide, by decide⟩ (by decide) ?_
    refine z_goto (tgt := 27) dX8_told_10 (by decide) ?_
    refine z_istore_n dX8_told_27 (by decide) (L' := [(0, zrv a0), (1, ziv a1), (2, ziv 32)]) [1, 2, 0] rfl ?_
    refine z_iload_n 1 dX8_told_28 rfl ?_
    refine z_iload_n 2 dX8_told_29 rfl ?_
    obtain ⟨o24, h⟩ := h
    refine z_idiv dX8_told_30 o24 (by decide) ?_
    refine z_nameI (fun x25 e26 => ?_)
    have h := h x25 e26
    refine z_istore_n dX8_told_31 (by decide) (L' := [(0, zrv a0), (1, ziv a1), (2, ziv 32), (3, ziv x25)]) [1, 2, 3, 0] rfl ?_
    refine z_aload_n 0 dX8_told_32 rfl ?_
    refine zgf_8_6 dX8_told_33 (zf_RX8_20 _ rfl) o1 ?_
    refine z_iconst dX8_told_36 ⟨by decide, by decide⟩ ?_
    refine z_icmp_eq dX8_told_37 (tgt := 48) (by decide) (fun c27 => ?_) (fun c27 => ?_)
    · have h := h.1 c27
      refine z_iconst dX8_told_48 ⟨by decide, by decide⟩ ?_
      exact z_retFI dX8_told_49 rfl h
    · have h := h.2 c27
      refine z_iload_n 3 dX8_told_40 rfl ?_
      refine z_aload_n 0 dX8_told_41 rfl ?_
      refine zgf_8_7 dX8_told_42 (zf_RX8_104 _ rfl) o1 ?_
      refine z_icmp_lt dX8_told_45 (tgt := 50) (by decide) (fun c28 => ?_) (fun c28 => ?_)
      · have h := h.1 c28
        refine z_iload_n 2 dX8_told_50 rfl ?_
        refine z_iconst dX8_told_51 ⟨by decide, by decide⟩ ?_
        refine z_icmp_ne dX8_told_52 (tgt := 73) (by decide) (fun c29 => ?_) (fun c29 => ?_)
        rotate_left
        · exact absurd c29 (by decide)
        refine z_aload_n 0 dX8_told_73 rfl ?_
        refine zgf_8_8 dX8_told_74 (zf_RX8_24 _ rfl) o1 ?_
        refine z_iload_n 3 dX8_told_77 rfl ?_
        obtain ⟨o30, h⟩ := h
        obtain ⟨o31, h⟩ := h
        refine z_lald dX8_told_78 o30 o31 ?_
        refine z_iload_n 1 dX8_told_79 rfl ?_
        refine z_iload_n 2 dX8_told_80 rfl ?_
        refine z_irem dX8_told_81 o24 (by decide) ?_
        refine z_lshr dX8_told_82 ?_
        refine z_lconst (v := 1) dX8_told_83 (by decide) ⟨by decide, by decide⟩ ?_
        refine z_land dX8_told_84 ?_
        refine z_l2i dX8_told_85 ?_
        exact z_retFI dX8_told_86 rfl h
      · have h := h.2 c28
        refine z_iconst dX8_told_48 ⟨by decide, by decide⟩ ?_
        exact z_retFI dX8_told_49 rfl h
set_option maxRecDepth 100000 in
set_option maxHeartbeats 4000000 in
theorem en_X8_isButton {E : zE} {F : Int → Prop} {S : zS} {a0 a1 : Int} {V : zH}
    (h : z32 a1 → ((S a0).1 = 11) ∧ SpF E 0 zm_X8_buttons [zrv a0] S V (fun x2 => (z32 (x2 - 1)) ∧ SpF E 0 zm_X8_in [zjv a1, zjv 0, zjv (x2 - 1)] S V (fun x5 => (x5 = 0 ∨ x5 = 1) ∧ F x5))) :
    SpF E 1 zm_X8_isButton [zrv a0, ziv a1] S V F := by
  refine Sp.of (plainFor_of_name (by decide +kernel)) (Nat.le_of_ble_eq_true rfl) (fun hok X => ?_)
  have h := h (hok _ (List.mem_cons_of_mem _ (List.mem_cons_self)))
  show Zr E X (zRoom 1 0 0) zm_X8_isButton (zQm E X (zpF S V F) 0 0) 0 0 0 [(0, zrv a0), (1, ziv a1)] [] S V
  refine z_iload_n 1 dX8_isButton_0 rfl ?_
  refine z_i2l dX8_isButton_1 ?_
  refine z_lconst (v := 0) dX8_isButton_2 (by decide) ⟨by decide, by decide⟩ ?_
  refine z_aload_n 0 dX8_isButton_3 rfl ?_
  obtain ⟨o1, h⟩ := h
  refine z_cVF [] (zk_RX8_89 _ rfl) dX8_isButton_4 o1 (by decide) rfl rfl (Nat.le_of_ble_eq_true rfl) (Nat.le_of_ble_eq_true rfl) (Nat.le_of_ble_eq_true rfl) (Nat.le_of_ble_eq_true rfl) (Nat.le_of_ble_eq_true rfl) h (fun x2 h => ?_)
  refine z_iconst dX8_isButton_7 ⟨by decide, by decide⟩ ?_
  obtain ⟨o4, h⟩ := h
  refine z_isub dX8_isButton_8 o4 ?_
  refine z_i2l dX8_isButton_9 ?_
  refine z_cSF [zjv a1, zjv 0, zjv (x2 - 1)] (zk_RX8_69 _ rfl) dX8_isButton_10 rfl rfl (Nat.le_of_ble_eq_true rfl) (Nat.le_of_ble_eq_true rfl) (Nat.le_of_ble_eq_true rfl) (Nat.le_of_ble_eq_true rfl) (Nat.le_of_ble_eq_true rfl) h (fun x5 h => ?_)
  obtain ⟨o7, h⟩ := h
  exact z_retFZ dX8_isButton_13 rfl o7 h
def zl_X8_wire_37 (E : zE) (X : zX) (F : Int → zH → Prop) (S : zS) (a0 a1 a2 a3 : Int) (V : zH) : Prop := Zr E X (zRoom 2 0 0) zm_X8_wire (zQm E X (zpI S F) 0 0) 0 0 37 [(0, zrv a0), (1, ziv a1), (2, ziv a2), (3, ziv a3)] [] S V
set_option maxRecDepth 100000 in
set_option maxHeartbeats 4000000 in
theorem wp_X8_wire_37 {E : zE} {X : zX} {F : Int → zH → Prop} {S : zS} {a0 a1 a2 a3 : Int} {V : zH}
    (h : ((S a0).1 = 11) ∧ SpF E 0 zm_X8_n [zrv a0] S V (fun x2 => ((x2 ≤ a3) → (∀ V5 : zH, V5 = zput V a0 6 (-1) → F a2 V5)) ∧ ((a3 < x2) → (SpF E 1 zm_X8_told [zrv a0, ziv a3] S V (fun x7 => (z32 (36 * a1)) ∧ (z32 (220 + (36 * a1))) ∧ (z32 ((220 + (36 * a1)) + a3)) ∧ ((S (V a0 0)).1 = 1) ∧ ((0 : Int) ≤ (220 + (36 * a1)) + a3 ∧ (220 + (36 * a1)) + a3 < (S (V a0 0)).2) ∧ ∀ V14 : zH, V14 = zput V (V a0 0) ((220 + (36 * a1)) + a3) x7 → ((x7 = 0) → ((z32 (a2 + 0)) ∧ (z32 (a3 + 1)) ∧ zl_X8_wire_37 E X F S a0 a1 (a2 + 0) (a3 + 1) V14)) ∧ ((x7 ≠ 0) → ((z32 (a2 + 1)) ∧ (z32 (a3 + 1)) ∧ zl_X8_wire_37 E X F S a0 a1 (a2 + 1) (a3 + 1) V14))))))) :
    zl_X8_wire_37 E X F S a0 a1 a2 a3 V := by
  unfold zl_X8_wire_37
  refine z_iload_n 3 dX8_wire_37 rfl ?_
  refine z_aload_n 0 dX8_wire_38 rfl ?_
  obtain ⟨o1, h⟩ := h
  refine z_cVF [] (zk_RX8_84 _ rfl) dX8_wire_39 o1 (by decide) rfl rfl (Nat.le_of_ble_eq_true rfl) (Nat.le_of_ble_eq_true rfl) (Nat.le_of_ble_eq_true rfl) (Nat.le_of_ble_eq_true rfl) (Nat.le_of_ble_eq_true rfl) h (fun x2 h => ?_)
  refine z_icmp_ge dX8_wire_42 (tgt := 88) (by decide) (fun c4 => ?_) (fun c4 => ?_)
  · have h := h.1 c4
    refine z_aload_n 0 dX8_wire_88 rfl ?_
    refine z_iconst dX8_wire_89 ⟨by decide, by decide⟩ ?_
    refine zpf_8_6 dX8_wire_90 (zf_RX8_20 _ rfl) o1 ?_
    refine z_nameV (fun V5 e6 => ?_)
    have h := h V5 e6
    refine z_iload_n 2 dX8_wire_93 rfl ?_
    exact z_retI dX8_wire_94 rfl h
  · have h := h.2 c4
    refine z_aload_n 0 dX8_wire_45 rfl ?_
    refine z_iload_n 3 dX8_wire_46 rfl ?_
    refine z_cVF [ziv a3] (zk_RX8_118 _ rfl) dX8_wire_47 o1 (by decide) rfl rfl (Nat.le_of_ble_eq_true rfl) (Nat.le_of_ble_eq_true rfl) (Nat.le_of_ble_eq_true rfl) (Nat.le_of_ble_eq_true rfl) (Nat.le_of_ble_eq_true rfl) h (fun x7 h => ?_)
    refine z_istore dX8_wire_50 (by decide) (L' := [(0, zrv a0), (1, ziv a1), (2, ziv a2), (3, ziv a3), (4, ziv x7)]) [1, 2, 3, 4, 0] rfl ?_
    refine z_aload_n 0 dX8_wire_52 rfl ?_
    refine zgf_8_0 dX8_wire_53 (zf_RX8_9 _ rfl) o1 ?_
    refine z_sipush dX8_wire_56 ⟨by decide, by decide⟩ (by decide) ?_
    refine z_bipush dX8_wire_59 ⟨by decide, by decide⟩ (by decide) ?_
    refine z_iload_n 1 dX8_wire_61 rfl ?_
    obtain ⟨o9, h⟩ := h
    refine z_imul dX8_wire_62 o9 ?_
    obtain ⟨o10, h⟩ := h
    refine z_iadd dX8_wire_63 o10 ?_
    refine z_iload_n 3 dX8_wire_64 rfl ?_
    obtain ⟨o11, h⟩ := h
    refine z_iadd dX8_wire_65 o11 ?_
    refine z_iload 4 dX8_wire_66 rfl ?_
    obtain ⟨o12, h⟩ := h
    obtain ⟨o13, h⟩ := h
    refine z_iast dX8_wire_68 o12 o13 ?_
    refine z_nameV (fun V14 e15 => ?_)
    have h := h V14 e15
    refine z_iload_n 2 dX8_wire_69 rfl ?_
    refine z_iload 4 dX8_wire_70 rfl ?_
    refine z_if_eq dX8_wire_72 (tgt := 79) (by decide) (fun c16 => ?_) (fun c16 => ?_)
    · have h := h.1 c16
      refine z_iconst dX8_wire_79 ⟨by decide, by decide⟩ ?_
      obtain ⟨o17, h⟩ := h
      refine z_iadd dX8_wire_80 o17 ?_
      refine z_istore_n dX8_wire_81 (by decide) (L' := [(0, zrv a0), (1, ziv a1), (2, ziv (a2 + 0)), (3, ziv a3), (4, ziv x7)]) [1, 2, 0, 3, 4] rfl ?_
      obtain ⟨o18, h⟩ := h
      refine z_iinc 3 dX8_wire_82 rfl (by decide) o18 (L' := [(0, zrv a0), (1, ziv a1), (2, ziv (a2 + 0)), (3, ziv (a3 + 1)), (4, ziv x7)]) [1, 2, 3, 0, 4] rfl ?_
      refine z_goto (tgt := 37) dX8_wire_85 (by decide) ?_
      refine z_loc (L' := [(0, zrv a0), (1, ziv a1), (2, ziv (a2 + 0)), (3, ziv (a3 + 1))]) [0, 1, 2, 3] rfl ?_
      exact h
    · have h := h.2 c16
      refine z_iconst dX8_wire_75 ⟨by decide, by decide⟩ ?_
      refine z_goto (tgt := 80) dX8_wire_76 (by decide) ?_
      obtain ⟨o19, h⟩ := h
      refine z_iadd dX8_wire_80 o19 ?_
      refine z_istore_n dX8_wire_81 (by decide) (L' := [(0, zrv a0), (1, ziv a1), (2, ziv (a2 + 1)), (3, ziv a3), (4, ziv x7)]) [1, 2, 0, 3, 4] rfl ?_
      obtain ⟨o20, h⟩ := h
      refine z_iinc 3 dX8_wire_82 rfl (by decide) o20 (L' := [(0, zrv a0), (1, ziv a1), (2, ziv (a2 + 1)), (3, ziv (a3 + 1)), (4, ziv x7)]) [1, 2, 3, 0, 4] rfl ?_
      refine z_goto (tgt := 37) dX8_wire_85 (by decide) ?_
      refine z_loc (L' := [(0, zrv a0), (1, ziv a1), (2, ziv (a2 + 1)), (3, ziv (a3 + 1))]) [0, 1, 2, 3] rfl ?_
      exact h
set_option maxRecDepth 100000 in
set_option maxHeartbeats 4000000 in
theorem en_X8_wire {E : zE} {F : Int → zH → Prop} {S : zS} {a0 a1 : Int} {V : zH}
    (h : z32 a1 → ∀ X : zX, ((S a0).1 = 11) ∧ SpF E 1 zm_X8_isButton [zrv a0, ziv a1] S V (fun x2 => ((x2 = 0) → (F (-1) V)) ∧ ((x2 ≠ 0) → ((z32 (40 + a1)) ∧ ((S (V a0 0)).1 = 1) ∧ ((0 : Int) ≤ 40 + a1 ∧ 40 + a1 < (S (V a0 0)).2) ∧ ((V (V a0 0) (40 + a1) ≠ 0) → (F (-1) V)) ∧ ((V (V a0 0) (40 + a1) = 0) → (((0 ≤ V a0 6) → (SpV E 0 zm_X8_act [zrv a0] S V (fun V11 => zl_X8_wire_37 E X F S a0 a1 0 0 V11))) ∧ ((V a0 6 < 0) → (F (-1) V)))))))) :
    SpI E 2 zm_X8_wire [zrv a0, ziv a1] S V F := by
  refine Sp.of (plainFor_of_name (by decide +kernel)) (Nat.le_of_ble_eq_true rfl) (fun hok X => ?_)
  have h := h (hok _ (List.mem_cons_of_mem _ (List.mem_cons_self))) X
  show Zr E X (zRoom 2 0 0) zm_X8_wire (zQm E X (zpI S F) 0 0) 0 0 0 [(0, zrv a0), (1, ziv a1)] [] S V
  refine z_aload_n 0 dX8_wire_0 rfl ?_
  refine z_iload_n 1 dX8_wire_1 rfl ?_
  obtain ⟨o1, h⟩ := h
  refine z_cVF [ziv a1] (zk_RX8_115 _ rfl) dX8_wire_2 o1 (by decide) rfl rfl (Nat.le_of_ble_eq_true rfl) (Nat.le_of_ble_eq_true rfl) (Nat.le_of_ble_eq_true rfl) (Nat.le_of_ble_eq_true rfl) (Nat.le_of_ble_eq_true rfl) h (fun x2 h => ?_)
  refine z_if_eq dX8_wire_5 (tgt := 27) (by decide) (fun c4 => ?_) (fun c4 => ?_)
  · have h := h.1 c4
    refine z_iconst dX8_wire_27 ⟨by decide, by decide⟩ ?_
    exact z_retI dX8_wire_28 rfl h
  · have h := h.2 c4
    refine z_aload_n 0 dX8_wire_8 rfl ?_
    refine zgf_8_0 dX8_wire_9 (zf_RX8_9 _ rfl) o1 ?_
    refine z_bipush dX8_wire_12 ⟨by decide, by decide⟩ (by decide) ?_
    refine z_iload_n 1 dX8_wire_14 rfl ?_
    obtain ⟨o5, h⟩ := h
    refine z_iadd dX8_wire_15 o5 ?_
    obtain ⟨o6, h⟩ := h
    obtain ⟨o7, h⟩ := h
    refine z_iald dX8_wire_16 o6 o7 ?_
    refine z_if_ne dX8_wire_17 (tgt := 27) (by decide) (fun c8 => ?_) (fun c8 => ?_)
    · have h := h.1 c8
      refine z_iconst dX8_wire_27 ⟨by decide, by decide⟩ ?_
      exact z_retI dX8_wire_28 rfl h
    · have h := h.2 c8
      refine z_aload_n 0 dX8_wire_20 rfl ?_
      refine zgf_8_6 dX8_wire_21 (zf_RX8_20 _ rfl) o1 ?_
      refine z_if_ge dX8_wire_24 (tgt := 29) (by decide) (fun c9 => ?_) (fun c9 => ?_)
      · have h := h.1 c9
        refine z_aload_n 0 dX8_wire_29 rfl ?_
        refine z_cVV [] (zk_RX8_99 _ rfl) dX8_wire_30 o1 (by decide) rfl rfl (Nat.le_of_ble_eq_true rfl) (Nat.le_of_ble_eq_true rfl) (Nat.le_of_ble_eq_true rfl) (Nat.le_of_ble_eq_true rfl) (Nat.le_of_ble_eq_true rfl) h (fun V11 h => ?_)
        refine z_iconst dX8_wire_33 ⟨by decide, by decide⟩ ?_
        refine z_istore_n dX8_wire_34 (by decide) (L' := [(0, zrv a0), (1, ziv a1), (2, ziv 0)]) [1, 2, 0] rfl ?_
        refine z_iconst dX8_wire_35 ⟨by decide, by decide⟩ ?_
        refine z_istore_n dX8_wire_36 (by decide) (L' := [(0, zrv a0), (1, ziv a1), (2, ziv 0), (3, ziv 0)]) [1, 2, 3, 0] rfl ?_
        exact h
      · have h := h.2 c9
        refine z_iconst dX8_wire_27 ⟨by decide, by decide⟩ ?_
        exact z_retI dX8_wire_28 rfl h
set_option maxRecDepth 100000 in
set_option maxHeartbeats 4000000 in
theorem en_X8_cost {E : zE} {F : Int → zH → Prop} {S : zS} {a0 a1 a2 : Int} {V : zH}
    (h : z32 a1 → z32 a2 → ((S a0).1 = 11) ∧ SpF E 1 zm_X8_isButton [zrv a0, ziv a1] S V (fun x2 => ((x2 = 0) → (F (-1) V)) ∧ ((x2 ≠ 0) → (SpF E 0 zm_X8_in [zjv a2, zjv 0, zjv 1000] S V (fun x5 => ((x5 ≠ 0) → (SpV E 0 zm_X8_act [zrv a0] S V (fun V9 => (z32 (184 + a1)) ∧ ((S (V9 a0 0)).1 = 1) ∧ ((0 : Int) ≤ 184 + a1 ∧ 184 + a1 < (S (V9 a0 0)).2) ∧ ∀ x13 : Int, x13 = V9 (V9 a0 0) (184 + a1) → ∀ V15 : zH, V15 = zput V9 (V9 a0 0) (184 + a1) a2 → F x13 V15))) ∧ ((x5 = 0) → (F (-1) V))))))) :
    SpI E 2 zm_X8_cost [zrv a0, ziv a1, ziv a2] S V F := by
  refine Sp.of (plainFor_of_name (by decide +kernel)) (Nat.le_of_ble_eq_true rfl) (fun hok X => ?_)
  have h := h (hok _ (List.mem_cons_of_mem _ (List.mem_cons_self))) (hok _ (List.mem_cons_of_mem _ (List.mem_cons_of_mem _ (List.mem_cons_self))))
  show Zr E X (zRoom 2 0 0) zm_X8_cost (zQm E X (zpI S F) 0 0) 0 0 0 [(0, zrv a0), (1, ziv a1), (2, ziv a2)] [] S V
  refine z_aload_n 0 dX8_cost_0 rfl ?_
  refine z_iload_n 1 dX8_cost_1 rfl ?_
  obtain ⟨o1, h⟩ := h
  refine z_cVF [ziv a1] (zk_RX8_115 _ rfl) dX8_cost_2 o1 (by decide) rfl rfl (Nat.le_of_ble_eq_true rfl) (Nat.le_of_ble_eq_true rfl) (Nat.le_of_ble_eq_true rfl) (Nat.le_of_ble_eq_true rfl) (Nat.le_of_ble_eq_true rfl) h (fun x2 h => ?_)
  refine z_if_eq dX8_cost_5 (tgt := 20) (by decide) (fun c4 => ?_) (fun c4 => ?_)
  · have h := h.1 c4
    refine z_iconst dX8_cost_20 ⟨by decide, by decide⟩ ?_
    exact z_retI dX8_cost_21 rfl h
  · have h := h.2 c4
    refine z_iload_n 2 dX8_cost_8 rfl ?_
    refine z_i2l dX8_cost_9 ?_
    refine z_lconst (v := 0) dX8_cost_10 (by decide) ⟨by decide, by decide⟩ ?_
    refine z_ldc2 (c := 1000) (zd_RX8_122 _ rfl) (by decide) ⟨by decide, by decide⟩ dX8_cost_11 ?_
    refine z_cSF [zjv a2, zjv 0, zjv 1000] (zk_RX8_69 _ rfl) dX8_cost_14 rfl rfl (Nat.le_of_ble_eq_true rfl) (Nat.le_of_ble_eq_true rfl) (Nat.le_of_ble_eq_true rfl) (Nat.le_of_ble_eq_true rfl) (Nat.le_of_ble_eq_true rfl) h (fun x5 h => ?_)
    refine z_if_ne dX8_cost_17 (tgt := 22) (by decide) (fun c7 => ?_) (fun c7 => ?_)
    · have h := h.1 c7
      refine z_aload_n 0 dX8_cost_22 rfl ?_
      refine z_cVV [] (zk_RX8_99 _ rfl) dX8_cost_23 o1 (by decide) rfl rfl (Nat.le_of_ble_eq_true rfl) (Nat.le_of_ble_eq_true rfl) (Nat.le_of_ble_eq_true rfl) (Nat.le_of_ble_eq_true rfl) (Nat.le_of_ble_eq_true rfl) h (fun V9 h => ?_)
      refine z_aload_n 0 dX8_cost_26 rfl ?_
      refine zgf_8_0 dX8_cost_27 (zf_RX8_9 _ rfl) o1 ?_
      refine z_sipush dX8_cost_30 ⟨by decide, by decide⟩ (by decide) ?_
      refine z_iload_n 1 dX8_cost_33 rfl ?_
      obtain ⟨o10, h⟩ := h
      refine z_iadd dX8_cost_34 o10 ?_
      obtain ⟨o11, h⟩ := h
      obtain ⟨o12, h⟩ := h
      refine z_iald dX8_cost_35 o11 o12 ?_
      refine z_nameI (fun x13 e14 => ?_)
      have h := h x13 e14
      refine z_istore_n dX8_cost_36 (by decide) (L' := [(0, zrv a0), (1, ziv a1), (2, ziv a2), (3, ziv x13)]) [1, 2, 3, 0] rfl ?_
      refine z_aload_n 0 dX8_cost_37 rfl ?_
      refine zgf_8_0 dX8_cost_38 (zf_RX8_9 _ rfl) o1 ?_
      refine z_sipush dX8_cost_41 ⟨by decide, by decide⟩ (by decide) ?_
      refine z_iload_n 1 dX8_cost_44 rfl ?_
      refine z_iadd dX8_cost_45 o10 ?_
      refine z_iload_n 2 dX8_cost_46 rfl ?_
      refine z_iast dX8_cost_47 o11 o12 ?_
      refine z_nameV (fun V15 e16 => ?_)
      have h := h V15 e16
      refine z_iload_n 3 dX8_cost_48 rfl ?_
      exact z_retI dX8_cost_49 rfl h
    · have h := h.2 c7
      refine z_iconst dX8_cost_20 ⟨by decide, by decide⟩ ?_
      exact z_retI dX8_cost_21 rfl h
set_option maxRecDepth 100000 in
set_option maxHeartbeats 4000000 in
theorem en_X8_light {E : zE} {F : Int → zH → Prop} {S : zS} {a0 a1 a2 : Int} {V : zH}
    (h : z32 a1 → z32 a2 → ((S a0).1 = 11) ∧ SpF E 0 zm_X8_n [zrv a0] S V (fun x2 => (z32 (x2 - 1)) ∧ SpF E 0 zm_X8_in [zjv a1, zjv 0, zjv (x2 - 1)] S V (fun x5 => ((x5 = 0) → (F (-1) V)) ∧ ((x5 ≠ 0) → (SpF E 0 zm_X8_m [zrv a0] S V (fun x8 => (z32 (x8 - 1)) ∧ SpF E 0 zm_X8_in [zjv a2, zjv 0, zjv (x8 - 1)] S V (fun x11 => ((x11 ≠ 0) → (SpV E 0 zm_X8_act [zrv a0] S V (fun V15 => (z32 (4 + a1)) ∧ ((S (V15 a0 0)).1 = 1) ∧ ((0 : Int) ≤ 4 + a1 ∧ 4 + a1 < (S (V15 a0 0)).2) ∧ ∀ x19 : Int, x19 = V15 (V15 a0 0) (4 + a1) → ∀ V21 : zH, V21 = zput V15 (V15 a0 0) (4 + a1) a2 → F x19 V21))) ∧ ((x11 = 0) → (F (-1) V))))))))) :
    SpI E 1 zm_X8_light [zrv a0, ziv a1, ziv a2] S V F := by
  refine Sp.of (plainFor_of_name (by decide +kernel)) (Nat.le_of_ble_eq_true rfl) (fun hok X => ?_)
  have h := h (hok _ (List.mem_cons_of_mem _ (List.mem_cons_self))) (hok _ (List.mem_cons_of_mem _ (List.mem_cons_of_mem _ (List.mem_cons_self))))
  show Zr E X (zRoom 1 0 0) zm_X8_light (zQm E X (zpI S F) 0 0) 0 0 0 [(0, zrv a0), (1, ziv a1), (2, ziv a2)] [] S V
  refine z_iload_n 1 dX8_light_0 rfl ?_
  refine z_i2l dX8_light_1 ?_
  refine z_lconst (v := 0) dX8_light_2 (by decide) ⟨by decide, by decide⟩ ?_
  refine z_aload_n 0 dX8_light_3 rfl ?_
  obtain ⟨o1, h⟩ := h
  refine z_cVF [] (zk_RX8_84 _ rfl) dX8_light_4 o1 (by decide) rfl rfl (Nat.le_of_ble_eq_true rfl) (Nat.le_of_ble_eq_true rfl) (Nat.le_of_ble_eq_true rfl) (Nat.le_of_ble_eq_true rfl) (Nat.le_of_ble_eq_true rfl) h (fun x2 h => ?_)
  refine z_iconst dX8_light_7 ⟨by decide, by decide⟩ ?_
  obtain ⟨o4, h⟩ := h
  refine z_isub dX8_light_8 o4 ?_
  refine z_i2l dX8_light_9 ?_
  refine z_cSF [zjv a1, zjv 0, zjv (x2 - 1)] (zk_RX8_69 _ rfl) dX8_light_10 rfl rfl (Nat.le_of_ble_eq_true rfl) (Nat.le_of_ble_eq_true rfl) (Nat.le_of_ble_eq_true rfl) (Nat.le_of_ble_eq_true rfl) (Nat.le_of_ble_eq_true rfl) h (fun x5 h => ?_)
  refine z_if_eq dX8_light_13 (tgt := 32) (by decide) (fun c7 => ?_) (fun c7 => ?_)
  · have h := h.1 c7
    refine z_iconst dX8_light_32 ⟨by decide, by decide⟩ ?_
    exact z_retI dX8_light_33 rfl h
  · have h := h.2 c7
    refine z_iload_n 2 dX8_light_16 rfl ?_
    refine z_i2l dX8_light_17 ?_
    refine z_lconst (v := 0) dX8_light_18 (by decide) ⟨by decide, by decide⟩ ?_
    refine z_aload_n 0 dX8_light_19 rfl ?_
    refine z_cVF [] (zk_RX8_96 _ rfl) dX8_light_20 o1 (by decide) rfl rfl (Nat.le_of_ble_eq_true rfl) (Nat.le_of_ble_eq_true rfl) (Nat.le_of_ble_eq_true rfl) (Nat.le_of_ble_eq_true rfl) (Nat.le_of_ble_eq_true rfl) h (fun x8 h => ?_)
    refine z_iconst dX8_light_23 ⟨by decide, by decide⟩ ?_
    obtain ⟨o10, h⟩ := h
    refine z_isub dX8_light_24 o10 ?_
    refine z_i2l dX8_light_25 ?_
    refine z_cSF [zjv a2, zjv 0, zjv (x8 - 1)] (zk_RX8_69 _ rfl) dX8_light_26 rfl rfl (Nat.le_of_ble_eq_true rfl) (Nat.le_of_ble_eq_true rfl) (Nat.le_of_ble_eq_true rfl) (Nat.le_of_ble_eq_true rfl) (Nat.le_of_ble_eq_true rfl) h (fun x11 h => ?_)
    refine z_if_ne dX8_light_29 (tgt := 34) (by decide) (fun c13 => ?_) (fun c13 => ?_)
    · have h := h.1 c13
      refine z_aload_n 0 dX8_light_34 rfl ?_
      refine z_cVV [] (zk_RX8_99 _ rfl) dX8_light_35 o1 (by decide) rfl rfl (Nat.le_of_ble_eq_true rfl) (Nat.le_of_ble_eq_true rfl) (Nat.le_of_ble_eq_true rfl) (Nat.le_of_ble_eq_true rfl) (Nat.le_of_ble_eq_true rfl) h (fun V15 h => ?_)
      refine z_aload_n 0 dX8_light_38 rfl ?_
      refine zgf_8_0 dX8_light_39 (zf_RX8_9 _ rfl) o1 ?_
      refine z_iconst dX8_light_42 ⟨by decide, by decide⟩ ?_
      refine z_iload_n 1 dX8_light_43 rfl ?_
      obtain ⟨o16, h⟩ := h
      refine z_iadd dX8_light_44 o16 ?_
      obtain ⟨o17, h⟩ := h
      obtain ⟨o18, h⟩ := h
      refine z_iald dX8_light_45 o17 o18 ?_
      refine z_nameI (fun x19 e20 => ?_)
      have h := h x19 e20
      refine z_istore_n dX8_light_46 (by decide) (L' := [(0, zrv a0), (1, ziv a1), (2, ziv a2), (3, ziv x19)]) [1, 2, 3, 0] rfl ?_
      refine z_aload_n 0 dX8_light_47 rfl ?_
      refine zgf_8_0 dX8_light_48 (zf_RX8_9 _ rfl) o1 ?_
      refine z_iconst dX8_light_51 ⟨by decide, by decide⟩ ?_
      refine z_iload_n 1 dX8_light_52 rfl ?_
      refine z_iadd dX8_light_53 o16 ?_
      refine z_iload_n 2 dX8_light_54 rfl ?_
      refine z_iast dX8_light_55 o17 o18 ?_
      refine z_nameV (fun V21 e22 => ?_)
      have h := h V21 e22
      refine z_iload_n 3 dX8_light_56 rfl ?_
      exact z_retI dX8_light_57 rfl h
    · have h := h.2 c13
      refine z_iconst dX8_light_32 ⟨by decide, by decide⟩ ?_
      exact z_retI dX8_light_33 rfl h
def zl_X8_cross_35 (E : zE) (X : zX) (F : Int → Prop) (S : zS) (a0 a1 a2 a3 : Int) (V : zH) : Prop := Zr E X (zRoom 1 0 0) zm_X8_cross (zQm E X (zpF S V F) 0 0) 0 0 35 [(0, zrv a0), (1, ziv a1), (2, ziv a2), (3, ziv a3)] [] S V
def zl_X8_cross_63 (E : zE) (X : zX) (F : Int → Prop) (S : zS) (a0 a1 a2 a3 : Int) (V : zH) : Prop := Zr E X (zRoom 1 0 0) zm_X8_cross (zQm E X (zpF S V F) 0 0) 0 0 63 [(0, zrv a0), (1, ziv a1), (2, ziv a2), (3, ziv a3)] [] S V
def zl_X8_cross_67 (E : zE) (X : zX) (F : Int → Prop) (S : zS) (a0 a1 a2 a3 : Int) (V : zH) : Prop := Zr E X (zRoom 1 0 0) zm_X8_cross (zQm E X (zpF S V F) 0 0) 0 0 67 [(0, zrv a0), (1, ziv a1), (2, ziv a2), (3, ziv a3)] [] S V
set_option maxRecDepth 100000 in
set_option maxHeartbeats 4000000 in
theorem wp_X8_cross_35 {E : zE} {X : zX} {F : Int → Prop} {S : zS} {a0 a1 a2 a3 : Int} {V : zH}
    (h : (z32 (a2 - a3)) ∧ SpF E 0 zm_J9_abs_0f7a4 [ziv (a2 - a3)] S V (fun x2 => ((S a0).1 = 11) ∧ SpF E 0 zm_X8_w [zrv a0] S V (fun x5 => ((x2 ≠ x5) → (zl_X8_cross_67 E X F S a0 a1 a2 a3 V)) ∧ ((x2 = x5) → (SpF E 0 zm_X8_w [zrv a0] S V (fun x8 => ((0 : Int) ≤ a2) ∧ ((0 : Int) < x8) ∧ SpF E 0 zm_X8_w [zrv a0] S V (fun x12 => ((0 : Int) ≤ a3) ∧ ((0 : Int) < x12) ∧ ((a2 % x8 ≠ a3 % x12) → (zl_X8_cross_67 E X F S a0 a1 a2 a3 V)) ∧ ((a2 % x8 = a3 % x12) → (zl_X8_cross_63 E X F S a0 a1 a2 a3 V))))))))) :
    zl_X8_cross_35 E X F S a0 a1 a2 a3 V := by
  unfold zl_X8_cross_35
  refine z_iload_n 2 dX8_cross_35 rfl ?_
  refine z_iload_n 3 dX8_cross_36 rfl ?_
  obtain ⟨o1, h⟩ := h
  refine z_isub dX8_cross_37 o1 ?_
  refine z_cSF [ziv (a2 - a3)] (zk_RX8_124 _ rfl) dX8_cross_38 rfl rfl (Nat.le_of_ble_eq_true rfl) (Nat.le_of_ble_eq_true rfl) (Nat.le_of_ble_eq_true rfl) (Nat.le_of_ble_eq_true rfl) (Nat.le_of_ble_eq_true rfl) h (fun x2 h => ?_)
  refine z_aload_n 0 dX8_cross_41 rfl ?_
  obtain ⟨o4, h⟩ := h
  refine z_cVF [] (zk_RX8_80 _ rfl) dX8_cross_42 o4 (by decide) rfl rfl (Nat.le_of_ble_eq_true rfl) (Nat.le_of_ble_eq_true rfl) (Nat.le_of_ble_eq_true rfl) (Nat.le_of_ble_eq_true rfl) (Nat.le_of_ble_eq_true rfl) h (fun x5 h => ?_)
  refine z_icmp_ne dX8_cross_45 (tgt := 67) (by decide) (fun c7 => ?_) (fun c7 => ?_)
  · have h := h.1 c7
    exact h
  · have h := h.2 c7
    refine z_iload_n 2 dX8_cross_48 rfl ?_
    refine z_aload_n 0 dX8_cross_49 rfl ?_
    refine z_cVF [] (zk_RX8_80 _ rfl) dX8_cross_50 o4 (by decide) rfl rfl (Nat.le_of_ble_eq_true rfl) (Nat.le_of_ble_eq_true rfl) (Nat.le_of_ble_eq_true rfl) (Nat.le_of_ble_eq_true rfl) (Nat.le_of_ble_eq_true rfl) h (fun x8 h => ?_)
    obtain ⟨o10, h⟩ := h
    obtain ⟨o11, h⟩ := h
    refine z_irem dX8_cross_53 o10 o11 ?_
    refine z_iload_n 3 dX8_cross_54 rfl ?_
    refine z_aload_n 0 dX8_cross_55 rfl ?_
    refine z_cVF [] (zk_RX8_80 _ rfl) dX8_cross_56 o4 (by decide) rfl rfl (Nat.le_of_ble_eq_true rfl) (Nat.le_of_ble_eq_true rfl) (Nat.le_of_ble_eq_true rfl) (Nat.le_of_ble_eq_true rfl) (Nat.le_of_ble_eq_true rfl) h (fun x12 h => ?_)
    obtain ⟨o14, h⟩ := h
    obtain ⟨o15, h⟩ := h
    refine z_irem dX8_cross_59 o14 o15 ?_
    refine z_icmp_ne dX8_cross_60 (tgt := 67) (by decide) (fun c16 => ?_) (fun c16 => ?_)
    · have h := h.1 c16
      exact h
    · have h := h.2 c16
      exact h
set_option maxRecDepth 100000 in
set_option maxHeartbeats 4000000 in
theorem wp_X8_cross_63 {E : zE} {X : zX} {F : Int → Prop} {S : zS} {a0 a1 a2 a3 : Int} {V : zH}
    (h : ((a2 = a3) → (((S a0).1 = 11) ∧ (z32 (112 + a1)) ∧ ((S (V a0 0)).1 = 1) ∧ ((0 : Int) ≤ 112 + a1 ∧ 112 + a1 < (S (V a0 0)).2) ∧ F (V (V a0 0) (112 + a1)))) ∧ ((a2 ≠ a3) → (((S a0).1 = 11) ∧ (z32 (112 + a1)) ∧ ((S (V a0 0)).1 = 1) ∧ ((0 : Int) ≤ 112 + a1 ∧ 112 + a1 < (S (V a0 0)).2) ∧ F (V (V a0 0) (112 + a1))))) :
    zl_X8_cross_63 E X F S a0 a1 a2 a3 V := by
  unfold zl_X8_cross_63
  refine z_iconst dX8_cross_63 ⟨by decide, by decide⟩ ?_
  refine z_goto (tgt := 68) dX8_cross_64 (by decide) ?_
  refine z_istore dX8_cross_68 (by decide) (L' := [(0, zrv a0), (1, ziv a1), (2, ziv a2), (3, ziv a3), (4, ziv 1)]) [1, 2, 3, 4, 0] rfl ?_
  refine z_iload_n 2 dX8_cross_70 rfl ?_
  refine z_iload_n 3 dX8_cross_71 rfl ?_
  refine z_icmp_eq dX8_cross_72 (tgt := 80) (by decide) (fun c1 => ?_) (fun c1 => ?_)
  · have h := h.1 c1
    refine z_aload_n 0 dX8_cross_80 rfl ?_
    obtain ⟨o2, h⟩ := h
    refine zgf_8_0 dX8_cross_81 (zf_RX8_9 _ rfl) o2 ?_
    refine z_bipush dX8_cross_84 ⟨by decide, by decide⟩ (by decide) ?_
    refine z_iload_n 1 dX8_cross_86 rfl ?_
    obtain ⟨o3, h⟩ := h
    refine z_iadd dX8_cross_87 o3 ?_
    obtain ⟨o4, h⟩ := h
    obtain ⟨o5, h⟩ := h
    refine z_iald dX8_cross_88 o4 o5 ?_
    refine z_goto (tgt := 93) dX8_cross_89 (by decide) ?_
    exact z_retFI dX8_cross_93 rfl h
  · have h := h.2 c1
    refine z_iload 4 dX8_cross_75 rfl ?_
    refine z_if_eq dX8_cross_77 (tgt := 92) (by decide) (fun c6 => ?_) (fun c6 => ?_)
    · exact absurd c6 (by decide)
    refine z_aload_n 0 dX8_cross_80 rfl ?_
    obtain ⟨o7, h⟩ := h
    refine zgf_8_0 dX8_cross_81 (zf_RX8_9 _ rfl) o7 ?_
    refine z_bipush dX8_cross_84 ⟨by decide, by decide⟩ (by decide) ?_
    refine z_iload_n 1 dX8_cross_86 rfl ?_
    obtain ⟨o8, h⟩ := h
    refine z_iadd dX8_cross_87 o8 ?_
    obtain ⟨o9, h⟩ := h
    obtain ⟨o10, h⟩ := h
    refine z_iald dX8_cross_88 o9 o10 ?_
    refine z_goto (tgt := 93) dX8_cross_89 (by decide) ?_
    exact z_retFI dX8_cross_93 rfl h
set_option maxRecDepth 100000 in
set_option maxHeartbeats 4000000 in
theorem wp_X8_cross_67 {E : zE} {X : zX} {F : Int → Prop} {S : zS} {a0 a1 a2 a3 : Int} {V : zH}
    (h : ((a2 = a3) → (((S a0).1 = 11) ∧ (z32 (112 + a1)) ∧ ((S (V a0 0)).1 = 1) ∧ ((0 : Int) ≤ 112 + a1 ∧ 112 + a1 < (S (V a0 0)).2) ∧ F (V (V a0 0) (112 + a1)))) ∧ ((a2 ≠ a3) → (F 0))) :
    zl_X8_cross_67 E X F S a0 a1 a2 a3 V := by
  unfold zl_X8_cross_67
  refine z_iconst dX8_cross_67 ⟨by decide, by decide⟩ ?_
  refine z_istore dX8_cross_68 (by decide) (L' := [(0, zrv a0), (1, ziv a1), (2, ziv a2), (3, ziv a3), (4, ziv 0)]) [1, 2, 3, 4, 0] rfl ?_
  refine z_iload_n 2 dX8_cross_70 rfl ?_
  refine z_iload_n 3 dX8_cross_71 rfl ?_
  refine z_icmp_eq dX8_cross_72 (tgt := 80) (by decide) (fun c1 => ?_) (fun c1 => ?_)
  · have h := h.1 c1
    refine z_aload_n 0 dX8_cross_80 rfl ?_
    obtain ⟨o2, h⟩ := h
    refine zgf_8_0 dX8_cross_81 (zf_RX8_9 _ rfl) o2 ?_
    refine z_bipush dX8_cross_84 ⟨by decide, by decide⟩ (by decide) ?_
    refine z_iload_n 1 dX8_cross_86 rfl ?_
    obtain ⟨o3, h⟩ := h
    refine z_iadd dX8_cross_87 o3 ?_
    obtain ⟨o4, h⟩ := h
    obtain ⟨o5, h⟩ := h
    refine z_iald dX8_cross_88 o4 o5 ?_
    refine z_goto (tgt := 93) dX8_cross_89 (by decide) ?_
    exact z_retFI dX8_cross_93 rfl h
  · have h := h.2 c1
    refine z_iload 4 dX8_cross_75 rfl ?_
    refine z_if_eq dX8_cross_77 (tgt := 92) (by decide) (fun c6 => ?_) (fun c6 => ?_)
    rotate_left
    · exact absurd c6 (by decide)
    refine z_iconst dX8_cross_92 ⟨by decide, by decide⟩ ?_
    exact z_retFI dX8_cross_93 rfl h
set_option maxRecDepth 100000 in
set_option maxHeartbeats 4000000 in
theorem en_X8_cross {E : zE} {F : Int → Prop} {S : zS} {a0 a1 a2 : Int} {V : zH}
    (h : z32 a1 → z32 a2 → ∀ X : zX, ((S a0).1 = 11) ∧ (z32 (76 + a1)) ∧ ((S (V a0 0)).1 = 1) ∧ ((0 : Int) ≤ 76 + a1 ∧ 76 + a1 < (S (V a0 0)).2) ∧ ∀ x5 : Int, x5 = V (V a0 0) (76 + a1) → SpF E 0 zm_X8_w [zrv a0] S V (fun x7 => ((0 : Int) ≤ a2) ∧ ((0 : Int) < x7) ∧ SpF E 0 zm_X8_w [zrv a0] S V (fun x11 => ((0 : Int) ≤ x5) ∧ ((0 : Int) < x11) ∧ ((a2 / x7 ≠ x5 / x11) → (zl_X8_cross_35 E X F S a0 a1 a2 x5 V)) ∧ ((a2 / x7 = x5 / x11) → ((z32 (a2 - x5)) ∧ SpF E 0 zm_J9_abs_0f7a4 [ziv (a2 - x5)] S V (fun x17 => ((x17 = 1) → (zl_X8_cross_63 E X F S a0 a1 a2 x5 V)) ∧ ((x17 ≠ 1) → (zl_X8_cross_35 E X F S a0 a1 a2 x5 V)))))))) :
    SpF E 1 zm_X8_cross [zrv a0, ziv a1, ziv a2] S V F := by
  refine Sp.of (plainFor_of_name (by decide +kernel)) (Nat.le_of_ble_eq_true rfl) (fun hok X => ?_)
  have h := h (hok _ (List.mem_cons_of_mem _ (List.mem_cons_self))) (hok _ (List.mem_cons_of_mem _ (List.mem_cons_of_mem _ (List.mem_cons_self)))) X
  show Zr E X (zRoom 1 0 0) zm_X8_cross (zQm E X (zpF S V F) 0 0) 0 0 0 [(0, zrv a0), (1, ziv a1), (2, ziv a2)] [] S V
  refine z_aload_n 0 dX8_cross_0 rfl ?_
  obtain ⟨o1, h⟩ := h
  refine zgf_8_0 dX8_cross_1 (zf_RX8_9 _ rfl) o1 ?_
  refine z_bipush dX8_cross_4 ⟨by decide, by decide⟩ (by decide) ?_
  refine z_iload_n 1 dX8_cross_6 rfl ?_
  obtain ⟨o2, h⟩ := h
  refine z_iadd dX8_cross_7 o2 ?_
  obtain ⟨o3, h⟩ := h
  obtain ⟨o4, h⟩ := h
  refine z_iald dX8_cross_8 o3 o4 ?_
  refine z_nameI (fun x5 e6 => ?_)
  have h := h x5 e6
  refine z_istore_n dX8_cross_9 (by decide) (L' := [(0, zrv a0), (1, ziv a1), (2, ziv a2), (3, ziv x5)]) [1, 2, 3, 0] rfl ?_
  refine z_iload_n 2 dX8_cross_10 rfl ?_
  refine z_aload_n 0 dX8_cross_11 rfl ?_
  refine z_cVF [] (zk_RX8_80 _ rfl) dX8_cross_12 o1 (by decide) rfl rfl (Nat.le_of_ble_eq_true rfl) (Nat.le_of_ble_eq_true rfl) (Nat.le_of_ble_eq_true rfl) (Nat.le_of_ble_eq_true rfl) (Nat.le_of_ble_eq_true rfl) h (fun x7 h => ?_)
  obtain ⟨o9, h⟩ := h
  obtain ⟨o10, h⟩ := h
  refine z_idiv dX8_cross_15 o9 o10 ?_
  refine z_iload_n 3 dX8_cross_16 rfl ?_
  refine z_aload_n 0 dX8_cross_17 rfl ?_
  refine z_cVF [] (zk_RX8_80 _ rfl) dX8_cross_18 o1 (by decide) rfl rfl (Nat.le_of_ble_eq_true rfl) (Nat.le_of_ble_eq_true rfl) (Nat.le_of_ble_eq_true rfl) (Nat.le_of_ble_eq_true rfl) (Nat.le_of_ble_eq_true rfl) h (fun x11 h => ?_)
  obtain ⟨o13, h⟩ := h
  obtain ⟨o14, h⟩ := h
  refine z_idiv dX8_cross_21 o13 o14 ?_
  refine z_icmp_ne dX8_cross_22 (tgt := 35) (by decide) (fun c15 => ?_) (fun c15 => ?_)
  · have h := h.1 c15
    exact h
  · have h := h.2 c15
    refine z_iload_n 2 dX8_cross_25 rfl ?_
    refine z_iload_n 3 dX8_cross_26 rfl ?_
    obtain ⟨o16, h⟩ := h
    refine z_isub dX8_cross_27 o16 ?_
    refine z_cSF [ziv (a2 - x5)] (zk_RX8_124 _ rfl) dX8_cross_28 rfl rfl (Nat.le_of_ble_eq_true rfl) (Nat.le_of_ble_eq_true rfl) (Nat.le_of_ble_eq_true rfl) (Nat.le_of_ble_eq_true rfl) (Nat.le_of_ble_eq_true rfl) h (fun x17 h => ?_)
    refine z_iconst dX8_cross_31 ⟨by decide, by decide⟩ ?_
    refine z_icmp_eq dX8_cross_32 (tgt := 63) (by decide) (fun c19 => ?_) (fun c19 => ?_)
    · have h := h.1 c19
      exact h
    · have h := h.2 c19
      exact h
def zl_X8_own_56 (E : zE) (X : zX) (F : Int → Prop) (S : zS) (a0 a1 a2 : Int) (V : zH) : Prop := Zr E X (zRoom 2 0 0) zm_X8_own (zQm E X (zpF S V F) 0 0) 0 0 56 [(0, zrv a0), (1, ziv a1), (2, ziv a2)] [] S V
set_option maxRecDepth 100000 in
set_option maxHeartbeats 4000000 in
theorem wp_X8_own_56 {E : zE} {X : zX} {F : Int → Prop} {S : zS} {a0 a1 a2 : Int} {V : zH}
    (h : ((S a0).1 = 11) ∧ (z32 (76 + a1)) ∧ ((S (V a0 0)).1 = 1) ∧ ((0 : Int) ≤ 76 + a1 ∧ 76 + a1 < (S (V a0 0)).2) ∧ ((V (V a0 0) (76 + a1) < 100) → (SpF E 0 zm_X8_w [zrv a0] S V (fun x6 => ((0 : Int) ≤ a2) ∧ ((0 : Int) < x6) ∧ ((a2 / x6 ≠ V (V a0 0) (76 + a1)) → (F 0)) ∧ ((a2 / x6 = V (V a0 0) (76 + a1)) → ((z32 (112 + a1)) ∧ ((0 : Int) ≤ 112 + a1 ∧ 112 + a1 < (S (V a0 0)).2) ∧ F (V (V a0 0) (112 + a1))))))) ∧ ((100 ≤ V (V a0 0) (76 + a1)) → (SpF E 0 zm_X8_w [zrv a0] S V (fun x13 => ((0 : Int) ≤ a2) ∧ ((0 : Int) < x13) ∧ (z32 ((V (V a0 0) (76 + a1)) - 100)) ∧ ((a2 % x13 ≠ (V (V a0 0) (76 + a1)) - 100) → (F 0)) ∧ ((a2 % x13 = (V (V a0 0) (76 + a1)) - 100) → ((z32 (112 + a1)) ∧ ((0 : Int) ≤ 112 + a1 ∧ 112 + a1 < (S (V a0 0)).2) ∧ F (V (V a0 0) (112 + a1)))))))) :
    zl_X8_own_56 E X F S a0 a1 a2 V := by
  unfold zl_X8_own_56
  refine z_aload_n 0 dX8_own_56 rfl ?_
  obtain ⟨o1, h⟩ := h
  refine zgf_8_0 dX8_own_57 (zf_RX8_9 _ rfl) o1 ?_
  refine z_bipush dX8_own_60 ⟨by decide, by decide⟩ (by decide) ?_
  refine z_iload_n 1 dX8_own_62 rfl ?_
  obtain ⟨o2, h⟩ := h
  refine z_iadd dX8_own_63 o2 ?_
  obtain ⟨o3, h⟩ := h
  obtain ⟨o4, h⟩ := h
  refine z_iald dX8_own_64 o3 o4 ?_
  refine z_bipush dX8_own_65 ⟨by decide, by decide⟩ (by decide) ?_
  refine z_icmp_lt dX8_own_67 (tgt := 107) (by decide) (fun c5 => ?_) (fun c5 => ?_)
  · have h := h.1 c5
    refine z_iload_n 2 dX8_own_107 rfl ?_
    refine z_aload_n 0 dX8_own_108 rfl ?_
    refine z_cVF [] (zk_RX8_80 _ rfl) dX8_own_109 o1 (by decide) rfl rfl (Nat.le_of_ble_eq_true rfl) (Nat.le_of_ble_eq_true rfl) (Nat.le_of_ble_eq_true rfl) (Nat.le_of_ble_eq_true rfl) (Nat.le_of_ble_eq_true rfl) h (fun x6 h => ?_)
    obtain ⟨o8, h⟩ := h
    obtain ⟨o9, h⟩ := h
    refine z_idiv dX8_own_112 o8 o9 ?_
    refine z_aload_n 0 dX8_own_113 rfl ?_
    refine zgf_8_0 dX8_own_114 (zf_RX8_9 _ rfl) o1 ?_
    refine z_bipush dX8_own_117 ⟨by decide, by decide⟩ (by decide) ?_
    refine z_iload_n 1 dX8_own_119 rfl ?_
    refine z_iadd dX8_own_120 o2 ?_
    refine z_iald dX8_own_121 o3 o4 ?_
    refine z_icmp_ne dX8_own_122 (tgt := 137) (by decide) (fun c10 => ?_) (fun c10 => ?_)
    · have h := h.1 c10
      refine z_iconst dX8_own_137 ⟨by decide, by decide⟩ ?_
      exact z_retFI dX8_own_138 rfl h
    · have h := h.2 c10
      refine z_aload_n 0 dX8_own_125 rfl ?_
      refine zgf_8_0 dX8_own_126 (zf_RX8_9 _ rfl) o1 ?_
      refine z_bipush dX8_own_129 ⟨by decide, by decide⟩ (by decide) ?_
      refine z_iload_n 1 dX8_own_131 rfl ?_
      obtain ⟨o11, h⟩ := h
      refine z_iadd dX8_own_132 o11 ?_
      obtain ⟨o12, h⟩ := h
      refine z_iald dX8_own_133 o3 o12 ?_
      refine z_goto (tgt := 138) dX8_own_134 (by decide) ?_
      exact z_retFI dX8_own_138 rfl h
  · have h := h.2 c5
    refine z_iload_n 2 dX8_own_70 rfl ?_
    refine z_aload_n 0 dX8_own_71 rfl ?_
    refine z_cVF [] (zk_RX8_80 _ rfl) dX8_own_72 o1 (by decide) rfl rfl (Nat.le_of_ble_eq_true rfl) (Nat.le_of_ble_eq_true rfl) (Nat.le_of_ble_eq_true rfl) (Nat.le_of_ble_eq_true rfl) (Nat.le_of_ble_eq_true rfl) h (fun x13 h => ?_)
    obtain ⟨o15, h⟩ := h
    obtain ⟨o16, h⟩ := h
    refine z_irem dX8_own_75 o15 o16 ?_
    refine z_aload_n 0 dX8_own_76 rfl ?_
    refine zgf_8_0 dX8_own_77 (zf_RX8_9 _ rfl) o1 ?_
    refine z_bipush dX8_own_80 ⟨by decide, by decide⟩ (by decide) ?_
    refine z_iload_n 1 dX8_own_82 rfl ?_
    refine z_iadd dX8_own_83 o2 ?_
    refine z_iald dX8_own_84 o3 o4 ?_
    refine z_bipush dX8_own_85 ⟨by decide, by decide⟩ (by decide) ?_
    obtain ⟨o17, h⟩ := h
    refine z_isub dX8_own_87 o17 ?_
    refine z_icmp_ne dX8_own_88 (tgt := 103) (by decide) (fun c18 => ?_) (fun c18 => ?_)
    · have h := h.1 c18
      refine z_iconst dX8_own_103 ⟨by decide, by decide⟩ ?_
      refine z_goto (tgt := 138) dX8_own_104 (by decide) ?_
      exact z_retFI dX8_own_138 rfl h
    · have h := h.2 c18
      refine z_aload_n 0 dX8_own_91 rfl ?_
      refine zgf_8_0 dX8_own_92 (zf_RX8_9 _ rfl) o1 ?_
      refine z_bipush dX8_own_95 ⟨by decide, by decide⟩ (by decide) ?_
      refine z_iload_n 1 dX8_own_97 rfl ?_
      obtain ⟨o19, h⟩ := h
      refine z_iadd dX8_own_98 o19 ?_
      obtain ⟨o20, h⟩ := h
      refine z_iald dX8_own_99 o3 o20 ?_
      refine z_goto (tgt := 138) dX8_own_100 (by decide) ?_
      exact z_retFI dX8_own_138 rfl h
set_option maxRecDepth 100000 in
set_option maxHeartbeats 4000000 in
theorem en_X8_own {E : zE} {F : Int → Prop} {S : zS} {a0 a1 a2 : Int} {V : zH}
    (h : z32 a1 → z32 a2 → ∀ X : zX, ((S a0).1 = 11) ∧ (z32 (40 + a1)) ∧ ((S (V a0 0)).1 = 1) ∧ ((0 : Int) ≤ 40 + a1 ∧ 40 + a1 < (S (V a0 0)).2) ∧ ((V (V a0 0) (40 + a1) = 0) → ((z32 (36 * a1)) ∧ (z32 (220 + (36 * a1))) ∧ (z32 ((220 + (36 * a1)) + a2)) ∧ ((0 : Int) ≤ (220 + (36 * a1)) + a2 ∧ (220 + (36 * a1)) + a2 < (S (V a0 0)).2) ∧ F (V (V a0 0) ((220 + (36 * a1)) + a2)))) ∧ ((V (V a0 0) (40 + a1) = 1) → (SpF E 1 zm_X8_cross [zrv a0, ziv a1, ziv a2] S V (fun x11 => F x11))) ∧ ((V (V a0 0) (40 + a1) = 2) → (zl_X8_own_56 E X F S a0 a1 a2 V)) ∧ ((V (V a0 0) (40 + a1) = 3) → (zl_X8_own_56 E X F S a0 a1 a2 V)) ∧ ((V (V a0 0) (40 + a1) < 0 ∨ 3 < V (V a0 0) (40 + a1)) → (SpF E 1 zm_X8_cross [zrv a0, ziv a1, ziv a2] S V (fun x15 => F x15)))) :
    SpF E 2 zm_X8_own [zrv a0, ziv a1, ziv a2] S V F := by
  refine Sp.of (plainFor_of_name (by decide +kernel)) (Nat.le_of_ble_eq_true rfl) (fun hok X => ?_)
  have h := h (hok _ (List.mem_cons_of_mem _ (List.mem_cons_self))) (hok _ (List.mem_cons_of_mem _ (List.mem_cons_of_mem _ (List.mem_cons_self)))) X
  show Zr E X (zRoom 2 0 0) zm_X8_own (zQm E X (zpF S V F) 0 0) 0 0 0 [(0, zrv a0), (1, ziv a1), (2, ziv a2)] [] S V
  refine z_aload_n 0 dX8_own_0 rfl ?_
  obtain ⟨o1, h⟩ := h
  refine zgf_8_0 dX8_own_1 (zf_RX8_9 _ rfl) o1 ?_
  refine z_bipush dX8_own_4 ⟨by decide, by decide⟩ (by decide) ?_
  refine z_iload_n 1 dX8_own_6 rfl ?_
  obtain ⟨o2, h⟩ := h
  refine z_iadd dX8_own_7 o2 ?_
  obtain ⟨o3, h⟩ := h
  obtain ⟨o4, h⟩ := h
  refine z_iald dX8_own_8 o3 o4 ?_
  by_cases c5 : V (V a0 0) (40 + a1) = 0
  · have h := h.1 c5
    refine z_tableIn dX8_own_9 (by omega) (off := 31) (by rw [c5]; rfl) (tgt := 40) (by decide) ?_
    refine z_aload_n 0 dX8_own_40 rfl ?_
    refine zgf_8_0 dX8_own_41 (zf_RX8_9 _ rfl) o1 ?_
    refine z_sipush dX8_own_44 ⟨by decide, by decide⟩ (by decide) ?_
    refine z_bipush dX8_own_47 ⟨by decide, by decide⟩ (by decide) ?_
    refine z_iload_n 1 dX8_own_49 rfl ?_
    obtain ⟨o6, h⟩ := h
    refine z_imul dX8_own_50 o6 ?_
    obtain ⟨o7, h⟩ := h
    refine z_iadd dX8_own_51 o7 ?_
    refine z_iload_n 2 dX8_own_52 rfl ?_
    obtain ⟨o8, h⟩ := h
    refine z_iadd dX8_own_53 o8 ?_
    obtain ⟨o9, h⟩ := h
    refine z_iald dX8_own_54 o3 o9 ?_
    exact z_retFI dX8_own_55 rfl h
  by_cases c10 : V (V a0 0) (40 + a1) = 1
  · have h := h.2.1 c10
    refine z_tableIn dX8_own_9 (by omega) (off := 130) (by rw [c10]; rfl) (tgt := 139) (by decide) ?_
    refine z_aload_n 0 dX8_own_139 rfl ?_
    refine z_iload_n 1 dX8_own_140 rfl ?_
    refine z_iload_n 2 dX8_own_141 rfl ?_
    refine z_cVF [ziv a1, ziv a2] (zk_RX8_127 _ rfl) dX8_own_142 o1 (by decide) rfl rfl (Nat.le_of_ble_eq_true rfl) (Nat.le_of_ble_eq_true rfl) (Nat.le_of_ble_eq_true rfl) (Nat.le_of_ble_eq_true rfl) (Nat.le_of_ble_eq_true rfl) h (fun x11 h => ?_)
    exact z_retFI dX8_own_145 rfl h
  by_cases c13 : V (V a0 0) (40 + a1) = 2
  · have h := h.2.2.1 c13
    refine z_tableIn dX8_own_9 (by omega) (off := 47) (by rw [c13]; rfl) (tgt := 56) (by decide) ?_
    exact h
  by_cases c14 : V (V a0 0) (40 + a1) = 3
  · have h := h.2.2.2.1 c14
    refine z_tableIn dX8_own_9 (by omega) (off := 47) (by rw [c14]; rfl) (tgt := 56) (by decide) ?_
    exact h
  have h := h.2.2.2.2 (by omega)
  refine z_tableOut dX8_own_9 (by omega) (tgt := 139) (by decide) ?_
  refine z_aload_n 0 dX8_own_139 rfl ?_
  refine z_iload_n 1 dX8_own_140 rfl ?_
  refine z_iload_n 2 dX8_own_141 rfl ?_
  refine z_cVF [ziv a1, ziv a2] (zk_RX8_127 _ rfl) dX8_own_142 o1 (by decide) rfl rfl (Nat.le_of_ble_eq_true rfl) (Nat.le_of_ble_eq_true rfl) (Nat.le_of_ble_eq_true rfl) (Nat.le_of_ble_eq_true rfl) (Nat.le_of_ble_eq_true rfl) h (fun x15 h => ?_)
  exact z_retFI dX8_own_145 rfl h
set_option maxRecDepth 100000 in
set_option maxHeartbeats 4000000 in
theorem en_X8_steps {E : zE} {F : Int → Prop} {S : zS} {a0 a1 a2 : Int} {V : zH}
    (h : z32 a1 → z32 a2 → ((S a0).1 = 11) ∧ SpF E 2 zm_X8_own [zrv a0, ziv a1, ziv a2] S V (fun x2 => (z32 (40 + a1)) ∧ ((S (V a0 0)).1 = 1) ∧ ((0 : Int) ≤ 40 + a1 ∧ 40 + a1 < (S (V a0 0)).2) ∧ ((V (V a0 0) (40 + a1) ≠ 4) → ((z32 (x2 + 0)) ∧ SpF E 0 zm_X8_m [zrv a0] S V (fun x9 => ((0 : Int) ≤ x2 + 0) ∧ ((0 : Int) < x9) ∧ F ((x2 + 0) % x9)))) ∧ ((V (V a0 0) (40 + a1) = 4) → ((z32 (148 + a1)) ∧ ((0 : Int) ≤ 148 + a1 ∧ 148 + a1 < (S (V a0 0)).2) ∧ SpF E 2 zm_X8_own [zrv a0, ziv (V (V a0 0) (148 + a1)), ziv a2] S V (fun x15 => (z32 (x2 + x15)) ∧ SpF E 0 zm_X8_m [zrv a0] S V (fun x18 => ((0 : Int) ≤ x2 + x15) ∧ ((0 : Int) < x18) ∧ F ((x2 + x15) % x18))))))) :
    SpF E 3 zm_X8_steps [zrv a0, ziv a1, ziv a2] S V F := by
  refine Sp.of (plainFor_of_name (by decide +kernel)) (Nat.le_of_ble_eq_true rfl) (fun hok X => ?_)
  have h := h (hok _ (List.mem_cons_of_mem _ (List.mem_cons_self))) (hok _ (List.mem_cons_of_mem _ (List.mem_cons_of_mem _ (List.mem_cons_self))))
  show Zr E X (zRoom 3 0 0) zm_X8_steps (zQm E X (zpF S V F) 0 0) 0 0 0 [(0, zrv a0), (1, ziv a1), (2, ziv a2)] [] S V
  refine z_aload_n 0 dX8_steps_0 rfl ?_
  refine z_iload_n 1 dX8_steps_1 rfl ?_
  refine z_iload_n 2 dX8_steps_2 rfl ?_
  obtain ⟨o1, h⟩ := h
  refine z_cVF [ziv a1, ziv a2] (zk_RX8_131 _ rfl) dX8_steps_3 o1 (by decide) rfl rfl (Nat.le_of_ble_eq_true rfl) (Nat.le_of_ble_eq_true rfl) (Nat.le_of_ble_eq_true rfl) (Nat.le_of_ble_eq_true rfl) (Nat.le_of_ble_eq_true rfl) h (fun x2 h => ?_)
  refine z_aload_n 0 dX8_steps_6 rfl ?_
  refine zgf_8_0 dX8_steps_7 (zf_RX8_9 _ rfl) o1 ?_
  refine z_bipush dX8_steps_10 ⟨by decide, by decide⟩ (by decide) ?_
  refine z_iload_n 1 dX8_steps_12 rfl ?_
  obtain ⟨o4, h⟩ := h
  refine z_iadd dX8_steps_13 o4 ?_
  obtain ⟨o5, h⟩ := h
  obtain ⟨o6, h⟩ := h
  refine z_iald dX8_steps_14 o5 o6 ?_
  refine z_iconst dX8_steps_15 ⟨by decide, by decide⟩ ?_
  refine z_icmp_ne dX8_steps_16 (tgt := 37) (by decide) (fun c7 => ?_) (fun c7 => ?_)
  · have h := h.1 c7
    refine z_iconst dX8_steps_37 ⟨by decide, by decide⟩ ?_
    obtain ⟨o8, h⟩ := h
    refine z_iadd dX8_steps_38 o8 ?_
    refine z_aload_n 0 dX8_steps_39 rfl ?_
    refine z_cVF [] (zk_RX8_96 _ rfl) dX8_steps_40 o1 (by decide) rfl rfl (Nat.le_of_ble_eq_true rfl) (Nat.le_of_ble_eq_true rfl) (Nat.le_of_ble_eq_true rfl) (Nat.le_of_ble_eq_true rfl) (Nat.le_of_ble_eq_true rfl) h (fun x9 h => ?_)
    obtain ⟨o11, h⟩ := h
    obtain ⟨o12, h⟩ := h
    refine z_irem dX8_steps_43 o11 o12 ?_
    exact z_retFI dX8_steps_44 rfl h
  · have h := h.2 c7
    refine z_aload_n 0 dX8_steps_19 rfl ?_
    refine z_aload_n 0 dX8_steps_20 rfl ?_
    refine zgf_8_0 dX8_steps_21 (zf_RX8_9 _ rfl) o1 ?_
    refine z_sipush dX8_steps_24 ⟨by decide, by decide⟩ (by decide) ?_
    refine z_iload_n 1 dX8_steps_27 rfl ?_
    obtain ⟨o13, h⟩ := h
    refine z_iadd dX8_steps_28 o13 ?_
    obtain ⟨o14, h⟩ := h
    refine z_iald dX8_steps_29 o5 o14 ?_
    refine z_iload_n 2 dX8_steps_30 rfl ?_
    refine z_cVF [ziv (V (V a0 0) (148 + a1)), ziv a2] (zk_RX8_131 _ rfl) dX8_steps_31 o1 (by decide) rfl rfl (Nat.le_of_ble_eq_true rfl) (Nat.le_of_ble_eq_true rfl) (Nat.le_of_ble_eq_true rfl) (Nat.le_of_ble_eq_true rfl) (Nat.le_of_ble_eq_true rfl) h (fun x15 h => ?_)
    refine z_goto (tgt := 38) dX8_steps_34 (by decide) ?_
    obtain ⟨o17, h⟩ := h
    refine z_iadd dX8_steps_38 o17 ?_
    refine z_aload_n 0 dX8_steps_39 rfl ?_
    refine z_cVF [] (zk_RX8_96 _ rfl) dX8_steps_40 o1 (by decide) rfl rfl (Nat.le_of_ble_eq_true rfl) (Nat.le_of_ble_eq_true rfl) (Nat.le_of_ble_eq_true rfl) (Nat.le_of_ble_eq_true rfl) (Nat.le_of_ble_eq_true rfl) h (fun x18 h => ?_)
    obtain ⟨o20, h⟩ := h
    obtain ⟨o21, h⟩ := h
    refine z_irem dX8_steps_43 o20 o21 ?_
    exact z_retFI dX8_steps_44 rfl h
set_option maxRecDepth 100000 in
set_option maxHeartbeats 4000000 in
theorem en_X8_isStuck {E : zE} {F : Int → Prop} {S : zS} {a0 a1 : Int} {V : zH}
    (h : z32 a1 → ((S a0).1 = 11) ∧ (z32 (40 + a1)) ∧ ((S (V a0 0)).1 = 1) ∧ ((0 : Int) ≤ 40 + a1 ∧ 40 + a1 < (S (V a0 0)).2) ∧ ((V (V a0 0) (40 + a1) ≠ 3) → (F 0)) ∧ ((V (V a0 0) (40 + a1) = 3) → (F 1))) :
    SpF E 0 zm_X8_isStuck [zrv a0, ziv a1] S V F := by
  refine Sp.of (plainFor_of_name (by decide +kernel)) (Nat.le_of_ble_eq_true rfl) (fun hok X => ?_)
  have h := h (hok _ (List.mem_cons_of_mem _ (List.mem_cons_self)))
  show Zr E X (zRoom 0 0 0) zm_X8_isStuck (zQm E X (zpF S V F) 0 0) 0 0 0 [(0, zrv a0), (1, ziv a1)] [] S V
  refine z_aload_n 0 dX8_isStuck_0 rfl ?_
  obtain ⟨o1, h⟩ := h
  refine zgf_8_0 dX8_isStuck_1 (zf_RX8_9 _ rfl) o1 ?_
  refine z_bipush dX8_isStuck_4 ⟨by decide, by decide⟩ (by decide) ?_
  refine z_iload_n 1 dX8_isStuck_6 rfl ?_
  obtain ⟨o2, h⟩ := h
  refine z_iadd dX8_isStuck_7 o2 ?_
  obtain ⟨o3, h⟩ := h
  obtain ⟨o4, h⟩ := h
  refine z_iald dX8_isStuck_8 o3 o4 ?_
  refine z_iconst dX8_isStuck_9 ⟨by decide, by decide⟩ ?_
  refine z_icmp_ne dX8_isStuck_10 (tgt := 17) (by decide) (fun c5 => ?_) (fun c5 => ?_)
  · have h := h.1 c5
    refine z_iconst dX8_isStuck_17 ⟨by decide, by decide⟩ ?_
    exact z_retFZ dX8_isStuck_18 rfl (Or.inl rfl) h
  · have h := h.2 c5
    refine z_iconst dX8_isStuck_13 ⟨by decide, by decide⟩ ?_
    refine z_goto (tgt := 18) dX8_isStuck_14 (by decide) ?_
    exact z_retFZ dX8_isStuck_18 rfl (Or.inr rfl) h
def zl_X8_pushed_5 (E : zE) (X : zX) (F : Int → zH → Prop) (S : zS) (a0 a1 a2 a3 a4 : Int) (V : zH) : Prop := Zr E X (zRoom 4 0 0) zm_X8_pushed (zQm E X (zpI S F) 0 0) 0 0 5 [(0, zrv a0), (1, ziv a1), (2, ziv a2), (3, ziv a3), (4, ziv a4)] [] S V
set_option maxRecDepth 100000 in
set_option maxHeartbeats 4000000 in
theorem wp_X8_pushed_5 {E : zE} {X : zX} {F : Int → zH → Prop} {S : zS} {a0 a1 a2 a3 a4 : Int} {V : zH}
    (h : ((S a0).1 = 11) ∧ SpF E 0 zm_X8_n [zrv a0] S V (fun x2 => ((x2 ≤ a4) → (F a3 V)) ∧ ((a4 < x2) → ((z32 (4 + a4)) ∧ ((S (V a0 0)).1 = 1) ∧ ((0 : Int) ≤ 4 + a4 ∧ 4 + a4 < (S (V a0 0)).2) ∧ SpF E 0 zm_X8_m [zrv a0] S V (fun x8 => ((0 : Int) ≤ a2) ∧ ((0 : Int) < x8) ∧ SpF E 3 zm_X8_steps [zrv a0, ziv a1, ziv a4] S V (fun x12 => (z32 ((a2 % x8) * x12)) ∧ (z32 ((V (V a0 0) (4 + a4)) + ((a2 % x8) * x12))) ∧ SpF E 0 zm_X8_m [zrv a0] S V (fun x16 => ((0 : Int) ≤ (V (V a0 0) (4 + a4)) + ((a2 % x8) * x12)) ∧ ((0 : Int) < x16) ∧ ∀ x20 : Int, x20 = ((V (V a0 0) (4 + a4)) + ((a2 % x8) * x12)) % x16 → ((x20 = V (V a0 0) (4 + a4)) → ((z32 (a3 + 0)) ∧ ∀ V24 : zH, V24 = zput V (V a0 0) (4 + a4) x20 → (z32 (a4 + 1)) ∧ zl_X8_pushed_5 E X F S a0 a1 a2 (a3 + 0) (a4 + 1) V24)) ∧ ((x20 ≠ V (V a0 0) (4 + a4)) → ((z32 (a3 + 1)) ∧ ∀ V28 : zH, V28 = zput V (V a0 0) (4 + a4) x20 → (z32 (a4 + 1)) ∧ zl_X8_pushed_5 E X F S a0 a1 a2 (a3 + 1) (a4 + 1) V28))))))))) :
    zl_X8_pushed_5 E X F S a0 a1 a2 a3 a4 V := by
  unfold zl_X8_pushed_5
  refine z_iload 4 dX8_pushed_5 rfl ?_
  refine z_aload_n 0 dX8_pushed_7 rfl ?_
  obtain ⟨o1, h⟩ := h
  refine z_cVF [] (zk_RX8_84 _ rfl) dX8_pushed_8 o1 (by decide) rfl rfl (Nat.le_of_ble_eq_true rfl) (Nat.le_of_ble_eq_true rfl) (Nat.le_of_ble_eq_true rfl) (Nat.le_of_ble_eq_true rfl) (Nat.le_of_ble_eq_true rfl) h (fun x2 h => ?_)
  refine z_icmp_ge dX8_pushed_11 (tgt := 84) (by decide) (fun c4 => ?_) (fun c4 => ?_)
  · have h := h.1 c4
    refine z_iload_n 3 dX8_pushed_84 rfl ?_
    exact z_retI dX8_pushed_85 rfl h
  · have h := h.2 c4
    refine z_aload_n 0 dX8_pushed_14 rfl ?_
    refine zgf_8_0 dX8_pushed_15 (zf_RX8_9 _ rfl) o1 ?_
    refine z_iconst dX8_pushed_18 ⟨by decide, by decide⟩ ?_
    refine z_iload 4 dX8_pushed_19 rfl ?_
    obtain ⟨o5, h⟩ := h
    refine z_iadd dX8_pushed_21 o5 ?_
    obtain ⟨o6, h⟩ := h
    obtain ⟨o7, h⟩ := h
    refine z_iald dX8_pushed_22 o6 o7 ?_
    refine z_iload_n 2 dX8_pushed_23 rfl ?_
    refine z_aload_n 0 dX8_pushed_24 rfl ?_
    refine z_cVF [] (zk_RX8_96 _ rfl) dX8_pushed_25 o1 (by decide) rfl rfl (Nat.le_of_ble_eq_true rfl) (Nat.le_of_ble_eq_true rfl) (Nat.le_of_ble_eq_true rfl) (Nat.le_of_ble_eq_true rfl) (Nat.le_of_ble_eq_true rfl) h (fun x8 h => ?_)
    obtain ⟨o10, h⟩ := h
    obtain ⟨o11, h⟩ := h
    refine z_irem dX8_pushed_28 o10 o11 ?_
    refine z_aload_n 0 dX8_pushed_29 rfl ?_
    refine z_iload_n 1 dX8_pushed_30 rfl ?_
    refine z_iload 4 dX8_pushed_31 rfl ?_
    refine z_cVF [ziv a1, ziv a4] (zk_RX8_134 _ rfl) dX8_pushed_33 o1 (by decide) rfl rfl (Nat.le_of_ble_eq_true rfl) (Nat.le_of_ble_eq_true rfl) (Nat.le_of_ble_eq_true rfl) (Nat.le_of_ble_eq_true rfl) (Nat.le_of_ble_eq_true rfl) h (fun x12 h => ?_)
    obtain ⟨o14, h⟩ := h
    refine z_imul dX8_pushed_36 o14 ?_
    obtain ⟨o15, h⟩ := h
    refine z_iadd dX8_pushed_37 o15 ?_
    refine z_aload_n 0 dX8_pushed_38 rfl ?_
    refine z_cVF [] (zk_RX8_96 _ rfl) dX8_pushed_39 o1 (by decide) rfl rfl (Nat.le_of_ble_eq_true rfl) (Nat.le_of_ble_eq_true rfl) (Nat.le_of_ble_eq_true rfl) (Nat.le_of_ble_eq_true rfl) (Nat.le_of_ble_eq_true rfl) h (fun x16 h => ?_)
    obtain ⟨o18, h⟩ := h
    obtain ⟨o19, h⟩ := h
    refine z_irem dX8_pushed_42 o18 o19 ?_
    refine z_nameI (fun x20 e21 => ?_)
    have h := h x20 e21
    refine z_istore dX8_pushed_43 (by decide) (L' := [(0, zrv a0), (1, ziv a1), (2, ziv a2), (3, ziv a3), (4, ziv a4), (5, ziv x20)]) [1, 2, 3, 4, 5, 0] rfl ?_
    refine z_iload_n 3 dX8_pushed_45 rfl ?_
    refine z_iload 5 dX8_pushed_46 rfl ?_
    refine z_aload_n 0 dX8_pushed_48 rfl ?_
    refine zgf_8_0 dX8_pushed_49 (zf_RX8_9 _ rfl) o1 ?_
    refine z_iconst dX8_pushed_52 ⟨by decide, by decide⟩ ?_
    refine z_iload 4 dX8_pushed_53 rfl ?_
    refine z_iadd dX8_pushed_55 o5 ?_
    refine z_iald dX8_pushed_56 o6 o7 ?_
    refine z_icmp_eq dX8_pushed_57 (tgt := 64) (by decide) (fun c22 => ?_) (fun c22 => ?_)
    · have h := h.1 c22
      refine z_iconst dX8_pushed_64 ⟨by decide, by decide⟩ ?_
      obtain ⟨o23, h⟩ := h
      refine z_iadd dX8_pushed_65 o23 ?_
      refine z_istore_n dX8_pushed_66 (by decide) (L' := [(0, zrv a0), (1, ziv a1), (2, ziv a2), (3, ziv (a3 + 0)), (4, ziv a4), (5, ziv x20)]) [1, 2, 3, 0, 4, 5] rfl ?_
      refine z_aload_n 0 dX8_pushed_67 rfl ?_
      refine zgf_8_0 dX8_pushed_68 (zf_RX8_9 _ rfl) o1 ?_
      refine z_iconst dX8_pushed_71 ⟨by decide, by decide⟩ ?_
      refine z_iload 4 dX8_pushed_72 rfl ?_
      refine z_iadd dX8_pushed_74 o5 ?_
      refine z_iload 5 dX8_pushed_75 rfl ?_
      refine z_iast dX8_pushed_77 o6 o7 ?_
      refine z_nameV (fun V24 e25 => ?_)
      have h := h V24 e25
      obtain ⟨o26, h⟩ := h
      refine z_iinc 4 dX8_pushed_78 rfl (by decide) o26 (L' := [(0, zrv a0), (1, ziv a1), (2, ziv a2), (3, ziv (a3 + 0)), (4, ziv (a4 + 1)), (5, ziv x20)]) [1, 2, 3, 4, 0, 5] rfl ?_
      refine z_goto (tgt := 5) dX8_pushed_81 (by decide) ?_
      refine z_loc (L' := [(0, zrv a0), (1, ziv a1), (2, ziv a2), (3, ziv (a3 + 0)), (4, ziv (a4 + 1))]) [0, 1, 2, 3, 4] rfl ?_
      exact h
    · have h := h.2 c22
      refine z_iconst dX8_pushed_60 ⟨by decide, by decide⟩ ?_
      refine z_goto (tgt := 65) dX8_pushed_61 (by decide) ?_
      obtain ⟨o27, h⟩ := h
      refine z_iadd dX8_pushed_65 o27 ?_
      refine z_istore_n dX8_pushed_66 (by decide) (L' := [(0, zrv a0), (1, ziv a1), (2, ziv a2), (3, ziv (a3 + 1)), (4, ziv a4), (5, ziv x20)]) [1, 2, 3, 0, 4, 5] rfl ?_
      refine z_aload_n 0 dX8_pushed_67 rfl ?_
      refine zgf_8_0 dX8_pushed_68 (zf_RX8_9 _ rfl) o1 ?_
      refine z_iconst dX8_pushed_71 ⟨by decide, by decide⟩ ?_
      refine z_iload 4 dX8_pushed_72 rfl ?_
      refine z_iadd dX8_pushed_74 o5 ?_
      refine z_iload 5 dX8_pushed_75 rfl ?_
      refine z_iast dX8_pushed_77 o6 o7 ?_
      refine z_nameV (fun V28 e29 => ?_)
      have h := h V28 e29
      obtain ⟨o30, h⟩ := h
      refine z_iinc 4 dX8_pushed_78 rfl (by decide) o30 (L' := [(0, zrv a0), (1, ziv a1), (2, ziv a2), (3, ziv (a3 + 1)), (4, ziv (a4 + 1)), (5, ziv x20)]) [1, 2, 3, 4, 0, 5] rfl ?_
      refine z_goto (tgt := 5) dX8_pushed_81 (by decide) ?_
      refine z_loc (L' := [(0, zrv a0), (1, ziv a1), (2, ziv a2), (3, ziv (a3 + 1)), (4, ziv (a4 + 1))]) [0, 1, 2, 3, 4] rfl ?_
      exact h
set_option maxRecDepth 100000 in
set_option maxHeartbeats 4000000 in
theorem en_X8_pushed {E : zE} {F : Int → zH → Prop} {S : zS} {a0 a1 a2 : Int} {V : zH}
    (h : z32 a1 → z32 a2 → ∀ X : zX, zl_X8_pushed_5 E X F S a0 a1 a2 0 0 V) :
    SpI E 4 zm_X8_pushed [zrv a0, ziv a1, ziv a2] S V F := by
  refine Sp.of (plainFor_of_name (by decide +kernel)) (Nat.le_of_ble_eq_true rfl) (fun hok X => ?_)
  have h := h (hok _ (List.mem_cons_of_mem _ (List.mem_cons_self))) (hok _ (List.mem_cons_of_mem _ (List.mem_cons_of_mem _ (List.mem_cons_self)))) X
  show Zr E X (zRoom 4 0 0) zm_X8_pushed (zQm E X (zpI S F) 0 0) 0 0 0 [(0, zrv a0), (1, ziv a1), (2, ziv a2)] [] S V
  refine z_iconst dX8_pushed_0 ⟨by decide, by decide⟩ ?_
  refine z_istore_n dX8_pushed_1 (by decide) (L' := [(0, zrv a0), (1, ziv a1), (2, ziv a2), (3, ziv 0)]) [1, 2, 3, 0] rfl ?_
  refine z_iconst dX8_pushed_2 ⟨by decide, by decide⟩ ?_
  refine z_istore dX8_pushed_3 (by decide) (L' := [(0, zrv a0), (1, ziv a1), (2, ziv a2), (3, ziv 0), (4, ziv 0)]) [1, 2, 3, 4, 0] rfl ?_
  exact h
set_option maxRecDepth 100000 in
set_option maxHeartbeats 4000000 in
theorem en_X8_push {E : zE} {F : Int → zH → Prop} {S : zS} {a0 a1 a2 : Int} {V : zH}
    (h : z32 a1 → z32 a2 → ((S a0).1 = 11) ∧ SpF E 1 zm_X8_isButton [zrv a0, ziv a1] S V (fun x2 => ((x2 = 0) → (F (-1) V)) ∧ ((x2 ≠ 0) → (SpF E 0 zm_X8_isStuck [zrv a0, ziv a1] S V (fun x5 => ((x5 ≠ 0) → (F (-1) V)) ∧ ((x5 = 0) → (SpF E 0 zm_X8_in [zjv a2, zjv 0, zjv 1000000] S V (fun x8 => ((x8 ≠ 0) → (SpV E 0 zm_X8_act [zrv a0] S V (fun V12 => SpI E 4 zm_X8_pushed [zrv a0, ziv a1, ziv a2] S V12 (fun x13 V14 => F x13 V14)))) ∧ ((x8 = 0) → (F (-1) V)))))))))) :
    SpI E 5 zm_X8_push [zrv a0, ziv a1, ziv a2] S V F := by
  refine Sp.of (plainFor_of_name (by decide +kernel)) (Nat.le_of_ble_eq_true rfl) (fun hok X => ?_)
  have h := h (hok _ (List.mem_cons_of_mem _ (List.mem_cons_self))) (hok _ (List.mem_cons_of_mem _ (List.mem_cons_of_mem _ (List.mem_cons_self))))
  show Zr E X (zRoom 5 0 0) zm_X8_push (zQm E X (zpI S F) 0 0) 0 0 0 [(0, zrv a0), (1, ziv a1), (2, ziv a2)] [] S V
  refine z_aload_n 0 dX8_push_0 rfl ?_
  refine z_iload_n 1 dX8_push_1 rfl ?_
  obtain ⟨o1, h⟩ := h
  refine z_cVF [ziv a1] (zk_RX8_115 _ rfl) dX8_push_2 o1 (by decide) rfl rfl (Nat.le_of_ble_eq_true rfl) (Nat.le_of_ble_eq_true rfl) (Nat.le_of_ble_eq_true rfl) (Nat.le_of_ble_eq_true rfl) (Nat.le_of_ble_eq_true rfl) h (fun x2 h => ?_)
  refine z_if_eq dX8_push_5 (tgt := 28) (by decide) (fun c4 => ?_) (fun c4 => ?_)
  · have h := h.1 c4
    refine z_iconst dX8_push_28 ⟨by decide, by decide⟩ ?_
    exact z_retI dX8_push_29 rfl h
  · have h := h.2 c4
    refine z_aload_n 0 dX8_push_8 rfl ?_
    refine z_iload_n 1 dX8_push_9 rfl ?_
    refine z_cVF [ziv a1] (zk_RX8_137 _ rfl) dX8_push_10 o1 (by decide) rfl rfl (Nat.le_of_ble_eq_true rfl) (Nat.le_of_ble_eq_true rfl) (Nat.le_of_ble_eq_true rfl) (Nat.le_of_ble_eq_true rfl) (Nat.le_of_ble_eq_true rfl) h (fun x5 h => ?_)
    refine z_if_ne dX8_push_13 (tgt := 28) (by decide) (fun c7 => ?_) (fun c7 => ?_)
    · have h := h.1 c7
      refine z_iconst dX8_push_28 ⟨by decide, by decide⟩ ?_
      exact z_retI dX8_push_29 rfl h
    · have h := h.2 c7
      refine z_iload_n 2 dX8_push_16 rfl ?_
      refine z_i2l dX8_push_17 ?_
      refine z_lconst (v := 0) dX8_push_18 (by decide) ⟨by decide, by decide⟩ ?_
      refine z_ldc2 (c := 1000000) (zd_RX8_140 _ rfl) (by decide) ⟨by decide, by decide⟩ dX8_push_19 ?_
      refine z_cSF [zjv a2, zjv 0, zjv 1000000] (zk_RX8_69 _ rfl) dX8_push_22 rfl rfl (Nat.le_of_ble_eq_true rfl) (Nat.le_of_ble_eq_true rfl) (Nat.le_of_ble_eq_true rfl) (Nat.le_of_ble_eq_true rfl) (Nat.le_of_ble_eq_true rfl) h (fun x8 h => ?_)
      refine z_if_ne dX8_push_25 (tgt := 30) (by decide) (fun c10 => ?_) (fun c10 => ?_)
      · have h := h.1 c10
        refine z_aload_n 0 dX8_push_30 rfl ?_
        refine z_cVV [] (zk_RX8_99 _ rfl) dX8_push_31 o1 (by decide) rfl rfl (Nat.le_of_ble_eq_true rfl) (Nat.le_of_ble_eq_true rfl) (Nat.le_of_ble_eq_true rfl) (Nat.le_of_ble_eq_true rfl) (Nat.le_of_ble_eq_true rfl) h (fun V12 h => ?_)
        refine z_aload_n 0 dX8_push_34 rfl ?_
        refine z_iload_n 1 dX8_push_35 rfl ?_
        refine z_iload_n 2 dX8_push_36 rfl ?_
        refine z_cVI [ziv a1, ziv a2] (zk_RX8_142 _ rfl) dX8_push_37 o1 (by decide) rfl rfl (Nat.le_of_ble_eq_true rfl) (Nat.le_of_ble_eq_true rfl) (Nat.le_of_ble_eq_true rfl) (Nat.le_of_ble_eq_true rfl) (Nat.le_of_ble_eq_true rfl) h (fun x13 V14 h => ?_)
        exact z_retI dX8_push_40 rfl h
      · have h := h.2 c10
        refine z_iconst dX8_push_28 ⟨by decide, by decide⟩ ?_
        exact z_retI dX8_push_29 rfl h
def zl_X8_chase_19 (E : zE) (X : zX) (F : Int → zH → Prop) (S : zS) (a0 a1 a2 : Int) (V : zH) : Prop := Zr E X (zRoom 5 0 0) zm_X8_chase (zQm E X (zpI S F) 0 0) 0 0 19 [(0, zrv a0), (1, ziv a1), (2, ziv a2)] [] S V
def zl_X8_chase_99 (E : zE) (X : zX) (F : Int → zH → Prop) (S : zS) (a0 a2 a3 : Int) (V : zH) : Prop := Zr E X (zRoom 5 0 0) zm_X8_chase (zQm E X (zpI S F) 0 0) 0 0 99 [(0, zrv a0), (2, ziv a2), (3, ziv a3)] [] S V
set_option maxRecDepth 100000 in
set_option maxHeartbeats 4000000 in
theorem wp_X8_chase_19 {E : zE} {X : zX} {F : Int → zH → Prop} {S : zS} {a0 a1 a2 : Int} {V : zH}
    (h : ((S a0).1 = 11) ∧ SpF E 0 zm_X8_n [zrv a0] S V (fun x2 => ((x2 ≤ a2) → (((a1 ≠ 0) → (SpV E 0 zm_X8_act [zrv a0] S V (fun V7 => SpF E 0 zm_X8_w [zrv a0] S V7 (fun x8 => zl_X8_chase_99 E X F S a0 0 x8 V7)))) ∧ ((a1 = 0) → (F (-1) V)))) ∧ ((a2 < x2) → (((a1 = 0) → (((a1 ≠ 0) → (SpV E 0 zm_X8_act [zrv a0] S V (fun V13 => SpF E 0 zm_X8_w [zrv a0] S V13 (fun x14 => zl_X8_chase_99 E X F S a0 0 x14 V13)))) ∧ ((a1 = 0) → (F (-1) V)))) ∧ ((a1 ≠ 0) → ((z32 (40 + a2)) ∧ ((S (V a0 0)).1 = 1) ∧ ((0 : Int) ≤ 40 + a2 ∧ 40 + a2 < (S (V a0 0)).2) ∧ ((V (V a0 0) (40 + a2) ≠ 1) → ((z32 (a2 + 1)) ∧ zl_X8_chase_19 E X F S a0 0 (a2 + 1) V)) ∧ ((V (V a0 0) (40 + a2) = 1) → ((z32 (76 + a2)) ∧ ((0 : Int) ≤ 76 + a2 ∧ 76 + a2 < (S (V a0 0)).2) ∧ ((V (V a0 0) (76 + a2) ≠ a2) → ((z32 (a2 + 1)) ∧ zl_X8_chase_19 E X F S a0 0 (a2 + 1) V)) ∧ ((V (V a0 0) (76 + a2) = a2) → ((z32 (112 + a2)) ∧ ((0 : Int) ≤ 112 + a2 ∧ 112 + a2 < (S (V a0 0)).2) ∧ ((V (V a0 0) (112 + a2) ≠ 1) → ((z32 (a2 + 1)) ∧ zl_X8_chase_19 E X F S a0 0 (a2 + 1) V)) ∧ ((V (V a0 0) (112 + a2) = 1) → ((z32 (a2 + 1)) ∧ zl_X8_chase_19 E X F S a0 1 (a2 + 1) V)))))))))))) :
    zl_X8_chase_19 E X F S a0 a1 a2 V := by
  unfold zl_X8_chase_19
  refine z_iload_n 2 dX8_chase_19 rfl ?_
  refine z_aload_n 0 dX8_chase_20 rfl ?_
  obtain ⟨o1, h⟩ := h
  refine z_cVF [] (zk_RX8_84 _ rfl) dX8_chase_21 o1 (by decide) rfl rfl (Nat.le_of_ble_eq_true rfl) (Nat.le_of_ble_eq_true rfl) (Nat.le_of_ble_eq_true rfl) (Nat.le_of_ble_eq_true rfl) (Nat.le_of_ble_eq_true rfl) h (fun x2 h => ?_)
  refine z_icmp_ge dX8_chase_24 (tgt := 82) (by decide) (fun c4 => ?_) (fun c4 => ?_)
  · have h := h.1 c4
    refine z_iload_n 1 dX8_chase_82 rfl ?_
    refine z_if_ne dX8_chase_83 (tgt := 88) (by decide) (fun c5 => ?_) (fun c5 => ?_)
    · have h := h.1 c5
      refine z_aload_n 0 dX8_chase_88 rfl ?_
      refine z_cVV [] (zk_RX8_99 _ rfl) dX8_chase_89 o1 (by decide) rfl rfl (Nat.le_of_ble_eq_true rfl) (Nat.le_of_ble_eq_true rfl) (Nat.le_of_ble_eq_true rfl) (Nat.le_of_ble_eq_true rfl) (Nat.le_of_ble_eq_true rfl) h (fun V7 h => ?_)
      refine z_iconst dX8_chase_92 ⟨by decide, by decide⟩ ?_
      refine z_istore_n dX8_chase_93 (by decide) (L' := [(0, zrv a0), (1, ziv a1), (2, ziv 0)]) [1, 2, 0] rfl ?_
      refine z_aload_n 0 dX8_chase_94 rfl ?_
      refine z_cVF [] (zk_RX8_80 _ rfl) dX8_chase_95 o1 (by decide) rfl rfl (Nat.le_of_ble_eq_true rfl) (Nat.le_of_ble_eq_true rfl) (Nat.le_of_ble_eq_true rfl) (Nat.le_of_ble_eq_true rfl) (Nat.le_of_ble_eq_true rfl) h (fun x8 h => ?_)
      refine z_istore_n dX8_chase_98 (by decide) (L' := [(0, zrv a0), (1, ziv a1), (2, ziv 0), (3, ziv x8)]) [1, 2, 3, 0] rfl ?_
      refine z_loc (L' := [(0, zrv a0), (2, ziv 0), (3, ziv x8)]) [0, 2, 3] rfl ?_
      exact h
    · have h := h.2 c5
      refine z_iconst dX8_chase_86 ⟨by decide, by decide⟩ ?_
      exact z_retI dX8_chase_87 rfl h
  · have h := h.2 c4
    refine z_iload_n 1 dX8_chase_27 rfl ?_
    refine z_if_eq dX8_chase_28 (tgt := 82) (by decide) (fun c10 => ?_) (fun c10 => ?_)
    · have h := h.1 c10
      refine z_iload_n 1 dX8_chase_82 rfl ?_
      refine z_if_ne dX8_chase_83 (tgt := 88) (by decide) (fun c11 => ?_) (fun c11 => ?_)
      · have h := h.1 c11
        refine z_aload_n 0 dX8_chase_88 rfl ?_
        refine z_cVV [] (zk_RX8_99 _ rfl) dX8_chase_89 o1 (by decide) rfl rfl (Nat.le_of_ble_eq_true rfl) (Nat.le_of_ble_eq_true rfl) (Nat.le_of_ble_eq_true rfl) (Nat.le_of_ble_eq_true rfl) (Nat.le_of_ble_eq_true rfl) h (fun V13 h => ?_)
        refine z_iconst dX8_chase_92 ⟨by decide, by decide⟩ ?_
        refine z_istore_n dX8_chase_93 (by decide) (L' := [(0, zrv a0), (1, ziv a1), (2, ziv 0)]) [1, 2, 0] rfl ?_
        refine z_aload_n 0 dX8_chase_94 rfl ?_
        refine z_cVF [] (zk_RX8_80 _ rfl) dX8_chase_95 o1 (by decide) rfl rfl (Nat.le_of_ble_eq_true rfl) (Nat.le_of_ble_eq_true rfl) (Nat.le_of_ble_eq_true rfl) (Nat.le_of_ble_eq_true rfl) (Nat.le_of_ble_eq_true rfl) h (fun x14 h => ?_)
        refine z_istore_n dX8_chase_98 (by decide) (L' := [(0, zrv a0), (1, ziv a1), (2, ziv 0), (3, ziv x14)]) [1, 2, 3, 0] rfl ?_
        refine z_loc (L' := [(0, zrv a0), (2, ziv 0), (3, ziv x14)]) [0, 2, 3] rfl ?_
        exact h
      · have h := h.2 c11
        refine z_iconst dX8_chase_86 ⟨by decide, by decide⟩ ?_
        exact z_retI dX8_chase_87 rfl h
    · have h := h.2 c10
      refine z_aload_n 0 dX8_chase_31 rfl ?_
      refine zgf_8_0 dX8_chase_32 (zf_RX8_9 _ rfl) o1 ?_
      refine z_bipush dX8_chase_35 ⟨by decide, by decide⟩ (by decide) ?_
      refine z_iload_n 2 dX8_chase_37 rfl ?_
      obtain ⟨o16, h⟩ := h
      refine z_iadd dX8_chase_38 o16 ?_
      obtain ⟨o17, h⟩ := h
      obtain ⟨o18, h⟩ := h
      refine z_iald dX8_chase_39 o17 o18 ?_
      refine z_iconst dX8_chase_40 ⟨by decide, by decide⟩ ?_
      refine z_icmp_ne dX8_chase_41 (tgt := 74) (by decide) (fun c19 => ?_) (fun c19 => ?_)
      · have h := h.1 c19
        refine z_iconst dX8_chase_74 ⟨by decide, by decide⟩ ?_
        refine z_istore_n dX8_chase_75 (by decide) (L' := [(0, zrv a0), (1, ziv 0), (2, ziv a2)]) [1, 0, 2] rfl ?_
        obtain ⟨o20, h⟩ := h
        refine z_iinc 2 dX8_chase_76 rfl (by decide) o20 (L' := [(0, zrv a0), (1, ziv 0), (2, ziv (a2 + 1))]) [1, 2, 0] rfl ?_
        refine z_goto (tgt := 19) dX8_chase_79 (by decide) ?_
        exact h
      · have h := h.2 c19
        refine z_aload_n 0 dX8_chase_44 rfl ?_
        refine zgf_8_0 dX8_chase_45 (zf_RX8_9 _ rfl) o1 ?_
        refine z_bipush dX8_chase_48 ⟨by decide, by decide⟩ (by decide) ?_
        refine z_iload_n 2 dX8_chase_50 rfl ?_
        obtain ⟨o21, h⟩ := h
        refine z_iadd dX8_chase_51 o21 ?_
        obtain ⟨o22, h⟩ := h
        refine z_iald dX8_chase_52 o17 o22 ?_
        refine z_iload_n 2 dX8_chase_53 rfl ?_
        refine z_icmp_ne dX8_chase_54 (tgt := 74) (by decide) (fun c23 => ?_) (fun c23 => ?_)
        · have h := h.1 c23
          refine z_iconst dX8_chase_74 ⟨by decide, by decide⟩ ?_
          refine z_istore_n dX8_chase_75 (by decide) (L' := [(0, zrv a0), (1, ziv 0), (2, ziv a2)]) [1, 0, 2] rfl ?_
          obtain ⟨o24, h⟩ := h
          refine z_iinc 2 dX8_chase_76 rfl (by decide) o24 (L' := [(0, zrv a0), (1, ziv 0), (2, ziv (a2 + 1))]) [1, 2, 0] rfl ?_
          refine z_goto (tgt := 19) dX8_chase_79 (by decide) ?_
          exact h
        · have h := h.2 c23
          refine z_aload_n 0 dX8_chase_57 rfl ?_
          refine zgf_8_0 dX8_chase_58 (zf_RX8_9 _ rfl) o1 ?_
          refine z_bipush dX8_chase_61 ⟨by decide, by decide⟩ (by decide) ?_
          refine z_iload_n 2 dX8_chase_63 rfl ?_
          obtain ⟨o25, h⟩ := h
          refine z_iadd dX8_chase_64 o25 ?_
          obtain ⟨o26, h⟩ := h
          refine z_iald dX8_chase_65 o17 o26 ?_
          refine z_iconst dX8_chase_66 ⟨by decide, by decide⟩ ?_
          refine z_icmp_ne dX8_chase_67 (tgt := 74) (by decide) (fun c27 => ?_) (fun c27 => ?_)
          · have h := h.1 c27
            refine z_iconst dX8_chase_74 ⟨by decide, by decide⟩ ?_
            refine z_istore_n dX8_chase_75 (by decide) (L' := [(0, zrv a0), (1, ziv 0), (2, ziv a2)]) [1, 0, 2] rfl ?_
            obtain ⟨o28, h⟩ := h
            refine z_iinc 2 dX8_chase_76 rfl (by decide) o28 (L' := [(0, zrv a0), (1, ziv 0), (2, ziv (a2 + 1))]) [1, 2, 0] rfl ?_
            refine z_goto (tgt := 19) dX8_chase_79 (by decide) ?_
            exact h
          · have h := h.2 c27
            refine z_iconst dX8_chase_70 ⟨by decide, by decide⟩ ?_
            refine z_goto (tgt := 75) dX8_chase_71 (by decide) ?_
            refine z_istore_n dX8_chase_75 (by decide) (L' := [(0, zrv a0), (1, ziv 1), (2, ziv a2)]) [1, 0, 2] rfl ?_
            obtain ⟨o29, h⟩ := h
            refine z_iinc 2 dX8_chase_76 rfl (by decide) o29 (L' := [(0, zrv a0), (1, ziv 1), (2, ziv (a2 + 1))]) [1, 2, 0] rfl ?_
            refine z_goto (tgt := 19) dX8_chase_79 (by decide) ?_
            exact h
set_option maxRecDepth 100000 in
set_option maxHeartbeats 4000000 in
theorem wp_X8_chase_99 {E : zE} {X : zX} {F : Int → zH → Prop} {S : zS} {a0 a2 a3 : Int} {V : zH}
    (h : ((S a0).1 = 11) ∧ SpF E 0 zm_X8_n [zrv a0] S V (fun x2 => ((x2 ≤ a3) → (F a2 V)) ∧ ((a3 < x2) → ((z32 (4 + a3)) ∧ SpF E 0 zm_X8_w [zrv a0] S V (fun x6 => (z32 ((4 + a3) - x6)) ∧ ((S (V a0 0)).1 = 1) ∧ ((0 : Int) ≤ (4 + a3) - x6 ∧ (4 + a3) - x6 < (S (V a0 0)).2) ∧ ∀ x11 : Int, x11 = V (V a0 0) ((4 + a3) - x6) → ((x11 = 0) → ((z32 (a3 + 1)) ∧ zl_X8_chase_99 E X F S a0 a2 (a3 + 1) V)) ∧ ((x11 ≠ 0) → (SpF E 0 zm_X8_m [zrv a0] S V (fun x15 => (z32 (x15 - x11)) ∧ (z32 (a2 + (x15 - x11))) ∧ ∀ x19 : Int, x19 = a2 + (x15 - x11) → SpF E 0 zm_X8_m [zrv a0] S V (fun x21 => (z32 (x21 - x11)) ∧ SpI E 4 zm_X8_pushed [zrv a0, ziv a3, ziv (x21 - x11)] S V (fun x24 V25 => (z32 (a3 + 1)) ∧ zl_X8_chase_99 E X F S a0 x19 (a3 + 1) V25)))))))))) :
    zl_X8_chase_99 E X F S a0 a2 a3 V := by
  unfold zl_X8_chase_99
  refine z_iload_n 2 dX8_chase_99 rfl ?_
  refine z_aload_n 0 dX8_chase_100 rfl ?_
  obtain ⟨o1, h⟩ := h
  refine z_cVF [] (zk_RX8_84 _ rfl) dX8_chase_101 o1 (by decide) rfl rfl (Nat.le_of_ble_eq_true rfl) (Nat.le_of_ble_eq_true rfl) (Nat.le_of_ble_eq_true rfl) (Nat.le_of_ble_eq_true rfl) (Nat.le_of_ble_eq_true rfl) h (fun x2 h => ?_)
  refine z_icmp_ge dX8_chase_104 (tgt := 157) (by decide) (fun c4 => ?_) (fun c4 => ?_)
  · have h := h.1 c4
    refine z_iload_n 1 dX8_chase_157 rfl ?_
    exact z_retI dX8_chase_158 rfl h
  · have h := h.2 c4
    refine z_aload_n 0 dX8_chase_107 rfl ?_
    refine zgf_8_0 dX8_chase_108 (zf_RX8_9 _ rfl) o1 ?_
    refine z_iconst dX8_chase_111 ⟨by decide, by decide⟩ ?_
    refine z_iload_n 2 dX8_chase_112 rfl ?_
    obtain ⟨o5, h⟩ := h
    refine z_iadd dX8_chase_113 o5 ?_
    refine z_aload_n 0 dX8_chase_114 rfl ?_
    refine z_cVF [] (zk_RX8_80 _ rfl) dX8_chase_115 o1 (by decide) rfl rfl (Nat.le_of_ble_eq_true rfl) (Nat.le_of_ble_eq_true rfl) (Nat.le_of_ble_eq_true rfl) (Nat.le_of_ble_eq_true rfl) (Nat.le_of_ble_eq_true rfl) h (fun x6 h => ?_)
    obtain ⟨o8, h⟩ := h
    refine z_isub dX8_chase_118 o8 ?_
    obtain ⟨o9, h⟩ := h
    obtain ⟨o10, h⟩ := h
    refine z_iald dX8_chase_119 o9 o10 ?_
    refine z_nameI (fun x11 e12 => ?_)
    have h := h x11 e12
    refine z_istore dX8_chase_120 (by decide) (L' := [(0, zrv a0), (2, ziv a2), (3, ziv a3), (4, ziv x11)]) [1, 2, 3, 0] rfl ?_
    refine z_iload 3 dX8_chase_122 rfl ?_
    refine z_if_eq dX8_chase_124 (tgt := 151) (by decide) (fun c13 => ?_) (fun c13 => ?_)
    · have h := h.1 c13
      obtain ⟨o14, h⟩ := h
      refine z_iinc 2 dX8_chase_151 rfl (by decide) o14 (L' := [(0, zrv a0), (2, ziv a2), (3, ziv (a3 + 1)), (4, ziv x11)]) [1, 2, 0, 3] rfl ?_
      refine z_goto (tgt := 99) dX8_chase_154 (by decide) ?_
      refine z_loc (L' := [(0, zrv a0), (2, ziv a2), (3, ziv (a3 + 1))]) [0, 1, 2] rfl ?_
      exact h
    · have h := h.2 c13
      refine z_iload_n 1 dX8_chase_127 rfl ?_
      refine z_aload_n 0 dX8_chase_128 rfl ?_
      refine z_cVF [] (zk_RX8_96 _ rfl) dX8_chase_129 o1 (by decide) rfl rfl (Nat.le_of_ble_eq_true rfl) (Nat.le_of_ble_eq_true rfl) (Nat.le_of_ble_eq_true rfl) (Nat.le_of_ble_eq_true rfl) (Nat.le_of_ble_eq_true rfl) h (fun x15 h => ?_)
      refine z_iload 3 dX8_chase_132 rfl ?_
      obtain ⟨o17, h⟩ := h
      refine z_isub dX8_chase_134 o17 ?_
      obtain ⟨o18, h⟩ := h
      refine z_iadd dX8_chase_135 o18 ?_
      refine z_nameI (fun x19 e20 => ?_)
      have h := h x19 e20
      refine z_istore_n dX8_chase_136 (by decide) (L' := [(0, zrv a0), (2, ziv x19), (3, ziv a3), (4, ziv x11)]) [1, 0, 2, 3] rfl ?_
      refine z_aload_n 0 dX8_chase_137 rfl ?_
      refine z_iload_n 2 dX8_chase_138 rfl ?_
      refine z_aload_n 0 dX8_chase_139 rfl ?_
      refine z_cVF [] (zk_RX8_96 _ rfl) dX8_chase_140 o1 (by decide) rfl rfl (Nat.le_of_ble_eq_true rfl) (Nat.le_of_ble_eq_true rfl) (Nat.le_of_ble_eq_true rfl) (Nat.le_of_ble_eq_true rfl) (Nat.le_of_ble_eq_true rfl) h (fun x21 h => ?_)
      refine z_iload 3 dX8_chase_143 rfl ?_
      obtain ⟨o23, h⟩ := h
      refine z_isub dX8_chase_145 o23 ?_
      refine z_cVI [ziv a3, ziv (x21 - x11)] (zk_RX8_142 _ rfl) dX8_chase_146 o1 (by decide) rfl rfl (Nat.le_of_ble_eq_true rfl) (Nat.le_of_ble_eq_true rfl) (Nat.le_of_ble_eq_true rfl) (Nat.le_of_ble_eq_true rfl) (Nat.le_of_ble_eq_true rfl) h (fun x24 V25 h => ?_)
      refine z_istore dX8_chase_149 (by decide) (L' := [(0, zrv a0), (2, ziv x19), (3, ziv a3), (4, ziv x11), (5, ziv x24)]) [1, 2, 3, 4, 0] rfl ?_
      obtain ⟨o26, h⟩ := h
      refine z_iinc 2 dX8_chase_151 rfl (by decide) o26 (L' := [(0, zrv a0), (2, ziv x19), (3, ziv (a3 + 1)), (4, ziv x11), (5, ziv x24)]) [1, 2, 0, 3, 4] rfl ?_
      refine z_goto (tgt := 99) dX8_chase_154 (by decide) ?_
      refine z_loc (L' := [(0, zrv a0), (2, ziv x19), (3, ziv (a3 + 1))]) [0, 1, 2] rfl ?_
      exact h
set_option maxRecDepth 100000 in
set_option maxHeartbeats 4000000 in
theorem en_X8_chase {E : zE} {F : Int → zH → Prop} {S : zS} {a0 : Int} {V : zH}
    (h : ∀ X : zX, ((S a0).1 = 11) ∧ SpF E 0 zm_X8_buttons [zrv a0] S V (fun x2 => SpF E 0 zm_X8_n [zrv a0] S V (fun x4 => ((x2 ≠ x4) → (zl_X8_chase_19 E X F S a0 0 0 V)) ∧ ((x2 = x4) → (zl_X8_chase_19 E X F S a0 1 0 V))))) :
    SpI E 5 zm_X8_chase [zrv a0] S V F := by
  refine Sp.of (plainFor_of_name (by decide +kernel)) (Nat.le_of_ble_eq_true rfl) (fun hok X => ?_)
  have h := h X
  show Zr E X (zRoom 5 0 0) zm_X8_chase (zQm E X (zpI S F) 0 0) 0 0 0 [(0, zrv a0)] [] S V
  refine z_aload_n 0 dX8_chase_0 rfl ?_
  obtain ⟨o1, h⟩ := h
  refine z_cVF [] (zk_RX8_89 _ rfl) dX8_chase_1 o1 (by decide) rfl rfl (Nat.le_of_ble_eq_true rfl) (Nat.le_of_ble_eq_true rfl) (Nat.le_of_ble_eq_true rfl) (Nat.le_of_ble_eq_true rfl) (Nat.le_of_ble_eq_true rfl) h (fun x2 h => ?_)
  refine z_aload_n 0 dX8_chase_4 rfl ?_
  refine z_cVF [] (zk_RX8_84 _ rfl) dX8_chase_5 o1 (by decide) rfl rfl (Nat.le_of_ble_eq_true rfl) (Nat.le_of_ble_eq_true rfl) (Nat.le_of_ble_eq_true rfl) (Nat.le_of_ble_eq_true rfl) (Nat.le_of_ble_eq_true rfl) h (fun x4 h => ?_)
  refine z_icmp_ne dX8_chase_8 (tgt := 15) (by decide) (fun c6 => ?_) (fun c6 => ?_)
  · have h := h.1 c6
    refine z_iconst dX8_chase_15 ⟨by decide, by decide⟩ ?_
    refine z_istore_n dX8_chase_16 (by decide) (L' := [(0, zrv a0), (1, ziv 0)]) [1, 0] rfl ?_
    refine z_iconst dX8_chase_17 ⟨by decide, by decide⟩ ?_
    refine z_istore_n dX8_chase_18 (by decide) (L' := [(0, zrv a0), (1, ziv 0), (2, ziv 0)]) [1, 2, 0] rfl ?_
    exact h
  · have h := h.2 c6
    refine z_iconst dX8_chase_11 ⟨by decide, by decide⟩ ?_
    refine z_goto (tgt := 16) dX8_chase_12 (by decide) ?_
    refine z_istore_n dX8_chase_16 (by decide) (L' := [(0, zrv a0), (1, ziv 1)]) [1, 0] rfl ?_
    refine z_iconst dX8_chase_17 ⟨by decide, by decide⟩ ?_
    refine z_istore_n dX8_chase_18 (by decide) (L' := [(0, zrv a0), (1, ziv 1), (2, ziv 0)]) [1, 2, 0] rfl ?_
    exact h
def zl_X8_undo_11 (E : zE) (X : zX) (F : Int → zH → Prop) (S : zS) (a0 a1 : Int) (V : zH) : Prop := Zr E X (zRoom 0 0 0) zm_X8_undo (zQm E X (zpI S F) 0 0) 0 0 11 [(0, zrv a0), (1, ziv a1)] [] S V
set_option maxRecDepth 100000 in
set_option maxHeartbeats 4000000 in
theorem wp_X8_undo_11 {E : zE} {X : zX} {F : Int → zH → Prop} {S : zS} {a0 a1 : Int} {V : zH}
    (h : ((1516 ≤ a1) → (((S a0).1 = 11) ∧ (z32 ((V a0 4) + 60)) ∧ (z32 (((V a0 4) + 60) - 1)) ∧ ((0 : Int) ≤ ((V a0 4) + 60) - 1) ∧ ∀ V6 : zH, V6 = zput V a0 4 ((((V a0 4) + 60) - 1) % 60) → (z32 ((V a0 5) - 1)) ∧ ∀ V9 : zH, V9 = zput V6 a0 5 ((V a0 5) - 1) → ∀ V11 : zH, V11 = zput V9 a0 19 0 → F ((V a0 5) - 1) V11)) ∧ ((a1 < 1516) → (((S a0).1 = 11) ∧ (z32 ((V a0 4) * 1516)) ∧ (z32 (((V a0 4) * 1516) + a1)) ∧ ((S (V a0 3)).1 = 1) ∧ ((0 : Int) ≤ ((V a0 4) * 1516) + a1 ∧ ((V a0 4) * 1516) + a1 < (S (V a0 3)).2) ∧ ((S (V a0 0)).1 = 1) ∧ ((0 : Int) ≤ a1 ∧ a1 < (S (V a0 0)).2) ∧ ∀ V20 : zH, V20 = zput V (V a0 0) a1 (V (V a0 3) (((V a0 4) * 1516) + a1)) → (z32 (a1 + 1)) ∧ zl_X8_undo_11 E X F S a0 (a1 + 1) V20))) :
    zl_X8_undo_11 E X F S a0 a1 V := by
  unfold zl_X8_undo_11
  refine z_iload_n 1 dX8_undo_11 rfl ?_
  refine z_sipush dX8_undo_12 ⟨by decide, by decide⟩ (by decide) ?_
  refine z_icmp_ge dX8_undo_15 (tgt := 45) (by decide) (fun c1 => ?_) (fun c1 => ?_)
  · have h := h.1 c1
    refine z_aload_n 0 dX8_undo_45 rfl ?_
    refine z_aload_n 0 dX8_undo_46 rfl ?_
    obtain ⟨o2, h⟩ := h
    refine zgf_8_4 dX8_undo_47 (zf_RX8_77 _ rfl) o2 ?_
    refine z_bipush dX8_undo_50 ⟨by decide, by decide⟩ (by decide) ?_
    obtain ⟨o3, h⟩ := h
    refine z_iadd dX8_undo_52 o3 ?_
    refine z_iconst dX8_undo_53 ⟨by decide, by decide⟩ ?_
    obtain ⟨o4, h⟩ := h
    refine z_isub dX8_undo_54 o4 ?_
    refine z_bipush dX8_undo_55 ⟨by decide, by decide⟩ (by decide) ?_
    obtain ⟨o5, h⟩ := h
    refine z_irem dX8_undo_57 o5 (by decide) ?_
    refine zpf_8_4 dX8_undo_58 (zf_RX8_77 _ rfl) o2 ?_
    refine z_nameV (fun V6 e7 => ?_)
    have h := h V6 e7
    refine z_aload_n 0 dX8_undo_61 rfl ?_
    refine z_dup (zref_cat _) dX8_undo_62 ?_
    refine zgf_8_5 dX8_undo_63 (zf_RX8_60 _ rfl) o2 ?_
    refine z_topI (zfr_j e7 (by decide)) ?_
    refine z_iconst dX8_undo_66 ⟨by decide, by decide⟩ ?_
    obtain ⟨o8, h⟩ := h
    refine z_isub dX8_undo_67 o8 ?_
    refine zpf_8_5 dX8_undo_68 (zf_RX8_60 _ rfl) o2 ?_
    refine z_nameV (fun V9 e10 => ?_)
    have h := h V9 e10
    refine z_aload_n 0 dX8_undo_71 rfl ?_
    refine z_iconst dX8_undo_72 ⟨by decide, by decide⟩ ?_
    refine zpf_8_19 dX8_undo_73 (zf_RX8_63 _ rfl) o2 (Or.inl rfl) ?_
    refine z_nameV (fun V11 e12 => ?_)
    have h := h V11 e12
    refine z_aload_n 0 dX8_undo_76 rfl ?_
    refine zgf_8_5 dX8_undo_77 (zf_RX8_60 _ rfl) o2 ?_
    refine z_topI ((zfr_j e12 (by decide)).trans (zfr_s e10)) ?_
    exact z_retI dX8_undo_80 rfl h
  · have h := h.2 c1
    refine z_aload_n 0 dX8_undo_18 rfl ?_
    obtain ⟨o13, h⟩ := h
    refine zgf_8_0 dX8_undo_19 (zf_RX8_9 _ rfl) o13 ?_
    refine z_iload_n 1 dX8_undo_22 rfl ?_
    refine z_aload_n 0 dX8_undo_23 rfl ?_
    refine zgf_8_3 dX8_undo_24 (zf_RX8_17 _ rfl) o13 ?_
    refine z_aload_n 0 dX8_undo_27 rfl ?_
    refine zgf_8_4 dX8_undo_28 (zf_RX8_77 _ rfl) o13 ?_
    refine z_sipush dX8_undo_31 ⟨by decide, by decide⟩ (by decide) ?_
    obtain ⟨o14, h⟩ := h
    refine z_imul dX8_undo_34 o14 ?_
    refine z_iload_n 1 dX8_undo_35 rfl ?_
    obtain ⟨o15, h⟩ := h
    refine z_iadd dX8_undo_36 o15 ?_
    obtain ⟨o16, h⟩ := h
    obtain ⟨o17, h⟩ := h
    refine z_iald dX8_undo_37 o16 o17 ?_
    obtain ⟨o18, h⟩ := h
    obtain ⟨o19, h⟩ := h
    refine z_iast dX8_undo_38 o18 o19 ?_
    refine z_nameV (fun V20 e21 => ?_)
    have h := h V20 e21
    obtain ⟨o22, h⟩ := h
    refine z_iinc 1 dX8_undo_39 rfl (by decide) o22 (L' := [(0, zrv a0), (1, ziv (a1 + 1))]) [1, 0] rfl ?_
    refine z_goto (tgt := 11) dX8_undo_42 (by decide) ?_
    exact h
set_option maxRecDepth 100000 in
set_option maxHeartbeats 4000000 in
theorem en_X8_undo {E : zE} {F : Int → zH → Prop} {S : zS} {a0 : Int} {V : zH}
    (h : ∀ X : zX, ((S a0).1 = 11) ∧ ((V a0 5 ≠ 0) → (zl_X8_undo_11 E X F S a0 0 V)) ∧ ((V a0 5 = 0) → (F (-1) V))) :
    SpI E 0 zm_X8_undo [zrv a0] S V F := by
  refine Sp.of (plainFor_of_name (by decide +kernel)) (Nat.le_of_ble_eq_true rfl) (fun hok X => ?_)
  have h := h X
  show Zr E X (zRoom 0 0 0) zm_X8_undo (zQm E X (zpI S F) 0 0) 0 0 0 [(0, zrv a0)] [] S V
  refine z_aload_n 0 dX8_undo_0 rfl ?_
  obtain ⟨o1, h⟩ := h
  refine zgf_8_5 dX8_undo_1 (zf_RX8_60 _ rfl) o1 ?_
  refine z_if_ne dX8_undo_4 (tgt := 9) (by decide) (fun c2 => ?_) (fun c2 => ?_)
  · have h := h.1 c2
    refine z_iconst dX8_undo_9 ⟨by decide, by decide⟩ ?_
    refine z_istore_n dX8_undo_10 (by decide) (L' := [(0, zrv a0), (1, ziv 0)]) [1, 0] rfl ?_
    exact h
  · have h := h.2 c2
    refine z_iconst dX8_undo_7 ⟨by decide, by decide⟩ ?_
    exact z_retI dX8_undo_8 rfl h
def zl_X8_keep_2 (E : zE) (X : zX) (F : Int → zH → Prop) (S : zS) (a0 a1 : Int) (V : zH) : Prop := Zr E X (zRoom 0 0 0) zm_X8_keep (zQm E X (zpI S F) 0 0) 0 0 2 [(0, zrv a0), (1, ziv a1)] [] S V
set_option maxRecDepth 100000 in
set_option maxHeartbeats 4000000 in
theorem wp_X8_keep_2 {E : zE} {X : zX} {F : Int → zH → Prop} {S : zS} {a0 a1 : Int} {V : zH}
    (h : ((1516 ≤ a1) → (((S a0).1 = 11) ∧ ∀ V3 : zH, V3 = zput V a0 2 1 → F 1 V3)) ∧ ((a1 < 1516) → (((S a0).1 = 11) ∧ ((S (V a0 0)).1 = 1) ∧ ((0 : Int) ≤ a1 ∧ a1 < (S (V a0 0)).2) ∧ ((S (V a0 1)).1 = 1) ∧ ((0 : Int) ≤ a1 ∧ a1 < (S (V a0 1)).2) ∧ ∀ V10 : zH, V10 = zput V (V a0 1) a1 (V (V a0 0) a1) → (z32 (a1 + 1)) ∧ zl_X8_keep_2 E X F S a0 (a1 + 1) V10))) :
    zl_X8_keep_2 E X F S a0 a1 V := by
  unfold zl_X8_keep_2
  refine z_iload_n 1 dX8_keep_2 rfl ?_
  refine z_sipush dX8_keep_3 ⟨by decide, by decide⟩ (by decide) ?_
  refine z_icmp_ge dX8_keep_6 (tgt := 27) (by decide) (fun c1 => ?_) (fun c1 => ?_)
  · have h := h.1 c1
    refine z_aload_n 0 dX8_keep_27 rfl ?_
    refine z_iconst dX8_keep_28 ⟨by decide, by decide⟩ ?_
    obtain ⟨o2, h⟩ := h
    refine zpf_8_2 dX8_keep_29 (zf_RX8_145 _ rfl) o2 (Or.inr rfl) ?_
    refine z_nameV (fun V3 e4 => ?_)
    have h := h V3 e4
    refine z_iconst dX8_keep_32 ⟨by decide, by decide⟩ ?_
    exact z_retZ dX8_keep_33 rfl (Or.inr rfl) h
  · have h := h.2 c1
    refine z_aload_n 0 dX8_keep_9 rfl ?_
    obtain ⟨o5, h⟩ := h
    refine zgf_8_1 dX8_keep_10 (zf_RX8_13 _ rfl) o5 ?_
    refine z_iload_n 1 dX8_keep_13 rfl ?_
    refine z_aload_n 0 dX8_keep_14 rfl ?_
    refine zgf_8_0 dX8_keep_15 (zf_RX8_9 _ rfl) o5 ?_
    refine z_iload_n 1 dX8_keep_18 rfl ?_
    obtain ⟨o6, h⟩ := h
    obtain ⟨o7, h⟩ := h
    refine z_iald dX8_keep_19 o6 o7 ?_
    obtain ⟨o8, h⟩ := h
    obtain ⟨o9, h⟩ := h
    refine z_iast dX8_keep_20 o8 o9 ?_
    refine z_nameV (fun V10 e11 => ?_)
    have h := h V10 e11
    obtain ⟨o12, h⟩ := h
    refine z_iinc 1 dX8_keep_21 rfl (by decide) o12 (L' := [(0, zrv a0), (1, ziv (a1 + 1))]) [1, 0] rfl ?_
    refine z_goto (tgt := 2) dX8_keep_24 (by decide) ?_
    exact h
set_option maxRecDepth 100000 in
set_option maxHeartbeats 4000000 in
theorem en_X8_keep {E : zE} {F : Int → zH → Prop} {S : zS} {a0 : Int} {V : zH}
    (h : ∀ X : zX, zl_X8_keep_2 E X F S a0 0 V) :
    SpI E 0 zm_X8_keep [zrv a0] S V F := by
  refine Sp.of (plainFor_of_name (by decide +kernel)) (Nat.le_of_ble_eq_true rfl) (fun hok X => ?_)
  have h := h X
  show Zr E X (zRoom 0 0 0) zm_X8_keep (zQm E X (zpI S F) 0 0) 0 0 0 [(0, zrv a0)] [] S V
  refine z_iconst dX8_keep_0 ⟨by decide, by decide⟩ ?_
  refine z_istore_n dX8_keep_1 (by decide) (L' := [(0, zrv a0), (1, ziv 0)]) [1, 0] rfl ?_
  exact h
def zl_X8_back_11 (E : zE) (X : zX) (F : Int → zH → Prop) (S : zS) (a0 a1 : Int) (V : zH) : Prop := Zr E X (zRoom 0 0 0) zm_X8_back (zQm E X (zpI S F) 0 0) 0 0 11 [(0, zrv a0), (1, ziv a1)] [] S V
set_option maxRecDepth 100000 in
set_option maxHeartbeats 4000000 in
theorem wp_X8_back_11 {E : zE} {X : zX} {F : Int → zH → Prop} {S : zS} {a0 a1 : Int} {V : zH}
    (h : ((1516 ≤ a1) → (((S a0).1 = 11) ∧ ∀ V3 : zH, V3 = zput V a0 5 0 → ∀ V5 : zH, V5 = zput V3 a0 19 0 → F 1 V5)) ∧ ((a1 < 1516) → (((S a0).1 = 11) ∧ ((S (V a0 1)).1 = 1) ∧ ((0 : Int) ≤ a1 ∧ a1 < (S (V a0 1)).2) ∧ ((S (V a0 0)).1 = 1) ∧ ((0 : Int) ≤ a1 ∧ a1 < (S (V a0 0)).2) ∧ ∀ V12 : zH, V12 = zput V (V a0 0) a1 (V (V a0 1) a1) → (z32 (a1 + 1)) ∧ zl_X8_back_11 E X F S a0 (a1 + 1) V12))) :
    zl_X8_back_11 E X F S a0 a1 V := by
  unfold zl_X8_back_11
  refine z_iload_n 1 dX8_back_11 rfl ?_
  refine z_sipush dX8_back_12 ⟨by decide, by decide⟩ (by decide) ?_
  refine z_icmp_ge dX8_back_15 (tgt := 36) (by decide) (fun c1 => ?_) (fun c1 => ?_)
  · have h := h.1 c1
    refine z_aload_n 0 dX8_back_36 rfl ?_
    refine z_iconst dX8_back_37 ⟨by decide, by decide⟩ ?_
    obtain ⟨o2, h⟩ := h
    refine zpf_8_5 dX8_back_38 (zf_RX8_60 _ rfl) o2 ?_
    refine z_nameV (fun V3 e4 => ?_)
    have h := h V3 e4
    refine z_aload_n 0 dX8_back_41 rfl ?_
    refine z_iconst dX8_back_42 ⟨by decide, by decide⟩ ?_
    refine zpf_8_19 dX8_back_43 (zf_RX8_63 _ rfl) o2 (Or.inl rfl) ?_
    refine z_nameV (fun V5 e6 => ?_)
    have h := h V5 e6
    refine z_iconst dX8_back_46 ⟨by decide, by decide⟩ ?_
    exact z_retZ dX8_back_47 rfl (Or.inr rfl) h
  · have h := h.2 c1
    refine z_aload_n 0 dX8_back_18 rfl ?_
    obtain ⟨o7, h⟩ := h
    refine zgf_8_0 dX8_back_19 (zf_RX8_9 _ rfl) o7 ?_
    refine z_iload_n 1 dX8_back_22 rfl ?_
    refine z_aload_n 0 dX8_back_23 rfl ?_
    refine zgf_8_1 dX8_back_24 (zf_RX8_13 _ rfl) o7 ?_
    refine z_iload_n 1 dX8_back_27 rfl ?_
    obtain ⟨o8, h⟩ := h
    obtain ⟨o9, h⟩ := h
    refine z_iald dX8_back_28 o8 o9 ?_
    obtain ⟨o10, h⟩ := h
    obtain ⟨o11, h⟩ := h
    refine z_iast dX8_back_29 o10 o11 ?_
    refine z_nameV (fun V12 e13 => ?_)
    have h := h V12 e13
    obtain ⟨o14, h⟩ := h
    refine z_iinc 1 dX8_back_30 rfl (by decide) o14 (L' := [(0, zrv a0), (1, ziv (a1 + 1))]) [1, 0] rfl ?_
    refine z_goto (tgt := 11) dX8_back_33 (by decide) ?_
    exact h
set_option maxRecDepth 100000 in
set_option maxHeartbeats 4000000 in
theorem en_X8_back {E : zE} {F : Int → zH → Prop} {S : zS} {a0 : Int} {V : zH}
    (h : ∀ X : zX, ((S a0).1 = 11) ∧ ((V a0 2 ≠ 0) → (zl_X8_back_11 E X F S a0 0 V)) ∧ ((V a0 2 = 0) → (F 0 V))) :
    SpI E 0 zm_X8_back [zrv a0] S V F := by
  refine Sp.of (plainFor_of_name (by decide +kernel)) (Nat.le_of_ble_eq_true rfl) (fun hok X => ?_)
  have h := h X
  show Zr E X (zRoom 0 0 0) zm_X8_back (zQm E X (zpI S F) 0 0) 0 0 0 [(0, zrv a0)] [] S V
  refine z_aload_n 0 dX8_back_0 rfl ?_
  obtain ⟨o1, h⟩ := h
  refine zgf_8_2 dX8_back_1 (zf_RX8_145 _ rfl) o1 ?_
  refine z_if_ne dX8_back_4 (tgt := 9) (by decide) (fun c2 => ?_) (fun c2 => ?_)
  · have h := h.1 c2
    refine z_iconst dX8_back_9 ⟨by decide, by decide⟩ ?_
    refine z_istore_n dX8_back_10 (by decide) (L' := [(0, zrv a0), (1, ziv 0)]) [1, 0] rfl ?_
    exact h
  · have h := h.2 c2
    refine z_iconst dX8_back_7 ⟨by decide, by decide⟩ ?_
    exact z_retZ dX8_back_8 rfl (Or.inl rfl) h
def zl_X8_count_7 (E : zE) (X : zX) (F : Int → Prop) (S : zS) (a0 a1 a2 a3 a4 : Int) (V : zH) : Prop := Zr E X (zRoom 1 0 0) zm_X8_count (zQm E X (zpF S V F) 0 0) 0 0 7 [(0, zrv a0), (1, ziv a1), (2, ziv a2), (3, ziv a3), (4, ziv a4)] [] S V
set_option maxRecDepth 100000 in
set_option maxHeartbeats 4000000 in
theorem wp_X8_count_7 {E : zE} {X : zX} {F : Int → Prop} {S : zS} {a0 a1 a2 a3 a4 : Int} {V : zH}
    (h : ((S a0).1 = 11) ∧ SpF E 0 zm_X8_n [zrv a0] S V (fun x2 => ((x2 ≤ a4) → (((a1 = 0) → (SpF E 0 zm_X8_n [zrv a0] S V (fun x6 => F x6))) ∧ ((a1 = 1) → (SpF E 0 zm_X8_m [zrv a0] S V (fun x9 => F x9))) ∧ ((a1 = 2) → (SpF E 0 zm_X8_w [zrv a0] S V (fun x12 => F x12))) ∧ ((a1 = 3) → (SpF E 0 zm_X8_buttons [zrv a0] S V (fun x15 => F x15))) ∧ ((a1 = 4) → (F (V a0 5))) ∧ ((a1 = 5) → (F a2)) ∧ ((a1 = 6) → (F a3)) ∧ ((a1 = 7) → (((0 ≤ V a0 6) → (F (V a0 7))) ∧ ((V a0 6 < 0) → (F (-1))))) ∧ ((a1 < 0 ∨ 7 < a1) → (F (-1))))) ∧ ((a4 < x2) → ((z32 (4 + a4)) ∧ ((S (V a0 0)).1 = 1) ∧ ((0 : Int) ≤ 4 + a4 ∧ 4 + a4 < (S (V a0 0)).2) ∧ ((V (V a0 0) (4 + a4) = 0) → ((z32 (a2 + 0)) ∧ (z32 (a3 + (V (V a0 0) (4 + a4)))) ∧ ∀ x28 : Int, x28 = a3 + (V (V a0 0) (4 + a4)) → (z32 (a4 + 1)) ∧ zl_X8_count_7 E X F S a0 a1 (a2 + 0) x28 (a4 + 1) V)) ∧ ((V (V a0 0) (4 + a4) ≠ 0) → ((z32 (a2 + 1)) ∧ (z32 (a3 + (V (V a0 0) (4 + a4)))) ∧ ∀ x33 : Int, x33 = a3 + (V (V a0 0) (4 + a4)) → (z32 (a4 + 1)) ∧ zl_X8_count_7 E X F S a0 a1 (a2 + 1) x33 (a4 + 1) V)))))) :
    zl_X8_count_7 E X F S a0 a1 a2 a3 a4 V := by
  unfold zl_X8_count_7
  refine z_iload 4 dX8_count_7 rfl ?_
  refine z_aload_n 0 dX8_count_9 rfl ?_
  obtain ⟨o1, h⟩ := h
  refine z_cVF [] (zk_RX8_84 _ rfl) dX8_count_10 o1 (by decide) rfl rfl (Nat.le_of_ble_eq_true rfl) (Nat.le_of_ble_eq_true rfl) (Nat.le_of_ble_eq_true rfl) (Nat.le_of_ble_eq_true rfl) (Nat.le_of_ble_eq_true rfl) h (fun x2 h => ?_)
  refine z_icmp_ge dX8_count_13 (tgt := 54) (by decide) (fun c4 => ?_) (fun c4 => ?_)
  · have h := h.1 c4
    refine z_iload_n 1 dX8_count_54 rfl ?_
    by_cases c5 : a1 = 0
    · have h := h.1 c5
      refine z_tableIn dX8_count_55 (by omega) (off := 45) (by rw [c5]; rfl) (tgt := 100) (by decide) ?_
      refine z_aload_n 0 dX8_count_100 rfl ?_
      refine z_cVF [] (zk_RX8_84 _ rfl) dX8_count_101 o1 (by decide) rfl rfl (Nat.le_of_ble_eq_true rfl) (Nat.le_of_ble_eq_true rfl) (Nat.le_of_ble_eq_true rfl) (Nat.le_of_ble_eq_true rfl) (Nat.le_of_ble_eq_true rfl) h (fun x6 h => ?_)
      exact z_retFI dX8_count_104 rfl h
    by_cases c8 : a1 = 1
    · have h := h.2.1 c8
      refine z_tableIn dX8_count_55 (by omega) (off := 50) (by rw [c8]; rfl) (tgt := 105) (by decide) ?_
      refine z_aload_n 0 dX8_count_105 rfl ?_
      refine z_cVF [] (zk_RX8_96 _ rfl) dX8_count_106 o1 (by decide) rfl rfl (Nat.le_of_ble_eq_true rfl) (Nat.le_of_ble_eq_true rfl) (Nat.le_of_ble_eq_true rfl) (Nat.le_of_ble_eq_true rfl) (Nat.le_of_ble_eq_true rfl) h (fun x9 h => ?_)
      exact z_retFI dX8_count_109 rfl h
    by_cases c11 : a1 = 2
    · have h := h.2.2.1 c11
      refine z_tableIn dX8_count_55 (by omega) (off := 55) (by rw [c11]; rfl) (tgt := 110) (by decide) ?_
      refine z_aload_n 0 dX8_count_110 rfl ?_
      refine z_cVF [] (zk_RX8_80 _ rfl) dX8_count_111 o1 (by decide) rfl rfl (Nat.le_of_ble_eq_true rfl) (Nat.le_of_ble_eq_true rfl) (Nat.le_of_ble_eq_true rfl) (Nat.le_of_ble_eq_true rfl) (Nat.le_of_ble_eq_true rfl) h (fun x12 h => ?_)
      exact z_retFI dX8_count_114 rfl h
    by_cases c14 : a1 = 3
    · have h := h.2.2.2.1 c14
      refine z_tableIn dX8_count_55 (by omega) (off := 60) (by rw [c14]; rfl) (tgt := 115) (by decide) ?_
      refine z_aload_n 0 dX8_count_115 rfl ?_
      refine z_cVF [] (zk_RX8_89 _ rfl) dX8_count_116 o1 (by decide) rfl rfl (Nat.le_of_ble_eq_true rfl) (Nat.le_of_ble_eq_true rfl) (Nat.le_of_ble_eq_true rfl) (Nat.le_of_ble_eq_true rfl) (Nat.le_of_ble_eq_true rfl) h (fun x15 h => ?_)
      exact z_retFI dX8_count_119 rfl h
    by_cases c17 : a1 = 4
    · have h := h.2.2.2.2.1 c17
      refine z_tableIn dX8_count_55 (by omega) (off := 65) (by rw [c17]; rfl) (tgt := 120) (by decide) ?_
      refine z_aload_n 0 dX8_count_120 rfl ?_
      refine zgf_8_5 dX8_count_121 (zf_RX8_60 _ rfl) o1 ?_
      exact z_retFI dX8_count_124 rfl h
    by_cases c18 : a1 = 5
    · have h := h.2.2.2.2.2.1 c18
      refine z_tableIn dX8_count_55 (by omega) (off := 70) (by rw [c18]; rfl) (tgt := 125) (by decide) ?_
      refine z_iload_n 2 dX8_count_125 rfl ?_
      exact z_retFI dX8_count_126 rfl h
    by_cases c19 : a1 = 6
    · have h := h.2.2.2.2.2.2.1 c19
      refine z_tableIn dX8_count_55 (by omega) (off := 72) (by rw [c19]; rfl) (tgt := 127) (by decide) ?_
      refine z_iload_n 3 dX8_count_127 rfl ?_
      exact z_retFI dX8_count_128 rfl h
    by_cases c20 : a1 = 7
    · have h := h.2.2.2.2.2.2.2.1 c20
      refine z_tableIn dX8_count_55 (by omega) (off := 74) (by rw [c20]; rfl) (tgt := 129) (by decide) ?_
      refine z_aload_n 0 dX8_count_129 rfl ?_
      refine zgf_8_6 dX8_count_130 (zf_RX8_20 _ rfl) o1 ?_
      refine z_if_ge dX8_count_133 (tgt := 140) (by decide) (fun c21 => ?_) (fun c21 => ?_)
      · have h := h.1 c21
        refine z_aload_n 0 dX8_count_140 rfl ?_
        refine zgf_8_7 dX8_count_141 (zf_RX8_104 _ rfl) o1 ?_
        exact z_retFI dX8_count_144 rfl h
      · have h := h.2 c21
        refine z_iconst dX8_count_136 ⟨by decide, by decide⟩ ?_
        refine z_goto (tgt := 144) dX8_count_137 (by decide) ?_
        exact z_retFI dX8_count_144 rfl h
    have h := h.2.2.2.2.2.2.2.2 (by omega)
    refine z_tableOut dX8_count_55 (by omega) (tgt := 145) (by decide) ?_
    refine z_iconst dX8_count_145 ⟨by decide, by decide⟩ ?_
    exact z_retFI dX8_count_146 rfl h
  · have h := h.2 c4
    refine z_iload_n 2 dX8_count_16 rfl ?_
    refine z_aload_n 0 dX8_count_17 rfl ?_
    refine zgf_8_0 dX8_count_18 (zf_RX8_9 _ rfl) o1 ?_
    refine z_iconst dX8_count_21 ⟨by decide, by decide⟩ ?_
    refine z_iload 4 dX8_count_22 rfl ?_
    obtain ⟨o22, h⟩ := h
    refine z_iadd dX8_count_24 o22 ?_
    obtain ⟨o23, h⟩ := h
    obtain ⟨o24, h⟩ := h
    refine z_iald dX8_count_25 o23 o24 ?_
    refine z_if_eq dX8_count_26 (tgt := 33) (by decide) (fun c25 => ?_) (fun c25 => ?_)
    · have h := h.1 c25
      refine z_iconst dX8_count_33 ⟨by decide, by decide⟩ ?_
      obtain ⟨o26, h⟩ := h
      refine z_iadd dX8_count_34 o26 ?_
      refine z_istore_n dX8_count_35 (by decide) (L' := [(0, zrv a0), (1, ziv a1), (2, ziv (a2 + 0)), (3, ziv a3), (4, ziv a4)]) [1, 2, 0, 3, 4] rfl ?_
      refine z_iload_n 3 dX8_count_36 rfl ?_
      refine z_aload_n 0 dX8_count_37 rfl ?_
      refine zgf_8_0 dX8_count_38 (zf_RX8_9 _ rfl) o1 ?_
      refine z_iconst dX8_count_41 ⟨by decide, by decide⟩ ?_
      refine z_iload 4 dX8_count_42 rfl ?_
      refine z_iadd dX8_count_44 o22 ?_
      refine z_iald dX8_count_45 o23 o24 ?_
      obtain ⟨o27, h⟩ := h
      refine z_iadd dX8_count_46 o27 ?_
      refine z_nameI (fun x28 e29 => ?_)
      have h := h x28 e29
      refine z_istore_n dX8_count_47 (by decide) (L' := [(0, zrv a0), (1, ziv a1), (2, ziv (a2 + 0)), (3, ziv x28), (4, ziv a4)]) [1, 2, 3, 0, 4] rfl ?_
      obtain ⟨o30, h⟩ := h
      refine z_iinc 4 dX8_count_48 rfl (by decide) o30 (L' := [(0, zrv a0), (1, ziv a1), (2, ziv (a2 + 0)), (3, ziv x28), (4, ziv (a4 + 1))]) [1, 2, 3, 4, 0] rfl ?_
      refine z_goto (tgt := 7) dX8_count_51 (by decide) ?_
      exact h
    · have h := h.2 c25
      refine z_iconst dX8_count_29 ⟨by decide, by decide⟩ ?_
      refine z_goto (tgt := 34) dX8_count_30 (by decide) ?_
      obtain ⟨o31, h⟩ := h
      refine z_iadd dX8_count_34 o31 ?_
      refine z_istore_n dX8_count_35 (by decide) (L' := [(0, zrv a0), (1, ziv a1), (2, ziv (a2 + 1)), (3, ziv a3), (4, ziv a4)]) [1, 2, 0, 3, 4] rfl ?_
      refine z_iload_n 3 dX8_count_36 rfl ?_
      refine z_aload_n 0 dX8_count_37 rfl ?_
      refine zgf_8_0 dX8_count_38 (zf_RX8_9 _ rfl) o1 ?_
      refine z_iconst dX8_count_41 ⟨by decide, by decide⟩ ?_
      refine z_iload 4 dX8_count_42 rfl ?_
      refine z_iadd dX8_count_44 o22 ?_
      refine z_iald dX8_count_45 o23 o24 ?_
      obtain ⟨o32, h⟩ := h
      refine z_iadd dX8_count_46 o32 ?_
      refine z_nameI (fun x33 e34 => ?_)
      have h := h x33 e34
      refine z_istore_n dX8_count_47 (by decide) (L' := [(0, zrv a0), (1, ziv a1), (2, ziv (a2 + 1)), (3, ziv x33), (4, ziv a4)]) [1, 2, 3, 0, 4] rfl ?_
      obtain ⟨o35, h⟩ := h
      refine z_iinc 4 dX8_count_48 rfl (by decide) o35 (L' := [(0, zrv a0), (1, ziv a1), (2, ziv (a2 + 1)), (3, ziv x33), (4, ziv (a4 + 1))]) [1, 2, 3, 4, 0] rfl ?_
      refine z_goto (tgt := 7) dX8_count_51 (by decide) ?_
      exact h
set_option maxRecDepth 100000 in
set_option maxHeartbeats 4000000 in
theorem en_X8_count {E : zE} {F : Int → Prop} {S : zS} {a0 a1 : Int} {V : zH}
    (h : z32 a1 → ∀ X : zX, zl_X8_count_7 E X F S a0 a1 0 0 0 V) :
    SpF E 1 zm_X8_count [zrv a0, ziv a1] S V F := by
  refine Sp.of (plainFor_of_name (by decide +kernel)) (Nat.le_of_ble_eq_true rfl) (fun hok X => ?_)
  have h := h (hok _ (List.mem_cons_of_mem _ (List.mem_cons_self))) X
  show Zr E X (zRoom 1 0 0) zm_X8_count (zQm E X (zpF S V F) 0 0) 0 0 0 [(0, zrv a0), (1, ziv a1)] [] S V
  refine z_iconst dX8_count_0 ⟨by decide, by decide⟩ ?_
  refine z_istore_n dX8_count_1 (by decide) (L' := [(0, zrv a0), (1, ziv a1), (2, ziv 0)]) [1, 2, 0] rfl ?_
  refine z_iconst dX8_count_2 ⟨by decide, by decide⟩ ?_
  refine z_istore_n dX8_count_3 (by decide) (L' := [(0, zrv a0), (1, ziv a1), (2, ziv 0), (3, ziv 0)]) [1, 2, 3, 0] rfl ?_
  refine z_iconst dX8_count_4 ⟨by decide, by decide⟩ ?_
  refine z_istore dX8_count_5 (by decide) (L' := [(0, zrv a0), (1, ziv a1), (2, ziv 0), (3, ziv 0), (4, ziv 0)]) [1, 2, 3, 4, 0] rfl ?_
  exact h
set_option maxRecDepth 100000 in
set_option maxHeartbeats 4000000 in
theorem en_X8_shown {E : zE} {F : Int → Prop} {S : zS} {a0 a1 : Int} {V : zH}
    (h : z32 a1 → ((S a0).1 = 11) ∧ SpF E 0 zm_X8_n [zrv a0] S V (fun x2 => (z32 (x2 - 1)) ∧ SpF E 0 zm_X8_in [zjv a1, zjv 0, zjv (x2 - 1)] S V (fun x5 => ((x5 = 0) → (F (-1))) ∧ ((x5 ≠ 0) → ((z32 (4 + a1)) ∧ ((S (V a0 0)).1 = 1) ∧ ((0 : Int) ≤ 4 + a1 ∧ 4 + a1 < (S (V a0 0)).2) ∧ F (V (V a0 0) (4 + a1))))))) :
    SpF E 1 zm_X8_shown [zrv a0, ziv a1] S V F := by
  refine Sp.of (plainFor_of_name (by decide +kernel)) (Nat.le_of_ble_eq_true rfl) (fun hok X => ?_)
  have h := h (hok _ (List.mem_cons_of_mem _ (List.mem_cons_self)))
  show Zr E X (zRoom 1 0 0) zm_X8_shown (zQm E X (zpF S V F) 0 0) 0 0 0 [(0, zrv a0), (1, ziv a1)] [] S V
  refine z_iload_n 1 dX8_shown_0 rfl ?_
  refine z_i2l dX8_shown_1 ?_
  refine z_lconst (v := 0) dX8_shown_2 (by decide) ⟨by decide, by decide⟩ ?_
  refine z_aload_n 0 dX8_shown_3 rfl ?_
  obtain ⟨o1, h⟩ := h
  refine z_cVF [] (zk_RX8_84 _ rfl) dX8_shown_4 o1 (by decide) rfl rfl (Nat.le_of_ble_eq_true rfl) (Nat.le_of_ble_eq_true rfl) (Nat.le_of_ble_eq_true rfl) (Nat.le_of_ble_eq_true rfl) (Nat.le_of_ble_eq_true rfl) h (fun x2 h => ?_)
  refine z_iconst dX8_shown_7 ⟨by decide, by decide⟩ ?_
  obtain ⟨o4, h⟩ := h
  refine z_isub dX8_shown_8 o4 ?_
  refine z_i2l dX8_shown_9 ?_
  refine z_cSF [zjv a1, zjv 0, zjv (x2 - 1)] (zk_RX8_69 _ rfl) dX8_shown_10 rfl rfl (Nat.le_of_ble_eq_true rfl) (Nat.le_of_ble_eq_true rfl) (Nat.le_of_ble_eq_true rfl) (Nat.le_of_ble_eq_true rfl) (Nat.le_of_ble_eq_true rfl) h (fun x5 h => ?_)
  refine z_if_eq dX8_shown_13 (tgt := 27) (by decide) (fun c7 => ?_) (fun c7 => ?_)
  · have h := h.1 c7
    refine z_iconst dX8_shown_27 ⟨by decide, by decide⟩ ?_
    exact z_retFI dX8_shown_28 rfl h
  · have h := h.2 c7
    refine z_aload_n 0 dX8_shown_16 rfl ?_
    refine zgf_8_0 dX8_shown_17 (zf_RX8_9 _ rfl) o1 ?_
    refine z_iconst dX8_shown_20 ⟨by decide, by decide⟩ ?_
    refine z_iload_n 1 dX8_shown_21 rfl ?_
    obtain ⟨o8, h⟩ := h
    refine z_iadd dX8_shown_22 o8 ?_
    obtain ⟨o9, h⟩ := h
    obtain ⟨o10, h⟩ := h
    refine z_iald dX8_shown_23 o9 o10 ?_
    refine z_goto (tgt := 28) dX8_shown_24 (by decide) ?_
    exact z_retFI dX8_shown_28 rfl h
set_option maxRecDepth 100000 in
set_option maxHeartbeats 4000000 in
theorem en_X8_step {E : zE} {F : Int → Prop} {S : zS} {a0 a1 a2 : Int} {V : zH}
    (h : z32 a1 → z32 a2 → ((S a0).1 = 11) ∧ SpF E 1 zm_X8_isButton [zrv a0, ziv a1] S V (fun x2 => ((x2 = 0) → (F (-1))) ∧ ((x2 ≠ 0) → (SpF E 0 zm_X8_n [zrv a0] S V (fun x5 => (z32 (x5 - 1)) ∧ SpF E 0 zm_X8_in [zjv a2, zjv 0, zjv (x5 - 1)] S V (fun x8 => ((x8 = 0) → (F (-1))) ∧ ((x8 ≠ 0) → (SpF E 3 zm_X8_steps [zrv a0, ziv a1, ziv a2] S V (fun x11 => F x11))))))))) :
    SpF E 4 zm_X8_step [zrv a0, ziv a1, ziv a2] S V F := by
  refine Sp.of (plainFor_of_name (by decide +kernel)) (Nat.le_of_ble_eq_true rfl) (fun hok X => ?_)
  have h := h (hok _ (List.mem_cons_of_mem _ (List.mem_cons_self))) (hok _ (List.mem_cons_of_mem _ (List.mem_cons_of_mem _ (List.mem_cons_self))))
  show Zr E X (zRoom 4 0 0) zm_X8_step (zQm E X (zpF S V F) 0 0) 0 0 0 [(0, zrv a0), (1, ziv a1), (2, ziv a2)] [] S V
  refine z_aload_n 0 dX8_step_0 rfl ?_
  refine z_iload_n 1 dX8_step_1 rfl ?_
  obtain ⟨o1, h⟩ := h
  refine z_cVF [ziv a1] (zk_RX8_115 _ rfl) dX8_step_2 o1 (by decide) rfl rfl (Nat.le_of_ble_eq_true rfl) (Nat.le_of_ble_eq_true rfl) (Nat.le_of_ble_eq_true rfl) (Nat.le_of_ble_eq_true rfl) (Nat.le_of_ble_eq_true rfl) h (fun x2 h => ?_)
  refine z_if_eq dX8_step_5 (tgt := 33) (by decide) (fun c4 => ?_) (fun c4 => ?_)
  · have h := h.1 c4
    refine z_iconst dX8_step_33 ⟨by decide, by decide⟩ ?_
    exact z_retFI dX8_step_34 rfl h
  · have h := h.2 c4
    refine z_iload_n 2 dX8_step_8 rfl ?_
    refine z_i2l dX8_step_9 ?_
    refine z_lconst (v := 0) dX8_step_10 (by decide) ⟨by decide, by decide⟩ ?_
    refine z_aload_n 0 dX8_step_11 rfl ?_
    refine z_cVF [] (zk_RX8_84 _ rfl) dX8_step_12 o1 (by decide) rfl rfl (Nat.le_of_ble_eq_true rfl) (Nat.le_of_ble_eq_true rfl) (Nat.le_of_ble_eq_true rfl) (Nat.le_of_ble_eq_true rfl) (Nat.le_of_ble_eq_true rfl) h (fun x5 h => ?_)
    refine z_iconst dX8_step_15 ⟨by decide, by decide⟩ ?_
    obtain ⟨o7, h⟩ := h
    refine z_isub dX8_step_16 o7 ?_
    refine z_i2l dX8_step_17 ?_
    refine z_cSF [zjv a2, zjv 0, zjv (x5 - 1)] (zk_RX8_69 _ rfl) dX8_step_18 rfl rfl (Nat.le_of_ble_eq_true rfl) (Nat.le_of_ble_eq_true rfl) (Nat.le_of_ble_eq_true rfl) (Nat.le_of_ble_eq_true rfl) (Nat.le_of_ble_eq_true rfl) h (fun x8 h => ?_)
    refine z_if_eq dX8_step_21 (tgt := 33) (by decide) (fun c10 => ?_) (fun c10 => ?_)
    · have h := h.1 c10
      refine z_iconst dX8_step_33 ⟨by decide, by decide⟩ ?_
      exact z_retFI dX8_step_34 rfl h
    · have h := h.2 c10
      refine z_aload_n 0 dX8_step_24 rfl ?_
      refine z_iload_n 1 dX8_step_25 rfl ?_
      refine z_iload_n 2 dX8_step_26 rfl ?_
      refine z_cVF [ziv a1, ziv a2] (zk_RX8_134 _ rfl) dX8_step_27 o1 (by decide) rfl rfl (Nat.le_of_ble_eq_true rfl) (Nat.le_of_ble_eq_true rfl) (Nat.le_of_ble_eq_true rfl) (Nat.le_of_ble_eq_true rfl) (Nat.le_of_ble_eq_true rfl) h (fun x11 h => ?_)
      refine z_goto (tgt := 34) dX8_step_30 (by decide) ?_
      exact z_retFI dX8_step_34 rfl h
def zl_X8_whole_7 (E : zE) (X : zX) (F : zH → Prop) (S : zS) (a0 a2 : Int) (V : zH) : Prop := Zr E X (zRoom 0 0 0) zm_X8_whole (zQm E X (zpV S F) 0 0) 0 0 7 [(0, zrv a0), (2, ziv a2)] [] S V
def zl_X8_whole_29 (E : zE) (X : zX) (F : zH → Prop) (S : zS) (a0 a2 : Int) (V : zH) : Prop := Zr E X (zRoom 0 0 0) zm_X8_whole (zQm E X (zpV S F) 0 0) 0 0 29 [(0, zrv a0), (2, ziv a2)] [] S V
set_option maxRecDepth 100000 in
set_option maxHeartbeats 4000000 in
theorem wp_X8_whole_7 {E : zE} {X : zX} {F : zH → Prop} {S : zS} {a0 a2 : Int} {V : zH}
    (h : ((1369 ≤ a2) → (zl_X8_whole_29 E X F S a0 0 V)) ∧ ((a2 < 1369) → (((S a0).1 = 11) ∧ ((S (V a0 9)).1 = 1) ∧ ((0 : Int) ≤ a2 ∧ a2 < (S (V a0 9)).2) ∧ ∀ V5 : zH, V5 = zput V (V a0 9) a2 0 → (z32 (a2 + 1)) ∧ zl_X8_whole_7 E X F S a0 (a2 + 1) V5))) :
    zl_X8_whole_7 E X F S a0 a2 V := by
  unfold zl_X8_whole_7
  refine z_iload_n 1 dX8_whole_7 rfl ?_
  refine z_sipush dX8_whole_8 ⟨by decide, by decide⟩ (by decide) ?_
  refine z_icmp_ge dX8_whole_11 (tgt := 27) (by decide) (fun c1 => ?_) (fun c1 => ?_)
  · have h := h.1 c1
    refine z_iconst dX8_whole_27 ⟨by decide, by decide⟩ ?_
    refine z_istore_n dX8_whole_28 (by decide) (L' := [(0, zrv a0), (2, ziv 0)]) [1, 0] rfl ?_
    exact h
  · have h := h.2 c1
    refine z_aload_n 0 dX8_whole_14 rfl ?_
    obtain ⟨o2, h⟩ := h
    refine zgf_8_9 dX8_whole_15 (zf_RX8_28 _ rfl) o2 ?_
    refine z_iload_n 1 dX8_whole_18 rfl ?_
    refine z_iconst dX8_whole_19 ⟨by decide, by decide⟩ ?_
    obtain ⟨o3, h⟩ := h
    obtain ⟨o4, h⟩ := h
    refine z_iast dX8_whole_20 o3 o4 ?_
    refine z_nameV (fun V5 e6 => ?_)
    have h := h V5 e6
    obtain ⟨o7, h⟩ := h
    refine z_iinc 1 dX8_whole_21 rfl (by decide) o7 (L' := [(0, zrv a0), (2, ziv (a2 + 1))]) [1, 0] rfl ?_
    refine z_goto (tgt := 7) dX8_whole_24 (by decide) ?_
    exact h
set_option maxRecDepth 100000 in
set_option maxHeartbeats 4000000 in
theorem wp_X8_whole_29 {E : zE} {X : zX} {F : zH → Prop} {S : zS} {a0 a2 : Int} {V : zH}
    (h : ((S a0).1 = 11) ∧ ((V a0 10 ≤ a2) → (F V)) ∧ ((a2 < V a0 10) → ((z32 (37 * a2)) ∧ (z32 ((37 * a2) + a2)) ∧ ((S (V a0 9)).1 = 1) ∧ ((0 : Int) ≤ (37 * a2) + a2 ∧ (37 * a2) + a2 < (S (V a0 9)).2) ∧ ∀ V7 : zH, V7 = zput V (V a0 9) ((37 * a2) + a2) 1 → ((S (V a0 11)).1 = 1) ∧ ((0 : Int) ≤ a2 ∧ a2 < (S (V a0 11)).2) ∧ ∀ V11 : zH, V11 = zput V7 (V a0 11) a2 0 → (z32 (a2 + 1)) ∧ zl_X8_whole_29 E X F S a0 (a2 + 1) V11))) :
    zl_X8_whole_29 E X F S a0 a2 V := by
  unfold zl_X8_whole_29
  refine z_iload_n 1 dX8_whole_29 rfl ?_
  refine z_aload_n 0 dX8_whole_30 rfl ?_
  obtain ⟨o1, h⟩ := h
  refine zgf_8_10 dX8_whole_31 (zf_RX8_148 _ rfl) o1 ?_
  refine z_icmp_ge dX8_whole_34 (tgt := 62) (by decide) (fun c2 => ?_) (fun c2 => ?_)
  · have h := h.1 c2
    exact z_retV dX8_whole_62 rfl h
  · have h := h.2 c2
    refine z_aload_n 0 dX8_whole_37 rfl ?_
    refine zgf_8_9 dX8_whole_38 (zf_RX8_28 _ rfl) o1 ?_
    refine z_bipush dX8_whole_41 ⟨by decide, by decide⟩ (by decide) ?_
    refine z_iload_n 1 dX8_whole_43 rfl ?_
    obtain ⟨o3, h⟩ := h
    refine z_imul dX8_whole_44 o3 ?_
    refine z_iload_n 1 dX8_whole_45 rfl ?_
    obtain ⟨o4, h⟩ := h
    refine z_iadd dX8_whole_46 o4 ?_
    refine z_iconst dX8_whole_47 ⟨by decide, by decide⟩ ?_
    obtain ⟨o5, h⟩ := h
    obtain ⟨o6, h⟩ := h
    refine z_iast dX8_whole_48 o5 o6 ?_
    refine z_nameV (fun V7 e8 => ?_)
    have h := h V7 e8
    refine z_aload_n 0 dX8_whole_49 rfl ?_
    refine zgf_8_11 dX8_whole_50 (zf_RX8_31 _ rfl) o1 ?_
    refine z_topR (zfr_k e8 o5 o1 (by decide)) ?_
    refine z_iload_n 1 dX8_whole_53 rfl ?_
    refine z_iconst dX8_whole_54 ⟨by decide, by decide⟩ ?_
    obtain ⟨o9, h⟩ := h
    obtain ⟨o10, h⟩ := h
    refine z_iast dX8_whole_55 o9 o10 ?_
    refine z_nameV (fun V11 e12 => ?_)
    have h := h V11 e12
    obtain ⟨o13, h⟩ := h
    refine z_iinc 1 dX8_whole_56 rfl (by decide) o13 (L' := [(0, zrv a0), (2, ziv (a2 + 1))]) [1, 0] rfl ?_
    refine z_goto (tgt := 29) dX8_whole_59 (by decide) ?_
    exact h
set_option maxRecDepth 100000 in
set_option maxHeartbeats 4000000 in
theorem en_X8_whole {E : zE} {F : zH → Prop} {S : zS} {a0 a1 : Int} {V : zH}
    (h : z32 a1 → ∀ X : zX, ((S a0).1 = 11) ∧ ∀ V2 : zH, V2 = zput V a0 10 a1 → zl_X8_whole_7 E X F S a0 0 V2) :
    SpV E 0 zm_X8_whole [zrv a0, ziv a1] S V F := by
  refine Sp.of (plainFor_of_name (by decide +kernel)) (Nat.le_of_ble_eq_true rfl) (fun hok X => ?_)
  have h := h (hok _ (List.mem_cons_of_mem _ (List.mem_cons_self))) X
  show Zr E X (zRoom 0 0 0) zm_X8_whole (zQm E X (zpV S F) 0 0) 0 0 0 [(0, zrv a0), (1, ziv a1)] [] S V
  refine z_aload_n 0 dX8_whole_0 rfl ?_
  refine z_iload_n 1 dX8_whole_1 rfl ?_
  obtain ⟨o1, h⟩ := h
  refine zpf_8_10 dX8_whole_2 (zf_RX8_148 _ rfl) o1 ?_
  refine z_nameV (fun V2 e3 => ?_)
  have h := h V2 e3
  refine z_iconst dX8_whole_5 ⟨by decide, by decide⟩ ?_
  refine z_istore_n dX8_whole_6 (by decide) (L' := [(0, zrv a0), (1, ziv a1), (2, ziv 0)]) [1, 2, 0] rfl ?_
  refine z_loc (L' := [(0, zrv a0), (2, ziv 0)]) [0, 2] rfl ?_
  exact h
def zl_X8_common_17 (E : zE) (X : zX) (F : Int → zH → Prop) (S : zS) (a0 a3 a4 a5 a6 a7 a8 : Int) (V : zH) : Prop := Zr E X (zRoom 0 0 0) zm_X8_common (zQm E X (zpI S F) 0 0) 0 0 17 [(0, zrv a0), (3, ziv a3), (4, ziv a4), (5, ziv a5), (6, ziv a6), (7, ziv a7), (8, ziv a8)] [] S V
set_option maxRecDepth 100000 in
set_option maxHeartbeats 4000000 in
theorem wp_X8_common_17 {E : zE} {X : zX} {F : Int → zH → Prop} {S : zS} {a0 a3 a4 a5 a6 a7 a8 : Int} {V : zH}
    (h : ((a4 = 0) → (((S a0).1 = 11) ∧ ∀ V3 : zH, V3 = zput V a0 14 a5 → ∀ V5 : zH, V5 = zput V3 a0 15 a7 → F a3 V5)) ∧ ((a4 ≠ 0) → (((0 : Int) ≤ a3) ∧ ((0 : Int) < a4) ∧ ∀ x9 : Int, x9 = a3 / a4 → (z32 (x9 * a4)) ∧ (z32 (a3 - (x9 * a4))) ∧ ∀ x13 : Int, x13 = a3 - (x9 * a4) → (z32 (x9 * a6)) ∧ (z32 (a5 - (x9 * a6))) ∧ ∀ x17 : Int, x17 = a5 - (x9 * a6) → (z32 (x9 * a8)) ∧ (z32 (a7 - (x9 * a8))) ∧ ∀ x21 : Int, x21 = a7 - (x9 * a8) → zl_X8_common_17 E X F S a0 a4 x13 a6 x17 a8 x21 V))) :
    zl_X8_common_17 E X F S a0 a3 a4 a5 a6 a7 a8 V := by
  unfold zl_X8_common_17
  refine z_iload 2 dX8_common_17 rfl ?_
  refine z_if_eq dX8_common_19 (tgt := 83) (by decide) (fun c1 => ?_) (fun c1 => ?_)
  · have h := h.1 c1
    refine z_aload_n 0 dX8_common_83 rfl ?_
    refine z_iload 3 dX8_common_84 rfl ?_
    obtain ⟨o2, h⟩ := h
    refine zpf_8_14 dX8_common_86 (zf_RX8_151 _ rfl) o2 ?_
    refine z_nameV (fun V3 e4 => ?_)
    have h := h V3 e4
    refine z_aload_n 0 dX8_common_89 rfl ?_
    refine z_iload 5 dX8_common_90 rfl ?_
    refine zpf_8_15 dX8_common_92 (zf_RX8_154 _ rfl) o2 ?_
    refine z_nameV (fun V5 e6 => ?_)
    have h := h V5 e6
    refine z_iload_n 1 dX8_common_95 rfl ?_
    exact z_retI dX8_common_96 rfl h
  · have h := h.2 c1
    refine z_iload_n 1 dX8_common_22 rfl ?_
    refine z_iload 2 dX8_common_23 rfl ?_
    obtain ⟨o7, h⟩ := h
    obtain ⟨o8, h⟩ := h
    refine z_idiv dX8_common_25 o7 o8 ?_
    refine z_nameI (fun x9 e10 => ?_)
    have h := h x9 e10
    refine z_istore dX8_common_26 (by decide) (L' := [(0, zrv a0), (3, ziv a3), (4, ziv a4), (5, ziv a5), (6, ziv a6), (7, ziv a7), (8, ziv a8), (9, ziv x9)]) [1, 2, 3, 4, 5, 6, 7, 0] rfl ?_
    refine z_iload_n 1 dX8_common_28 rfl ?_
    refine z_iload 7 dX8_common_29 rfl ?_
    refine z_iload 2 dX8_common_31 rfl ?_
    obtain ⟨o11, h⟩ := h
    refine z_imul dX8_common_33 o11 ?_
    obtain ⟨o12, h⟩ := h
    refine z_isub dX8_common_34 o12 ?_
    refine z_nameI (fun x13 e14 => ?_)
    have h := h x13 e14
    refine z_istore dX8_common_35 (by decide) (L' := [(0, zrv a0), (3, ziv a3), (4, ziv a4), (5, ziv a5), (6, ziv a6), (7, ziv a7), (8, ziv a8), (9, ziv x9), (10, ziv x13)]) [1, 2, 3, 4, 5, 6, 7, 8, 0] rfl ?_
    refine z_iload 2 dX8_common_37 rfl ?_
    refine z_istore_n dX8_common_39 (by decide) (L' := [(0, zrv a0), (3, ziv a4), (4, ziv a4), (5, ziv a5), (6, ziv a6), (7, ziv a7), (8, ziv a8), (9, ziv x9), (10, ziv x13)]) [1, 0, 2, 3, 4, 5, 6, 7, 8] rfl ?_
    refine z_iload 8 dX8_common_40 rfl ?_
    refine z_istore dX8_common_42 (by decide) (L' := [(0, zrv a0), (3, ziv a4), (4, ziv x13), (5, ziv a5), (6, ziv a6), (7, ziv a7), (8, ziv a8), (9, ziv x9), (10, ziv x13)]) [1, 2, 0, 3, 4, 5, 6, 7, 8] rfl ?_
    refine z_iload 3 dX8_common_44 rfl ?_
    refine z_iload 7 dX8_common_46 rfl ?_
    refine z_iload 4 dX8_common_48 rfl ?_
    obtain ⟨o15, h⟩ := h
    refine z_imul dX8_common_50 o15 ?_
    obtain ⟨o16, h⟩ := h
    refine z_isub dX8_common_51 o16 ?_
    refine z_nameI (fun x17 e18 => ?_)
    have h := h x17 e18
    refine z_istore dX8_common_52 (by decide) (L' := [(0, zrv a0), (3, ziv a4), (4, ziv x13), (5, ziv a5), (6, ziv a6), (7, ziv a7), (8, ziv a8), (9, ziv x9), (10, ziv x13), (11, ziv x17)]) [1, 2, 3, 4, 5, 6, 7, 8, 9, 0] rfl ?_
    refine z_iload 4 dX8_common_54 rfl ?_
    refine z_istore dX8_common_56 (by decide) (L' := [(0, zrv a0), (3, ziv a4), (4, ziv x13), (5, ziv a6), (6, ziv a6), (7, ziv a7), (8, ziv a8), (9, ziv x9), (10, ziv x13), (11, ziv x17)]) [1, 2, 3, 0, 4, 5, 6, 7, 8, 9] rfl ?_
    refine z_iload 9 dX8_common_58 rfl ?_
    refine z_istore dX8_common_60 (by decide) (L' := [(0, zrv a0), (3, ziv a4), (4, ziv x13), (5, ziv a6), (6, ziv x17), (7, ziv a7), (8, ziv a8), (9, ziv x9), (10, ziv x13), (11, ziv x17)]) [1, 2, 3, 4, 0, 5, 6, 7, 8, 9] rfl ?_
    refine z_iload 5 dX8_common_62 rfl ?_
    refine z_iload 7 dX8_common_64 rfl ?_
    refine z_iload 6 dX8_common_66 rfl ?_
    obtain ⟨o19, h⟩ := h
    refine z_imul dX8_common_68 o19 ?_
    obtain ⟨o20, h⟩ := h
    refine z_isub dX8_common_69 o20 ?_
    refine z_nameI (fun x21 e22 => ?_)
    have h := h x21 e22
    refine z_istore dX8_common_70 (by decide) (L' := [(0, zrv a0), (3, ziv a4), (4, ziv x13), (5, ziv a6), (6, ziv x17), (7, ziv a7), (8, ziv a8), (9, ziv x9), (10, ziv x13), (11, ziv x17), (12, ziv x21)]) [1, 2, 3, 4, 5, 6, 7, 8, 9, 10, 0] rfl ?_
    refine z_iload 6 dX8_common_72 rfl ?_
    refine z_istore dX8_common_74 (by decide) (L' := [(0, zrv a0), (3, ziv a4), (4, ziv x13), (5, ziv a6), (6, ziv x17), (7, ziv a8), (8, ziv a8), (9, ziv x9), (10, ziv x13), (11, ziv x17), (12, ziv x21)]) [1, 2, 3, 4, 5, 0, 6, 7, 8, 9, 10] rfl ?_
    refine z_iload 10 dX8_common_76 rfl ?_
    refine z_istore dX8_common_78 (by decide) (L' := [(0, zrv a0), (3, ziv a4), (4, ziv x13), (5, ziv a6), (6, ziv x17), (7, ziv a8), (8, ziv x21), (9, ziv x9), (10, ziv x13), (11, ziv x17), (12, ziv x21)]) [1, 2, 3, 4, 5, 6, 0, 7, 8, 9, 10] rfl ?_
    refine z_goto (tgt := 17) dX8_common_80 (by decide) ?_
    refine z_loc (L' := [(0, zrv a0), (3, ziv a4), (4, ziv x13), (5, ziv a6), (6, ziv x17), (7, ziv a8), (8, ziv x21)]) [0, 1, 2, 3, 4, 5, 6] rfl ?_
    exact h
set_option maxRecDepth 100000 in
set_option maxHeartbeats 4000000 in
theorem en_X8_common {E : zE} {F : Int → zH → Prop} {S : zS} {a0 a1 a2 : Int} {V : zH}
    (h : z32 a1 → z32 a2 → ∀ X : zX, zl_X8_common_17 E X F S a0 a1 a2 1 0 0 1 V) :
    SpI E 0 zm_X8_common [zrv a0, ziv a1, ziv a2] S V F := by
  refine Sp.of (plainFor_of_name (by decide +kernel)) (Nat.le_of_ble_eq_true rfl) (fun hok X => ?_)
  have h := h (hok _ (List.mem_cons_of_mem _ (List.mem_cons_self))) (hok _ (List.mem_cons_of_mem _ (List.mem_cons_of_mem _ (List.mem_cons_self)))) X
  show Zr E X (zRoom 0 0 0) zm_X8_common (zQm E X (zpI S F) 0 0) 0 0 0 [(0, zrv a0), (1, ziv a1), (2, ziv a2)] [] S V
  refine z_iload_n 1 dX8_common_0 rfl ?_
  refine z_istore_n dX8_common_1 (by decide) (L' := [(0, zrv a0), (1, ziv a1), (2, ziv a2), (3, ziv a1)]) [1, 2, 3, 0] rfl ?_
  refine z_iload_n 2 dX8_common_2 rfl ?_
  refine z_istore dX8_common_3 (by decide) (L' := [(0, zrv a0), (1, ziv a1), (2, ziv a2), (3, ziv a1), (4, ziv a2)]) [1, 2, 3, 4, 0] rfl ?_
  refine z_iconst dX8_common_5 ⟨by decide, by decide⟩ ?_
  refine z_istore dX8_common_6 (by decide) (L' := [(0, zrv a0), (1, ziv a1), (2, ziv a2), (3, ziv a1), (4, ziv a2), (5, ziv 1)]) [1, 2, 3, 4, 5, 0] rfl ?_
  refine z_iconst dX8_common_8 ⟨by decide, by decide⟩ ?_
  refine z_istore dX8_common_9 (by decide) (L' := [(0, zrv a0), (1, ziv a1), (2, ziv a2), (3, ziv a1), (4, ziv a2), (5, ziv 1), (6, ziv 0)]) [1, 2, 3, 4, 5, 6, 0] rfl ?_
  refine z_iconst dX8_common_11 ⟨by decide, by decide⟩ ?_
  refine z_istore dX8_common_12 (by decide) (L' := [(0, zrv a0), (1, ziv a1), (2, ziv a2), (3, ziv a1), (4, ziv a2), (5, ziv 1), (6, ziv 0), (7, ziv 0)]) [1, 2, 3, 4, 5, 6, 7, 0] rfl ?_
  refine z_iconst dX8_common_14 ⟨by decide, by decide⟩ ?_
  refine z_istore dX8_common_15 (by decide) (L' := [(0, zrv a0), (1, ziv a1), (2, ziv a2), (3, ziv a1), (4, ziv a2), (5, ziv 1), (6, ziv 0), (7, ziv 0), (8, ziv 1)]) [1, 2, 3, 4, 5, 6, 7, 8, 0] rfl ?_
  refine z_loc (L' := [(0, zrv a0), (3, ziv a1), (4, ziv a2), (5, ziv 1), (6, ziv 0), (7, ziv 0), (8, ziv 1)]) [0, 3, 4, 5, 6, 7, 8] rfl ?_
  exact h
def zl_X8_impose_9 (E : zE) (X : zX) (F : zH → Prop) (S : zS) (a0 a1 a2 a3 : Int) (V : zH) : Prop := Zr E X (zRoom 1 0 0) zm_X8_impose (zQm E X (zpV S F) 0 0) 0 0 9 [(0, zrv a0), (1, ziv a1), (2, ziv a2), (3, ziv a3)] [] S V
def zl_X8_impose_32 (E : zE) (X : zX) (F : zH → Prop) (S : zS) (a0 a1 a2 a3 : Int) (V : zH) : Prop := Zr E X (zRoom 1 0 0) zm_X8_impose (zQm E X (zpV S F) 0 0) 0 0 32 [(0, zrv a0), (1, ziv a1), (2, ziv a2), (3, ziv a3)] [] S V
def zl_X8_impose_52 (E : zE) (X : zX) (F : zH → Prop) (S : zS) (a0 a1 a2 a3 a4 a5 a6 : Int) (V : zH) : Prop := Zr E X (zRoom 1 0 0) zm_X8_impose (zQm E X (zpV S F) 0 0) 0 0 52 [(0, zrv a0), (1, ziv a1), (2, ziv a2), (3, ziv a3), (4, ziv a4), (5, ziv a5), (6, ziv a6)] [] S V
def zl_X8_impose_128 (E : zE) (X : zX) (F : zH → Prop) (S : zS) (a0 a1 a3 a4 a6 a7 a8 a9 : Int) (V : zH) : Prop := Zr E X (zRoom 1 0 0) zm_X8_impose (zQm E X (zpV S F) 0 0) 0 0 128 [(0, zrv a0), (1, ziv a1), (3, ziv a3), (4, ziv a4), (6, ziv a6), (7, ziv a7), (8, ziv a8), (9, ziv a9)] [] S V
def zl_X8_impose_196 (E : zE) (X : zX) (F : zH → Prop) (S : zS) (a0 a1 a3 a6 a9 : Int) (V : zH) : Prop := Zr E X (zRoom 1 0 0) zm_X8_impose (zQm E X (zpV S F) 0 0) 0 0 196 [(0, zrv a0), (1, ziv a1), (3, ziv a3), (6, ziv a6), (9, ziv a9)] [] S V
set_option maxRecDepth 100000 in
set_option maxHeartbeats 4000000 in
theorem wp_X8_impose_9 {E : zE} {X : zX} {F : zH → Prop} {S : zS} {a0 a1 a2 a3 : Int} {V : zH}
    (h : ((S a0).1 = 11) ∧ ((V a0 10 ≤ a3) → (zl_X8_impose_32 E X F S a0 a1 a2 0 V)) ∧ ((a3 < V a0 10) → (((S (V a0 12)).1 = 1) ∧ ((0 : Int) ≤ a3 ∧ a3 < (S (V a0 12)).2) ∧ ∀ V5 : zH, V5 = zput V (V a0 12) a3 0 → (z32 (a3 + 1)) ∧ zl_X8_impose_9 E X F S a0 a1 a2 (a3 + 1) V5))) :
    zl_X8_impose_9 E X F S a0 a1 a2 a3 V := by
  unfold zl_X8_impose_9
  refine z_iload_n 3 dX8_impose_9 rfl ?_
  refine z_aload_n 0 dX8_impose_10 rfl ?_
  obtain ⟨o1, h⟩ := h
  refine zgf_8_10 dX8_impose_11 (zf_RX8_148 _ rfl) o1 ?_
  refine z_icmp_ge dX8_impose_14 (tgt := 30) (by decide) (fun c2 => ?_) (fun c2 => ?_)
  · have h := h.1 c2
    refine z_iconst dX8_impose_30 ⟨by decide, by decide⟩ ?_
    refine z_istore_n dX8_impose_31 (by decide) (L' := [(0, zrv a0), (1, ziv a1), (2, ziv a2), (3, ziv 0)]) [1, 2, 3, 0] rfl ?_
    exact h
  · have h := h.2 c2
    refine z_aload_n 0 dX8_impose_17 rfl ?_
    refine zgf_8_12 dX8_impose_18 (zf_RX8_34 _ rfl) o1 ?_
    refine z_iload_n 3 dX8_impose_21 rfl ?_
    refine z_iconst dX8_impose_22 ⟨by decide, by decide⟩ ?_
    obtain ⟨o3, h⟩ := h
    obtain ⟨o4, h⟩ := h
    refine z_iast dX8_impose_23 o3 o4 ?_
    refine z_nameV (fun V5 e6 => ?_)
    have h := h V5 e6
    obtain ⟨o7, h⟩ := h
    refine z_iinc 3 dX8_impose_24 rfl (by decide) o7 (L' := [(0, zrv a0), (1, ziv a1), (2, ziv a2), (3, ziv (a3 + 1))]) [1, 2, 3, 0] rfl ?_
    refine z_goto (tgt := 9) dX8_impose_27 (by decide) ?_
    exact h
set_option maxRecDepth 100000 in
set_option maxHeartbeats 4000000 in
theorem wp_X8_impose_32 {E : zE} {X : zX} {F : zH → Prop} {S : zS} {a0 a1 a2 a3 : Int} {V : zH}
    (h : ((S a0).1 = 11) ∧ ((V a0 10 ≤ a3) → (F V)) ∧ ((a3 < V a0 10) → ((z32 (37 * a3)) ∧ ∀ x4 : Int, x4 = 37 * a3 → zl_X8_impose_52 E X F S a0 a1 a2 a3 x4 0 0 V))) :
    zl_X8_impose_32 E X F S a0 a1 a2 a3 V := by
  unfold zl_X8_impose_32
  refine z_iload_n 3 dX8_impose_32 rfl ?_
  refine z_aload_n 0 dX8_impose_33 rfl ?_
  obtain ⟨o1, h⟩ := h
  refine zgf_8_10 dX8_impose_34 (zf_RX8_148 _ rfl) o1 ?_
  refine z_icmp_ge dX8_impose_37 (tgt := 253) (by decide) (fun c2 => ?_) (fun c2 => ?_)
  · have h := h.1 c2
    exact z_retV dX8_impose_253 rfl h
  · have h := h.2 c2
    refine z_bipush dX8_impose_40 ⟨by decide, by decide⟩ (by decide) ?_
    refine z_iload_n 3 dX8_impose_42 rfl ?_
    obtain ⟨o3, h⟩ := h
    refine z_imul dX8_impose_43 o3 ?_
    refine z_nameI (fun x4 e5 => ?_)
    have h := h x4 e5
    refine z_istore dX8_impose_44 (by decide) (L' := [(0, zrv a0), (1, ziv a1), (2, ziv a2), (3, ziv a3), (4, ziv x4)]) [1, 2, 3, 4, 0] rfl ?_
    refine z_iconst dX8_impose_46 ⟨by decide, by decide⟩ ?_
    refine z_istore dX8_impose_47 (by decide) (L' := [(0, zrv a0), (1, ziv a1), (2, ziv a2), (3, ziv a3), (4, ziv x4), (5, ziv 0)]) [1, 2, 3, 4, 5, 0] rfl ?_
    refine z_iconst dX8_impose_49 ⟨by decide, by decide⟩ ?_
    refine z_istore dX8_impose_50 (by decide) (L' := [(0, zrv a0), (1, ziv a1), (2, ziv a2), (3, ziv a3), (4, ziv x4), (5, ziv 0), (6, ziv 0)]) [1, 2, 3, 4, 5, 6, 0] rfl ?_
    exact h
set_option maxRecDepth 100000 in
set_option maxHeartbeats 4000000 in
theorem wp_X8_impose_52 {E : zE} {X : zX} {F : zH → Prop} {S : zS} {a0 a1 a2 a3 a4 a5 a6 : Int} {V : zH}
    (h : ((a3 < a6) → (((S a0).1 = 11) ∧ SpI E 0 zm_X8_common [zrv a0, ziv a2, ziv a5] S V (fun x3 V4 => ((0 : Int) ≤ a2) ∧ ((0 : Int) < x3) ∧ ∀ x7 : Int, x7 = a2 / x3 → ((0 : Int) ≤ a5) ∧ ∀ x10 : Int, x10 = a5 / x3 → zl_X8_impose_128 E X F S a0 a1 a3 a4 x3 x7 x10 0 V4))) ∧ ((a6 ≤ a3) → (((S a0).1 = 11) ∧ (z32 (a4 + a6)) ∧ ((S (V a0 9)).1 = 1) ∧ ((0 : Int) ≤ a4 + a6 ∧ a4 + a6 < (S (V a0 9)).2) ∧ ((S (V a0 13)).1 = 1) ∧ ((0 : Int) ≤ a6 ∧ a6 < (S (V a0 13)).2) ∧ ∀ V18 : zH, V18 = zput V (V a0 13) a6 (V (V a0 9) (a4 + a6)) → ((S (V a0 11)).1 = 1) ∧ ((0 : Int) ≤ a6 ∧ a6 < (S (V a0 11)).2) ∧ (z32 ((V18 (V a0 11) a6) * (V (V a0 9) (a4 + a6)))) ∧ (z32 (a5 + ((V18 (V a0 11) a6) * (V (V a0 9) (a4 + a6))))) ∧ ((0 : Int) ≤ a5 + ((V18 (V a0 11) a6) * (V (V a0 9) (a4 + a6)))) ∧ ((0 : Int) < a1) ∧ ∀ x26 : Int, x26 = (a5 + ((V18 (V a0 11) a6) * (V (V a0 9) (a4 + a6)))) % a1 → (z32 (a6 + 1)) ∧ zl_X8_impose_52 E X F S a0 a1 a2 a3 a4 x26 (a6 + 1) V18))) :
    zl_X8_impose_52 E X F S a0 a1 a2 a3 a4 a5 a6 V := by
  unfold zl_X8_impose_52
  refine z_iload 6 dX8_impose_52 rfl ?_
  refine z_iload_n 3 dX8_impose_54 rfl ?_
  refine z_icmp_gt dX8_impose_55 (tgt := 103) (by decide) (fun c1 => ?_) (fun c1 => ?_)
  · have h := h.1 c1
    refine z_aload_n 0 dX8_impose_103 rfl ?_
    refine z_iload_n 2 dX8_impose_104 rfl ?_
    refine z_iload 5 dX8_impose_105 rfl ?_
    obtain ⟨o2, h⟩ := h
    refine z_cVI [ziv a2, ziv a5] (zk_RX8_157 _ rfl) dX8_impose_107 o2 (by decide) rfl rfl (Nat.le_of_ble_eq_true rfl) (Nat.le_of_ble_eq_true rfl) (Nat.le_of_ble_eq_true rfl) (Nat.le_of_ble_eq_true rfl) (Nat.le_of_ble_eq_true rfl) h (fun x3 V4 h => ?_)
    refine z_istore dX8_impose_110 (by decide) (L' := [(0, zrv a0), (1, ziv a1), (2, ziv a2), (3, ziv a3), (4, ziv a4), (5, ziv a5), (6, ziv x3)]) [1, 2, 3, 4, 5, 6, 0] rfl ?_
    refine z_iload_n 2 dX8_impose_112 rfl ?_
    refine z_iload 6 dX8_impose_113 rfl ?_
    obtain ⟨o5, h⟩ := h
    obtain ⟨o6, h⟩ := h
    refine z_idiv dX8_impose_115 o5 o6 ?_
    refine z_nameI (fun x7 e8 => ?_)
    have h := h x7 e8
    refine z_istore dX8_impose_116 (by decide) (L' := [(0, zrv a0), (1, ziv a1), (2, ziv a2), (3, ziv a3), (4, ziv a4), (5, ziv a5), (6, ziv x3), (7, ziv x7)]) [1, 2, 3, 4, 5, 6, 7, 0] rfl ?_
    refine z_iload 5 dX8_impose_118 rfl ?_
    refine z_iload 6 dX8_impose_120 rfl ?_
    obtain ⟨o9, h⟩ := h
    refine z_idiv dX8_impose_122 o9 o6 ?_
    refine z_nameI (fun x10 e11 => ?_)
    have h := h x10 e11
    refine z_istore dX8_impose_123 (by decide) (L' := [(0, zrv a0), (1, ziv a1), (2, ziv a2), (3, ziv a3), (4, ziv a4), (5, ziv a5), (6, ziv x3), (7, ziv x7), (8, ziv x10)]) [1, 2, 3, 4, 5, 6, 7, 8, 0] rfl ?_
    refine z_iconst dX8_impose_125 ⟨by decide, by decide⟩ ?_
    refine z_istore dX8_impose_126 (by decide) (L' := [(0, zrv a0), (1, ziv a1), (2, ziv a2), (3, ziv a3), (4, ziv a4), (5, ziv a5), (6, ziv x3), (7, ziv x7), (8, ziv x10), (9, ziv 0)]) [1, 2, 3, 4, 5, 6, 7, 8, 9, 0] rfl ?_
    refine z_loc (L' := [(0, zrv a0), (1, ziv a1), (3, ziv a3), (4, ziv a4), (6, ziv x3), (7, ziv x7), (8, ziv x10), (9, ziv 0)]) [0, 1, 3, 4, 6, 7, 8, 9] rfl ?_
    exact h
  · have h := h.2 c1
    refine z_aload_n 0 dX8_impose_58 rfl ?_
    obtain ⟨o12, h⟩ := h
    refine zgf_8_13 dX8_impose_59 (zf_RX8_37 _ rfl) o12 ?_
    refine z_iload 6 dX8_impose_62 rfl ?_
    refine z_aload_n 0 dX8_impose_64 rfl ?_
    refine zgf_8_9 dX8_impose_65 (zf_RX8_28 _ rfl) o12 ?_
    refine z_iload 4 dX8_impose_68 rfl ?_
    refine z_iload 6 dX8_impose_70 rfl ?_
    obtain ⟨o13, h⟩ := h
    refine z_iadd dX8_impose_72 o13 ?_
    obtain ⟨o14, h⟩ := h
    obtain ⟨o15, h⟩ := h
    refine z_iald dX8_impose_73 o14 o15 ?_
    obtain ⟨o16, h⟩ := h
    obtain ⟨o17, h⟩ := h
    refine z_iast dX8_impose_74 o16 o17 ?_
    refine z_nameV (fun V18 e19 => ?_)
    have h := h V18 e19
    refine z_iload 5 dX8_impose_75 rfl ?_
    refine z_aload_n 0 dX8_impose_77 rfl ?_
    refine zgf_8_11 dX8_impose_78 (zf_RX8_31 _ rfl) o12 ?_
    refine z_topR (zfr_k e19 o16 o12 (by decide)) ?_
    refine z_iload 6 dX8_impose_81 rfl ?_
    obtain ⟨o20, h⟩ := h
    obtain ⟨o21, h⟩ := h
    refine z_iald dX8_impose_83 o20 o21 ?_
    refine z_aload_n 0 dX8_impose_84 rfl ?_
    refine zgf_8_13 dX8_impose_85 (zf_RX8_37 _ rfl) o12 ?_
    refine z_topR (zfr_k e19 o16 o12 (by decide)) ?_
    refine z_iload 6 dX8_impose_88 rfl ?_
    refine z_iald dX8_impose_90 o16 o17 ?_
    refine z_topI (zfr_s e19) ?_
    obtain ⟨o22, h⟩ := h
    refine z_imul dX8_impose_91 o22 ?_
    obtain ⟨o23, h⟩ := h
    refine z_iadd dX8_impose_92 o23 ?_
    refine z_iload_n 1 dX8_impose_93 rfl ?_
    obtain ⟨o24, h⟩ := h
    obtain ⟨o25, h⟩ := h
    refine z_irem dX8_impose_94 o24 o25 ?_
    refine z_nameI (fun x26 e27 => ?_)
    have h := h x26 e27
    refine z_istore dX8_impose_95 (by decide) (L' := [(0, zrv a0), (1, ziv a1), (2, ziv a2), (3, ziv a3), (4, ziv a4), (5, ziv x26), (6, ziv a6)]) [1, 2, 3, 4, 5, 0, 6] rfl ?_
    obtain ⟨o28, h⟩ := h
    refine z_iinc 6 dX8_impose_97 rfl (by decide) o28 (L' := [(0, zrv a0), (1, ziv a1), (2, ziv a2), (3, ziv a3), (4, ziv a4), (5, ziv x26), (6, ziv (a6 + 1))]) [1, 2, 3, 4, 5, 6, 0] rfl ?_
    refine z_goto (tgt := 52) dX8_impose_100 (by decide) ?_
    exact h
set_option maxRecDepth 100000 in
set_option maxHeartbeats 4000000 in
theorem wp_X8_impose_128 {E : zE} {X : zX} {F : zH → Prop} {S : zS} {a0 a1 a3 a4 a6 a7 a8 a9 : Int} {V : zH}
    (h : ((a3 ≤ a9) → (((S a0).1 = 11) ∧ (z32 (a4 + a3)) ∧ ((S (V a0 13)).1 = 1) ∧ ((0 : Int) ≤ a3 ∧ a3 < (S (V a0 13)).2) ∧ (z32 (a7 * (V (V a0 13) a3))) ∧ ((S (V a0 9)).1 = 1) ∧ ((0 : Int) ≤ a4 + a3 ∧ a4 + a3 < (S (V a0 9)).2) ∧ ∀ V9 : zH, V9 = zput V (V a0 9) (a4 + a3) (a7 * (V (V a0 13) a3)) → zl_X8_impose_196 E X F S a0 a1 a3 a6 0 V9)) ∧ ((a9 < a3) → (((S a0).1 = 11) ∧ (z32 (a4 + a9)) ∧ ((S (V a0 13)).1 = 1) ∧ ((0 : Int) ≤ a9 ∧ a9 < (S (V a0 13)).2) ∧ (z32 (a7 * (V (V a0 13) a9))) ∧ ((S (V a0 12)).1 = 1) ∧ ((0 : Int) ≤ a9 ∧ a9 < (S (V a0 12)).2) ∧ (z32 (a8 * (V (V a0 12) a9))) ∧ (z32 ((a7 * (V (V a0 13) a9)) - (a8 * (V (V a0 12) a9)))) ∧ SpF E 0 zm_J9_floorMod_7cf53 [ziv ((a7 * (V (V a0 13) a9)) - (a8 * (V (V a0 12) a9))), ziv a1] S V (fun x20 => ((S (V a0 9)).1 = 1) ∧ ((0 : Int) ≤ a4 + a9 ∧ a4 + a9 < (S (V a0 9)).2) ∧ ∀ V24 : zH, V24 = zput V (V a0 9) (a4 + a9) x20 → (z32 (a9 + 1)) ∧ zl_X8_impose_128 E X F S a0 a1 a3 a4 a6 a7 a8 (a9 + 1) V24)))) :
    zl_X8_impose_128 E X F S a0 a1 a3 a4 a6 a7 a8 a9 V := by
  unfold zl_X8_impose_128
  refine z_iload 7 dX8_impose_128 rfl ?_
  refine z_iload_n 2 dX8_impose_130 rfl ?_
  refine z_icmp_ge dX8_impose_131 (tgt := 175) (by decide) (fun c1 => ?_) (fun c1 => ?_)
  · have h := h.1 c1
    refine z_aload_n 0 dX8_impose_175 rfl ?_
    obtain ⟨o2, h⟩ := h
    refine zgf_8_9 dX8_impose_176 (zf_RX8_28 _ rfl) o2 ?_
    refine z_iload 3 dX8_impose_179 rfl ?_
    refine z_iload_n 2 dX8_impose_181 rfl ?_
    obtain ⟨o3, h⟩ := h
    refine z_iadd dX8_impose_182 o3 ?_
    refine z_iload 5 dX8_impose_183 rfl ?_
    refine z_aload_n 0 dX8_impose_185 rfl ?_
    refine zgf_8_13 dX8_impose_186 (zf_RX8_37 _ rfl) o2 ?_
    refine z_iload_n 2 dX8_impose_189 rfl ?_
    obtain ⟨o4, h⟩ := h
    obtain ⟨o5, h⟩ := h
    refine z_iald dX8_impose_190 o4 o5 ?_
    obtain ⟨o6, h⟩ := h
    refine z_imul dX8_impose_191 o6 ?_
    obtain ⟨o7, h⟩ := h
    obtain ⟨o8, h⟩ := h
    refine z_iast dX8_impose_192 o7 o8 ?_
    refine z_nameV (fun V9 e10 => ?_)
    have h := h V9 e10
    refine z_iconst dX8_impose_193 ⟨by decide, by decide⟩ ?_
    refine z_istore dX8_impose_194 (by decide) (L' := [(0, zrv a0), (1, ziv a1), (3, ziv a3), (4, ziv a4), (6, ziv a6), (7, ziv a7), (8, ziv a8), (9, ziv 0)]) [1, 2, 3, 4, 5, 6, 7, 0] rfl ?_
    refine z_loc (L' := [(0, zrv a0), (1, ziv a1), (3, ziv a3), (6, ziv a6), (9, ziv 0)]) [0, 1, 2, 4, 7] rfl ?_
    exact h
  · have h := h.2 c1
    refine z_aload_n 0 dX8_impose_134 rfl ?_
    obtain ⟨o11, h⟩ := h
    refine zgf_8_9 dX8_impose_135 (zf_RX8_28 _ rfl) o11 ?_
    refine z_iload 3 dX8_impose_138 rfl ?_
    refine z_iload 7 dX8_impose_140 rfl ?_
    obtain ⟨o12, h⟩ := h
    refine z_iadd dX8_impose_142 o12 ?_
    refine z_iload 5 dX8_impose_143 rfl ?_
    refine z_aload_n 0 dX8_impose_145 rfl ?_
    refine zgf_8_13 dX8_impose_146 (zf_RX8_37 _ rfl) o11 ?_
    refine z_iload 7 dX8_impose_149 rfl ?_
    obtain ⟨o13, h⟩ := h
    obtain ⟨o14, h⟩ := h
    refine z_iald dX8_impose_151 o13 o14 ?_
    obtain ⟨o15, h⟩ := h
    refine z_imul dX8_impose_152 o15 ?_
    refine z_iload 6 dX8_impose_153 rfl ?_
    refine z_aload_n 0 dX8_impose_155 rfl ?_
    refine zgf_8_12 dX8_impose_156 (zf_RX8_34 _ rfl) o11 ?_
    refine z_iload 7 dX8_impose_159 rfl ?_
    obtain ⟨o16, h⟩ := h
    obtain ⟨o17, h⟩ := h
    refine z_iald dX8_impose_161 o16 o17 ?_
    obtain ⟨o18, h⟩ := h
    refine z_imul dX8_impose_162 o18 ?_
    obtain ⟨o19, h⟩ := h
    refine z_isub dX8_impose_163 o19 ?_
    refine z_iload_n 1 dX8_impose_164 rfl ?_
    refine z_cSF [ziv ((a7 * (V (V a0 13) a9)) - (a8 * (V (V a0 12) a9))), ziv a1] (zk_RX8_160 _ rfl) dX8_impose_165 rfl rfl (Nat.le_of_ble_eq_true rfl) (Nat.le_of_ble_eq_true rfl) (Nat.le_of_ble_eq_true rfl) (Nat.le_of_ble_eq_true rfl) (Nat.le_of_ble_eq_true rfl) h (fun x20 h => ?_)
    obtain ⟨o22, h⟩ := h
    obtain ⟨o23, h⟩ := h
    refine z_iast dX8_impose_168 o22 o23 ?_
    refine z_nameV (fun V24 e25 => ?_)
    have h := h V24 e25
    obtain ⟨o26, h⟩ := h
    refine z_iinc 7 dX8_impose_169 rfl (by decide) o26 (L' := [(0, zrv a0), (1, ziv a1), (3, ziv a3), (4, ziv a4), (6, ziv a6), (7, ziv a7), (8, ziv a8), (9, ziv (a9 + 1))]) [1, 2, 3, 4, 5, 6, 7, 0] rfl ?_
    refine z_goto (tgt := 128) dX8_impose_172 (by decide) ?_
    exact h
set_option maxRecDepth 100000 in
set_option maxHeartbeats 4000000 in
theorem wp_X8_impose_196 {E : zE} {X : zX} {F : zH → Prop} {S : zS} {a0 a1 a3 a6 a9 : Int} {V : zH}
    (h : ((a3 < a9) → ((z32 (a3 + 1)) ∧ zl_X8_impose_32 E X F S a0 a1 a6 (a3 + 1) V)) ∧ ((a9 ≤ a3) → (((S a0).1 = 11) ∧ ((S (V a0 12)).1 = 1) ∧ ((0 : Int) ≤ a9 ∧ a9 < (S (V a0 12)).2) ∧ (z32 ((V a0 14) * (V (V a0 12) a9))) ∧ ((S (V a0 13)).1 = 1) ∧ ((0 : Int) ≤ a9 ∧ a9 < (S (V a0 13)).2) ∧ (z32 ((V a0 15) * (V (V a0 13) a9))) ∧ (z32 (((V a0 14) * (V (V a0 12) a9)) + ((V a0 15) * (V (V a0 13) a9)))) ∧ SpF E 0 zm_J9_floorMod_7cf53 [ziv (((V a0 14) * (V (V a0 12) a9)) + ((V a0 15) * (V (V a0 13) a9))), ziv a1] S V (fun x11 => ∀ V13 : zH, V13 = zput V (V a0 12) a9 x11 → (z32 (a9 + 1)) ∧ zl_X8_impose_196 E X F S a0 a1 a3 a6 (a9 + 1) V13)))) :
    zl_X8_impose_196 E X F S a0 a1 a3 a6 a9 V := by
  unfold zl_X8_impose_196
  refine z_iload 4 dX8_impose_196 rfl ?_
  refine z_iload_n 2 dX8_impose_198 rfl ?_
  refine z_icmp_gt dX8_impose_199 (tgt := 244) (by decide) (fun c1 => ?_) (fun c1 => ?_)
  · have h := h.1 c1
    refine z_iload 3 dX8_impose_244 rfl ?_
    refine z_istore_n dX8_impose_246 (by decide) (L' := [(0, zrv a0), (1, ziv a1), (2, ziv a6), (3, ziv a3), (6, ziv a6), (9, ziv a9)]) [1, 2, 0, 3, 4, 5] rfl ?_
    obtain ⟨o2, h⟩ := h
    refine z_iinc 3 dX8_impose_247 rfl (by decide) o2 (L' := [(0, zrv a0), (1, ziv a1), (2, ziv a6), (3, ziv (a3 + 1)), (6, ziv a6), (9, ziv a9)]) [1, 2, 3, 0, 4, 5] rfl ?_
    refine z_goto (tgt := 32) dX8_impose_250 (by decide) ?_
    refine z_loc (L' := [(0, zrv a0), (1, ziv a1), (2, ziv a6), (3, ziv (a3 + 1))]) [0, 1, 2, 3] rfl ?_
    exact h
  · have h := h.2 c1
    refine z_aload_n 0 dX8_impose_202 rfl ?_
    obtain ⟨o3, h⟩ := h
    refine zgf_8_12 dX8_impose_203 (zf_RX8_34 _ rfl) o3 ?_
    refine z_iload 4 dX8_impose_206 rfl ?_
    refine z_aload_n 0 dX8_impose_208 rfl ?_
    refine zgf_8_14 dX8_impose_209 (zf_RX8_151 _ rfl) o3 ?_
    refine z_aload_n 0 dX8_impose_212 rfl ?_
    refine zgf_8_12 dX8_impose_213 (zf_RX8_34 _ rfl) o3 ?_
    refine z_iload 4 dX8_impose_216 rfl ?_
    obtain ⟨o4, h⟩ := h
    obtain ⟨o5, h⟩ := h
    refine z_iald dX8_impose_218 o4 o5 ?_
    obtain ⟨o6, h⟩ := h
    refine z_imul dX8_impose_219 o6 ?_
    refine z_aload_n 0 dX8_impose_220 rfl ?_
    refine zgf_8_15 dX8_impose_221 (zf_RX8_154 _ rfl) o3 ?_
    refine z_aload_n 0 dX8_impose_224 rfl ?_
    refine zgf_8_13 dX8_impose_225 (zf_RX8_37 _ rfl) o3 ?_
    refine z_iload 4 dX8_impose_228 rfl ?_
    obtain ⟨o7, h⟩ := h
    obtain ⟨o8, h⟩ := h
    refine z_iald dX8_impose_230 o7 o8 ?_
    obtain ⟨o9, h⟩ := h
    refine z_imul dX8_impose_231 o9 ?_
    obtain ⟨o10, h⟩ := h
    refine z_iadd dX8_impose_232 o10 ?_
    refine z_iload_n 1 dX8_impose_233 rfl ?_
    refine z_cSF [ziv (((V a0 14) * (V (V a0 12) a9)) + ((V a0 15) * (V (V a0 13) a9))), ziv a1] (zk_RX8_160 _ rfl) dX8_impose_234 rfl rfl (Nat.le_of_ble_eq_true rfl) (Nat.le_of_ble_eq_true rfl) (Nat.le_of_ble_eq_true rfl) (Nat.le_of_ble_eq_true rfl) (Nat.le_of_ble_eq_true rfl) h (fun x11 h => ?_)
    refine z_iast dX8_impose_237 o4 o5 ?_
    refine z_nameV (fun V13 e14 => ?_)
    have h := h V13 e14
    obtain ⟨o15, h⟩ := h
    refine z_iinc 4 dX8_impose_238 rfl (by decide) o15 (L' := [(0, zrv a0), (1, ziv a1), (3, ziv a3), (6, ziv a6), (9, ziv (a9 + 1))]) [1, 2, 3, 4, 0] rfl ?_
    refine z_goto (tgt := 196) dX8_impose_241 (by decide) ?_
    exact h
set_option maxRecDepth 100000 in
set_option maxHeartbeats 4000000 in
theorem en_X8_impose {E : zE} {F : zH → Prop} {S : zS} {a0 : Int} {V : zH}
    (h : ∀ X : zX, ((S a0).1 = 11) ∧ SpF E 0 zm_X8_m [zrv a0] S V (fun x2 => zl_X8_impose_9 E X F S a0 x2 x2 0 V)) :
    SpV E 1 zm_X8_impose [zrv a0] S V F := by
  refine Sp.of (plainFor_of_name (by decide +kernel)) (Nat.le_of_ble_eq_true rfl) (fun hok X => ?_)
  have h := h X
  show Zr E X (zRoom 1 0 0) zm_X8_impose (zQm E X (zpV S F) 0 0) 0 0 0 [(0, zrv a0)] [] S V
  refine z_aload_n 0 dX8_impose_0 rfl ?_
  obtain ⟨o1, h⟩ := h
  refine z_cVF [] (zk_RX8_96 _ rfl) dX8_impose_1 o1 (by decide) rfl rfl (Nat.le_of_ble_eq_true rfl) (Nat.le_of_ble_eq_true rfl) (Nat.le_of_ble_eq_true rfl) (Nat.le_of_ble_eq_true rfl) (Nat.le_of_ble_eq_true rfl) h (fun x2 h => ?_)
  refine z_istore_n dX8_impose_4 (by decide) (L' := [(0, zrv a0), (1, ziv x2)]) [1, 0] rfl ?_
  refine z_iload_n 1 dX8_impose_5 rfl ?_
  refine z_istore_n dX8_impose_6 (by decide) (L' := [(0, zrv a0), (1, ziv x2), (2, ziv x2)]) [1, 2, 0] rfl ?_
  refine z_iconst dX8_impose_7 ⟨by decide, by decide⟩ ?_
  refine z_istore_n dX8_impose_8 (by decide) (L' := [(0, zrv a0), (1, ziv x2), (2, ziv x2), (3, ziv 0)]) [1, 2, 3, 0] rfl ?_
  exact h
