def zl_L_law_18 (E : zE) (X : zX) (Q : State → Prop) (k n : Nat) (S : zS) (b : Nat) (a1 a2 a3 : Int) (V : zH) : Prop := Zr E X room_1 zm_L_law Q k n 18 [(0, zrv (zsr b)), (1, zrv a1), (2, zrv a2), (3, ziv a3)] [] S V
def zl_L_law_152 (E : zE) (X : zX) (Q : State → Prop) (k n : Nat) (S : zS) (b : Nat) (a1 a2 a3 : Int) (V : zH) : Prop := Zr E X room_1 zm_L_law Q k n 152 [(0, zrv (zsr b)), (1, zrv a1), (2, zrv a2), (3, ziv a3)] [] S V
def zl_L_law_195 (E : zE) (X : zX) (Q : State → Prop) (k n : Nat) (S : zS) (b : Nat) (a1 a2 a3 : Int) (V : zH) : Prop := Zr E X room_1 zm_L_law Q k n 195 [(0, zrv (zsr b)), (1, zrv a1), (2, zrv a2), (3, ziv a3)] [] S V
def zl_L_law_248 (E : zE) (X : zX) (Q : State → Prop) (k n : Nat) (S : zS) (b : Nat) (a1 a2 a3 : Int) (V : zH) : Prop := Zr E X room_1 zm_L_law Q k n 248 [(0, zrv (zsr b)), (1, zrv a1), (2, zrv a2), (3, ziv a3)] [] S V
def zl_L_law_281 (E : zE) (X : zX) (Q : State → Prop) (k n : Nat) (S : zS) (b : Nat) (a1 a2 a3 : Int) (V : zH) : Prop := Zr E X room_1 zm_L_law Q k n 281 [(0, zrv (zsr b)), (1, zrv a1), (2, zrv a2), (3, ziv a3)] [] S V
def zl_L_law_344 (E : zE) (X : zX) (Q : State → Prop) (k n : Nat) (S : zS) (b : Nat) (a1 a2 a3 : Int) (V : zH) : Prop := Zr E X room_1 zm_L_law Q k n 344 [(0, zrv (zsr b)), (1, zrv a1), (2, zrv a2), (3, ziv a3)] [] S V
def zl_L_law_367 (E : zE) (X : zX) (Q : State → Prop) (k n : Nat) (S : zS) (b : Nat) (a1 a2 a3 : Int) (V : zH) : Prop := Zr E X room_1 zm_L_law Q k n 367 [(0, zrv (zsr b)), (1, zrv a1), (2, zrv a2), (3, ziv a3)] [] S V
def zl_L_law_400 (E : zE) (X : zX) (Q : State → Prop) (k n : Nat) (S : zS) (b : Nat) (a1 a2 a3 : Int) (V : zH) : Prop := Zr E X room_1 zm_L_law Q k n 400 [(0, zrv (zsr b)), (1, zrv a1), (2, zrv a2), (3, ziv a3)] [] S V
def zl_L_law_433 (E : zE) (X : zX) (Q : State → Prop) (k n : Nat) (S : zS) (b : Nat) (a1 a2 a3 : Int) (V : zH) : Prop := Zr E X room_1 zm_L_law Q k n 433 [(0, zrv (zsr b)), (1, zrv a1), (2, zrv a2), (3, ziv a3)] [] S V
def zl_L_law_466 (E : zE) (X : zX) (Q : State → Prop) (k n : Nat) (S : zS) (b : Nat) (a1 a2 a3 : Int) (V : zH) : Prop := Zr E X room_1 zm_L_law Q k n 466 [(0, zrv (zsr b)), (1, zrv a1), (2, zrv a2), (3, ziv a3)] [] S V
def zl_L_law_479 (E : zE) (X : zX) (Q : State → Prop) (k n : Nat) (S : zS) (b : Nat) (a1 a2 a3 : Int) (V : zH) : Prop := Zr E X room_1 zm_L_law Q k n 479 [(0, zrv (zsr b)), (1, zrv a1), (2, zrv a2), (3, ziv a3)] [] S V
def zl_L_law_492 (E : zE) (X : zX) (Q : State → Prop) (k n : Nat) (S : zS) (b : Nat) (a1 a2 a3 : Int) (V : zH) : Prop := Zr E X room_1 zm_L_law Q k n 492 [(0, zrv (zsr b)), (1, zrv a1), (2, zrv a2), (3, ziv a3)] [] S V
def zl_L_law_505 (E : zE) (X : zX) (Q : State → Prop) (k n : Nat) (S : zS) (b : Nat) (a1 a2 a3 : Int) (V : zH) : Prop := Zr E X room_1 zm_L_law Q k n 505 [(0, zrv (zsr b)), (1, zrv a1), (2, zrv a2), (3, ziv a3)] [] S V
def zl_L_law_518 (E : zE) (X : zX) (Q : State → Prop) (k n : Nat) (S : zS) (b : Nat) (a1 a2 a3 : Int) (V : zH) : Prop := Zr E X room_1 zm_L_law Q k n 518 [(0, zrv (zsr b)), (1, zrv a1), (2, zrv a2), (3, ziv a3)] [] S V
def zl_L_law_541 (E : zE) (X : zX) (Q : State → Prop) (k n : Nat) (S : zS) (b : Nat) (a1 a2 a3 : Int) (V : zH) : Prop := Zr E X room_1 zm_L_law Q k n 541 [(0, zrv (zsr b)), (1, zrv a1), (2, zrv a2), (3, ziv a3)] [] S V
def zl_L_law_564 (E : zE) (X : zX) (Q : State → Prop) (k n : Nat) (S : zS) (b : Nat) (a1 a2 a3 : Int) (V : zH) : Prop := Zr E X room_1 zm_L_law Q k n 564 [(0, zrv (zsr b)), (1, zrv a1), (2, zrv a2), (3, ziv a3)] [] S V
def zl_L_law_597 (E : zE) (X : zX) (Q : State → Prop) (k n : Nat) (S : zS) (b : Nat) (a1 a2 a3 : Int) (V : zH) : Prop := Zr E X room_1 zm_L_law Q k n 597 [(0, zrv (zsr b)), (1, zrv a1), (2, zrv a2), (3, ziv a3)] [] S V
def zl_L_law_610 (E : zE) (X : zX) (Q : State → Prop) (k n : Nat) (S : zS) (b : Nat) (a1 a2 a3 : Int) (V : zH) : Prop := Zr E X room_1 zm_L_law Q k n 610 [(0, zrv (zsr b)), (1, zrv a1), (2, zrv a2), (3, ziv a3)] [] S V
def zl_L_law_623 (E : zE) (X : zX) (Q : State → Prop) (k n : Nat) (S : zS) (b : Nat) (a1 a2 a3 : Int) (V : zH) : Prop := Zr E X room_1 zm_L_law Q k n 623 [(0, zrv (zsr b)), (1, zrv a1), (2, zrv a2), (3, ziv a3)] [] S V
def zl_L_law_646 (E : zE) (X : zX) (Q : State → Prop) (k n : Nat) (S : zS) (b : Nat) (a1 a2 a3 : Int) (V : zH) : Prop := Zr E X room_1 zm_L_law Q k n 646 [(0, zrv (zsr b)), (1, zrv a1), (2, zrv a2), (3, ziv a3)] [] S V
def zl_L_law_679 (E : zE) (X : zX) (Q : State → Prop) (k n : Nat) (S : zS) (b : Nat) (a1 a2 a3 : Int) (V : zH) : Prop := Zr E X room_1 zm_L_law Q k n 679 [(0, zrv (zsr b)), (1, zrv a1), (2, zrv a2), (3, ziv a3)] [] S V
def zl_L_law_702 (E : zE) (X : zX) (Q : State → Prop) (k n : Nat) (S : zS) (b : Nat) (a1 a2 a3 : Int) (V : zH) : Prop := Zr E X room_1 zm_L_law Q k n 702 [(0, zrv (zsr b)), (1, zrv a1), (2, zrv a2), (3, ziv a3)] [] S V
def zl_L_law_735 (E : zE) (X : zX) (Q : State → Prop) (k n : Nat) (S : zS) (b : Nat) (a1 a2 a3 : Int) (V : zH) : Prop := Zr E X room_1 zm_L_law Q k n 735 [(0, zrv (zsr b)), (1, zrv a1), (2, zrv a2), (3, ziv a3)] [] S V
def zl_L_law_749 (E : zE) (X : zX) (Q : State → Prop) (k n : Nat) (S : zS) (b : Nat) (a1 a2 a3 : Int) (V : zH) : Prop := Zr E X room_1 zm_L_law Q k n 749 [(0, zrv (zsr b)), (1, zrv a1), (2, zrv a2), (3, ziv a3)] [] S V
def zl_L_law_763 (E : zE) (X : zX) (Q : State → Prop) (k n : Nat) (S : zS) (b : Nat) (a1 a2 a3 : Int) (V : zH) : Prop := Zr E X room_1 zm_L_law Q k n 763 [(0, zrv (zsr b)), (1, zrv a1), (2, zrv a2), (3, ziv a3)] [] S V
def zl_L_law_776 (E : zE) (X : zX) (Q : State → Prop) (k n : Nat) (S : zS) (b : Nat) (a1 a2 a3 : Int) (V : zH) : Prop := Zr E X room_1 zm_L_law Q k n 776 [(0, zrv (zsr b)), (1, zrv a1), (2, zrv a2), (3, ziv a3)] [] S V
def zl_L_law_799 (E : zE) (X : zX) (Q : State → Prop) (k n : Nat) (S : zS) (b : Nat) (a1 a2 a3 : Int) (V : zH) : Prop := Zr E X room_1 zm_L_law Q k n 799 [(0, zrv (zsr b)), (1, zrv a1), (2, zrv a2), (3, ziv a3)] [] S V
set_option maxRecDepth 100000 in
set_option maxHeartbeats 4000000 in
theorem wp_L_law_18 {E : zE} {X : zX} {Q : State → Prop} {k n : Nat} {S : zS} {b Ln : Nat} {xs : Nat → Int32} {a1 a2 a3 : Int} {V : zH} (hLw : zLw E X Q b Ln xs) (hLn : Ln ≤ 2560)
    (h : (z32 ((Ln : Int) - 5)) ∧ (((Ln : Int) - 5 < a3) → ((k ≤ 174162 ∧ n ≤ 8579764))) ∧ ((a3 ≤ (Ln : Int) - 5) → (((0 : Int) ≤ a3 ∧ a3 < (Ln : Int)) ∧ ∀ x4 : Int, x4 = zand (zscr xs a3) 31 → ((x4 = 0) → (zl_L_law_152 E X Q k n S b a1 a2 a3 V)) ∧ ((x4 = 1) → (zl_L_law_195 E X Q k n S b a1 a2 a3 V)) ∧ ((x4 = 2) → (zl_L_law_248 E X Q k n S b a1 a2 a3 V)) ∧ ((x4 = 3) → (zl_L_law_281 E X Q k n S b a1 a2 a3 V)) ∧ ((x4 = 4) → (zl_L_law_344 E X Q k n S b a1 a2 a3 V)) ∧ ((x4 = 5) → (zl_L_law_367 E X Q k n S b a1 a2 a3 V)) ∧ ((x4 = 6) → (zl_L_law_400 E X Q k n S b a1 a2 a3 V)) ∧ ((x4 = 7) → (zl_L_law_433 E X Q k n S b a1 a2 a3 V)) ∧ ((x4 = 8) → (zl_L_law_466 E X Q k n S b a1 a2 a3 V)) ∧ ((x4 = 9) → (zl_L_law_479 E X Q k n S b a1 a2 a3 V)) ∧ ((x4 = 10) → (zl_L_law_492 E X Q k n S b a1 a2 a3 V)) ∧ ((x4 = 11) → (zl_L_law_505 E X Q k n S b a1 a2 a3 V)) ∧ ((x4 = 12) → (zl_L_law_518 E X Q k n S b a1 a2 a3 V)) ∧ ((x4 = 13) → (zl_L_law_541 E X Q k n S b a1 a2 a3 V)) ∧ ((x4 = 14) → (zl_L_law_564 E X Q k n S b a1 a2 a3 V)) ∧ ((x4 = 15) → (zl_L_law_597 E X Q k n S b a1 a2 a3 V)) ∧ ((x4 = 16) → (zl_L_law_610 E X Q k n S b a1 a2 a3 V)) ∧ ((x4 = 17) → (zl_L_law_623 E X Q k n S b a1 a2 a3 V)) ∧ ((x4 = 18) → (zl_L_law_646 E X Q k n S b a1 a2 a3 V)) ∧ ((x4 = 19) → (zl_L_law_679 E X Q k n S b a1 a2 a3 V)) ∧ ((x4 = 20) → (zl_L_law_702 E X Q k n S b a1 a2 a3 V)) ∧ ((x4 = 21) → (zl_L_law_735 E X Q k n S b a1 a2 a3 V)) ∧ ((x4 = 22) → (zl_L_law_749 E X Q k n S b a1 a2 a3 V)) ∧ ((x4 = 23) → (zl_L_law_763 E X Q k n S b a1 a2 a3 V)) ∧ ((x4 = 24) → (zl_L_law_776 E X Q k n S b a1 a2 a3 V)) ∧ ((x4 = 25) → (zl_L_law_799 E X Q k n S b a1 a2 a3 V)) ∧ ((x4 < 0 ∨ 25 < x4) → ((z32 (a3 + 5)) ∧ zl_L_law_18 E X Q k n S b a1 a2 (a3 + 5) V))))) :
    zl_L_law_18 E X Q k n S b a1 a2 a3 V := by
  unfold zl_L_law_18
  refine z_iload_n 3 dL_law_18 rfl ?_
  refine z_aload_n 0 dL_law_19 rfl ?_
  refine z_slen hLw hLn dL_law_20 ?_
  refine z_iconst dL_law_21 ⟨by decide, by decide⟩ ?_
  obtain ⟨o1, h⟩ := h
  refine z_isub dL_law_22 o1 ?_
  refine z_icmp_gt dL_law_23 (tgt := 828) (by decide) (fun c2 => ?_) (fun c2 => ?_)
  · have h := h.1 c2
    refine z_iconst dL_law_828 ⟨by decide, by decide⟩ ?_
    exact z_lawret hLw dL_law_829 h
  · have h := h.2 c2
    refine z_aload_n 0 dL_law_26 rfl ?_
    refine z_iload_n 3 dL_law_27 rfl ?_
    obtain ⟨o3, h⟩ := h
    refine z_sld hLw dL_law_28 o3 ?_
    refine z_bipush dL_law_29 ⟨by decide, by decide⟩ (by decide) ?_
    refine z_iand dL_law_31 ?_
    refine z_nameI (fun x4 e5 => ?_)
    have h := h x4 e5
    by_cases c6 : x4 = 0
    · have h := h.1 c6
      refine z_tableIn dL_law_32 (by omega) (off := 120) (by rw [c6]; rfl) (tgt := 152) (by decide) ?_
      exact h
    by_cases c7 : x4 = 1
    · have h := h.2.1 c7
      refine z_tableIn dL_law_32 (by omega) (off := 163) (by rw [c7]; rfl) (tgt := 195) (by decide) ?_
      exact h
    by_cases c8 : x4 = 2
    · have h := h.2.2.1 c8
      refine z_tableIn dL_law_32 (by omega) (off := 216) (by rw [c8]; rfl) (tgt := 248) (by decide) ?_
      exact h
    by_cases c9 : x4 = 3
    · have h := h.2.2.2.1 c9
      refine z_tableIn dL_law_32 (by omega) (off := 249) (by rw [c9]; rfl) (tgt := 281) (by decide) ?_
      exact h
    by_cases c10 : x4 = 4
    · have h := h.2.2.2.2.1 c10
      refine z_tableIn dL_law_32 (by omega) (off := 312) (by rw [c10]; rfl) (tgt := 344) (by decide) ?_
      exact h
    by_cases c11 : x4 = 5
    · have h := h.2.2.2.2.2.1 c11
      refine z_tableIn dL_law_32 (by omega) (off := 335) (by rw [c11]; rfl) (tgt := 367) (by decide) ?_
      exact h
    by_cases c12 : x4 = 6
    · have h := h.2.2.2.2.2.2.1 c12
      refine z_tableIn dL_law_32 (by omega) (off := 368) (by rw [c12]; rfl) (tgt := 400) (by decide) ?_
      exact h
    by_cases c13 : x4 = 7
    · have h := h.2.2.2.2.2.2.2.1 c13
      refine z_tableIn dL_law_32 (by omega) (off := 401) (by rw [c13]; rfl) (tgt := 433) (by decide) ?_
      exact h
    by_cases c14 : x4 = 8
    · have h := h.2.2.2.2.2.2.2.2.1 c14
      refine z_tableIn dL_law_32 (by omega) (off := 434) (by rw [c14]; rfl) (tgt := 466) (by decide) ?_
      exact h
    by_cases c15 : x4 = 9
    · have h := h.2.2.2.2.2.2.2.2.2.1 c15
      refine z_tableIn dL_law_32 (by omega) (off := 447) (by rw [c15]; rfl) (tgt := 479) (by decide) ?_
      exact h
    by_cases c16 : x4 = 10
    · have h := h.2.2.2.2.2.2.2.2.2.2.1 c16
      refine z_tableIn dL_law_32 (by omega) (off := 460) (by rw [c16]; rfl) (tgt := 492) (by decide) ?_
      exact h
    by_cases c17 : x4 = 11
    · have h := h.2.2.2.2.2.2.2.2.2.2.2.1 c17
      refine z_tableIn dL_law_32 (by omega) (off := 473) (by rw [c17]; rfl) (tgt := 505) (by decide) ?_
      exact h
    by_cases c18 : x4 = 12
    · have h := h.2.2.2.2.2.2.2.2.2.2.2.2.1 c18
      refine z_tableIn dL_law_32 (by omega) (off := 486) (by rw [c18]; rfl) (tgt := 518) (by decide) ?_
      exact h
    by_cases c19 : x4 = 13
    · have h := h.2.2.2.2.2.2.2.2.2.2.2.2.2.1 c19
      refine z_tableIn dL_law_32 (by omega) (off := 509) (by rw [c19]; rfl) (tgt := 541) (by decide) ?_
      exact h
    by_cases c20 : x4 = 14
    · have h := h.2.2.2.2.2.2.2.2.2.2.2.2.2.2.1 c20
      refine z_tableIn dL_law_32 (by omega) (off := 532) (by rw [c20]; rfl) (tgt := 564) (by decide) ?_
      exact h
    by_cases c21 : x4 = 15
    · have h := h.2.2.2.2.2.2.2.2.2.2.2.2.2.2.2.1 c21
      refine z_tableIn dL_law_32 (by omega) (off := 565) (by rw [c21]; rfl) (tgt := 597) (by decide) ?_
      exact h
    by_cases c22 : x4 = 16
    · have h := h.2.2.2.2.2.2.2.2.2.2.2.2.2.2.2.2.1 c22
      refine z_tableIn dL_law_32 (by omega) (off := 578) (by rw [c22]; rfl) (tgt := 610) (by decide) ?_
      exact h
    by_cases c23 : x4 = 17
    · have h := h.2.2.2.2.2.2.2.2.2.2.2.2.2.2.2.2.2.1 c23
      refine z_tableIn dL_law_32 (by omega) (off := 591) (by rw [c23]; rfl) (tgt := 623) (by decide) ?_
      exact h
    by_cases c24 : x4 = 18
    · have h := h.2.2.2.2.2.2.2.2.2.2.2.2.2.2.2.2.2.2.1 c24
      refine z_tableIn dL_law_32 (by omega) (off := 614) (by rw [c24]; rfl) (tgt := 646) (by decide) ?_
      exact h
    by_cases c25 : x4 = 19
    · have h := h.2.2.2.2.2.2.2.2.2.2.2.2.2.2.2.2.2.2.2.1 c25
      refine z_tableIn dL_law_32 (by omega) (off := 647) (by rw [c25]; rfl) (tgt := 679) (by decide) ?_
      exact h
    by_cases c26 : x4 = 20
    · have h := h.2.2.2.2.2.2.2.2.2.2.2.2.2.2.2.2.2.2.2.2.1 c26
      refine z_tableIn dL_law_32 (by omega) (off := 670) (by rw [c26]; rfl) (tgt := 702) (by decide) ?_
      exact h
    by_cases c27 : x4 = 21
    · have h := h.2.2.2.2.2.2.2.2.2.2.2.2.2.2.2.2.2.2.2.2.2.1 c27
      refine z_tableIn dL_law_32 (by omega) (off := 703) (by rw [c27]; rfl) (tgt := 735) (by decide) ?_
      exact h
    by_cases c28 : x4 = 22
    · have h := h.2.2.2.2.2.2.2.2.2.2.2.2.2.2.2.2.2.2.2.2.2.2.1 c28
      refine z_tableIn dL_law_32 (by omega) (off := 717) (by rw [c28]; rfl) (tgt := 749) (by decide) ?_
      exact h
    by_cases c29 : x4 = 23
    · have h := h.2.2.2.2.2.2.2.2.2.2.2.2.2.2.2.2.2.2.2.2.2.2.2.1 c29
      refine z_tableIn dL_law_32 (by omega) (off := 731) (by rw [c29]; rfl) (tgt := 763) (by decide) ?_
      exact h
    by_cases c30 : x4 = 24
    · have h := h.2.2.2.2.2.2.2.2.2.2.2.2.2.2.2.2.2.2.2.2.2.2.2.2.1 c30
      refine z_tableIn dL_law_32 (by omega) (off := 744) (by rw [c30]; rfl) (tgt := 776) (by decide) ?_
      exact h
    by_cases c31 : x4 = 25
    · have h := h.2.2.2.2.2.2.2.2.2.2.2.2.2.2.2.2.2.2.2.2.2.2.2.2.2.1 c31
      refine z_tableIn dL_law_32 (by omega) (off := 767) (by rw [c31]; rfl) (tgt := 799) (by decide) ?_
      exact h
    have h := h.2.2.2.2.2.2.2.2.2.2.2.2.2.2.2.2.2.2.2.2.2.2.2.2.2.2 (by omega)
    refine z_tableOut dL_law_32 (by omega) (tgt := 822) (by decide) ?_
    obtain ⟨o32, h⟩ := h
    refine z_iinc 3 dL_law_822 rfl (by decide) o32 (L' := [(0, zrv (zsr b)), (1, zrv a1), (2, zrv a2), (3, ziv (a3 + 5))]) [1, 2, 3, 0] rfl ?_
    refine z_goto (tgt := 18) dL_law_825 (by decide) ?_
    exact h
set_option maxRecDepth 100000 in
set_option maxHeartbeats 4000000 in
theorem wp_L_law_152 {E : zE} {X : zX} {Q : State → Prop} {k n : Nat} {S : zS} {b Ln : Nat} {xs : Nat → Int32} {a1 a2 a3 : Int} {V : zH} (hLw : zLw E X Q b Ln xs) (hLn : Ln ≤ 2560)
    (h : (z32 (a3 + 1)) ∧ ((0 : Int) ≤ a3 + 1 ∧ a3 + 1 < (Ln : Int)) ∧ (z32 (a3 + 2)) ∧ ((0 : Int) ≤ a3 + 2 ∧ a3 + 2 < (Ln : Int)) ∧ (z32 (a3 + 3)) ∧ ((0 : Int) ≤ a3 + 3 ∧ a3 + 3 < (Ln : Int)) ∧ ((S a1).1 = 10) ∧ (k ≤ 174162 ∧ n ≤ 8579764) ∧ SpI E 2 zm_X7_plate [zrv a1, ziv (zscr xs (a3 + 1)), ziv (zscr xs (a3 + 2)), ziv (zscr xs (a3 + 3))] S V (fun x8 V9 => ((S a2).1 = 11) ∧ SpI E 1 zm_X8_plate [zrv a2, ziv (zscr xs (a3 + 1)), ziv (zscr xs (a3 + 2)), ziv (zscr xs (a3 + 3))] S V9 (fun x12 V13 => ((x8 = x12) → ((z32 (a3 + 5)) ∧ zl_L_law_18 E X Q k n S b a1 a2 (a3 + 5) V13)) ∧ ((x8 ≠ x12) → (False))))) :
    zl_L_law_152 E X Q k n S b a1 a2 a3 V := by
  unfold zl_L_law_152
  refine z_aload_n 1 dL_law_152 rfl ?_
  refine z_aload_n 0 dL_law_153 rfl ?_
  refine z_iload_n 3 dL_law_154 rfl ?_
  refine z_iconst dL_law_155 ⟨by decide, by decide⟩ ?_
  obtain ⟨o1, h⟩ := h
  refine z_iadd dL_law_156 o1 ?_
  obtain ⟨o2, h⟩ := h
  refine z_sld hLw dL_law_157 o2 ?_
  refine z_aload_n 0 dL_law_158 rfl ?_
  refine z_iload_n 3 dL_law_159 rfl ?_
  refine z_iconst dL_law_160 ⟨by decide, by decide⟩ ?_
  obtain ⟨o3, h⟩ := h
  refine z_iadd dL_law_161 o3 ?_
  obtain ⟨o4, h⟩ := h
  refine z_sld hLw dL_law_162 o4 ?_
  refine z_aload_n 0 dL_law_163 rfl ?_
  refine z_iload_n 3 dL_law_164 rfl ?_
  refine z_iconst dL_law_165 ⟨by decide, by decide⟩ ?_
  obtain ⟨o5, h⟩ := h
  refine z_iadd dL_law_166 o5 ?_
  obtain ⟨o6, h⟩ := h
  refine z_sld hLw dL_law_167 o6 ?_
  obtain ⟨o7, h⟩ := h
  obtain ⟨o10, h⟩ := h
  refine z_cVI [ziv (zscr xs (a3 + 1)), ziv (zscr xs (a3 + 2)), ziv (zscr xs (a3 + 3))] (zk_RL_13 _ rfl) dL_law_168 o7 (by decide) rfl rfl (Nat.le_of_ble_eq_true rfl) (Nat.le_of_ble_eq_true rfl) (Nat.le_of_ble_eq_true rfl) o10.1 o10.2 h (fun x8 V9 h => ?_)
  refine z_aload_n 2 dL_law_171 rfl ?_
  refine z_aload_n 0 dL_law_172 rfl ?_
  refine z_iload_n 3 dL_law_173 rfl ?_
  refine z_iconst dL_law_174 ⟨by decide, by decide⟩ ?_
  refine z_iadd dL_law_175 o1 ?_
  refine z_sld hLw dL_law_176 o2 ?_
  refine z_aload_n 0 dL_law_177 rfl ?_
  refine z_iload_n 3 dL_law_178 rfl ?_
  refine z_iconst dL_law_179 ⟨by decide, by decide⟩ ?_
  refine z_iadd dL_law_180 o3 ?_
  refine z_sld hLw dL_law_181 o4 ?_
  refine z_aload_n 0 dL_law_182 rfl ?_
  refine z_iload_n 3 dL_law_183 rfl ?_
  refine z_iconst dL_law_184 ⟨by decide, by decide⟩ ?_
  refine z_iadd dL_law_185 o5 ?_
  refine z_sld hLw dL_law_186 o6 ?_
  obtain ⟨o11, h⟩ := h
  refine z_cVI [ziv (zscr xs (a3 + 1)), ziv (zscr xs (a3 + 2)), ziv (zscr xs (a3 + 3))] (zk_RL_17 _ rfl) dL_law_187 o11 (by decide) rfl rfl (Nat.le_of_ble_eq_true rfl) (Nat.le_of_ble_eq_true rfl) (Nat.le_of_ble_eq_true rfl) o10.1 o10.2 h (fun x12 V13 h => ?_)
  refine z_icmp_eq dL_law_190 (tgt := 822) (by decide) (fun c14 => ?_) (fun c14 => ?_)
  · have h := h.1 c14
    obtain ⟨o15, h⟩ := h
    refine z_iinc 3 dL_law_822 rfl (by decide) o15 (L' := [(0, zrv (zsr b)), (1, zrv a1), (2, zrv a2), (3, ziv (a3 + 5))]) [1, 2, 3, 0] rfl ?_
    refine z_goto (tgt := 18) dL_law_825 (by decide) ?_
    exact h
  · have h := h.2 c14
    refine z_iconst dL_law_193 ⟨by decide, by decide⟩ ?_
    exact h.elim
set_option maxRecDepth 100000 in
set_option maxHeartbeats 4000000 in
theorem wp_L_law_195 {E : zE} {X : zX} {Q : State → Prop} {k n : Nat} {S : zS} {b Ln : Nat} {xs : Nat → Int32} {a1 a2 a3 : Int} {V : zH} (hLw : zLw E X Q b Ln xs) (hLn : Ln ≤ 2560)
    (h : (z32 (a3 + 1)) ∧ ((0 : Int) ≤ a3 + 1 ∧ a3 + 1 < (Ln : Int)) ∧ (z32 (a3 + 2)) ∧ ((0 : Int) ≤ a3 + 2 ∧ a3 + 2 < (Ln : Int)) ∧ (z32 (a3 + 3)) ∧ ((0 : Int) ≤ a3 + 3 ∧ a3 + 3 < (Ln : Int)) ∧ (z32 (a3 + 4)) ∧ ((0 : Int) ≤ a3 + 4 ∧ a3 + 4 < (Ln : Int)) ∧ ((S a1).1 = 10) ∧ (k ≤ 174162 ∧ n ≤ 8579764) ∧ SpI E 3 zm_X7_button [zrv a1, ziv (zscr xs (a3 + 1)), ziv (zscr xs (a3 + 2)), ziv (zscr xs (a3 + 3)), ziv (zscr xs (a3 + 4))] S V (fun x10 V11 => ((S a2).1 = 11) ∧ SpI E 2 zm_X8_button [zrv a2, ziv (zscr xs (a3 + 1)), ziv (zscr xs (a3 + 2)), ziv (zscr xs (a3 + 3)), ziv (zscr xs (a3 + 4))] S V11 (fun x14 V15 => ((x10 = x14) → ((z32 (a3 + 5)) ∧ zl_L_law_18 E X Q k n S b a1 a2 (a3 + 5) V15)) ∧ ((x10 ≠ x14) → (False))))) :
    zl_L_law_195 E X Q k n S b a1 a2 a3 V := by
  unfold zl_L_law_195
  refine z_aload_n 1 dL_law_195 rfl ?_
  refine z_aload_n 0 dL_law_196 rfl ?_
  refine z_iload_n 3 dL_law_197 rfl ?_
  refine z_iconst dL_law_198 ⟨by decide, by decide⟩ ?_
  obtain ⟨o1, h⟩ := h
  refine z_iadd dL_law_199 o1 ?_
  obtain ⟨o2, h⟩ := h
  refine z_sld hLw dL_law_200 o2 ?_
  refine z_aload_n 0 dL_law_201 rfl ?_
  refine z_iload_n 3 dL_law_202 rfl ?_
  refine z_iconst dL_law_203 ⟨by decide, by decide⟩ ?_
  obtain ⟨o3, h⟩ := h
  refine z_iadd dL_law_204 o3 ?_
  obtain ⟨o4, h⟩ := h
  refine z_sld hLw dL_law_205 o4 ?_
  refine z_aload_n 0 dL_law_206 rfl ?_
  refine z_iload_n 3 dL_law_207 rfl ?_
  refine z_iconst dL_law_208 ⟨by decide, by decide⟩ ?_
  obtain ⟨o5, h⟩ := h
  refine z_iadd dL_law_209 o5 ?_
  obtain ⟨o6, h⟩ := h
  refine z_sld hLw dL_law_210 o6 ?_
  refine z_aload_n 0 dL_law_211 rfl ?_
  refine z_iload_n 3 dL_law_212 rfl ?_
  refine z_iconst dL_law_213 ⟨by decide, by decide⟩ ?_
  obtain ⟨o7, h⟩ := h
  refine z_iadd dL_law_214 o7 ?_
  obtain ⟨o8, h⟩ := h
  refine z_sld hLw dL_law_215 o8 ?_
  obtain ⟨o9, h⟩ := h
  obtain ⟨o12, h⟩ := h
  refine z_cVI [ziv (zscr xs (a3 + 1)), ziv (zscr xs (a3 + 2)), ziv (zscr xs (a3 + 3)), ziv (zscr xs (a3 + 4))] (zk_RL_18 _ rfl) dL_law_216 o9 (by decide) rfl rfl (Nat.le_of_ble_eq_true rfl) (Nat.le_of_ble_eq_true rfl) (Nat.le_of_ble_eq_true rfl) o12.1 o12.2 h (fun x10 V11 h => ?_)
  refine z_aload_n 2 dL_law_219 rfl ?_
  refine z_aload_n 0 dL_law_220 rfl ?_
  refine z_iload_n 3 dL_law_221 rfl ?_
  refine z_iconst dL_law_222 ⟨by decide, by decide⟩ ?_
  refine z_iadd dL_law_223 o1 ?_
  refine z_sld hLw dL_law_224 o2 ?_
  refine z_aload_n 0 dL_law_225 rfl ?_
  refine z_iload_n 3 dL_law_226 rfl ?_
  refine z_iconst dL_law_227 ⟨by decide, by decide⟩ ?_
  refine z_iadd dL_law_228 o3 ?_
  refine z_sld hLw dL_law_229 o4 ?_
  refine z_aload_n 0 dL_law_230 rfl ?_
  refine z_iload_n 3 dL_law_231 rfl ?_
  refine z_iconst dL_law_232 ⟨by decide, by decide⟩ ?_
  refine z_iadd dL_law_233 o5 ?_
  refine z_sld hLw dL_law_234 o6 ?_
  refine z_aload_n 0 dL_law_235 rfl ?_
  refine z_iload_n 3 dL_law_236 rfl ?_
  refine z_iconst dL_law_237 ⟨by decide, by decide⟩ ?_
  refine z_iadd dL_law_238 o7 ?_
  refine z_sld hLw dL_law_239 o8 ?_
  obtain ⟨o13, h⟩ := h
  refine z_cVI [ziv (zscr xs (a3 + 1)), ziv (zscr xs (a3 + 2)), ziv (zscr xs (a3 + 3)), ziv (zscr xs (a3 + 4))] (zk_RL_22 _ rfl) dL_law_240 o13 (by decide) rfl rfl (Nat.le_of_ble_eq_true rfl) (Nat.le_of_ble_eq_true rfl) (Nat.le_of_ble_eq_true rfl) o12.1 o12.2 h (fun x14 V15 h => ?_)
  refine z_icmp_eq dL_law_243 (tgt := 822) (by decide) (fun c16 => ?_) (fun c16 => ?_)
  · have h := h.1 c16
    obtain ⟨o17, h⟩ := h
    refine z_iinc 3 dL_law_822 rfl (by decide) o17 (L' := [(0, zrv (zsr b)), (1, zrv a1), (2, zrv a2), (3, ziv (a3 + 5))]) [1, 2, 3, 0] rfl ?_
    refine z_goto (tgt := 18) dL_law_825 (by decide) ?_
    exact h
  · have h := h.2 c16
    refine z_iconst dL_law_246 ⟨by decide, by decide⟩ ?_
    exact h.elim
set_option maxRecDepth 100000 in
set_option maxHeartbeats 4000000 in
theorem wp_L_law_248 {E : zE} {X : zX} {Q : State → Prop} {k n : Nat} {S : zS} {b Ln : Nat} {xs : Nat → Int32} {a1 a2 a3 : Int} {V : zH} (hLw : zLw E X Q b Ln xs) (hLn : Ln ≤ 2560)
    (h : (z32 (a3 + 1)) ∧ ((0 : Int) ≤ a3 + 1 ∧ a3 + 1 < (Ln : Int)) ∧ (z32 (a3 + 2)) ∧ ((0 : Int) ≤ a3 + 2 ∧ a3 + 2 < (Ln : Int)) ∧ ((S a1).1 = 10) ∧ (k ≤ 174162 ∧ n ≤ 8579764) ∧ SpI E 2 zm_X7_board [zrv a1, ziv (zscr xs (a3 + 1)), ziv (zscr xs (a3 + 2))] S V (fun x6 V7 => ((S a2).1 = 11) ∧ SpI E 1 zm_X8_board [zrv a2, ziv (zscr xs (a3 + 1)), ziv (zscr xs (a3 + 2))] S V7 (fun x10 V11 => ((x6 = x10) → ((z32 (a3 + 5)) ∧ zl_L_law_18 E X Q k n S b a1 a2 (a3 + 5) V11)) ∧ ((x6 ≠ x10) → (False))))) :
    zl_L_law_248 E X Q k n S b a1 a2 a3 V := by
  unfold zl_L_law_248
  refine z_aload_n 1 dL_law_248 rfl ?_
  refine z_aload_n 0 dL_law_249 rfl ?_
  refine z_iload_n 3 dL_law_250 rfl ?_
  refine z_iconst dL_law_251 ⟨by decide, by decide⟩ ?_
  obtain ⟨o1, h⟩ := h
  refine z_iadd dL_law_252 o1 ?_
  obtain ⟨o2, h⟩ := h
  refine z_sld hLw dL_law_253 o2 ?_
  refine z_aload_n 0 dL_law_254 rfl ?_
  refine z_iload_n 3 dL_law_255 rfl ?_
  refine z_iconst dL_law_256 ⟨by decide, by decide⟩ ?_
  obtain ⟨o3, h⟩ := h
  refine z_iadd dL_law_257 o3 ?_
  obtain ⟨o4, h⟩ := h
  refine z_sld hLw dL_law_258 o4 ?_
  obtain ⟨o5, h⟩ := h
  obtain ⟨o8, h⟩ := h
  refine z_cVI [ziv (zscr xs (a3 + 1)), ziv (zscr xs (a3 + 2))] (zk_RL_23 _ rfl) dL_law_259 o5 (by decide) rfl rfl (Nat.le_of_ble_eq_true rfl) (Nat.le_of_ble_eq_true rfl) (Nat.le_of_ble_eq_true rfl) o8.1 o8.2 h (fun x6 V7 h => ?_)
  refine z_aload_n 2 dL_law_262 rfl ?_
  refine z_aload_n 0 dL_law_263 rfl ?_
  refine z_iload_n 3 dL_law_264 rfl ?_
  refine z_iconst dL_law_265 ⟨by decide, by decide⟩ ?_
  refine z_iadd dL_law_266 o1 ?_
  refine z_sld hLw dL_law_267 o2 ?_
  refine z_aload_n 0 dL_law_268 rfl ?_
  refine z_iload_n 3 dL_law_269 rfl ?_
  refine z_iconst dL_law_270 ⟨by decide, by decide⟩ ?_
  refine z_iadd dL_law_271 o3 ?_
  refine z_sld hLw dL_law_272 o4 ?_
  obtain ⟨o9, h⟩ := h
  refine z_cVI [ziv (zscr xs (a3 + 1)), ziv (zscr xs (a3 + 2))] (zk_RL_27 _ rfl) dL_law_273 o9 (by decide) rfl rfl (Nat.le_of_ble_eq_true rfl) (Nat.le_of_ble_eq_true rfl) (Nat.le_of_ble_eq_true rfl) o8.1 o8.2 h (fun x10 V11 h => ?_)
  refine z_icmp_eq dL_law_276 (tgt := 822) (by decide) (fun c12 => ?_) (fun c12 => ?_)
  · have h := h.1 c12
    obtain ⟨o13, h⟩ := h
    refine z_iinc 3 dL_law_822 rfl (by decide) o13 (L' := [(0, zrv (zsr b)), (1, zrv a1), (2, zrv a2), (3, ziv (a3 + 5))]) [1, 2, 3, 0] rfl ?_
    refine z_goto (tgt := 18) dL_law_825 (by decide) ?_
    exact h
  · have h := h.2 c12
    refine z_iconst dL_law_279 ⟨by decide, by decide⟩ ?_
    exact h.elim
set_option maxRecDepth 100000 in
set_option maxHeartbeats 4000000 in
theorem wp_L_law_281 {E : zE} {X : zX} {Q : State → Prop} {k n : Nat} {S : zS} {b Ln : Nat} {xs : Nat → Int32} {a1 a2 a3 : Int} {V : zH} (hLw : zLw E X Q b Ln xs) (hLn : Ln ≤ 2560)
    (h : (z32 (a3 + 1)) ∧ ((0 : Int) ≤ a3 + 1 ∧ a3 + 1 < (Ln : Int)) ∧ (z32 (a3 + 2)) ∧ ((0 : Int) ≤ a3 + 2 ∧ a3 + 2 < (Ln : Int)) ∧ (z32 (a3 + 3)) ∧ ((0 : Int) ≤ a3 + 3 ∧ a3 + 3 < (Ln : Int)) ∧ ((S a1).1 = 10) ∧ (k ≤ 174162 ∧ n ≤ 8579764) ∧ SpI E 1 zm_X7_entry [zrv a1, ziv (zscr xs (a3 + 1)), zjv (zlorl (zlshl (zscr xs (a3 + 2)) 32) (zlandl (zscr xs (a3 + 3)) 4294967295))] S V (fun x8 V9 => ((S a2).1 = 11) ∧ SpI E 1 zm_X8_entry [zrv a2, ziv (zscr xs (a3 + 1)), zjv (zlorl (zlshl (zscr xs (a3 + 2)) 32) (zlandl (zscr xs (a3 + 3)) 4294967295))] S V9 (fun x12 V13 => ((x8 = x12) → ((z32 (a3 + 5)) ∧ zl_L_law_18 E X Q k n S b a1 a2 (a3 + 5) V13)) ∧ ((x8 ≠ x12) → (False))))) :
    zl_L_law_281 E X Q k n S b a1 a2 a3 V := by
  unfold zl_L_law_281
  refine z_aload_n 1 dL_law_281 rfl ?_
  refine z_aload_n 0 dL_law_282 rfl ?_
  refine z_iload_n 3 dL_law_283 rfl ?_
  refine z_iconst dL_law_284 ⟨by decide, by decide⟩ ?_
  obtain ⟨o1, h⟩ := h
  refine z_iadd dL_law_285 o1 ?_
  obtain ⟨o2, h⟩ := h
  refine z_sld hLw dL_law_286 o2 ?_
  refine z_aload_n 0 dL_law_287 rfl ?_
  refine z_iload_n 3 dL_law_288 rfl ?_
  refine z_iconst dL_law_289 ⟨by decide, by decide⟩ ?_
  obtain ⟨o3, h⟩ := h
  refine z_iadd dL_law_290 o3 ?_
  obtain ⟨o4, h⟩ := h
  refine z_sld hLw dL_law_291 o4 ?_
  refine z_i2l dL_law_292 ?_
  refine z_bipush dL_law_293 ⟨by decide, by decide⟩ (by decide) ?_
  refine z_lshl dL_law_295 ?_
  refine z_aload_n 0 dL_law_296 rfl ?_
  refine z_iload_n 3 dL_law_297 rfl ?_
  refine z_iconst dL_law_298 ⟨by decide, by decide⟩ ?_
  obtain ⟨o5, h⟩ := h
  refine z_iadd dL_law_299 o5 ?_
  obtain ⟨o6, h⟩ := h
  refine z_sld hLw dL_law_300 o6 ?_
  refine z_i2l dL_law_301 ?_
  refine z_ldc2 (c := 4294967295) (zd_RL_28 _ rfl) (by decide) ⟨by decide, by decide⟩ dL_law_302 ?_
  refine z_land dL_law_305 ?_
  refine z_lor dL_law_306 ?_
  obtain ⟨o7, h⟩ := h
  obtain ⟨o10, h⟩ := h
  refine z_cVI [ziv (zscr xs (a3 + 1)), zjv (zlorl (zlshl (zscr xs (a3 + 2)) 32) (zlandl (zscr xs (a3 + 3)) 4294967295))] (zk_RL_30 _ rfl) dL_law_307 o7 (by decide) rfl rfl (Nat.le_of_ble_eq_true rfl) (Nat.le_of_ble_eq_true rfl) (Nat.le_of_ble_eq_true rfl) o10.1 o10.2 h (fun x8 V9 h => ?_)
  refine z_aload_n 2 dL_law_310 rfl ?_
  refine z_aload_n 0 dL_law_311 rfl ?_
  refine z_iload_n 3 dL_law_312 rfl ?_
  refine z_iconst dL_law_313 ⟨by decide, by decide⟩ ?_
  refine z_iadd dL_law_314 o1 ?_
  refine z_sld hLw dL_law_315 o2 ?_
  refine z_aload_n 0 dL_law_316 rfl ?_
  refine z_iload_n 3 dL_law_317 rfl ?_
  refine z_iconst dL_law_318 ⟨by decide, by decide⟩ ?_
  refine z_iadd dL_law_319 o3 ?_
  refine z_sld hLw dL_law_320 o4 ?_
  refine z_i2l dL_law_321 ?_
  refine z_bipush dL_law_322 ⟨by decide, by decide⟩ (by decide) ?_
  refine z_lshl dL_law_324 ?_
  refine z_aload_n 0 dL_law_325 rfl ?_
  refine z_iload_n 3 dL_law_326 rfl ?_
  refine z_iconst dL_law_327 ⟨by decide, by decide⟩ ?_
  refine z_iadd dL_law_328 o5 ?_
  refine z_sld hLw dL_law_329 o6 ?_
  refine z_i2l dL_law_330 ?_
  refine z_ldc2 (c := 4294967295) (zd_RL_28 _ rfl) (by decide) ⟨by decide, by decide⟩ dL_law_331 ?_
  refine z_land dL_law_334 ?_
  refine z_lor dL_law_335 ?_
  obtain ⟨o11, h⟩ := h
  refine z_cVI [ziv (zscr xs (a3 + 1)), zjv (zlorl (zlshl (zscr xs (a3 + 2)) 32) (zlandl (zscr xs (a3 + 3)) 4294967295))] (zk_RL_34 _ rfl) dL_law_336 o11 (by decide) rfl rfl (Nat.le_of_ble_eq_true rfl) (Nat.le_of_ble_eq_true rfl) (Nat.le_of_ble_eq_true rfl) o10.1 o10.2 h (fun x12 V13 h => ?_)
  refine z_icmp_eq dL_law_339 (tgt := 822) (by decide) (fun c14 => ?_) (fun c14 => ?_)
  · have h := h.1 c14
    obtain ⟨o15, h⟩ := h
    refine z_iinc 3 dL_law_822 rfl (by decide) o15 (L' := [(0, zrv (zsr b)), (1, zrv a1), (2, zrv a2), (3, ziv (a3 + 5))]) [1, 2, 3, 0] rfl ?_
    refine z_goto (tgt := 18) dL_law_825 (by decide) ?_
    exact h
  · have h := h.2 c14
    refine z_iconst dL_law_342 ⟨by decide, by decide⟩ ?_
    exact h.elim
set_option maxRecDepth 100000 in
set_option maxHeartbeats 4000000 in
theorem wp_L_law_344 {E : zE} {X : zX} {Q : State → Prop} {k n : Nat} {S : zS} {b Ln : Nat} {xs : Nat → Int32} {a1 a2 a3 : Int} {V : zH} (hLw : zLw E X Q b Ln xs) (hLn : Ln ≤ 2560)
    (h : (z32 (a3 + 1)) ∧ ((0 : Int) ≤ a3 + 1 ∧ a3 + 1 < (Ln : Int)) ∧ ((S a1).1 = 10) ∧ (k ≤ 174162 ∧ n ≤ 8579764) ∧ SpI E 3 zm_X7_wire [zrv a1, ziv (zscr xs (a3 + 1))] S V (fun x4 V5 => ((S a2).1 = 11) ∧ SpI E 2 zm_X8_wire [zrv a2, ziv (zscr xs (a3 + 1))] S V5 (fun x8 V9 => ((x4 = x8) → ((z32 (a3 + 5)) ∧ zl_L_law_18 E X Q k n S b a1 a2 (a3 + 5) V9)) ∧ ((x4 ≠ x8) → (False))))) :
    zl_L_law_344 E X Q k n S b a1 a2 a3 V := by
  unfold zl_L_law_344
  refine z_aload_n 1 dL_law_344 rfl ?_
  refine z_aload_n 0 dL_law_345 rfl ?_
  refine z_iload_n 3 dL_law_346 rfl ?_
  refine z_iconst dL_law_347 ⟨by decide, by decide⟩ ?_
  obtain ⟨o1, h⟩ := h
  refine z_iadd dL_law_348 o1 ?_
  obtain ⟨o2, h⟩ := h
  refine z_sld hLw dL_law_349 o2 ?_
  obtain ⟨o3, h⟩ := h
  obtain ⟨o6, h⟩ := h
  refine z_cVI [ziv (zscr xs (a3 + 1))] (zk_RL_35 _ rfl) dL_law_350 o3 (by decide) rfl rfl (Nat.le_of_ble_eq_true rfl) (Nat.le_of_ble_eq_true rfl) (Nat.le_of_ble_eq_true rfl) o6.1 o6.2 h (fun x4 V5 h => ?_)
  refine z_aload_n 2 dL_law_353 rfl ?_
  refine z_aload_n 0 dL_law_354 rfl ?_
  refine z_iload_n 3 dL_law_355 rfl ?_
  refine z_iconst dL_law_356 ⟨by decide, by decide⟩ ?_
  refine z_iadd dL_law_357 o1 ?_
  refine z_sld hLw dL_law_358 o2 ?_
  obtain ⟨o7, h⟩ := h
  refine z_cVI [ziv (zscr xs (a3 + 1))] (zk_RL_39 _ rfl) dL_law_359 o7 (by decide) rfl rfl (Nat.le_of_ble_eq_true rfl) (Nat.le_of_ble_eq_true rfl) (Nat.le_of_ble_eq_true rfl) o6.1 o6.2 h (fun x8 V9 h => ?_)
  refine z_icmp_eq dL_law_362 (tgt := 822) (by decide) (fun c10 => ?_) (fun c10 => ?_)
  · have h := h.1 c10
    obtain ⟨o11, h⟩ := h
    refine z_iinc 3 dL_law_822 rfl (by decide) o11 (L' := [(0, zrv (zsr b)), (1, zrv a1), (2, zrv a2), (3, ziv (a3 + 5))]) [1, 2, 3, 0] rfl ?_
    refine z_goto (tgt := 18) dL_law_825 (by decide) ?_
    exact h
  · have h := h.2 c10
    refine z_iconst dL_law_365 ⟨by decide, by decide⟩ ?_
    exact h.elim
set_option maxRecDepth 100000 in
set_option maxHeartbeats 4000000 in
theorem wp_L_law_367 {E : zE} {X : zX} {Q : State → Prop} {k n : Nat} {S : zS} {b Ln : Nat} {xs : Nat → Int32} {a1 a2 a3 : Int} {V : zH} (hLw : zLw E X Q b Ln xs) (hLn : Ln ≤ 2560)
    (h : (z32 (a3 + 1)) ∧ ((0 : Int) ≤ a3 + 1 ∧ a3 + 1 < (Ln : Int)) ∧ (z32 (a3 + 2)) ∧ ((0 : Int) ≤ a3 + 2 ∧ a3 + 2 < (Ln : Int)) ∧ ((S a1).1 = 10) ∧ (k ≤ 174162 ∧ n ≤ 8579764) ∧ SpI E 3 zm_X7_cost [zrv a1, ziv (zscr xs (a3 + 1)), ziv (zscr xs (a3 + 2))] S V (fun x6 V7 => ((S a2).1 = 11) ∧ SpI E 2 zm_X8_cost [zrv a2, ziv (zscr xs (a3 + 1)), ziv (zscr xs (a3 + 2))] S V7 (fun x10 V11 => ((x6 = x10) → ((z32 (a3 + 5)) ∧ zl_L_law_18 E X Q k n S b a1 a2 (a3 + 5) V11)) ∧ ((x6 ≠ x10) → (False))))) :
    zl_L_law_367 E X Q k n S b a1 a2 a3 V := by
  unfold zl_L_law_367
  refine z_aload_n 1 dL_law_367 rfl ?_
  refine z_aload_n 0 dL_law_368 rfl ?_
  refine z_iload_n 3 dL_law_369 rfl ?_
  refine z_iconst dL_law_370 ⟨by decide, by decide⟩ ?_
  obtain ⟨o1, h⟩ := h
  refine z_iadd dL_law_371 o1 ?_
  obtain ⟨o2, h⟩ := h
  refine z_sld hLw dL_law_372 o2 ?_
  refine z_aload_n 0 dL_law_373 rfl ?_
  refine z_iload_n 3 dL_law_374 rfl ?_
  refine z_iconst dL_law_375 ⟨by decide, by decide⟩ ?_
  obtain ⟨o3, h⟩ := h
  refine z_iadd dL_law_376 o3 ?_
  obtain ⟨o4, h⟩ := h
  refine z_sld hLw dL_law_377 o4 ?_
  obtain ⟨o5, h⟩ := h
  obtain ⟨o8, h⟩ := h
  refine z_cVI [ziv (zscr xs (a3 + 1)), ziv (zscr xs (a3 + 2))] (zk_RL_40 _ rfl) dL_law_378 o5 (by decide) rfl rfl (Nat.le_of_ble_eq_true rfl) (Nat.le_of_ble_eq_true rfl) (Nat.le_of_ble_eq_true rfl) o8.1 o8.2 h (fun x6 V7 h => ?_)
  refine z_aload_n 2 dL_law_381 rfl ?_
  refine z_aload_n 0 dL_law_382 rfl ?_
  refine z_iload_n 3 dL_law_383 rfl ?_
  refine z_iconst dL_law_384 ⟨by decide, by decide⟩ ?_
  refine z_iadd dL_law_385 o1 ?_
  refine z_sld hLw dL_law_386 o2 ?_
  refine z_aload_n 0 dL_law_387 rfl ?_
  refine z_iload_n 3 dL_law_388 rfl ?_
  refine z_iconst dL_law_389 ⟨by decide, by decide⟩ ?_
  refine z_iadd dL_law_390 o3 ?_
  refine z_sld hLw dL_law_391 o4 ?_
  obtain ⟨o9, h⟩ := h
  refine z_cVI [ziv (zscr xs (a3 + 1)), ziv (zscr xs (a3 + 2))] (zk_RL_44 _ rfl) dL_law_392 o9 (by decide) rfl rfl (Nat.le_of_ble_eq_true rfl) (Nat.le_of_ble_eq_true rfl) (Nat.le_of_ble_eq_true rfl) o8.1 o8.2 h (fun x10 V11 h => ?_)
  refine z_icmp_eq dL_law_395 (tgt := 822) (by decide) (fun c12 => ?_) (fun c12 => ?_)
  · have h := h.1 c12
    obtain ⟨o13, h⟩ := h
    refine z_iinc 3 dL_law_822 rfl (by decide) o13 (L' := [(0, zrv (zsr b)), (1, zrv a1), (2, zrv a2), (3, ziv (a3 + 5))]) [1, 2, 3, 0] rfl ?_
    refine z_goto (tgt := 18) dL_law_825 (by decide) ?_
    exact h
  · have h := h.2 c12
    refine z_iconst dL_law_398 ⟨by decide, by decide⟩ ?_
    exact h.elim
set_option maxRecDepth 100000 in
set_option maxHeartbeats 4000000 in
theorem wp_L_law_400 {E : zE} {X : zX} {Q : State → Prop} {k n : Nat} {S : zS} {b Ln : Nat} {xs : Nat → Int32} {a1 a2 a3 : Int} {V : zH} (hLw : zLw E X Q b Ln xs) (hLn : Ln ≤ 2560)
    (h : (z32 (a3 + 1)) ∧ ((0 : Int) ≤ a3 + 1 ∧ a3 + 1 < (Ln : Int)) ∧ (z32 (a3 + 2)) ∧ ((0 : Int) ≤ a3 + 2 ∧ a3 + 2 < (Ln : Int)) ∧ ((S a1).1 = 10) ∧ (k ≤ 174162 ∧ n ≤ 8579764) ∧ SpI E 3 zm_X7_light [zrv a1, ziv (zscr xs (a3 + 1)), ziv (zscr xs (a3 + 2))] S V (fun x6 V7 => ((S a2).1 = 11) ∧ SpI E 1 zm_X8_light [zrv a2, ziv (zscr xs (a3 + 1)), ziv (zscr xs (a3 + 2))] S V7 (fun x10 V11 => ((x6 = x10) → ((z32 (a3 + 5)) ∧ zl_L_law_18 E X Q k n S b a1 a2 (a3 + 5) V11)) ∧ ((x6 ≠ x10) → (False))))) :
    zl_L_law_400 E X Q k n S b a1 a2 a3 V := by
  unfold zl_L_law_400
  refine z_aload_n 1 dL_law_400 rfl ?_
  refine z_aload_n 0 dL_law_401 rfl ?_
  refine z_iload_n 3 dL_law_402 rfl ?_
  refine z_iconst dL_law_403 ⟨by decide, by decide⟩ ?_
  obtain ⟨o1, h⟩ := h
  refine z_iadd dL_law_404 o1 ?_
  obtain ⟨o2, h⟩ := h
  refine z_sld hLw dL_law_405 o2 ?_
  refine z_aload_n 0 dL_law_406 rfl ?_
  refine z_iload_n 3 dL_law_407 rfl ?_
  refine z_iconst dL_law_408 ⟨by decide, by decide⟩ ?_
  obtain ⟨o3, h⟩ := h
  refine z_iadd dL_law_409 o3 ?_
  obtain ⟨o4, h⟩ := h
  refine z_sld hLw dL_law_410 o4 ?_
  obtain ⟨o5, h⟩ := h
  obtain ⟨o8, h⟩ := h
  refine z_cVI [ziv (zscr xs (a3 + 1)), ziv (zscr xs (a3 + 2))] (zk_RL_45 _ rfl) dL_law_411 o5 (by decide) rfl rfl (Nat.le_of_ble_eq_true rfl) (Nat.le_of_ble_eq_true rfl) (Nat.le_of_ble_eq_true rfl) o8.1 o8.2 h (fun x6 V7 h => ?_)
  refine z_aload_n 2 dL_law_414 rfl ?_
  refine z_aload_n 0 dL_law_415 rfl ?_
  refine z_iload_n 3 dL_law_416 rfl ?_
  refine z_iconst dL_law_417 ⟨by decide, by decide⟩ ?_
  refine z_iadd dL_law_418 o1 ?_
  refine z_sld hLw dL_law_419 o2 ?_
  refine z_aload_n 0 dL_law_420 rfl ?_
  refine z_iload_n 3 dL_law_421 rfl ?_
  refine z_iconst dL_law_422 ⟨by decide, by decide⟩ ?_
  refine z_iadd dL_law_423 o3 ?_
  refine z_sld hLw dL_law_424 o4 ?_
  obtain ⟨o9, h⟩ := h
  refine z_cVI [ziv (zscr xs (a3 + 1)), ziv (zscr xs (a3 + 2))] (zk_RL_48 _ rfl) dL_law_425 o9 (by decide) rfl rfl (Nat.le_of_ble_eq_true rfl) (Nat.le_of_ble_eq_true rfl) (Nat.le_of_ble_eq_true rfl) o8.1 o8.2 h (fun x10 V11 h => ?_)
  refine z_icmp_eq dL_law_428 (tgt := 822) (by decide) (fun c12 => ?_) (fun c12 => ?_)
  · have h := h.1 c12
    obtain ⟨o13, h⟩ := h
    refine z_iinc 3 dL_law_822 rfl (by decide) o13 (L' := [(0, zrv (zsr b)), (1, zrv a1), (2, zrv a2), (3, ziv (a3 + 5))]) [1, 2, 3, 0] rfl ?_
    refine z_goto (tgt := 18) dL_law_825 (by decide) ?_
    exact h
  · have h := h.2 c12
    refine z_iconst dL_law_431 ⟨by decide, by decide⟩ ?_
    exact h.elim
set_option maxRecDepth 100000 in
set_option maxHeartbeats 4000000 in
theorem wp_L_law_433 {E : zE} {X : zX} {Q : State → Prop} {k n : Nat} {S : zS} {b Ln : Nat} {xs : Nat → Int32} {a1 a2 a3 : Int} {V : zH} (hLw : zLw E X Q b Ln xs) (hLn : Ln ≤ 2560)
    (h : (z32 (a3 + 1)) ∧ ((0 : Int) ≤ a3 + 1 ∧ a3 + 1 < (Ln : Int)) ∧ (z32 (a3 + 2)) ∧ ((0 : Int) ≤ a3 + 2 ∧ a3 + 2 < (Ln : Int)) ∧ ((S a1).1 = 10) ∧ (k ≤ 174162 ∧ n ≤ 8579764) ∧ SpI E 5 zm_X7_push [zrv a1, ziv (zscr xs (a3 + 1)), ziv (zscr xs (a3 + 2))] S V (fun x6 V7 => ((S a2).1 = 11) ∧ SpI E 5 zm_X8_push [zrv a2, ziv (zscr xs (a3 + 1)), ziv (zscr xs (a3 + 2))] S V7 (fun x10 V11 => ((x6 = x10) → ((z32 (a3 + 5)) ∧ zl_L_law_18 E X Q k n S b a1 a2 (a3 + 5) V11)) ∧ ((x6 ≠ x10) → (False))))) :
    zl_L_law_433 E X Q k n S b a1 a2 a3 V := by
  unfold zl_L_law_433
  refine z_aload_n 1 dL_law_433 rfl ?_
  refine z_aload_n 0 dL_law_434 rfl ?_
  refine z_iload_n 3 dL_law_435 rfl ?_
  refine z_iconst dL_law_436 ⟨by decide, by decide⟩ ?_
  obtain ⟨o1, h⟩ := h
  refine z_iadd dL_law_437 o1 ?_
  obtain ⟨o2, h⟩ := h
  refine z_sld hLw dL_law_438 o2 ?_
  refine z_aload_n 0 dL_law_439 rfl ?_
  refine z_iload_n 3 dL_law_440 rfl ?_
  refine z_iconst dL_law_441 ⟨by decide, by decide⟩ ?_
  obtain ⟨o3, h⟩ := h
  refine z_iadd dL_law_442 o3 ?_
  obtain ⟨o4, h⟩ := h
  refine z_sld hLw dL_law_443 o4 ?_
  obtain ⟨o5, h⟩ := h
  obtain ⟨o8, h⟩ := h
  refine z_cVI [ziv (zscr xs (a3 + 1)), ziv (zscr xs (a3 + 2))] (zk_RL_49 _ rfl) dL_law_444 o5 (by decide) rfl rfl (Nat.le_of_ble_eq_true rfl) (Nat.le_of_ble_eq_true rfl) (Nat.le_of_ble_eq_true rfl) o8.1 o8.2 h (fun x6 V7 h => ?_)
  refine z_aload_n 2 dL_law_447 rfl ?_
  refine z_aload_n 0 dL_law_448 rfl ?_
  refine z_iload_n 3 dL_law_449 rfl ?_
  refine z_iconst dL_law_450 ⟨by decide, by decide⟩ ?_
  refine z_iadd dL_law_451 o1 ?_
  refine z_sld hLw dL_law_452 o2 ?_
  refine z_aload_n 0 dL_law_453 rfl ?_
  refine z_iload_n 3 dL_law_454 rfl ?_
  refine z_iconst dL_law_455 ⟨by decide, by decide⟩ ?_
  refine z_iadd dL_law_456 o3 ?_
  refine z_sld hLw dL_law_457 o4 ?_
  obtain ⟨o9, h⟩ := h
  refine z_cVI [ziv (zscr xs (a3 + 1)), ziv (zscr xs (a3 + 2))] (zk_RL_52 _ rfl) dL_law_458 o9 (by decide) rfl rfl (Nat.le_of_ble_eq_true rfl) (Nat.le_of_ble_eq_true rfl) (Nat.le_of_ble_eq_true rfl) o8.1 o8.2 h (fun x10 V11 h => ?_)
  refine z_icmp_eq dL_law_461 (tgt := 822) (by decide) (fun c12 => ?_) (fun c12 => ?_)
  · have h := h.1 c12
    obtain ⟨o13, h⟩ := h
    refine z_iinc 3 dL_law_822 rfl (by decide) o13 (L' := [(0, zrv (zsr b)), (1, zrv a1), (2, zrv a2), (3, ziv (a3 + 5))]) [1, 2, 3, 0] rfl ?_
    refine z_goto (tgt := 18) dL_law_825 (by decide) ?_
    exact h
  · have h := h.2 c12
    refine z_iconst dL_law_464 ⟨by decide, by decide⟩ ?_
    exact h.elim
set_option maxRecDepth 100000 in
set_option maxHeartbeats 4000000 in
theorem wp_L_law_466 {E : zE} {X : zX} {Q : State → Prop} {k n : Nat} {S : zS} {b Ln : Nat} {xs : Nat → Int32} {a1 a2 a3 : Int} {V : zH} (hLw : zLw E X Q b Ln xs) (hLn : Ln ≤ 2560)
    (h : ((S a1).1 = 10) ∧ (k ≤ 174162 ∧ n ≤ 8579764) ∧ SpI E 6 zm_X7_chase [zrv a1] S V (fun x2 V3 => ((S a2).1 = 11) ∧ SpI E 5 zm_X8_chase [zrv a2] S V3 (fun x6 V7 => ((x2 = x6) → ((z32 (a3 + 5)) ∧ zl_L_law_18 E X Q k n S b a1 a2 (a3 + 5) V7)) ∧ ((x2 ≠ x6) → (False))))) :
    zl_L_law_466 E X Q k n S b a1 a2 a3 V := by
  unfold zl_L_law_466
  refine z_aload_n 1 dL_law_466 rfl ?_
  obtain ⟨o1, h⟩ := h
  obtain ⟨o4, h⟩ := h
  refine z_cVI [] (zk_RL_53 _ rfl) dL_law_467 o1 (by decide) rfl rfl (Nat.le_of_ble_eq_true rfl) (Nat.le_of_ble_eq_true rfl) (Nat.le_of_ble_eq_true rfl) o4.1 o4.2 h (fun x2 V3 h => ?_)
  refine z_aload_n 2 dL_law_470 rfl ?_
  obtain ⟨o5, h⟩ := h
  refine z_cVI [] (zk_RL_57 _ rfl) dL_law_471 o5 (by decide) rfl rfl (Nat.le_of_ble_eq_true rfl) (Nat.le_of_ble_eq_true rfl) (Nat.le_of_ble_eq_true rfl) o4.1 o4.2 h (fun x6 V7 h => ?_)
  refine z_icmp_eq dL_law_474 (tgt := 822) (by decide) (fun c8 => ?_) (fun c8 => ?_)
  · have h := h.1 c8
    obtain ⟨o9, h⟩ := h
    refine z_iinc 3 dL_law_822 rfl (by decide) o9 (L' := [(0, zrv (zsr b)), (1, zrv a1), (2, zrv a2), (3, ziv (a3 + 5))]) [1, 2, 3, 0] rfl ?_
    refine z_goto (tgt := 18) dL_law_825 (by decide) ?_
    exact h
  · have h := h.2 c8
    refine z_iconst dL_law_477 ⟨by decide, by decide⟩ ?_
    exact h.elim
set_option maxRecDepth 100000 in
set_option maxHeartbeats 4000000 in
theorem wp_L_law_479 {E : zE} {X : zX} {Q : State → Prop} {k n : Nat} {S : zS} {b Ln : Nat} {xs : Nat → Int32} {a1 a2 a3 : Int} {V : zH} (hLw : zLw E X Q b Ln xs) (hLn : Ln ≤ 2560)
    (h : ((S a1).1 = 10) ∧ (k ≤ 174162 ∧ n ≤ 8579764) ∧ SpI E 2 zm_X7_undo [zrv a1] S V (fun x2 V3 => ((S a2).1 = 11) ∧ SpI E 0 zm_X8_undo [zrv a2] S V3 (fun x6 V7 => ((x2 = x6) → ((z32 (a3 + 5)) ∧ zl_L_law_18 E X Q k n S b a1 a2 (a3 + 5) V7)) ∧ ((x2 ≠ x6) → (False))))) :
    zl_L_law_479 E X Q k n S b a1 a2 a3 V := by
  unfold zl_L_law_479
  refine z_aload_n 1 dL_law_479 rfl ?_
  obtain ⟨o1, h⟩ := h
  obtain ⟨o4, h⟩ := h
  refine z_cVI [] (zk_RL_58 _ rfl) dL_law_480 o1 (by decide) rfl rfl (Nat.le_of_ble_eq_true rfl) (Nat.le_of_ble_eq_true rfl) (Nat.le_of_ble_eq_true rfl) o4.1 o4.2 h (fun x2 V3 h => ?_)
  refine z_aload_n 2 dL_law_483 rfl ?_
  obtain ⟨o5, h⟩ := h
  refine z_cVI [] (zk_RL_61 _ rfl) dL_law_484 o5 (by decide) rfl rfl (Nat.le_of_ble_eq_true rfl) (Nat.le_of_ble_eq_true rfl) (Nat.le_of_ble_eq_true rfl) o4.1 o4.2 h (fun x6 V7 h => ?_)
  refine z_icmp_eq dL_law_487 (tgt := 822) (by decide) (fun c8 => ?_) (fun c8 => ?_)
  · have h := h.1 c8
    obtain ⟨o9, h⟩ := h
    refine z_iinc 3 dL_law_822 rfl (by decide) o9 (L' := [(0, zrv (zsr b)), (1, zrv a1), (2, zrv a2), (3, ziv (a3 + 5))]) [1, 2, 3, 0] rfl ?_
    refine z_goto (tgt := 18) dL_law_825 (by decide) ?_
    exact h
  · have h := h.2 c8
    refine z_iconst dL_law_490 ⟨by decide, by decide⟩ ?_
    exact h.elim
set_option maxRecDepth 100000 in
set_option maxHeartbeats 4000000 in
theorem wp_L_law_492 {E : zE} {X : zX} {Q : State → Prop} {k n : Nat} {S : zS} {b Ln : Nat} {xs : Nat → Int32} {a1 a2 a3 : Int} {V : zH} (hLw : zLw E X Q b Ln xs) (hLn : Ln ≤ 2560)
    (h : ((S a1).1 = 10) ∧ ∃ m4 m5 : Nat, (k + m4 ≤ 174162 ∧ n + m5 ≤ 8579764) ∧ SaI E 2 m4 m5 zm_X7_keep [zrv a1] S V (fun x2 S7 V3 => ((S7 a2).1 = 11) ∧ (k + m4 ≤ 174162 ∧ n + m5 ≤ 8579764) ∧ SpI E 0 zm_X8_keep [zrv a2] S7 V3 (fun x9 V10 => ((x2 = x9) → ((z32 (a3 + 5)) ∧ zl_L_law_18 E X Q (k + m4) (n + m5) S7 b a1 a2 (a3 + 5) V10)) ∧ ((x2 ≠ x9) → (False))))) :
    zl_L_law_492 E X Q k n S b a1 a2 a3 V := by
  unfold zl_L_law_492
  refine z_aload_n 1 dL_law_492 rfl ?_
  obtain ⟨o1, h⟩ := h
  obtain ⟨m4, m5, o6, h⟩ := h
  refine z_aVI [] (zk_RL_62 _ rfl) dL_law_493 o1 (by decide) rfl rfl (Nat.le_of_ble_eq_true rfl) (Nat.le_of_ble_eq_true rfl) (Nat.le_of_ble_eq_true rfl) o6.1 o6.2 h (fun x2 S7 V3 h => ?_)
  refine z_aload_n 2 dL_law_496 rfl ?_
  obtain ⟨o8, h⟩ := h
  obtain ⟨o11, h⟩ := h
  refine z_cVI [] (zk_RL_66 _ rfl) dL_law_497 o8 (by decide) rfl rfl (Nat.le_of_ble_eq_true rfl) (Nat.le_of_ble_eq_true rfl) (Nat.le_of_ble_eq_true rfl) o11.1 o11.2 h (fun x9 V10 h => ?_)
  refine z_icmp_eq dL_law_500 (tgt := 822) (by decide) (fun c12 => ?_) (fun c12 => ?_)
  · have h := h.1 c12
    obtain ⟨o13, h⟩ := h
    refine z_iinc 3 dL_law_822 rfl (by decide) o13 (L' := [(0, zrv (zsr b)), (1, zrv a1), (2, zrv a2), (3, ziv (a3 + 5))]) [1, 2, 3, 0] rfl ?_
    refine z_goto (tgt := 18) dL_law_825 (by decide) ?_
    exact h
  · have h := h.2 c12
    refine z_iconst dL_law_503 ⟨by decide, by decide⟩ ?_
    exact h.elim
set_option maxRecDepth 100000 in
set_option maxHeartbeats 4000000 in
theorem wp_L_law_505 {E : zE} {X : zX} {Q : State → Prop} {k n : Nat} {S : zS} {b Ln : Nat} {xs : Nat → Int32} {a1 a2 a3 : Int} {V : zH} (hLw : zLw E X Q b Ln xs) (hLn : Ln ≤ 2560)
    (h : ((S a1).1 = 10) ∧ (k ≤ 174162 ∧ n ≤ 8579764) ∧ SpI E 2 zm_X7_back [zrv a1] S V (fun x2 V3 => ((S a2).1 = 11) ∧ SpI E 0 zm_X8_back [zrv a2] S V3 (fun x6 V7 => ((x2 = x6) → ((z32 (a3 + 5)) ∧ zl_L_law_18 E X Q k n S b a1 a2 (a3 + 5) V7)) ∧ ((x2 ≠ x6) → (False))))) :
    zl_L_law_505 E X Q k n S b a1 a2 a3 V := by
  unfold zl_L_law_505
  refine z_aload_n 1 dL_law_505 rfl ?_
  obtain ⟨o1, h⟩ := h
  obtain ⟨o4, h⟩ := h
  refine z_cVI [] (zk_RL_67 _ rfl) dL_law_506 o1 (by decide) rfl rfl (Nat.le_of_ble_eq_true rfl) (Nat.le_of_ble_eq_true rfl) (Nat.le_of_ble_eq_true rfl) o4.1 o4.2 h (fun x2 V3 h => ?_)
  refine z_aload_n 2 dL_law_509 rfl ?_
  obtain ⟨o5, h⟩ := h
  refine z_cVI [] (zk_RL_70 _ rfl) dL_law_510 o5 (by decide) rfl rfl (Nat.le_of_ble_eq_true rfl) (Nat.le_of_ble_eq_true rfl) (Nat.le_of_ble_eq_true rfl) o4.1 o4.2 h (fun x6 V7 h => ?_)
  refine z_icmp_eq dL_law_513 (tgt := 822) (by decide) (fun c8 => ?_) (fun c8 => ?_)
  · have h := h.1 c8
    obtain ⟨o9, h⟩ := h
    refine z_iinc 3 dL_law_822 rfl (by decide) o9 (L' := [(0, zrv (zsr b)), (1, zrv a1), (2, zrv a2), (3, ziv (a3 + 5))]) [1, 2, 3, 0] rfl ?_
    refine z_goto (tgt := 18) dL_law_825 (by decide) ?_
    exact h
  · have h := h.2 c8
    refine z_iconst dL_law_516 ⟨by decide, by decide⟩ ?_
    exact h.elim
set_option maxRecDepth 100000 in
set_option maxHeartbeats 4000000 in
theorem wp_L_law_518 {E : zE} {X : zX} {Q : State → Prop} {k n : Nat} {S : zS} {b Ln : Nat} {xs : Nat → Int32} {a1 a2 a3 : Int} {V : zH} (hLw : zLw E X Q b Ln xs) (hLn : Ln ≤ 2560)
    (h : (z32 (a3 + 1)) ∧ ((0 : Int) ≤ a3 + 1 ∧ a3 + 1 < (Ln : Int)) ∧ ((S a1).1 = 10) ∧ (k ≤ 174162 ∧ n ≤ 8579764) ∧ SpF E 1 zm_X7_count [zrv a1, ziv (zscr xs (a3 + 1))] S V (fun x4 => ((S a2).1 = 11) ∧ SpF E 1 zm_X8_count [zrv a2, ziv (zscr xs (a3 + 1))] S V (fun x8 => ((x4 = x8) → ((z32 (a3 + 5)) ∧ zl_L_law_18 E X Q k n S b a1 a2 (a3 + 5) V)) ∧ ((x4 ≠ x8) → (False))))) :
    zl_L_law_518 E X Q k n S b a1 a2 a3 V := by
  unfold zl_L_law_518
  refine z_aload_n 1 dL_law_518 rfl ?_
  refine z_aload_n 0 dL_law_519 rfl ?_
  refine z_iload_n 3 dL_law_520 rfl ?_
  refine z_iconst dL_law_521 ⟨by decide, by decide⟩ ?_
  obtain ⟨o1, h⟩ := h
  refine z_iadd dL_law_522 o1 ?_
  obtain ⟨o2, h⟩ := h
  refine z_sld hLw dL_law_523 o2 ?_
  obtain ⟨o3, h⟩ := h
  obtain ⟨o6, h⟩ := h
  refine z_cVF [ziv (zscr xs (a3 + 1))] (zk_RL_71 _ rfl) dL_law_524 o3 (by decide) rfl rfl (Nat.le_of_ble_eq_true rfl) (Nat.le_of_ble_eq_true rfl) (Nat.le_of_ble_eq_true rfl) o6.1 o6.2 h (fun x4 h => ?_)
  refine z_aload_n 2 dL_law_527 rfl ?_
  refine z_aload_n 0 dL_law_528 rfl ?_
  refine z_iload_n 3 dL_law_529 rfl ?_
  refine z_iconst dL_law_530 ⟨by decide, by decide⟩ ?_
  refine z_iadd dL_law_531 o1 ?_
  refine z_sld hLw dL_law_532 o2 ?_
  obtain ⟨o7, h⟩ := h
  refine z_cVF [ziv (zscr xs (a3 + 1))] (zk_RL_74 _ rfl) dL_law_533 o7 (by decide) rfl rfl (Nat.le_of_ble_eq_true rfl) (Nat.le_of_ble_eq_true rfl) (Nat.le_of_ble_eq_true rfl) o6.1 o6.2 h (fun x8 h => ?_)
  refine z_icmp_eq dL_law_536 (tgt := 822) (by decide) (fun c10 => ?_) (fun c10 => ?_)
  · have h := h.1 c10
    obtain ⟨o11, h⟩ := h
    refine z_iinc 3 dL_law_822 rfl (by decide) o11 (L' := [(0, zrv (zsr b)), (1, zrv a1), (2, zrv a2), (3, ziv (a3 + 5))]) [1, 2, 3, 0] rfl ?_
    refine z_goto (tgt := 18) dL_law_825 (by decide) ?_
    exact h
  · have h := h.2 c10
    refine z_iconst dL_law_539 ⟨by decide, by decide⟩ ?_
    exact h.elim
set_option maxRecDepth 100000 in
set_option maxHeartbeats 4000000 in
theorem wp_L_law_541 {E : zE} {X : zX} {Q : State → Prop} {k n : Nat} {S : zS} {b Ln : Nat} {xs : Nat → Int32} {a1 a2 a3 : Int} {V : zH} (hLw : zLw E X Q b Ln xs) (hLn : Ln ≤ 2560)
    (h : (z32 (a3 + 1)) ∧ ((0 : Int) ≤ a3 + 1 ∧ a3 + 1 < (Ln : Int)) ∧ ((S a1).1 = 10) ∧ (k ≤ 174162 ∧ n ≤ 8579764) ∧ SpF E 1 zm_X7_shown [zrv a1, ziv (zscr xs (a3 + 1))] S V (fun x4 => ((S a2).1 = 11) ∧ SpF E 1 zm_X8_shown [zrv a2, ziv (zscr xs (a3 + 1))] S V (fun x8 => ((x4 = x8) → ((z32 (a3 + 5)) ∧ zl_L_law_18 E X Q k n S b a1 a2 (a3 + 5) V)) ∧ ((x4 ≠ x8) → (False))))) :
    zl_L_law_541 E X Q k n S b a1 a2 a3 V := by
  unfold zl_L_law_541
  refine z_aload_n 1 dL_law_541 rfl ?_
  refine z_aload_n 0 dL_law_542 rfl ?_
  refine z_iload_n 3 dL_law_543 rfl ?_
  refine z_iconst dL_law_544 ⟨by decide, by decide⟩ ?_
  obtain ⟨o1, h⟩ := h
  refine z_iadd dL_law_545 o1 ?_
  obtain ⟨o2, h⟩ := h
  refine z_sld hLw dL_law_546 o2 ?_
  obtain ⟨o3, h⟩ := h
  obtain ⟨o6, h⟩ := h
  refine z_cVF [ziv (zscr xs (a3 + 1))] (zk_RL_75 _ rfl) dL_law_547 o3 (by decide) rfl rfl (Nat.le_of_ble_eq_true rfl) (Nat.le_of_ble_eq_true rfl) (Nat.le_of_ble_eq_true rfl) o6.1 o6.2 h (fun x4 h => ?_)
  refine z_aload_n 2 dL_law_550 rfl ?_
  refine z_aload_n 0 dL_law_551 rfl ?_
  refine z_iload_n 3 dL_law_552 rfl ?_
  refine z_iconst dL_law_553 ⟨by decide, by decide⟩ ?_
  refine z_iadd dL_law_554 o1 ?_
  refine z_sld hLw dL_law_555 o2 ?_
  obtain ⟨o7, h⟩ := h
  refine z_cVF [ziv (zscr xs (a3 + 1))] (zk_RL_78 _ rfl) dL_law_556 o7 (by decide) rfl rfl (Nat.le_of_ble_eq_true rfl) (Nat.le_of_ble_eq_true rfl) (Nat.le_of_ble_eq_true rfl) o6.1 o6.2 h (fun x8 h => ?_)
  refine z_icmp_eq dL_law_559 (tgt := 822) (by decide) (fun c10 => ?_) (fun c10 => ?_)
  · have h := h.1 c10
    obtain ⟨o11, h⟩ := h
    refine z_iinc 3 dL_law_822 rfl (by decide) o11 (L' := [(0, zrv (zsr b)), (1, zrv a1), (2, zrv a2), (3, ziv (a3 + 5))]) [1, 2, 3, 0] rfl ?_
    refine z_goto (tgt := 18) dL_law_825 (by decide) ?_
    exact h
  · have h := h.2 c10
    refine z_iconst dL_law_562 ⟨by decide, by decide⟩ ?_
    exact h.elim
set_option maxRecDepth 100000 in
set_option maxHeartbeats 4000000 in
theorem wp_L_law_564 {E : zE} {X : zX} {Q : State → Prop} {k n : Nat} {S : zS} {b Ln : Nat} {xs : Nat → Int32} {a1 a2 a3 : Int} {V : zH} (hLw : zLw E X Q b Ln xs) (hLn : Ln ≤ 2560)
    (h : (z32 (a3 + 1)) ∧ ((0 : Int) ≤ a3 + 1 ∧ a3 + 1 < (Ln : Int)) ∧ (z32 (a3 + 2)) ∧ ((0 : Int) ≤ a3 + 2 ∧ a3 + 2 < (Ln : Int)) ∧ ((S a1).1 = 10) ∧ (k ≤ 174162 ∧ n ≤ 8579764) ∧ SpF E 4 zm_X7_step [zrv a1, ziv (zscr xs (a3 + 1)), ziv (zscr xs (a3 + 2))] S V (fun x6 => ((S a2).1 = 11) ∧ SpF E 4 zm_X8_step [zrv a2, ziv (zscr xs (a3 + 1)), ziv (zscr xs (a3 + 2))] S V (fun x10 => ((x6 = x10) → ((z32 (a3 + 5)) ∧ zl_L_law_18 E X Q k n S b a1 a2 (a3 + 5) V)) ∧ ((x6 ≠ x10) → (False))))) :
    zl_L_law_564 E X Q k n S b a1 a2 a3 V := by
  unfold zl_L_law_564
  refine z_aload_n 1 dL_law_564 rfl ?_
  refine z_aload_n 0 dL_law_565 rfl ?_
  refine z_iload_n 3 dL_law_566 rfl ?_
  refine z_iconst dL_law_567 ⟨by decide, by decide⟩ ?_
  obtain ⟨o1, h⟩ := h
  refine z_iadd dL_law_568 o1 ?_
  obtain ⟨o2, h⟩ := h
  refine z_sld hLw dL_law_569 o2 ?_
  refine z_aload_n 0 dL_law_570 rfl ?_
  refine z_iload_n 3 dL_law_571 rfl ?_
  refine z_iconst dL_law_572 ⟨by decide, by decide⟩ ?_
  obtain ⟨o3, h⟩ := h
  refine z_iadd dL_law_573 o3 ?_
  obtain ⟨o4, h⟩ := h
  refine z_sld hLw dL_law_574 o4 ?_
  obtain ⟨o5, h⟩ := h
  obtain ⟨o8, h⟩ := h
  refine z_cVF [ziv (zscr xs (a3 + 1)), ziv (zscr xs (a3 + 2))] (zk_RL_79 _ rfl) dL_law_575 o5 (by decide) rfl rfl (Nat.le_of_ble_eq_true rfl) (Nat.le_of_ble_eq_true rfl) (Nat.le_of_ble_eq_true rfl) o8.1 o8.2 h (fun x6 h => ?_)
  refine z_aload_n 2 dL_law_578 rfl ?_
  refine z_aload_n 0 dL_law_579 rfl ?_
  refine z_iload_n 3 dL_law_580 rfl ?_
  refine z_iconst dL_law_581 ⟨by decide, by decide⟩ ?_
  refine z_iadd dL_law_582 o1 ?_
  refine z_sld hLw dL_law_583 o2 ?_
  refine z_aload_n 0 dL_law_584 rfl ?_
  refine z_iload_n 3 dL_law_585 rfl ?_
  refine z_iconst dL_law_586 ⟨by decide, by decide⟩ ?_
  refine z_iadd dL_law_587 o3 ?_
  refine z_sld hLw dL_law_588 o4 ?_
  obtain ⟨o9, h⟩ := h
  refine z_cVF [ziv (zscr xs (a3 + 1)), ziv (zscr xs (a3 + 2))] (zk_RL_82 _ rfl) dL_law_589 o9 (by decide) rfl rfl (Nat.le_of_ble_eq_true rfl) (Nat.le_of_ble_eq_true rfl) (Nat.le_of_ble_eq_true rfl) o8.1 o8.2 h (fun x10 h => ?_)
  refine z_icmp_eq dL_law_592 (tgt := 822) (by decide) (fun c12 => ?_) (fun c12 => ?_)
  · have h := h.1 c12
    obtain ⟨o13, h⟩ := h
    refine z_iinc 3 dL_law_822 rfl (by decide) o13 (L' := [(0, zrv (zsr b)), (1, zrv a1), (2, zrv a2), (3, ziv (a3 + 5))]) [1, 2, 3, 0] rfl ?_
    refine z_goto (tgt := 18) dL_law_825 (by decide) ?_
    exact h
  · have h := h.2 c12
    refine z_iconst dL_law_595 ⟨by decide, by decide⟩ ?_
    exact h.elim
set_option maxRecDepth 100000 in
set_option maxHeartbeats 4000000 in
theorem wp_L_law_597 {E : zE} {X : zX} {Q : State → Prop} {k n : Nat} {S : zS} {b Ln : Nat} {xs : Nat → Int32} {a1 a2 a3 : Int} {V : zH} (hLw : zLw E X Q b Ln xs) (hLn : Ln ≤ 2560)
    (h : ((S a1).1 = 10) ∧ ∃ m4 m5 : Nat, (k + m4 ≤ 174162 ∧ n + m5 ≤ 8579764) ∧ SaI E 6 m4 m5 zm_X7_can [zrv a1] S V (fun x2 S7 V3 => ((S7 a2).1 = 11) ∧ (k + m4 ≤ 174162 ∧ n + m5 ≤ 8579764) ∧ SpI E 6 zm_X8_can [zrv a2] S7 V3 (fun x9 V10 => ((x2 = x9) → ((z32 (a3 + 5)) ∧ zl_L_law_18 E X Q (k + m4) (n + m5) S7 b a1 a2 (a3 + 5) V10)) ∧ ((x2 ≠ x9) → (False))))) :
    zl_L_law_597 E X Q k n S b a1 a2 a3 V := by
  unfold zl_L_law_597
  refine z_aload_n 1 dL_law_597 rfl ?_
  obtain ⟨o1, h⟩ := h
  obtain ⟨m4, m5, o6, h⟩ := h
  refine z_aVI [] (zk_RL_83 _ rfl) dL_law_598 o1 (by decide) rfl rfl (Nat.le_of_ble_eq_true rfl) (Nat.le_of_ble_eq_true rfl) (Nat.le_of_ble_eq_true rfl) o6.1 o6.2 h (fun x2 S7 V3 h => ?_)
  refine z_aload_n 2 dL_law_601 rfl ?_
  obtain ⟨o8, h⟩ := h
  obtain ⟨o11, h⟩ := h
  refine z_cVI [] (zk_RL_86 _ rfl) dL_law_602 o8 (by decide) rfl rfl (Nat.le_of_ble_eq_true rfl) (Nat.le_of_ble_eq_true rfl) (Nat.le_of_ble_eq_true rfl) o11.1 o11.2 h (fun x9 V10 h => ?_)
  refine z_icmp_eq dL_law_605 (tgt := 822) (by decide) (fun c12 => ?_) (fun c12 => ?_)
  · have h := h.1 c12
    obtain ⟨o13, h⟩ := h
    refine z_iinc 3 dL_law_822 rfl (by decide) o13 (L' := [(0, zrv (zsr b)), (1, zrv a1), (2, zrv a2), (3, ziv (a3 + 5))]) [1, 2, 3, 0] rfl ?_
    refine z_goto (tgt := 18) dL_law_825 (by decide) ?_
    exact h
  · have h := h.2 c12
    refine z_iconst dL_law_608 ⟨by decide, by decide⟩ ?_
    exact h.elim
set_option maxRecDepth 100000 in
set_option maxHeartbeats 4000000 in
theorem wp_L_law_610 {E : zE} {X : zX} {Q : State → Prop} {k n : Nat} {S : zS} {b Ln : Nat} {xs : Nat → Int32} {a1 a2 a3 : Int} {V : zH} (hLw : zLw E X Q b Ln xs) (hLn : Ln ≤ 2560)
    (h : ((S a1).1 = 10) ∧ ∃ m4 m5 : Nat, (k + m4 ≤ 174162 ∧ n + m5 ≤ 8579764) ∧ SaI E 6 m4 m5 zm_X7_next [zrv a1] S V (fun x2 S7 V3 => ((S7 a2).1 = 11) ∧ (k + m4 ≤ 174162 ∧ n + m5 ≤ 8579764) ∧ SpI E 5 zm_X8_next [zrv a2] S7 V3 (fun x9 V10 => ((x2 = x9) → ((z32 (a3 + 5)) ∧ zl_L_law_18 E X Q (k + m4) (n + m5) S7 b a1 a2 (a3 + 5) V10)) ∧ ((x2 ≠ x9) → (False))))) :
    zl_L_law_610 E X Q k n S b a1 a2 a3 V := by
  unfold zl_L_law_610
  refine z_aload_n 1 dL_law_610 rfl ?_
  obtain ⟨o1, h⟩ := h
  obtain ⟨m4, m5, o6, h⟩ := h
  refine z_aVI [] (zk_RL_87 _ rfl) dL_law_611 o1 (by decide) rfl rfl (Nat.le_of_ble_eq_true rfl) (Nat.le_of_ble_eq_true rfl) (Nat.le_of_ble_eq_true rfl) o6.1 o6.2 h (fun x2 S7 V3 h => ?_)
  refine z_aload_n 2 dL_law_614 rfl ?_
  obtain ⟨o8, h⟩ := h
  obtain ⟨o11, h⟩ := h
  refine z_cVI [] (zk_RL_90 _ rfl) dL_law_615 o8 (by decide) rfl rfl (Nat.le_of_ble_eq_true rfl) (Nat.le_of_ble_eq_true rfl) (Nat.le_of_ble_eq_true rfl) o11.1 o11.2 h (fun x9 V10 h => ?_)
  refine z_icmp_eq dL_law_618 (tgt := 822) (by decide) (fun c12 => ?_) (fun c12 => ?_)
  · have h := h.1 c12
    obtain ⟨o13, h⟩ := h
    refine z_iinc 3 dL_law_822 rfl (by decide) o13 (L' := [(0, zrv (zsr b)), (1, zrv a1), (2, zrv a2), (3, ziv (a3 + 5))]) [1, 2, 3, 0] rfl ?_
    refine z_goto (tgt := 18) dL_law_825 (by decide) ?_
    exact h
  · have h := h.2 c12
    refine z_iconst dL_law_621 ⟨by decide, by decide⟩ ?_
    exact h.elim
set_option maxRecDepth 100000 in
set_option maxHeartbeats 4000000 in
theorem wp_L_law_623 {E : zE} {X : zX} {Q : State → Prop} {k n : Nat} {S : zS} {b Ln : Nat} {xs : Nat → Int32} {a1 a2 a3 : Int} {V : zH} (hLw : zLw E X Q b Ln xs) (hLn : Ln ≤ 2560)
    (h : (z32 (a3 + 1)) ∧ ((0 : Int) ≤ a3 + 1 ∧ a3 + 1 < (Ln : Int)) ∧ ((S a1).1 = 10) ∧ (k ≤ 174162 ∧ n ≤ 8579764) ∧ SpF E 0 zm_X7_row [zrv a1, ziv (zscr xs (a3 + 1))] S V (fun x4 => ((S a2).1 = 11) ∧ SpF E 1 zm_X8_row [zrv a2, ziv (zscr xs (a3 + 1))] S V (fun x8 => ((x4 = x8) → ((z32 (a3 + 5)) ∧ zl_L_law_18 E X Q k n S b a1 a2 (a3 + 5) V)) ∧ ((x4 ≠ x8) → (False))))) :
    zl_L_law_623 E X Q k n S b a1 a2 a3 V := by
  unfold zl_L_law_623
  refine z_aload_n 1 dL_law_623 rfl ?_
  refine z_aload_n 0 dL_law_624 rfl ?_
  refine z_iload_n 3 dL_law_625 rfl ?_
  refine z_iconst dL_law_626 ⟨by decide, by decide⟩ ?_
  obtain ⟨o1, h⟩ := h
  refine z_iadd dL_law_627 o1 ?_
  obtain ⟨o2, h⟩ := h
  refine z_sld hLw dL_law_628 o2 ?_
  obtain ⟨o3, h⟩ := h
  obtain ⟨o6, h⟩ := h
  refine z_cVF [ziv (zscr xs (a3 + 1))] (zk_RL_91 _ rfl) dL_law_629 o3 (by decide) rfl rfl (Nat.le_of_ble_eq_true rfl) (Nat.le_of_ble_eq_true rfl) (Nat.le_of_ble_eq_true rfl) o6.1 o6.2 h (fun x4 h => ?_)
  refine z_aload_n 2 dL_law_632 rfl ?_
  refine z_aload_n 0 dL_law_633 rfl ?_
  refine z_iload_n 3 dL_law_634 rfl ?_
  refine z_iconst dL_law_635 ⟨by decide, by decide⟩ ?_
  refine z_iadd dL_law_636 o1 ?_
  refine z_sld hLw dL_law_637 o2 ?_
  obtain ⟨o7, h⟩ := h
  refine z_cVF [ziv (zscr xs (a3 + 1))] (zk_RL_94 _ rfl) dL_law_638 o7 (by decide) rfl rfl (Nat.le_of_ble_eq_true rfl) (Nat.le_of_ble_eq_true rfl) (Nat.le_of_ble_eq_true rfl) o6.1 o6.2 h (fun x8 h => ?_)
  refine z_icmp_eq dL_law_641 (tgt := 822) (by decide) (fun c10 => ?_) (fun c10 => ?_)
  · have h := h.1 c10
    obtain ⟨o11, h⟩ := h
    refine z_iinc 3 dL_law_822 rfl (by decide) o11 (L' := [(0, zrv (zsr b)), (1, zrv a1), (2, zrv a2), (3, ziv (a3 + 5))]) [1, 2, 3, 0] rfl ?_
    refine z_goto (tgt := 18) dL_law_825 (by decide) ?_
    exact h
  · have h := h.2 c10
    refine z_iconst dL_law_644 ⟨by decide, by decide⟩ ?_
    exact h.elim
set_option maxRecDepth 100000 in
set_option maxHeartbeats 4000000 in
theorem wp_L_law_646 {E : zE} {X : zX} {Q : State → Prop} {k n : Nat} {S : zS} {b Ln : Nat} {xs : Nat → Int32} {a1 a2 a3 : Int} {V : zH} (hLw : zLw E X Q b Ln xs) (hLn : Ln ≤ 2560)
    (h : (z32 (a3 + 1)) ∧ ((0 : Int) ≤ a3 + 1 ∧ a3 + 1 < (Ln : Int)) ∧ (z32 (a3 + 2)) ∧ ((0 : Int) ≤ a3 + 2 ∧ a3 + 2 < (Ln : Int)) ∧ ((S a1).1 = 10) ∧ ∃ m8 m9 : Nat, (k + m8 ≤ 174162 ∧ n + m9 ≤ 8579764) ∧ SaI E 6 m8 m9 zm_X7_primes [zrv a1, ziv (zscr xs (a3 + 1)), ziv (zscr xs (a3 + 2))] S V (fun x6 S11 V7 => (z32 (a3 + 1)) ∧ ((0 : Int) ≤ a3 + 1 ∧ a3 + 1 < (Ln : Int)) ∧ (z32 (a3 + 2)) ∧ ((0 : Int) ≤ a3 + 2 ∧ a3 + 2 < (Ln : Int)) ∧ ((S11 a2).1 = 11) ∧ (k + m8 ≤ 174162 ∧ n + m9 ≤ 8579764) ∧ SpI E 5 zm_X8_primes [zrv a2, ziv (zscr xs (a3 + 1)), ziv (zscr xs (a3 + 2))] S11 V7 (fun x17 V18 => ((x6 = x17) → ((z32 (a3 + 5)) ∧ zl_L_law_18 E X Q (k + m8) (n + m9) S11 b a1 a2 (a3 + 5) V18)) ∧ ((x6 ≠ x17) → (False))))) :
    zl_L_law_646 E X Q k n S b a1 a2 a3 V := by
  unfold zl_L_law_646
  refine z_aload_n 1 dL_law_646 rfl ?_
  refine z_aload_n 0 dL_law_647 rfl ?_
  refine z_iload_n 3 dL_law_648 rfl ?_
  refine z_iconst dL_law_649 ⟨by decide, by decide⟩ ?_
  obtain ⟨o1, h⟩ := h
  refine z_iadd dL_law_650 o1 ?_
  obtain ⟨o2, h⟩ := h
  refine z_sld hLw dL_law_651 o2 ?_
  refine z_aload_n 0 dL_law_652 rfl ?_
  refine z_iload_n 3 dL_law_653 rfl ?_
  refine z_iconst dL_law_654 ⟨by decide, by decide⟩ ?_
  obtain ⟨o3, h⟩ := h
  refine z_iadd dL_law_655 o3 ?_
  obtain ⟨o4, h⟩ := h
  refine z_sld hLw dL_law_656 o4 ?_
  obtain ⟨o5, h⟩ := h
  obtain ⟨m8, m9, o10, h⟩ := h
  refine z_aVI [ziv (zscr xs (a3 + 1)), ziv (zscr xs (a3 + 2))] (zk_RL_95 _ rfl) dL_law_657 o5 (by decide) rfl rfl (Nat.le_of_ble_eq_true rfl) (Nat.le_of_ble_eq_true rfl) (Nat.le_of_ble_eq_true rfl) o10.1 o10.2 h (fun x6 S11 V7 h => ?_)
  refine z_aload_n 2 dL_law_660 rfl ?_
  refine z_aload_n 0 dL_law_661 rfl ?_
  refine z_iload_n 3 dL_law_662 rfl ?_
  refine z_iconst dL_law_663 ⟨by decide, by decide⟩ ?_
  obtain ⟨o12, h⟩ := h
  refine z_iadd dL_law_664 o12 ?_
  obtain ⟨o13, h⟩ := h
  refine z_sld hLw dL_law_665 o13 ?_
  refine z_aload_n 0 dL_law_666 rfl ?_
  refine z_iload_n 3 dL_law_667 rfl ?_
  refine z_iconst dL_law_668 ⟨by decide, by decide⟩ ?_
  obtain ⟨o14, h⟩ := h
  refine z_iadd dL_law_669 o14 ?_
  obtain ⟨o15, h⟩ := h
  refine z_sld hLw dL_law_670 o15 ?_
  obtain ⟨o16, h⟩ := h
  obtain ⟨o19, h⟩ := h
  refine z_cVI [ziv (zscr xs (a3 + 1)), ziv (zscr xs (a3 + 2))] (zk_RL_98 _ rfl) dL_law_671 o16 (by decide) rfl rfl (Nat.le_of_ble_eq_true rfl) (Nat.le_of_ble_eq_true rfl) (Nat.le_of_ble_eq_true rfl) o19.1 o19.2 h (fun x17 V18 h => ?_)
  refine z_icmp_eq dL_law_674 (tgt := 822) (by decide) (fun c20 => ?_) (fun c20 => ?_)
  · have h := h.1 c20
    obtain ⟨o21, h⟩ := h
    refine z_iinc 3 dL_law_822 rfl (by decide) o21 (L' := [(0, zrv (zsr b)), (1, zrv a1), (2, zrv a2), (3, ziv (a3 + 5))]) [1, 2, 3, 0] rfl ?_
    refine z_goto (tgt := 18) dL_law_825 (by decide) ?_
    exact h
  · have h := h.2 c20
    refine z_iconst dL_law_677 ⟨by decide, by decide⟩ ?_
    exact h.elim
set_option maxRecDepth 100000 in
set_option maxHeartbeats 4000000 in
theorem wp_L_law_679 {E : zE} {X : zX} {Q : State → Prop} {k n : Nat} {S : zS} {b Ln : Nat} {xs : Nat → Int32} {a1 a2 a3 : Int} {V : zH} (hLw : zLw E X Q b Ln xs) (hLn : Ln ≤ 2560)
    (h : (z32 (a3 + 1)) ∧ ((0 : Int) ≤ a3 + 1 ∧ a3 + 1 < (Ln : Int)) ∧ ((S a1).1 = 10) ∧ ∃ m6 m7 : Nat, (k + m6 ≤ 174162 ∧ n + m7 ≤ 8579764) ∧ SaI E 6 m6 m7 zm_X7_base [zrv a1, ziv (zscr xs (a3 + 1))] S V (fun x4 S9 V5 => (z32 (a3 + 1)) ∧ ((0 : Int) ≤ a3 + 1 ∧ a3 + 1 < (Ln : Int)) ∧ ((S9 a2).1 = 11) ∧ (k + m6 ≤ 174162 ∧ n + m7 ≤ 8579764) ∧ SpI E 5 zm_X8_base [zrv a2, ziv (zscr xs (a3 + 1))] S9 V5 (fun x13 V14 => ((x4 = x13) → ((z32 (a3 + 5)) ∧ zl_L_law_18 E X Q (k + m6) (n + m7) S9 b a1 a2 (a3 + 5) V14)) ∧ ((x4 ≠ x13) → (False))))) :
    zl_L_law_679 E X Q k n S b a1 a2 a3 V := by
  unfold zl_L_law_679
  refine z_aload_n 1 dL_law_679 rfl ?_
  refine z_aload_n 0 dL_law_680 rfl ?_
  refine z_iload_n 3 dL_law_681 rfl ?_
  refine z_iconst dL_law_682 ⟨by decide, by decide⟩ ?_
  obtain ⟨o1, h⟩ := h
  refine z_iadd dL_law_683 o1 ?_
  obtain ⟨o2, h⟩ := h
  refine z_sld hLw dL_law_684 o2 ?_
  obtain ⟨o3, h⟩ := h
  obtain ⟨m6, m7, o8, h⟩ := h
  refine z_aVI [ziv (zscr xs (a3 + 1))] (zk_RL_99 _ rfl) dL_law_685 o3 (by decide) rfl rfl (Nat.le_of_ble_eq_true rfl) (Nat.le_of_ble_eq_true rfl) (Nat.le_of_ble_eq_true rfl) o8.1 o8.2 h (fun x4 S9 V5 h => ?_)
  refine z_aload_n 2 dL_law_688 rfl ?_
  refine z_aload_n 0 dL_law_689 rfl ?_
  refine z_iload_n 3 dL_law_690 rfl ?_
  refine z_iconst dL_law_691 ⟨by decide, by decide⟩ ?_
  obtain ⟨o10, h⟩ := h
  refine z_iadd dL_law_692 o10 ?_
  obtain ⟨o11, h⟩ := h
  refine z_sld hLw dL_law_693 o11 ?_
  obtain ⟨o12, h⟩ := h
  obtain ⟨o15, h⟩ := h
  refine z_cVI [ziv (zscr xs (a3 + 1))] (zk_RL_102 _ rfl) dL_law_694 o12 (by decide) rfl rfl (Nat.le_of_ble_eq_true rfl) (Nat.le_of_ble_eq_true rfl) (Nat.le_of_ble_eq_true rfl) o15.1 o15.2 h (fun x13 V14 h => ?_)
  refine z_icmp_eq dL_law_697 (tgt := 822) (by decide) (fun c16 => ?_) (fun c16 => ?_)
  · have h := h.1 c16
    obtain ⟨o17, h⟩ := h
    refine z_iinc 3 dL_law_822 rfl (by decide) o17 (L' := [(0, zrv (zsr b)), (1, zrv a1), (2, zrv a2), (3, ziv (a3 + 5))]) [1, 2, 3, 0] rfl ?_
    refine z_goto (tgt := 18) dL_law_825 (by decide) ?_
    exact h
  · have h := h.2 c16
    refine z_iconst dL_law_700 ⟨by decide, by decide⟩ ?_
    exact h.elim
set_option maxRecDepth 100000 in
set_option maxHeartbeats 4000000 in
theorem wp_L_law_702 {E : zE} {X : zX} {Q : State → Prop} {k n : Nat} {S : zS} {b Ln : Nat} {xs : Nat → Int32} {a1 a2 a3 : Int} {V : zH} (hLw : zLw E X Q b Ln xs) (hLn : Ln ≤ 2560)
    (h : (z32 (a3 + 1)) ∧ ((0 : Int) ≤ a3 + 1 ∧ a3 + 1 < (Ln : Int)) ∧ (z32 (a3 + 2)) ∧ ((0 : Int) ≤ a3 + 2 ∧ a3 + 2 < (Ln : Int)) ∧ ((S a1).1 = 10) ∧ ∃ m8 m9 : Nat, (k + m8 ≤ 174162 ∧ n + m9 ≤ 8579764) ∧ SaI E 6 m8 m9 zm_X7_element [zrv a1, ziv (zscr xs (a3 + 1)), ziv (zscr xs (a3 + 2))] S V (fun x6 S11 V7 => (z32 (a3 + 1)) ∧ ((0 : Int) ≤ a3 + 1 ∧ a3 + 1 < (Ln : Int)) ∧ (z32 (a3 + 2)) ∧ ((0 : Int) ≤ a3 + 2 ∧ a3 + 2 < (Ln : Int)) ∧ ((S11 a2).1 = 11) ∧ (k + m8 ≤ 174162 ∧ n + m9 ≤ 8579764) ∧ SpI E 6 zm_X8_element [zrv a2, ziv (zscr xs (a3 + 1)), ziv (zscr xs (a3 + 2))] S11 V7 (fun x17 V18 => ((x6 = x17) → ((z32 (a3 + 5)) ∧ zl_L_law_18 E X Q (k + m8) (n + m9) S11 b a1 a2 (a3 + 5) V18)) ∧ ((x6 ≠ x17) → (False))))) :
    zl_L_law_702 E X Q k n S b a1 a2 a3 V := by
  unfold zl_L_law_702
  refine z_aload_n 1 dL_law_702 rfl ?_
  refine z_aload_n 0 dL_law_703 rfl ?_
  refine z_iload_n 3 dL_law_704 rfl ?_
  refine z_iconst dL_law_705 ⟨by decide, by decide⟩ ?_
  obtain ⟨o1, h⟩ := h
  refine z_iadd dL_law_706 o1 ?_
  obtain ⟨o2, h⟩ := h
  refine z_sld hLw dL_law_707 o2 ?_
  refine z_aload_n 0 dL_law_708 rfl ?_
  refine z_iload_n 3 dL_law_709 rfl ?_
  refine z_iconst dL_law_710 ⟨by decide, by decide⟩ ?_
  obtain ⟨o3, h⟩ := h
  refine z_iadd dL_law_711 o3 ?_
  obtain ⟨o4, h⟩ := h
  refine z_sld hLw dL_law_712 o4 ?_
  obtain ⟨o5, h⟩ := h
  obtain ⟨m8, m9, o10, h⟩ := h
  refine z_aVI [ziv (zscr xs (a3 + 1)), ziv (zscr xs (a3 + 2))] (zk_RL_103 _ rfl) dL_law_713 o5 (by decide) rfl rfl (Nat.le_of_ble_eq_true rfl) (Nat.le_of_ble_eq_true rfl) (Nat.le_of_ble_eq_true rfl) o10.1 o10.2 h (fun x6 S11 V7 h => ?_)
  refine z_aload_n 2 dL_law_716 rfl ?_
  refine z_aload_n 0 dL_law_717 rfl ?_
  refine z_iload_n 3 dL_law_718 rfl ?_
  refine z_iconst dL_law_719 ⟨by decide, by decide⟩ ?_
  obtain ⟨o12, h⟩ := h
  refine z_iadd dL_law_720 o12 ?_
  obtain ⟨o13, h⟩ := h
  refine z_sld hLw dL_law_721 o13 ?_
  refine z_aload_n 0 dL_law_722 rfl ?_
  refine z_iload_n 3 dL_law_723 rfl ?_
  refine z_iconst dL_law_724 ⟨by decide, by decide⟩ ?_
  obtain ⟨o14, h⟩ := h
  refine z_iadd dL_law_725 o14 ?_
  obtain ⟨o15, h⟩ := h
  refine z_sld hLw dL_law_726 o15 ?_
  obtain ⟨o16, h⟩ := h
  obtain ⟨o19, h⟩ := h
  refine z_cVI [ziv (zscr xs (a3 + 1)), ziv (zscr xs (a3 + 2))] (zk_RL_106 _ rfl) dL_law_727 o16 (by decide) rfl rfl (Nat.le_of_ble_eq_true rfl) (Nat.le_of_ble_eq_true rfl) (Nat.le_of_ble_eq_true rfl) o19.1 o19.2 h (fun x17 V18 h => ?_)
  refine z_icmp_eq dL_law_730 (tgt := 822) (by decide) (fun c20 => ?_) (fun c20 => ?_)
  · have h := h.1 c20
    obtain ⟨o21, h⟩ := h
    refine z_iinc 3 dL_law_822 rfl (by decide) o21 (L' := [(0, zrv (zsr b)), (1, zrv a1), (2, zrv a2), (3, ziv (a3 + 5))]) [1, 2, 3, 0] rfl ?_
    refine z_goto (tgt := 18) dL_law_825 (by decide) ?_
    exact h
  · have h := h.2 c20
    refine z_iconst dL_law_733 ⟨by decide, by decide⟩ ?_
    exact h.elim
set_option maxRecDepth 100000 in
set_option maxHeartbeats 4000000 in
theorem wp_L_law_735 {E : zE} {X : zX} {Q : State → Prop} {k n : Nat} {S : zS} {b Ln : Nat} {xs : Nat → Int32} {a1 a2 a3 : Int} {V : zH} (hLw : zLw E X Q b Ln xs) (hLn : Ln ≤ 2560)
    (h : ((S a1).1 = 10) ∧ ∃ m4 m5 : Nat, (k + m4 ≤ 174162 ∧ n + m5 ≤ 8579764) ∧ SaJ E 26 m4 m5 zm_X7_least [zrv a1] S V (fun x2 S7 V3 => ((S7 a2).1 = 11) ∧ (k + m4 ≤ 174162 ∧ n + m5 ≤ 8579764) ∧ SpJ E 6 zm_X8_least [zrv a2] S7 V3 (fun x9 V10 => ((x2 = x9) → ((z32 (a3 + 5)) ∧ zl_L_law_18 E X Q (k + m4) (n + m5) S7 b a1 a2 (a3 + 5) V10)) ∧ ((x2 ≠ x9) → (False))))) :
    zl_L_law_735 E X Q k n S b a1 a2 a3 V := by
  unfold zl_L_law_735
  refine z_aload_n 1 dL_law_735 rfl ?_
  obtain ⟨o1, h⟩ := h
  obtain ⟨m4, m5, o6, h⟩ := h
  refine z_aVJ [] (zk_RL_107 _ rfl) dL_law_736 o1 (by decide) rfl rfl (Nat.le_of_ble_eq_true rfl) (Nat.le_of_ble_eq_true rfl) (Nat.le_of_ble_eq_true rfl) o6.1 o6.2 h (fun x2 S7 V3 h => ?_)
  refine z_aload_n 2 dL_law_739 rfl ?_
  obtain ⟨o8, h⟩ := h
  obtain ⟨o11, h⟩ := h
  refine z_cVJ [] (zk_RL_111 _ rfl) dL_law_740 o8 (by decide) rfl rfl (Nat.le_of_ble_eq_true rfl) (Nat.le_of_ble_eq_true rfl) (Nat.le_of_ble_eq_true rfl) o11.1 o11.2 h (fun x9 V10 h => ?_)
  refine z_lif_eq dL_law_743 dL_law_744 (tgt := 822) (by decide) (fun c12 => ?_) (fun c12 => ?_)
  · have h := h.1 c12
    obtain ⟨o13, h⟩ := h
    refine z_iinc 3 dL_law_822 rfl (by decide) o13 (L' := [(0, zrv (zsr b)), (1, zrv a1), (2, zrv a2), (3, ziv (a3 + 5))]) [1, 2, 3, 0] rfl ?_
    refine z_goto (tgt := 18) dL_law_825 (by decide) ?_
    exact h
  · have h := h.2 c12
    refine z_iconst dL_law_747 ⟨by decide, by decide⟩ ?_
    exact h.elim
set_option maxRecDepth 100000 in
set_option maxHeartbeats 4000000 in
theorem wp_L_law_749 {E : zE} {X : zX} {Q : State → Prop} {k n : Nat} {S : zS} {b Ln : Nat} {xs : Nat → Int32} {a1 a2 a3 : Int} {V : zH} (hLw : zLw E X Q b Ln xs) (hLn : Ln ≤ 2560)
    (h : ((S a1).1 = 10) ∧ ∃ m4 m5 : Nat, (k + m4 ≤ 174162 ∧ n + m5 ≤ 8579764) ∧ SaJ E 47 m4 m5 zm_X7_worst [zrv a1] S V (fun x2 S7 V3 => ((S7 a2).1 = 11) ∧ (k + m4 ≤ 174162 ∧ n + m5 ≤ 8579764) ∧ SpJ E 6 zm_X8_worst [zrv a2] S7 V3 (fun x9 V10 => ((x2 = x9) → ((z32 (a3 + 5)) ∧ zl_L_law_18 E X Q (k + m4) (n + m5) S7 b a1 a2 (a3 + 5) V10)) ∧ ((x2 ≠ x9) → (False))))) :
    zl_L_law_749 E X Q k n S b a1 a2 a3 V := by
  unfold zl_L_law_749
  refine z_aload_n 1 dL_law_749 rfl ?_
  obtain ⟨o1, h⟩ := h
  obtain ⟨m4, m5, o6, h⟩ := h
  refine z_aVJ [] (zk_RL_112 _ rfl) dL_law_750 o1 (by decide) rfl rfl (Nat.le_of_ble_eq_true rfl) (Nat.le_of_ble_eq_true rfl) (Nat.le_of_ble_eq_true rfl) o6.1 o6.2 h (fun x2 S7 V3 h => ?_)
  refine z_aload_n 2 dL_law_753 rfl ?_
  obtain ⟨o8, h⟩ := h
  obtain ⟨o11, h⟩ := h
  refine z_cVJ [] (zk_RL_115 _ rfl) dL_law_754 o8 (by decide) rfl rfl (Nat.le_of_ble_eq_true rfl) (Nat.le_of_ble_eq_true rfl) (Nat.le_of_ble_eq_true rfl) o11.1 o11.2 h (fun x9 V10 h => ?_)
  refine z_lif_eq dL_law_757 dL_law_758 (tgt := 822) (by decide) (fun c12 => ?_) (fun c12 => ?_)
  · have h := h.1 c12
    obtain ⟨o13, h⟩ := h
    refine z_iinc 3 dL_law_822 rfl (by decide) o13 (L' := [(0, zrv (zsr b)), (1, zrv a1), (2, zrv a2), (3, ziv (a3 + 5))]) [1, 2, 3, 0] rfl ?_
    refine z_goto (tgt := 18) dL_law_825 (by decide) ?_
    exact h
  · have h := h.2 c12
    refine z_iconst dL_law_761 ⟨by decide, by decide⟩ ?_
    exact h.elim
set_option maxRecDepth 100000 in
set_option maxHeartbeats 4000000 in
theorem wp_L_law_763 {E : zE} {X : zX} {Q : State → Prop} {k n : Nat} {S : zS} {b Ln : Nat} {xs : Nat → Int32} {a1 a2 a3 : Int} {V : zH} (hLw : zLw E X Q b Ln xs) (hLn : Ln ≤ 2560)
    (h : ((S a1).1 = 10) ∧ (k ≤ 174162 ∧ n ≤ 8579764) ∧ SpI E 6 zm_X7_apply [zrv a1] S V (fun x2 V3 => ((S a2).1 = 11) ∧ SpI E 5 zm_X8_apply [zrv a2] S V3 (fun x6 V7 => ((x2 = x6) → ((z32 (a3 + 5)) ∧ zl_L_law_18 E X Q k n S b a1 a2 (a3 + 5) V7)) ∧ ((x2 ≠ x6) → (False))))) :
    zl_L_law_763 E X Q k n S b a1 a2 a3 V := by
  unfold zl_L_law_763
  refine z_aload_n 1 dL_law_763 rfl ?_
  obtain ⟨o1, h⟩ := h
  obtain ⟨o4, h⟩ := h
  refine z_cVI [] (zk_RL_116 _ rfl) dL_law_764 o1 (by decide) rfl rfl (Nat.le_of_ble_eq_true rfl) (Nat.le_of_ble_eq_true rfl) (Nat.le_of_ble_eq_true rfl) o4.1 o4.2 h (fun x2 V3 h => ?_)
  refine z_aload_n 2 dL_law_767 rfl ?_
  obtain ⟨o5, h⟩ := h
  refine z_cVI [] (zk_RL_119 _ rfl) dL_law_768 o5 (by decide) rfl rfl (Nat.le_of_ble_eq_true rfl) (Nat.le_of_ble_eq_true rfl) (Nat.le_of_ble_eq_true rfl) o4.1 o4.2 h (fun x6 V7 h => ?_)
  refine z_icmp_eq dL_law_771 (tgt := 822) (by decide) (fun c8 => ?_) (fun c8 => ?_)
  · have h := h.1 c8
    obtain ⟨o9, h⟩ := h
    refine z_iinc 3 dL_law_822 rfl (by decide) o9 (L' := [(0, zrv (zsr b)), (1, zrv a1), (2, zrv a2), (3, ziv (a3 + 5))]) [1, 2, 3, 0] rfl ?_
    refine z_goto (tgt := 18) dL_law_825 (by decide) ?_
    exact h
  · have h := h.2 c8
    refine z_iconst dL_law_774 ⟨by decide, by decide⟩ ?_
    exact h.elim
set_option maxRecDepth 100000 in
set_option maxHeartbeats 4000000 in
theorem wp_L_law_776 {E : zE} {X : zX} {Q : State → Prop} {k n : Nat} {S : zS} {b Ln : Nat} {xs : Nat → Int32} {a1 a2 a3 : Int} {V : zH} (hLw : zLw E X Q b Ln xs) (hLn : Ln ≤ 2560)
    (h : (z32 (a3 + 1)) ∧ ((0 : Int) ≤ a3 + 1 ∧ a3 + 1 < (Ln : Int)) ∧ ((S a1).1 = 10) ∧ (k ≤ 174162 ∧ n ≤ 8579764) ∧ SpI E 0 zm_X7_tell [zrv a1, ziv (zscr xs (a3 + 1))] S V (fun x4 V5 => ((S a2).1 = 11) ∧ SpI E 1 zm_X8_tell [zrv a2, ziv (zscr xs (a3 + 1))] S V5 (fun x8 V9 => ((x4 = x8) → ((z32 (a3 + 5)) ∧ zl_L_law_18 E X Q k n S b a1 a2 (a3 + 5) V9)) ∧ ((x4 ≠ x8) → (False))))) :
    zl_L_law_776 E X Q k n S b a1 a2 a3 V := by
  unfold zl_L_law_776
  refine z_aload_n 1 dL_law_776 rfl ?_
  refine z_aload_n 0 dL_law_777 rfl ?_
  refine z_iload_n 3 dL_law_778 rfl ?_
  refine z_iconst dL_law_779 ⟨by decide, by decide⟩ ?_
  obtain ⟨o1, h⟩ := h
  refine z_iadd dL_law_780 o1 ?_
  obtain ⟨o2, h⟩ := h
  refine z_sld hLw dL_law_781 o2 ?_
  obtain ⟨o3, h⟩ := h
  obtain ⟨o6, h⟩ := h
  refine z_cVI [ziv (zscr xs (a3 + 1))] (zk_RL_120 _ rfl) dL_law_782 o3 (by decide) rfl rfl (Nat.le_of_ble_eq_true rfl) (Nat.le_of_ble_eq_true rfl) (Nat.le_of_ble_eq_true rfl) o6.1 o6.2 h (fun x4 V5 h => ?_)
  refine z_aload_n 2 dL_law_785 rfl ?_
  refine z_aload_n 0 dL_law_786 rfl ?_
  refine z_iload_n 3 dL_law_787 rfl ?_
  refine z_iconst dL_law_788 ⟨by decide, by decide⟩ ?_
  refine z_iadd dL_law_789 o1 ?_
  refine z_sld hLw dL_law_790 o2 ?_
  obtain ⟨o7, h⟩ := h
  refine z_cVI [ziv (zscr xs (a3 + 1))] (zk_RL_123 _ rfl) dL_law_791 o7 (by decide) rfl rfl (Nat.le_of_ble_eq_true rfl) (Nat.le_of_ble_eq_true rfl) (Nat.le_of_ble_eq_true rfl) o6.1 o6.2 h (fun x8 V9 h => ?_)
  refine z_icmp_eq dL_law_794 (tgt := 822) (by decide) (fun c10 => ?_) (fun c10 => ?_)
  · have h := h.1 c10
    obtain ⟨o11, h⟩ := h
    refine z_iinc 3 dL_law_822 rfl (by decide) o11 (L' := [(0, zrv (zsr b)), (1, zrv a1), (2, zrv a2), (3, ziv (a3 + 5))]) [1, 2, 3, 0] rfl ?_
    refine z_goto (tgt := 18) dL_law_825 (by decide) ?_
    exact h
  · have h := h.2 c10
    refine z_iconst dL_law_797 ⟨by decide, by decide⟩ ?_
    exact h.elim
set_option maxRecDepth 100000 in
set_option maxHeartbeats 4000000 in
theorem wp_L_law_799 {E : zE} {X : zX} {Q : State → Prop} {k n : Nat} {S : zS} {b Ln : Nat} {xs : Nat → Int32} {a1 a2 a3 : Int} {V : zH} (hLw : zLw E X Q b Ln xs) (hLn : Ln ≤ 2560)
    (h : (z32 (a3 + 1)) ∧ ((0 : Int) ≤ a3 + 1 ∧ a3 + 1 < (Ln : Int)) ∧ ((S a1).1 = 10) ∧ (k ≤ 174162 ∧ n ≤ 8579764) ∧ SpI E 6 zm_X7_check [zrv a1, ziv (zscr xs (a3 + 1))] S V (fun x4 V5 => ((S a2).1 = 11) ∧ SpI E 5 zm_X8_check [zrv a2, ziv (zscr xs (a3 + 1))] S V5 (fun x8 V9 => ((x4 = x8) → ((z32 (a3 + 5)) ∧ zl_L_law_18 E X Q k n S b a1 a2 (a3 + 5) V9)) ∧ ((x4 ≠ x8) → (False))))) :
    zl_L_law_799 E X Q k n S b a1 a2 a3 V := by
  unfold zl_L_law_799
  refine z_aload_n 1 dL_law_799 rfl ?_
  refine z_aload_n 0 dL_law_800 rfl ?_
  refine z_iload_n 3 dL_law_801 rfl ?_
  refine z_iconst dL_law_802 ⟨by decide, by decide⟩ ?_
  obtain ⟨o1, h⟩ := h
  refine z_iadd dL_law_803 o1 ?_
  obtain ⟨o2, h⟩ := h
  refine z_sld hLw dL_law_804 o2 ?_
  obtain ⟨o3, h⟩ := h
  obtain ⟨o6, h⟩ := h
  refine z_cVI [ziv (zscr xs (a3 + 1))] (zk_RL_124 _ rfl) dL_law_805 o3 (by decide) rfl rfl (Nat.le_of_ble_eq_true rfl) (Nat.le_of_ble_eq_true rfl) (Nat.le_of_ble_eq_true rfl) o6.1 o6.2 h (fun x4 V5 h => ?_)
  refine z_aload_n 2 dL_law_808 rfl ?_
  refine z_aload_n 0 dL_law_809 rfl ?_
  refine z_iload_n 3 dL_law_810 rfl ?_
  refine z_iconst dL_law_811 ⟨by decide, by decide⟩ ?_
  refine z_iadd dL_law_812 o1 ?_
  refine z_sld hLw dL_law_813 o2 ?_
  obtain ⟨o7, h⟩ := h
  refine z_cVI [ziv (zscr xs (a3 + 1))] (zk_RL_127 _ rfl) dL_law_814 o7 (by decide) rfl rfl (Nat.le_of_ble_eq_true rfl) (Nat.le_of_ble_eq_true rfl) (Nat.le_of_ble_eq_true rfl) o6.1 o6.2 h (fun x8 V9 h => ?_)
  refine z_icmp_eq dL_law_817 (tgt := 822) (by decide) (fun c10 => ?_) (fun c10 => ?_)
  · have h := h.1 c10
    obtain ⟨o11, h⟩ := h
    refine z_iinc 3 dL_law_822 rfl (by decide) o11 (L' := [(0, zrv (zsr b)), (1, zrv a1), (2, zrv a2), (3, ziv (a3 + 5))]) [1, 2, 3, 0] rfl ?_
    refine z_goto (tgt := 18) dL_law_825 (by decide) ?_
    exact h
  · have h := h.2 c10
    refine z_iconst dL_law_820 ⟨by decide, by decide⟩ ?_
    exact h.elim
set_option maxRecDepth 100000 in
set_option maxHeartbeats 4000000 in
theorem en_L_law {E : zE} {X : zX} {Q : State → Prop} {S : zS} {b Ln : Nat} {xs : Nat → Int32} {V : zH} (hLw : zLw E X Q b Ln xs) (hLn : Ln ≤ 2560)
    (h : (0 + 1 ≤ 174162 ∧ 0 + 8 ≤ 8579764) ∧ ∀ r2 : Int, 0 < r2 → ((S r2).1 = 0 ∧ ∀ q : Int, (S q).1 ≠ 0 → q < r2 ∧ (S (r2 - 1)).1 ≠ 0) → ∀ (S5 : zS) (V6 : zH), S5 = zSn S r2 (10, 8) → V6 = zVn V r2 → ∃ m12 m13 : Nat, (0 + 1 + m12 ≤ 174162 ∧ 0 + 8 + m13 ≤ 8579764) ∧ SaV E 2 m12 m13 zm_X7_init [zrv r2] S5 V6 (fun S15 V11 => (0 + 1 + m12 + 1 ≤ 174162 ∧ 0 + 8 + m13 + 25 ≤ 8579764) ∧ ∀ r17 : Int, 0 < r17 → ((S15 r17).1 = 0 ∧ ∀ q : Int, (S15 q).1 ≠ 0 → q < r17 ∧ (S15 (r17 - 1)).1 ≠ 0) → ∀ (S20 : zS) (V21 : zH), S20 = zSn S15 r17 (11, 25) → V21 = zVn V11 r17 → ∃ m27 m28 : Nat, (0 + 1 + m12 + 1 + m27 ≤ 174162 ∧ 0 + 8 + m13 + 25 + m28 ≤ 8579764) ∧ SaV E 1 m27 m28 zm_X8_init [zrv r17] S20 V21 (fun S30 V26 => zl_L_law_18 E X Q (0 + 1 + m12 + 1 + m27) (0 + 8 + m13 + 25 + m28) S30 b r2 r17 0 V26))) :
    Zr E X room_1 zm_L_law Q 0 0 0 [(0, zrv (zsr b))] [] S V := by
  obtain ⟨o1, h⟩ := h
  refine znw_7 dL_law_0 (zn_RL_7 _ rfl) o1 (fun r2 q3 f4 => ?_)
  refine z_nameS (fun S5 V6 e7 e8 => ?_)
  have h := h r2 q3 f4 S5 V6 e7 e8
  have o9 : (S5 r2).1 = 10 := zSn_r e7
  refine z_dup (zref_cat _) dL_law_3 ?_
  obtain ⟨m12, m13, o14, h⟩ := h
  refine z_aI [] (zk_RL_9 _ rfl) dL_law_4 q3 rfl rfl (Nat.le_of_ble_eq_true rfl) (Nat.le_of_ble_eq_true rfl) (Nat.le_of_ble_eq_true rfl) o14.1 o14.2 h (fun S15 V11 h => ?_)
  refine z_astore_n dL_law_7 (by decide) (L' := [(0, zrv (zsr b)), (1, zrv r2)]) [1, 0] rfl ?_
  obtain ⟨o16, h⟩ := h
  refine znw_8 dL_law_8 (zn_RL_10 _ rfl) o16 (fun r17 q18 f19 => ?_)
  refine z_nameS (fun S20 V21 e22 e23 => ?_)
  have h := h r17 q18 f19 S20 V21 e22 e23
  have o24 : (S20 r17).1 = 11 := zSn_r e22
  refine z_dup (zref_cat _) dL_law_11 ?_
  obtain ⟨m27, m28, o29, h⟩ := h
  refine z_aI [] (zk_RL_12 _ rfl) dL_law_12 q18 rfl rfl (Nat.le_of_ble_eq_true rfl) (Nat.le_of_ble_eq_true rfl) (Nat.le_of_ble_eq_true rfl) o29.1 o29.2 h (fun S30 V26 h => ?_)
  refine z_astore_n dL_law_15 (by decide) (L' := [(0, zrv (zsr b)), (1, zrv r2), (2, zrv r17)]) [1, 2, 0] rfl ?_
  refine z_iconst dL_law_16 ⟨by decide, by decide⟩ ?_
  refine z_istore_n dL_law_17 (by decide) (L' := [(0, zrv (zsr b)), (1, zrv r2), (2, zrv r17), (3, ziv 0)]) [1, 2, 3, 0] rfl ?_
  exact h
