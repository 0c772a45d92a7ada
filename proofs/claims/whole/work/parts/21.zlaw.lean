/-! THE Z KIT, part 10: the law's own script, its end -/
def R_law : String := "LampPlateLaw"
def lw_Q (_ : Array Value) (s : State) (o : Outcome) (t : State) : Prop := o = .returned (some (.int 1)) ∧ Framed s o t [] 174162 8579764
def lw_Z (below : List Frame) (a : Array Value) (s : State) : State → Prop := fun t => ∃ o, t.status = .running ∧ Ended t below o ∧ lw_Q a s o t
/-- the law's own end, with 1 on the stack, nothing written that was there before, its room as the claim has it -/
theorem lw_ret {p : Program} {l : Launch} {e : Env} {s : State} {m : MethodId} {below : List Frame} {meth : Method} {c : Code} {b : Nat} (hx : p.tables.exec = Jvm.exec) (hb : c.code = code) (hr : meth.sig.returnType = ret) (hlocks : meth.locks = false) {pc : Nat} {H : Heap} {ls : Array Slot} (hdg : decode code pc = .ok (.ireturn, 1)) : W p l e room_1 s m #[Value.ref b] below meth c H [] 174162 8579764 (lw_Z below #[Value.ref b] s) (F0 m pc ls [.int 1]) := by
  intro T hT X
  obtain ⟨fs, hret, hrun, hended, hW, hframe⟩ := X.leave (v := some (.int 1)) (hlocks := hlocks) (fun h => by rw [hr] at h; cases h)
  have hmeth' : T.vm.method? m = some meth := X.method'
  refine ⟨T.setFrames fs, ?_, .returned (some (.int 1)), hrun, hended, rfl, ⟨_, rfl⟩, hW, hframe⟩
  jvm_step X.here [X.here.top, hx, hb, hdg, hmeth', hr, ret, narrow_b1]
  (try refine ⟨rfl, ?_⟩); (try refine ⟨rfl, ?_⟩)
  first | (intro acts; rw [hret _ acts rfl rfl rfl]) | rw [hret _ _ rfl rfl rfl]
  exact Steps.refl _
section ZLAW
variable {E : zE} {X : zX} {R : Room} {M : zM} {Q : State → Prop} {k n pc : Nat} {L : List (Nat × zV)} {st : List zV} {S : zS} {V : zH}
abbrev zsr (b : Nat) : Int := (b : Int) + 1
def zscr (xs : Nat → Int32) (j : Int) : Int := (xs j.toNat).toInt
/-- the law's own walk: where the script is, how the walk ends -/
def zLw (E : zE) (X : zX) (Q : State → Prop) (b Ln : Nat) (xs : Nat → Int32) : Prop :=
  zEb E = (zXs X).heap.size ∧ va_X b Ln xs (zXs X) (zXs X).heap ∧ b < (zXs X).heap.size ∧ Q = lw_Z (zXw X) #[Value.ref b] (zXs X) ∧ zXa X = #[Value.ref b]
theorem z_sld {b Ln : Nat} {xs : Nat → Int32} {j : Int} (hL : zLw E X Q b Ln xs) (hd : decode (zMb M) pc = .ok (.iaload, 1)) (h01 : (0 : Int) ≤ j ∧ j < (Ln : Int)) (h : Zr E X R M Q k n (pc + 1) L (ziv (zscr xs j) :: st) S V) : Zr E X R M Q k n pc L (ziv j :: zrv (zsr b) :: st) S V := by
  intro C H locs ls hR hS hl hLo hst
  have hj : z32 j := zhead hst
  have e : zcv (zrv (zsr b)) = .ref b := zref_new b
  rw [List.map_cons, List.map_cons, e]
  have h2 := h C H locs ls hR hS hl hLo (zall (z32_of _) (ztl2 hst))
  refine va_sld C.1 C.2.1 hL.2.1 hL.2.2.1 (A := zA E) (by show ¬ zEb E ≤ b; rw [hL.1]; have := hL.2.2.1; omega) hS (i := Int32.ofInt j) ?_ hd ?_
  · show ¬ (Int32.ofInt j < 0 ∨ Ln ≤ (Int32.ofInt j).toNatClampNeg)
    rw [zclamp hj]
    exact fun a => a.elim (zneg hj h01.1) (fun a => by omega)
  · rw [zclamp hj]
    have e2 : zcv (ziv (zscr xs j)) = .int (xs j.toNat) := by
      show Value.int (Int32.ofInt (xs j.toNat).toInt) = _
      rw [Int32.ofInt_toInt]
    rw [List.map_cons, e2] at h2
    exact h2
theorem z_slen {b Ln : Nat} {xs : Nat → Int32} (hL : zLw E X Q b Ln xs) (hn : Ln ≤ 2560) (hd : decode (zMb M) pc = .ok (.arraylength, 1)) (h : Zr E X R M Q k n (pc + 1) L (ziv (Ln : Int) :: st) S V) : Zr E X R M Q k n pc L (zrv (zsr b) :: st) S V := by
  intro C H locs ls hR hS hl hLo hst
  have e : zcv (zrv (zsr b)) = .ref b := zref_new b
  rw [List.map_cons, e]
  have h2 := h C H locs ls hR hS hl hLo (zall (show z32 (Ln : Int) by unfold z32; omega) (ztail hst))
  refine va_slen C.1 C.2.1 hL.2.1 hL.2.2.1 (A := zA E) (by show ¬ zEb E ≤ b; rw [hL.1]; have := hL.2.2.1; omega) hS hd ?_
  rw [← Int32.ofInt_eq_ofNat]
  exact h2
theorem z_lawret {b Ln : Nat} {xs : Nat → Int32} (hL : zLw E X Q b Ln xs) (hd : decode (zMb zm_L_law) pc = .ok (.ireturn, 1)) (hk : k ≤ 174162 ∧ n ≤ 8579764) : Zr E X room_1 zm_L_law Q k n pc L [ziv 1] S V := by
  intro C H locs ls hR hS hl hLo hst
  obtain ⟨h1, h2, h3, h4, h5⟩ := hL
  rw [h4, h5]
  refine W.widen hk.1 hk.2 ?_
  refine va_forget (fun q hq => ?_) ?_
  · have := hS.2.2 q hq
    rw [← h1]
    exact this
  · exact lw_ret C.1 C.2.1 C.2.2.2.1 C.2.2.2.2.2.1 hd
end ZLAW
