/-! THE Z KIT, part 0: the tables' words, methods, what a call's words are -/
/-- the tables' words that hold wherever the tables have only grown warmer -/
def zgood (w : Cond) : Bool := match w with
  | .methodLinkNest _ _ _ _ => true
  | .fieldLinkNest _ _ _ _ _ _ => true
  | w => goodWord w
def ztbl : List Cond := lw_tbl.filter zgood
theorem zin {w : Cond} (i : Nat) (h : lw_tbl[i]? = some w) (hg : zgood w = true) : w ∈ ztbl := List.mem_filter.mpr ⟨List.mem_of_getElem? h, hg⟩
/-- a method: its name, code, locals, answer -/
abbrev zM : Type := MethodName × ByteArray × Nat × Option FieldType
abbrev zMy (M : zM) : MethodName := M.1
abbrev zMb (M : zM) : ByteArray := M.2.1
abbrev zMl (M : zM) : Nat := M.2.2.1
abbrev zMr (M : zM) : Option FieldType := M.2.2.2
/-- the facts of a callee that a program decides: its code among the words, its class ready, its parameters -/
def zcal (N : zM) (np : Nat) : Prop := Cond.code (zMy N) (zMb N) (zMl N) (zMr N) ∈ ztbl ∧ Cond.initialized (zMy N).cls ∈ ztbl ∧ ((zMy N).cls ≠ "java/lang/invoke/MethodHandle" ∧ (zMy N).cls ≠ "java/lang/invoke/VarHandle") ∧ (parseMethodDescriptor (zMy N).desc).map (fun d => d.parameters.length) = some np
/-- rows for calls: the callee's words in one -/
def zcV (M N : zM) (np index ci : Nat) : Prop := zcal N np ∧ Cond.methodLink (zMy M).cls index (zMy N) ∈ ztbl ∧ Cond.instanceMethod (zMy N) ∈ ztbl ∧ Cond.selects (zMy N).cls (zMy N) (zMy N) ∈ ztbl ∧ ∃ q, vwCl[ci]? = some q ∧ q.1 = (zMy N).cls
def zcS (M N : zM) (np index : Nat) : Prop := zcal N np ∧ Cond.methodLink (zMy M).cls index (zMy N) ∈ ztbl ∧ Cond.static (zMy N) ∈ ztbl
/-- constructors -/
def zcI (M N : zM) (np index : Nat) : Prop := zcal N np ∧ zMr N = none ∧ (zMy N).name = "<init>" ∧ (Cond.methodLink (zMy M).cls index (zMy N) ∈ ztbl ∨ ∃ host, Cond.methodLinkNest (zMy M).cls index (zMy N) host ∈ ztbl) ∧ Cond.instanceMethod (zMy N) ∈ ztbl
