/-! THE Z KIT, part 1: numbers, values, the heap as kinds (S) and contents (V), the judgement Zr (a walk goal-first over Int), the contract Sp. -/
def z32 (x : Int) : Prop := -2147483648 ≤ x ∧ x < 2147483648
def z64 (x : Int) : Prop := -9223372036854775808 ≤ x ∧ x < 9223372036854775808
abbrev zV : Type := Int ⊕ (Int ⊕ Int)
abbrev ziv (x : Int) : zV := Sum.inl x
abbrev zjv (x : Int) : zV := Sum.inr (Sum.inl x)
abbrev zrv (x : Int) : zV := Sum.inr (Sum.inr x)
/-- a reference by its code: 0 is null, q + 1 the cell q -/
def zref (x : Int) : Value := if x ≤ 0 then .null else .ref (x - 1).toNat
def zcv (v : zV) : Value := match v with
  | .inl x => .int (Int32.ofInt x)
  | .inr (.inl x) => .long (Int64.ofInt x)
  | .inr (.inr x) => zref x
def zok (v : zV) : Prop := match v with
  | .inl x => z32 x
  | .inr (.inl x) => z64 x
  | .inr (.inr x) => 0 ≤ x
/-- kinds of cells: 0 none, 1 int[], 2 long[], 3 + ci an object of class ci; and the length -/
abbrev zS : Type := Int → Int × Int
/-- contents: by reference code, by index or field number -/
abbrev zH : Type := Int → Int → Int
abbrev zE : Type := Launch × va_G × ClassId × ClassId × Nat
abbrev zEl (E : zE) : Launch := E.1
abbrev zED (E : zE) : va_G := E.2.1
abbrev zEI (E : zE) : ClassId := E.2.2.1
abbrev zEJ (E : zE) : ClassId := E.2.2.2.1
abbrev zEb (E : zE) : Nat := E.2.2.2.2
abbrev zX : Type := Program × Env × State × MethodId × Array Value × List Frame × Method × Code
abbrev zXp (X : zX) : Program := X.1
abbrev zXe (X : zX) : Env := X.2.1
abbrev zXs (X : zX) : State := X.2.2.1
abbrev zXm (X : zX) : MethodId := X.2.2.2.1
abbrev zXa (X : zX) : Array Value := X.2.2.2.2.1
abbrev zXw (X : zX) : List Frame := X.2.2.2.2.2.1
abbrev zXh (X : zX) : Method := X.2.2.2.2.2.2.1
abbrev zXc (X : zX) : Code := X.2.2.2.2.2.2.2
def zty (ci : Nat) : Nat → FieldType := match ci with
  | 0 => tyX0
  | 1 => tyX1
  | 2 => tyX2
  | 3 => tyX3
  | 4 => tyX4
  | 5 => tyX5
  | 6 => tyX6
  | 7 => tyX7
  | _ => tyX8
def zA (E : zE) : Nat → Prop := fun q => zEb E ≤ q
def zfv (ty : FieldType) (x : Int) : Value := match ty with
  | .object _ => zref x
  | .array _ => zref x
  | .long => .long (Int64.ofInt x)
  | _ => .int (Int32.ofInt x)
def zfok (ty : FieldType) (x : Int) : Prop := match ty with
  | .object _ => 0 ≤ x
  | .array _ => 0 ≤ x
  | .long => z64 x
  | .boolean => x = 0 ∨ x = 1
  | _ => z32 x
def zcell (E : zE) (k : Int × Int) (f : Int → Int) (a : Nat) (H : Heap) : Prop :=
  (k.1 = 1 ∧ 0 ≤ k.2 ∧ k.2 < 2147483648 ∧ H[a]? = some (arrV (zEI E) k.2.toNat (fun j => .int (Int32.ofInt (f j)))) ∧ ∀ j : Int, 0 ≤ j → j < k.2 → z32 (f j)) ∨
  (k.1 = 2 ∧ 0 ≤ k.2 ∧ k.2 < 2147483648 ∧ H[a]? = some (arrV (zEJ E) k.2.toNat (fun j => .long (Int64.ofInt (f j)))) ∧ ∀ j : Int, 0 ≤ j → j < k.2 → z64 (f j)) ∨
  (∃ (ci : Nat) (r : vw_C), k.1 = 3 + (ci : Int) ∧ vwCl[ci]? = some r ∧ t_OB a ((zED E).1 ci) r.2.2 ((zED E).2 ci) H (fun j => zfv (zty ci j) (f j)) ∧ ∀ j : Nat, j < r.2.2 → zfok (zty ci j) (f j))
/-- the heap from the base on is what S and V say, without gaps -/
def zR (E : zE) (S : zS) (V : zH) (H : Heap) : Prop := (∀ r : Int, (S r).1 ≠ 0 → 0 < r ∧ zEb E ≤ (r - 1).toNat ∧ zcell E (S r) (V r) (r - 1).toNat H) ∧ ∀ a : Nat, zEb E ≤ a → a < H.size → (S ((a : Int) + 1)).1 ≠ 0
def zK (E : zE) (U : State) : Prop := va_K (zED E) vwCl [(zEI E, .int), (zEJ E, .long)] U
/-- what is fixed in a method's body -/
def zC (E : zE) (X : zX) (M : zM) : Prop :=
  (zXp X).tables.exec = Jvm.exec ∧ (zXc X).code = zMb M ∧ (zXc X).maxLocals = zMl M ∧ (zXh X).sig.returnType = zMr M ∧ (zXs X).vm.findClass (zMy M).cls = some (zXm X).cls ∧ (zXh X).locks = false ∧
  (∀ w ∈ ztbl, w.before (zXa X) (zXs X) = true) ∧ zK E (zXs X) ∧ (zXh X).name = (zMy M).name ∧ zEb E ≤ (zXs X).heap.size
abbrev zL (L : List (Nat × zV)) : List (Nat × Value) := L.map fun q => (q.1, zcv q.2)
/-- THE JUDGEMENT: at pc, with locals L (at least), stack st, heap (S, V), k cells of n slots made so far, the machine comes to Q -/
def Zr (E : zE) (X : zX) (R : Room) (M : zM) (Q : State → Prop) (k n pc : Nat) (L : List (Nat × zV)) (st : List zV) (S : zS) (V : zH) : Prop :=
  zC E X M → ∀ (H : Heap) (locs : List Loc) (ls : Array Slot), zR E S V H → va_S (zA E) (zXs X).heap H locs → lv_has ls (zMl M) (zL L) → (∀ q ∈ L, zok q.2) → (∀ v ∈ st, zok v) →
    W (zXp X) (zEl E) (zXe X) R (zXs X) (zXm X) (zXa X) (zXw X) (zXh X) (zXc X) H locs k n Q (F0 (zXm X) pc ls (st.map zcv))
abbrev zRoom (d mc ms : Nat) : Room := { frames := d, cells := mc, slots := ms, locals := 64 * d }
abbrev zws (M : zM) : List Cond := Cond.code (zMy M) (zMb M) (zMl M) (zMr M) :: ztbl
def zPc (E : zE) (as : List zV) (S : zS) (V : zH) : Array Value → State → Prop := fun v U => v = (as.map zcv).toArray ∧ (∀ a ∈ as, zok a) ∧ zR E S V U.heap ∧ zK E U ∧ zEb E ≤ U.heap.size
def zQc (E : zE) (P : Option zV → zS → zH → Prop) : Array Value → State → Outcome → State → Prop := fun _ st o t =>
  (∃ (r : Option zV) (S : zS) (V : zH), o = .returned (r.map zcv) ∧ (∀ v, r = some v → zok v) ∧ P r S V ∧ zR E S V t.heap) ∧ va_F (zA E) st t
/-- THE CONTRACT of a method at arguments and a heap: with room for d frames, mc cells of ms slots it returns, and P holds of its answer and of the heap behind it -/
def Sp (E : zE) (d mc ms : Nat) (M : zM) (as : List zV) (S : zS) (V : zH) (P : Option zV → zS → zH → Prop) : Prop :=
  Met (zEl E) (zMy M) (zws M) (zRoom d mc ms) (zPc E as S V) (zQc E P) mc ms (zA E)
def zQm (E : zE) (X : zX) (P : Option zV → zS → zH → Prop) (mc ms : Nat) : State → Prop := MQ (zXw X) (zQc E P) (zXa X) (zXs X) mc ms (zA E)
theorem z32_toInt {x : Int} (h : z32 x) : (Int32.ofInt x).toInt = x := Int32.toInt_ofInt_of_le h.1 h.2
theorem z64_toInt {x : Int} (h : z64 x) : (Int64.ofInt x).toInt = x := Int64.toInt_ofInt_of_le h.1 h.2
theorem z32_of (c : Int32) : z32 c.toInt := ⟨c.le_toInt, c.toInt_lt⟩
theorem z64_of (c : Int64) : z64 c.toInt := ⟨c.le_toInt, c.toInt_lt⟩
theorem z32_z64 {x : Int} (h : z32 x) : z64 x := by unfold z32 at h; unfold z64; omega
theorem zref_pos {r : Int} (h : 0 < r) : zref r = .ref (r - 1).toNat := by unfold zref; rw [if_neg (by omega)]
theorem zref_null : zref 0 = .null := rfl
theorem zcv_cat1 (x : Int) : (zcv (ziv x)).category = 1 := rfl
theorem zref_cat (x : Int) : (zref x).category = 1 := by unfold zref; split <;> rfl
theorem zall {v : zV} {st : List zV} (h : zok v) (hs : ∀ w ∈ st, zok w) : ∀ w ∈ v :: st, zok w := List.forall_mem_cons.mpr ⟨h, hs⟩
theorem zcell.kept {E : zE} {k : Int × Int} {f : Int → Int} {a : Nat} {H H1 : Heap} (h : zcell E k f a H) (hq : H1[a]? = H[a]?) : zcell E k f a H1 := by
  rcases h with ⟨h1, h2, h3, h4, h5⟩ | ⟨h1, h2, h3, h4, h5⟩ | ⟨ci, r, h1, h2, h3, h4⟩
  · exact Or.inl ⟨h1, h2, h3, hq.trans h4, h5⟩
  · exact Or.inr (Or.inl ⟨h1, h2, h3, hq.trans h4, h5⟩)
  · exact Or.inr (Or.inr ⟨ci, r, h1, h2, h3.kept hq, h4⟩)
theorem zcell.lt {E : zE} {k : Int × Int} {f : Int → Int} {a : Nat} {H : Heap} (h : zcell E k f a H) : a < H.size := by
  rcases h with ⟨h1, h2, h3, h4, h5⟩ | ⟨h1, h2, h3, h4, h5⟩ | ⟨ci, r, h1, h2, ⟨cell, h3, -⟩, h4⟩
  · exact (Array.getElem?_eq_some_iff.mp h4).1
  · exact (Array.getElem?_eq_some_iff.mp h4).1
  · exact (Array.getElem?_eq_some_iff.mp h3).1
/-- one slot of one cell is written -/
def zput (V : zH) (r k x : Int) : zH := fun q j => if q = r ∧ j = k then x else V q j
theorem zput_self (V : zH) (r k x : Int) : zput V r k x r k = x := by simp [zput]
theorem zput_ne (V : zH) {r q : Int} (k x j : Int) (h : q ≠ r) : zput V r k x q j = V q j := by simp [zput, h]
theorem zput_nk (V : zH) {k j : Int} (r x q : Int) (h : j ≠ k) : zput V r k x q j = V q j := by simp [zput, h]
theorem zput_row (V : zH) {r q : Int} (k x : Int) (h : q ≠ r) : zput V r k x q = V q := by funext j; simp [zput, h]
theorem zR.put {E : zE} {S : zS} {V V' : zH} {H H1 : Heap} (h : zR E S V H) {r : Int} (hr : 0 < r) (hc : zcell E (S r) (V' r) (r - 1).toNat H1) (hV : ∀ q, q ≠ r → V' q = V q) (ho : ∀ q : Nat, q ≠ (r - 1).toNat → H1[q]? = H[q]?) (hz : H1.size = H.size) : zR E S V' H1 := by
  refine ⟨fun q hq => ?_, fun a h1 h2 => h.2 a h1 (by omega)⟩
  obtain ⟨h1, h2, h3⟩ := h.1 q hq
  refine ⟨h1, h2, ?_⟩
  by_cases e : q = r
  · subst e; exact hc
  · rw [hV q e]
    exact h3.kept (ho _ (by omega))
theorem zR.fresh {E : zE} {S : zS} {V : zH} {H : Heap} (h : zR E S V H) : (S ((H.size : Int) + 1)).1 = 0 ∧ ∀ q : Int, (S q).1 ≠ 0 → q < (H.size : Int) + 1 ∧ (S ((H.size : Int) + 1 - 1)).1 ≠ 0 := by
  refine ⟨?_, fun q hq => ?_⟩
  · apply Classical.byContradiction
    intro hn
    obtain ⟨h1, h2, h3⟩ := h.1 _ hn
    have := h3.lt
    omega
  · obtain ⟨h1, h2, h3⟩ := h.1 q hq
    have h4 := h3.lt
    refine ⟨by omega, ?_⟩
    have h5 := h.2 (H.size - 1) (by omega) (by omega)
    rw [show (((H.size - 1 : Nat) : Int) + 1) = (H.size : Int) + 1 - 1 by omega] at h5
    exact h5
/-- a new cell: its kind and length, all of it 0 -/
def zSn (S : zS) (r : Int) (k : Int × Int) : zS := fun q => if q = r then k else S q
def zVn (V : zH) (r : Int) : zH := fun q j => if q = r then 0 else V q j
theorem zSn_self (S : zS) (r : Int) (k : Int × Int) : zSn S r k r = k := by simp [zSn]
theorem zSn_ne (S : zS) {r q : Int} (k : Int × Int) (h : q ≠ r) : zSn S r k q = S q := by simp [zSn, h]
theorem zVn_self (V : zH) (r j : Int) : zVn V r r j = 0 := by simp [zVn]
theorem zVn_ne (V : zH) {r q : Int} (j : Int) (h : q ≠ r) : zVn V r q j = V q j := by simp [zVn, h]
theorem zVn_row (V : zH) {r q : Int} (h : q ≠ r) : zVn V r q = V q := by funext j; simp [zVn, h]
theorem zVn_row0 (V : zH) (r : Int) : zVn V r r = fun _ => 0 := by funext j; simp [zVn]
theorem zR.push {E : zE} {S : zS} {V : zH} {H H1 : Heap} (h : zR E S V H) (hb : zEb E ≤ H.size) {k : Int × Int} (hc : zcell E k (fun _ => 0) H.size H1) (hk : k.1 ≠ 0) (ho : ∀ q : Nat, q < H.size → H1[q]? = H[q]?) (hz : H1.size = H.size + 1) :
    zR E (zSn S ((H.size : Int) + 1) k) (zVn V ((H.size : Int) + 1)) H1 := by
  refine ⟨fun q hq => ?_, fun a h1 h2 => ?_⟩
  · by_cases e : q = (H.size : Int) + 1
    · subst e
      have e2 : (((H.size : Int) + 1) - 1).toNat = H.size := by omega
      rw [e2, zSn_self, zVn_row0]
      exact ⟨by omega, hb, hc⟩
    · rw [zSn_ne S k e] at hq ⊢
      obtain ⟨h1, h2, h3⟩ := h.1 q hq
      rw [zVn_row V e]
      exact ⟨h1, h2, h3.kept (ho _ h3.lt)⟩
  · by_cases e : a = H.size
    · subst e
      rw [zSn_self]; exact hk
    · rw [zSn_ne S k (by omega)]
      exact h.2 a h1 (by omega)
