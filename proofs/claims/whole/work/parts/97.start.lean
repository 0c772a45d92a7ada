/-! THE LAW FROM ITS ENTRY -/
section START
variable {E : zE} {X : zX} {Q : State → Prop} {b Ln : Nat} {xs : Nat → Int32} {V : zH}
theorem law_start (hLw : zLw E X Q b Ln xs) (hLn : Ln ≤ 2560) : Zr E X room_1 zm_L_law Q 0 0 0 [(0, zrv (zsr b))] [] (fun _ => (0, 0)) V := by
  refine en_L_law hLw hLn ⟨⟨by omega, by omega⟩, fun x hr q S5 V6 s5 v6 => ⟨17, 3968, ⟨by omega, by omega⟩, cl_init (by rw [s5, zSn_self]) (fun j => by rw [v6, zVn_self]) hr (fun q' hq' => ?_) ⟨by omega, by omega⟩ (fun S15 V11 C t n => ⟨⟨by omega, by omega⟩, fun r17 hr17 q17 S20 V21 s20 v21 => ?_⟩)⟩⟩
  · by_cases z : q' = x
    · omega
    · rw [s5, zSn_ne _ _ z] at hq'
      exact absurd rfl hq'
  · obtain rfl := ztop_next t n q17
    obtain ⟨t2, n2⟩ := ztop_new t s20 (by decide)
    rw [show x + 17 + 1 = x + 18 by omega] at *
    have E1 : zExt S15 S20 := zExt.new q17.1 s20
    refine ⟨13, 161232, ⟨by omega, by omega⟩, md_init (by rw [s20, zSn_self]) (fun j => by rw [v21, zVn_self]) (by omega) t2 ⟨by omega, by omega⟩ (fun S30 V26 M ex lo => ?_)⟩
    refine law_run hLw hLn Ln 0 S30 V26 zs0 0 _ _ (by omega) ⟨by omega, by omega⟩ (by omega) (by omega) (by omega) ((C.ext (E1.trans ex)).off (fun q' hq' => ?_)) M
    rw [lo q' (by omega), v21, zVn_row _ (by omega)]
end START
def lw_P (b : Addr) (xs : List Int32) (args : Array Value) (s : State) : Prop := args = #[.ref b] ∧ s.IntsAt b xs ∧ xs.length ≤ 2560 ∧ (Jvm.Cond.and given_1 narrow_1).before args s = true
/-- what holds at the law's entry: as the skeleton has it, and the method's name -/
def lw_At (p : Program) (s : State) (m : MethodId) (meth : Method) (c : Code) (b L : Nat) (xs : Nat → Int32) : Prop :=
  p.tables.exec = Jvm.exec ∧ c.code = code ∧ meth.sig.returnType = ret ∧ c.maxLocals = 4 ∧ s.vm.findClass R_law = some m.cls ∧ (∀ w ∈ lw_tbl, w.before #[Value.ref b] s = true) ∧ va_X b L xs s s.heap ∧ b < s.heap.size ∧ meth.locks = false ∧ meth.name = x.name ∧ (Jvm.Cond.and given_1 narrow_1).before #[Value.ref b] s = true
theorem whole_start {p : Program} {e : Env} {s : State} {m : MethodId} {below : List Frame} {meth : Method} {c : Code} (l : Launch) {b L : Nat} {xs : Nat → Int32} (hL : L ≤ 2560) (C0 : lw_At p s m meth c b L xs) : W p l e room_1 s m #[Value.ref b] below meth c s.heap [] 0 0 (lw_Z below #[Value.ref b] s) (entryFrame m ([Value.ref b] : List Value).toArray 4) := by
  obtain ⟨hx, hb, hr, hml, hown, hts, hX, hbl, hlocks, hnm, hgv⟩ := C0
  have hz : ∀ w ∈ ztbl, w.before #[Value.ref b] s = true := fun w hw => hts w (List.mem_filter.mp hw).1
  have hk : ∀ c : Nat, ∃ D : ClassId × (Nat → Nat), ∀ q : vw_C, vwCl[c]? = some q → u_Kn s q.1 q.2.1 q.2.2 D.1 D.2 := by
    intro c
    match c with
    | 0 =>
      obtain ⟨a, i, h⟩ := u_known hz zi_0 (hz _ zi2_0.1)
      exact ⟨(a, i), fun q hq => by cases hq; exact h⟩
    | 1 =>
      obtain ⟨a, i, h⟩ := u_known hz zi_1 (hz _ zi2_1.1)
      exact ⟨(a, i), fun q hq => by cases hq; exact h⟩
    | 2 =>
      obtain ⟨a, i, h⟩ := u_known hz zi_2 (hz _ zi2_2.1)
      exact ⟨(a, i), fun q hq => by cases hq; exact h⟩
    | 3 =>
      obtain ⟨a, i, h⟩ := u_known hz zi_3 (hz _ zi2_3.1)
      exact ⟨(a, i), fun q hq => by cases hq; exact h⟩
    | 4 =>
      obtain ⟨a, i, h⟩ := u_known hz zi_4 (hz _ zi2_4.1)
      exact ⟨(a, i), fun q hq => by cases hq; exact h⟩
    | 5 =>
      obtain ⟨a, i, h⟩ := u_known hz zi_5 (hz _ zi2_5.1)
      exact ⟨(a, i), fun q hq => by cases hq; exact h⟩
    | 6 =>
      obtain ⟨a, i, h⟩ := u_known hz zi_6 (hz _ zi2_6.1)
      exact ⟨(a, i), fun q hq => by cases hq; exact h⟩
    | 7 =>
      obtain ⟨a, i, h⟩ := u_known hz zi_7 (hz _ zi2_7.1)
      exact ⟨(a, i), fun q hq => by cases hq; exact h⟩
    | 8 =>
      obtain ⟨a, i, h⟩ := u_known hz zi_8 (hz _ zi2_8.1)
      exact ⟨(a, i), fun q hq => by cases hq; exact h⟩
    | k + 9 =>
      obtain ⟨a, i, h⟩ := u_known hz zi_0 (hz _ zi2_0.1)
      exact ⟨(a, i), fun q hq => by simp at hq⟩
  obtain ⟨G, hG⟩ := Classical.axiomOfChoice hk
  obtain ⟨cI, kI, compI, i1, i2, i3⟩ := Cond.arrayClass_spec (hz _ zw_arri)
  obtain ⟨cJ, kJ, compJ, j1, j2, j3⟩ := Cond.arrayClass_spec (hz _ zw_arrj)
  have hK : va_K (fun c => (G c).1, fun c => (G c).2) vwCl [(cI, .int), (cJ, .long)] s := by
    refine ⟨fun c q hq => hG c q hq, fun k q hq => ?_⟩
    match k, hq with
    | 0, hq =>
      cases hq
      exact ⟨fun n z => ⟨fun k h => (by cases h), kI, i2, compI, i3⟩, i1⟩
    | 1, hq =>
      cases hq
      exact ⟨fun n z => ⟨fun k h => (by cases h), kJ, j2, compJ, j3⟩, j1⟩
    | k + 2, hq => simp at hq
  have e0 : zcv (zrv (zsr b)) = .ref b := zref_new b
  have hl := lv_entry ([.ref b]) (n := 4) (Nat.le_of_ble_eq_true rfl)
  rw [lg_entry_eq]
  generalize (lg_sl ([.ref b]) ++ List.replicate (4 - (lg_sl ([.ref b])).length) Slot.unset).toArray = ls at hl ⊢
  have hl' : lv_has ls 4 [(0, zcv (zrv (zsr b)))] := by rw [e0]; exact hl
  exact law_start (E := (l, (fun c => (G c).1, fun c => (G c).2), cI, cJ, s.heap.size)) (X := (p, e, s, m, #[Value.ref b], below, meth, c)) (Q := lw_Z below #[Value.ref b] s) (V := fun _ _ => 0) ⟨rfl, hX, hbl, rfl, rfl⟩ hL ⟨hx, hb, hml, hr, hown, hlocks, hz, hK, hnm, Nat.le_refl _⟩ s.heap [] ls ⟨fun r h => absurd rfl h, fun a h1 h2 => absurd h1 (Nat.not_le.mpr h2)⟩ va_S.rf hl' (fun q hq => by
    cases hq with
    | head => show (0 : Int) ≤ (b : Int) + 1; omega
    | tail _ h => cases h) (fun v hv => by cases hv)
set_option maxHeartbeats 4000000 in
theorem lw_walk (l : Launch) (b : Addr) (xs : List Int32) : MetFree l x (headSpec (Jvm.Cond.code x code maxLocals ret :: tables_1) room_1) (lw_P b xs) (fun _ _ _ _ _ => True) lw_Q := by
  refine MetFree.of_bodyS (code := code) (maxLocals := maxLocals) (ret := ret) (by decide) ?_ ?_
  · intro args s m h hn
    obtain ⟨meth, c, h1, h2, h3, h4, h5, h6, -, -⟩ := Cond.code_spec hn (atoms_spec (ws := Jvm.Cond.code x code maxLocals ret :: tables_1) h _ List.mem_cons_self)
    exact ⟨meth, c, h1, h2, h3, h4, h5, h6⟩
  · intro p e s m args below meth c s₁ B hml0 hP _
    obtain ⟨rfl, hx, hbd, hgv⟩ := hP
    obtain ⟨scr, harrAt, hlist, hof, hsmall⟩ := hx
    obtain ⟨hcb, hkn, -, -⟩ := State.arrayAt?_spec harrAt
    have hown : s.vm.findClass R_law = some m.cls := findClass_of_methodNamed B.named
    have hts0 : ∀ c ∈ (Jvm.Cond.code x code maxLocals ret :: tables_1), c.before #[Value.ref b] s = true := atoms_spec (ws := Jvm.Cond.code x code maxLocals ret :: tables_1) B.pre
    have hts : ∀ w ∈ lw_tbl, w.before #[Value.ref b] s = true := k2_hts_sels lw_privs (fun w hw => hts0 w (List.mem_cons_of_mem _ hw)) lw_privs_ok
    have hml : c.maxLocals = 4 := B.maxLocals_eq (hts0 _ List.mem_cons_self)
    have X₀ : Stand p l e room_1 s m #[Value.ref b] below meth c s₁ [] 0 0 := Stand.of_body B
    have hh0 : s₁.heap = s.heap := by rw [B.state]; rfl
    have hsz : scr.slots.size = xs.length := by rw [← Array.length_toList, hlist, List.length_map]
    have hval : ∀ j : Nat, j < xs.length → scr.slots[j]? = some (.int (xs.getD j 0)) := fun j hj => by
      rw [← Array.getElem?_toList, hlist]
      simp [hj]
    have hbl : b < s.heap.size := (Array.getElem?_eq_some_iff.mp hcb).1
    have hX : va_X b xs.length (fun j => xs.getD j 0) s s.heap := ⟨scr, hcb, hof, hkn, hsz, hval⟩
    have K : W p l e room_1 s m #[Value.ref b] below meth c s₁.heap [] 0 0 (lw_Z below #[Value.ref b] s) (entryFrame m ([Value.ref b] : List Value).toArray 4) := by
      rw [hh0]
      exact whole_start l hbd ⟨B.exec, B.bytes, B.returns, hml, hown, hts, hX, hbl, B.notSynchronized, (name_of_methodNamed B.named B.method).1, hgv⟩
    obtain ⟨t, a1, o, b1, b2, b3⟩ := K s₁ rfl X₀
    exact ⟨t, o, a1, b1, b2, b3⟩
theorem lw_pre_spec {args : Array Value} {s : State} (h : (Jvm.Cond.and given_1 narrow_1).before args s = true) (hr : rest_1_c.before args s = true) : ∃ (b : Addr) (xs : List Int32), lw_P b xs args s := by
  have hs := flat_of_before _ h
  have hq := flat_of_before _ hr
  have hc : (Cond.count 1).before args s = true := hs _ (by decide +kernel)
  have harr : (Cond.arrayOf (.arg 0) .int).before args s = true := hs _ (by decide +kernel)
  have hle : (Cond.le (.length (.arg 0)) (.int 2560)).before args s = true := hs _ (by decide +kernel)
  have hlen : (Cond.isInt (.length (.arg 0))).before args s = true := hq _ (by decide +kernel)
  have hall : (Cond.all (.arg 0) (.isInt (.elem (.arg 0) (.index 0)))).before args s = true := hq _ (by decide +kernel)
  obtain ⟨b, xs, hb, hx⟩ := State.ints_of_pre rfl harr hlen hall
  have hsm : xs.length < 2 ^ 31 := hx.choose_spec.2.2.2
  have hev : (Term.length (.arg 0)).eval args s none [] s = some (.int xs.length.toInt32) := hx.length_eval hb
  have hv := Cond.le_ints hev (show (Term.int 2560).eval args s none [] s = some (.int 2560) from rfl)
  have hd : xs.length.toInt32 ≤ 2560 := by
    simpa [Cond.before, Cond.holds, hv] using hle
  have hN : xs.length ≤ 2560 := (Int32.ofNat_le_ofNat hsm (by decide)).mp (show Int32.ofNat xs.length ≤ Int32.ofNat 2560 from hd)
  exact ⟨b, xs, Cond.one_arg hc (show args[0]? = some (.ref b) from hb), hx, hN, h⟩
theorem lw_comes (l : Launch) : Comes l x (Jvm.Cond.code x code maxLocals ret :: tables_1) room_1 (fun tb e args s => Calls_1 tb e args s ∧ rest_1 tb e args s ∧ Pre_1 tb e args s)
    (fun _ _ args s o t => lw_Q args s o t) := by
  intro p e ha hc hk s m args below hf hfit hheap happ hpre
  obtain ⟨b, xs, hP⟩ := lw_pre_spec hpre.2.2 hpre.2.1
  obtain ⟨k, o, h1, h2, h3, hQ⟩ := lw_walk l b xs p e ha hc hk s m args below hf ((Spec.applies_iff_loose hf).mp happ).1 hP trivial
  exact ⟨k, o, h1, h2, h3, hQ⟩
theorem lw_frame {s t : State} {o : Outcome} {args : Array Value} (h : Framed s o t [] 174162 8579764) :
    Framed s o t (fieldLocs frame_1_writes args s ++ arrayLocs frame_1_arrays args s ++ staticLocs frame_1_statics s) 174162 8579764 := h
theorem lw_limb (L : Cond) (hL : ∀ (args : Array Value) (s t : State), L.after args s (.returned (some (.int 1))) t = true) :
    ArmFor flags0 classFile x code maxLocals ret World_1 tables_1 room_1 Calls_1 rest_1 Pre_1
      (fun tb e a s o t => postC L tb e a s o t ∧ Framed s o t (fieldLocs frame_1_writes a s ++ arrayLocs frame_1_arrays a s ++ staticLocs frame_1_statics s) 174162 8579764) := by
  intro l _ _ _ p e ha hc hk s m args below hf hfit hheap happ hpre
  obtain ⟨k, o, h1, h2, h3, rfl, hF⟩ := lw_comes l p e ha hc hk s m args below hf hfit hheap happ hpre
  exact ⟨k, _, h1, h2, h3, hL args s _, lw_frame hF⟩
theorem i_vc : Claimed_1_1 ∧ Claimed_1_2 := ⟨lw_limb limb_1_1 (fun args s t => by simp [limb_1_1, Cond.after, Cond.holds, Cond.value]), lw_limb limb_1_2 (fun args s t => Cond.after_iff.mpr (by
  first | (rw [show limb_1_2 = Cond.eq .result (.int 1) from rfl, Cond.eq_ints (x := 1) (y := 1) rfl rfl]; simp; done) | (simp [limb_1_2, Cond.value, Term.eval]; done)))⟩
