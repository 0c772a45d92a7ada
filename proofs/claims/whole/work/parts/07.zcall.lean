/-! THE Z KIT, part 6: calls, returns, contracts -/
section ZCALL
variable {E : zE} {X : zX} {R : Room} {M : zM} {Q : State → Prop} {k n pc : Nat} {L : List (Nat × zV)} {st : List zV} {S : zS} {V : zH}
theorem zgood_warm {w : Cond} (h : zgood w = true) {s U : State} {a a' : Array Value} (hW : s.WarmedH U.vm) (hb : w.before a s = true) : w.before a' U = true := by
  by_cases hm : ∃ o i y t, w = .methodLinkNest o i y t
  · obtain ⟨o, i, y, t, rfl⟩ := hm
    exact va_Nw.use rfl (va_Nw.warmM hW (va_Nw.of rfl hb))
  · by_cases hf : ∃ o i b c d t, w = .fieldLinkNest o i b c d t
    · obtain ⟨o, i, b, c, d, t, rfl⟩ := hf
      exact va_Nw.use rfl (va_Nw.warmF hW (va_Nw.of rfl hb))
    · have hg : goodWord w = true := by
        cases w <;> first | exact h | skip
        · exact absurd ⟨_, _, _, _, rfl⟩ hm
        · exact absurd ⟨_, _, _, _, _, _, rfl⟩ hf
      exact word_at hW (good_of_word hg) hb
theorem zwarm (C : zC E X M) {w : Cond} (hw : w ∈ ztbl) (a' : Array Value) (U : State) (hW : (zXs X).WarmedH U.vm) : w.before a' U = true :=
  zgood_warm (List.mem_filter.mp hw).2 hW (C.2.2.2.2.2.2.1 w hw)
theorem zK.moved {u U : State} (hvm : u.vm.Alike U.vm) (h : zK E u) : zK E U := va_K.moved hvm h
theorem zback (C : zC E X M) {N : zM} {np d mc ms : Nat} (hN : zcal N np) {as : List zV} {P : Option zV → zS → zH → Prop} (hM : Sp E d mc ms N as S V P) (hr1 : d + 1 ≤ R.frames) (hr2 : 8 + (zMl N + 11) + 64 * d ≤ R.locals) :
    Back (zEl E) R (zXp X) (zXe X) (zXw X) (zXs X) (zXa X) (zMy N) 3 8 (PreOf R mc ms (zPc E as S V)) (PostOf (zQc E P) mc ms (zA E)) := by
  refine back_of (bytes := zMb N) (maxL := zMl N) (ret := zMr N) hM ?_ rfl rfl hr1 hr2 ?_ List.mem_cons_self ?_
  · intro a U g mk q
    obtain ⟨q1, q2, q3, q4, q5⟩ := q
    exact ⟨q1, q2, q3, zK.moved (u := U) (U := U.calling g mk a) (Vm.Alike.refl U.vm) q4, q5⟩
  · intro w hw a' U hW
    rcases List.mem_cons.mp hw with rfl | hw
    · exact zwarm C hN.1 a' U hW
    · exact zwarm C hw a' U hW
  · intro a' U hW
    exact zwarm C hN.2.1 a' U hW
theorem zPc_at (C : zC E X M) {H : Heap} {locs : List Loc} (hR : zR E S V H) (hS : va_S (zA E) (zXs X).heap H locs) {as : List zV} (hok : ∀ a ∈ as, zok a) {U : State} (hU : U.heap = H) (hW : (zXs X).WarmedH U.vm) : zPc E as S V (as.map zcv).toArray U :=
  ⟨rfl, hok, by rw [hU]; exact hR, zK.moved hW.alike C.2.2.2.2.2.2.2.1, by rw [hU]; exact Nat.le_trans C.2.2.2.2.2.2.2.2.2 hS.1⟩
theorem zlen {N : zM} {np : Nat} (hN : zcal N np) (sig : MethodDescriptor) (h : parseMethodDescriptor (zMy N).desc = some sig) : np = sig.parameters.length := by
  have h2 := hN.2.2.2
  rw [h] at h2
  exact (Option.some.inj h2).symm
/-- behind a call -/
theorem zafter (C : zC E X M) {H : Heap} {locs : List Loc} {ls : Array Slot} {mc ms : Nat} {P : Option zV → zS → zH → Prop} {a : Array Value} {st0 : List Value} (hS : va_S (zA E) (zXs X).heap H locs) (hl : lv_has ls (zMl M) (zL L)) (hL : ∀ q ∈ L, zok q.2) (hst : ∀ v ∈ st, zok v)
    (hr : va_Run (zXp X) (zEl E) (zXe X) R (zXs X) (zXm X) (zXa X) (zXw X) (zXh X) (zXc X) H locs k n mc ms (F0 (zXm X) pc ls st0) (st.map zcv) (zQc E P a) (zA E))
    (h : ∀ r S' V', P r S' V' → Zr E X R M Q (k + mc) (n + ms) (pc + 3) L (r.toList ++ st) S' V') :
    W (zXp X) (zEl E) (zXe X) R (zXs X) (zXm X) (zXa X) (zXw X) (zXh X) (zXc X) H locs k n Q (F0 (zXm X) pc ls st0) := by
  intro T hT Y
  obtain ⟨v, st₀, t, T', Ls, h0, Y', hLs, e1, e2, ⟨⟨r, S', V', hv, hrok, hp, hb⟩, hz, hk⟩, stp⟩ := hr T hT Y
  have hv' : v = r.map zcv := by cases hv; rfl
  subst hv'
  rw [h0] at hz hk
  have hS' : va_S (zA E) (zXs X).heap T'.heap (locs ++ Ls) := ⟨Nat.le_trans hS.1 (by rw [e1]; exact hz), fun q h1 h2 => by rw [e1, hk q (Nat.lt_of_lt_of_le h1 hS.1) h2]; exact hS.2.1 q h1 h2, fun q hq => by
      rcases List.mem_append.mp hq with h | h
      · exact hS.2.2 q h
      · exact hLs q h⟩
  have hst2 : ∀ v ∈ r.toList ++ st, zok v := by
    intro v hv
    rcases List.mem_append.mp hv with h | h
    · exact hrok v (Option.mem_toList.mp h)
    · exact hst v h
  have hw := h r S' V' hp C T'.heap (locs ++ Ls) ls (by rw [e1]; exact hb) hS' hl hL hst2 T' rfl Y'
  obtain ⟨t2, a1, b1⟩ := hw
  refine ⟨t2, stp t2 ?_, b1⟩
  have e3 : (r.map zcv).toList ++ st.map zcv = (r.toList ++ st).map zcv := by cases r <;> simp
  rw [e3]
  exact a1
theorem zrest {N : zM} (h : ((st.map zcv).map fun v => v.category).sum ≤ 8) {ls : Array Slot} {m : MethodId} {s0 : List Value} : 2 * (F0 m pc ls s0).monitorRoom + ((st.map zcv).map fun v => v.category).sum ≤ 8 := lv_room h
/-- words on the operand stack, by the values -/
def zcats (st : List zV) : Nat := (st.map fun v => if zcat2 v then 2 else 1).sum
theorem zcats_eq (st : List zV) : ((st.map zcv).map fun v => v.category).sum = zcats st := by
  unfold zcats
  rw [List.map_map]
  congr 1
  apply List.map_congr_left
  intro v _
  rcases v with x | x | x
  · rfl
  · rfl
  · show (zref x).category = _
    rw [zref_cat]; rfl
theorem z_callV {N : zM} {np d mc ms ci index : Nat} {r c : Int} {q : vw_C} {as st0 : List zV} {P : Option zV → zS → zH → Prop} (hd : decode (zMb M) pc = .ok (.invokevirtual index, 3)) (hN : zcal N np) (hlink : Cond.methodLink (zMy M).cls index (zMy N) ∈ ztbl) (hins : Cond.instanceMethod (zMy N) ∈ ztbl) (hsel : Cond.selects (zMy N).cls (zMy N) (zMy N) ∈ ztbl)
    (hk : S r = (3 + (ci : Int), c)) (hq : vwCl[ci]? = some q) (hcls : q.1 = (zMy N).cls) (hn : as.length = np) (hst0 : st0 = as.reverse ++ zrv r :: st) (hcat : zcats st ≤ 8) (hr1 : d + 1 ≤ R.frames) (hr2 : 8 + (zMl N + 11) + 64 * d ≤ R.locals) (hc1 : k + mc ≤ R.cells) (hc2 : n + ms ≤ R.slots)
    (hM : Sp E d mc ms N (zrv r :: as) S V P) (h : ∀ r S' V', P r S' V' → Zr E X R M Q (k + mc) (n + ms) (pc + 3) L (r.toList ++ st) S' V') : Zr E X R M Q k n pc L st0 S V := by
  subst hst0
  intro C H locs ls hR hS hl hL hst
  have hts := C.2.2.2.2.2.2.1
  obtain ⟨g1, g2, ⟨cell, c1, c2, c3, c4⟩, g4⟩ := hR.obj hk hq
  have e : zcv (zrv r) = .ref (r - 1).toNat := zref_pos g1
  have hst' : ∀ v ∈ st, zok v := fun v hv => hst v (List.mem_append_right _ (List.mem_cons_of_mem _ hv))
  have hok : ∀ a ∈ zrv r :: as, zok a := by
    intro a ha
    rcases List.mem_cons.mp ha with rfl | ha
    · exact hst _ (List.mem_append_right _ List.mem_cons_self)
    · exact hst _ (List.mem_append_left _ (List.mem_reverse.mpr ha))
  refine zafter C hS hl hL hst' ?_ h (mc := mc) (ms := ms) (P := P) (a := (Value.ref (r - 1).toNat :: as.map zcv).toArray)
  have hcl : (zXs X).vm.findClass (zMy N).cls = some cell.cls := by
    rw [c2, ← hcls]
    exact (C.2.2.2.2.2.2.2.1.1 ci _ hq).2.1
  intro T hT Y
  obtain ⟨v, vm₁, ⟨U', l2, k2, s2⟩, hW₁, Y', ⟨g', mk, t, Ls, e1, e2, hq', h1, hL', h2, h3⟩, stp⟩ := callV Y C.1 (C := (zMy N).cls) (bytes := zMb N) (maxL := zMl N) (ret := zMr N) C.2.2.2.2.1 (hts _ hlink) (hts _ hins) (hts _ hsel) (hts _ hN.1) hN.2.2.1 (zback C hN hM hr1 hr2) (by rw [hT]; exact c1) (by rw [c3]; rfl) hcl
    (g := F0 (zXm X) pc ls ((as.reverse ++ zrv r :: st).map zcv)) rfl (hl.1.trans C.2.2.1.symm) (argsL := as.map zcv) (rest := st.map zcv) (fun sig h => by rw [List.length_map, hn]; exact zlen hN sig h) (by simp [e]) (by rw [zcats_eq]; show 2 * 0 + _ ≤ 8; omega) (by rw [C.2.1]; exact hd)
    (fun vm₁ hW₁ => ⟨hc1, hc2, by
      have := zPc_at C hR hS hok (U := T.setVm vm₁) hT hW₁
      rw [List.map_cons, e] at this
      exact this⟩)
  dsimp only [Pt.U, Pt.locs, Pt.cells, Pt.slots] at Y' e1 e2 h1 h2 h3 stp
  subst h1; subst h2; subst h3
  exact ⟨v, (T.setVm vm₁).calling g' mk (Value.ref (r - 1).toNat :: as.map zcv).toArray, t, U', Ls, hT, Y', hL', e1, e2, hq', stp⟩
theorem z_callS {N : zM} {np d mc ms index : Nat} {as st0 : List zV} {P : Option zV → zS → zH → Prop} (hd : decode (zMb M) pc = .ok (.invokestatic index, 3)) (hN : zcal N np) (hlink : Cond.methodLink (zMy M).cls index (zMy N) ∈ ztbl) (hsta : Cond.static (zMy N) ∈ ztbl)
    (hn : as.length = np) (hst0 : st0 = as.reverse ++ st) (hcat : zcats st ≤ 8) (hr1 : d + 1 ≤ R.frames) (hr2 : 8 + (zMl N + 11) + 64 * d ≤ R.locals) (hc1 : k + mc ≤ R.cells) (hc2 : n + ms ≤ R.slots)
    (hM : Sp E d mc ms N as S V P) (h : ∀ r S' V', P r S' V' → Zr E X R M Q (k + mc) (n + ms) (pc + 3) L (r.toList ++ st) S' V') : Zr E X R M Q k n pc L st0 S V := by
  subst hst0
  intro C H locs ls hR hS hl hL hst
  have hts := C.2.2.2.2.2.2.1
  have hst' : ∀ v ∈ st, zok v := fun v hv => hst v (List.mem_append_right _ hv)
  have hok : ∀ a ∈ as, zok a := fun a ha => hst _ (List.mem_append_left _ (List.mem_reverse.mpr ha))
  refine zafter C hS hl hL hst' ?_ h (mc := mc) (ms := ms) (P := P) (a := (as.map zcv).toArray)
  intro T hT Y
  obtain ⟨v, vm₁, ⟨U', l2, k2, s2⟩, hW₁, Y', ⟨g', mk, t, Ls, e1, e2, hq', h1, hL', h2, h3⟩, stp⟩ := callS Y C.1 (bytes := zMb N) (maxL := zMl N) (ret := zMr N) C.2.2.2.2.1 (hts _ hlink) (hts _ hsta) (hts _ hN.2.1) (hts _ hN.1) hN.2.2.1 (zback C hN hM hr1 hr2)
    (g := F0 (zXm X) pc ls ((as.reverse ++ st).map zcv)) rfl (hl.1.trans C.2.2.1.symm) (argsL := as.map zcv) (rest := st.map zcv) (fun sig h => by rw [List.length_map, hn]; exact zlen hN sig h) (by simp) (by rw [zcats_eq]; show 2 * 0 + _ ≤ 8; omega) (by rw [C.2.1]; exact hd)
    (fun vm₁ hW₁ => ⟨hc1, hc2, zPc_at C hR hS hok (U := T.setVm vm₁) hT hW₁⟩)
  dsimp only [Pt.U, Pt.locs, Pt.cells, Pt.slots] at Y' e1 e2 h1 h2 h3 stp
  subst h1; subst h2; subst h3
  exact ⟨v, (T.setVm vm₁).calling g' mk (as.map zcv).toArray, t, U', Ls, hT, Y', hL', e1, e2, hq', stp⟩
theorem z_callI {N : zM} {np d mc ms index : Nat} {r : Int} {as st0 : List zV} {P : Option zV → zS → zH → Prop} (hd : decode (zMb M) pc = .ok (.invokespecial index, 3)) (hN : zcal N np) (hr0 : zMr N = none) (hnm : (zMy N).name = "<init>") (hlink : Cond.methodLink (zMy M).cls index (zMy N) ∈ ztbl) (hins : Cond.instanceMethod (zMy N) ∈ ztbl)
    (hr : 0 < r) (hn : as.length = np) (hst0 : st0 = as.reverse ++ zrv r :: st) (hcat : zcats st ≤ 8) (hr1 : d + 1 ≤ R.frames) (hr2 : 8 + (zMl N + 11) + 64 * d ≤ R.locals) (hc1 : k + mc ≤ R.cells) (hc2 : n + ms ≤ R.slots)
    (hM : Sp E d mc ms N (zrv r :: as) S V P) (h : ∀ r S' V', P r S' V' → Zr E X R M Q (k + mc) (n + ms) (pc + 3) L (r.toList ++ st) S' V') : Zr E X R M Q k n pc L st0 S V := by
  subst hst0
  intro C H locs ls hR hS hl hL hst
  have hts := C.2.2.2.2.2.2.1
  have e : zcv (zrv r) = .ref (r - 1).toNat := zref_pos hr
  have hst' : ∀ v ∈ st, zok v := fun v hv => hst v (List.mem_append_right _ (List.mem_cons_of_mem _ hv))
  have hok : ∀ a ∈ zrv r :: as, zok a := by
    intro a ha
    rcases List.mem_cons.mp ha with rfl | ha
    · exact hst _ (List.mem_append_right _ List.mem_cons_self)
    · exact hst _ (List.mem_append_left _ (List.mem_reverse.mpr ha))
  refine zafter C hS hl hL hst' ?_ h (mc := mc) (ms := ms) (P := P) (a := (Value.ref (r - 1).toNat :: as.map zcv).toArray)
  have hcode := hts _ hN.1
  rw [hr0] at hcode
  intro T hT Y
  obtain ⟨v, vm₁, ⟨U', l2, k2, s2⟩, hW₁, Y', ⟨g', mk, t, Ls, e1, e2, hq', h1, hL', h2, h3⟩, stp⟩ := callI Y C.1 (bytes := zMb N) (maxL := zMl N) C.2.2.2.2.1 hnm (hts _ hlink) (hts _ hins) hcode hN.2.2.1 (zback C hN hM hr1 hr2)
    (g := F0 (zXm X) pc ls ((as.reverse ++ zrv r :: st).map zcv)) rfl (hl.1.trans C.2.2.1.symm) (a := (r - 1).toNat) (argsL := as.map zcv) (rest := st.map zcv) (fun sig h => by rw [List.length_map, hn]; exact zlen hN sig h) (by simp [e]) (by rw [zcats_eq]; show 2 * 0 + _ ≤ 8; omega) (by rw [C.2.1]; exact hd)
    (fun vm₁ hW₁ => ⟨hc1, hc2, by
      have := zPc_at C hR hS hok (U := T.setVm vm₁) hT hW₁
      rw [List.map_cons, e] at this
      exact this⟩)
  dsimp only [Pt.U, Pt.locs, Pt.cells, Pt.slots] at Y' e1 e2 h1 h2 h3 stp
  subst h1; subst h2; subst h3
  exact ⟨v, (T.setVm vm₁).calling g' mk (Value.ref (r - 1).toNat :: as.map zcv).toArray, t, U', Ls, hT, Y', hL', e1, e2, hq', stp⟩
theorem z_callIN {N : zM} {np d mc ms index : Nat} {host : String} {r : Int} {as st0 : List zV} {P : Option zV → zS → zH → Prop} (hd : decode (zMb M) pc = .ok (.invokespecial index, 3)) (hN : zcal N np) (hr0 : zMr N = none) (hnm : (zMy N).name = "<init>") (hlink : Cond.methodLinkNest (zMy M).cls index (zMy N) host ∈ ztbl) (hins : Cond.instanceMethod (zMy N) ∈ ztbl)
    (hr : 0 < r) (hn : as.length = np) (hst0 : st0 = as.reverse ++ zrv r :: st) (hcat : zcats st ≤ 8) (hr1 : d + 1 ≤ R.frames) (hr2 : 8 + (zMl N + 11) + 64 * d ≤ R.locals) (hc1 : k + mc ≤ R.cells) (hc2 : n + ms ≤ R.slots)
    (hM : Sp E d mc ms N (zrv r :: as) S V P) (h : ∀ r S' V', P r S' V' → Zr E X R M Q (k + mc) (n + ms) (pc + 3) L (r.toList ++ st) S' V') : Zr E X R M Q k n pc L st0 S V := by
  subst hst0
  intro C H locs ls hR hS hl hL hst
  have hts := C.2.2.2.2.2.2.1
  have e : zcv (zrv r) = .ref (r - 1).toNat := zref_pos hr
  have hst' : ∀ v ∈ st, zok v := fun v hv => hst v (List.mem_append_right _ (List.mem_cons_of_mem _ hv))
  have hok : ∀ a ∈ zrv r :: as, zok a := by
    intro a ha
    rcases List.mem_cons.mp ha with rfl | ha
    · exact hst _ (List.mem_append_right _ List.mem_cons_self)
    · exact hst _ (List.mem_append_left _ (List.mem_reverse.mpr ha))
  refine zafter C hS hl hL hst' ?_ h (mc := mc) (ms := ms) (P := P) (a := (Value.ref (r - 1).toNat :: as.map zcv).toArray)
  have hcode := hts _ hN.1
  rw [hr0] at hcode
  have hws : ∀ w ∈ zws N, ∀ (a' : Array Value) (U : State), (zXs X).WarmedH U.vm → w.before a' U = true := by
    intro w hw a' U hW
    rcases List.mem_cons.mp hw with rfl | hw
    · exact zwarm C hN.1 a' U hW
    · exact zwarm C hw a' U hW
  have hfix : CallFix (zXp X) (zXm X) (zXc X) (zMb M) (zMl M) (zXs X) (zXa X) ztbl (zMy M).cls := ⟨C.1, C.2.1, C.2.2.1, C.2.2.2.2.1, hts⟩
  have hP : PreS (zXs X) H (zPc E (zrv r :: as) S V) (.ref (r - 1).toNat :: as.map zcv) := by
    refine ⟨fun a U g mk q => ?_, fun U hU hW => ?_⟩
    · obtain ⟨q1, q2, q3, q4, q5⟩ := q
      exact ⟨q1, q2, q3, zK.moved (u := U) (U := U.calling g mk a) (Vm.Alike.refl U.vm) q4, q5⟩
    · have := zPc_at C hR hS hok (U := U) hU hW
      rw [List.map_cons, e] at this
      exact this
  have hcn : va_CN R (zXs X) (zXa X) (zMy M).cls index (zMy N) host (zMb N) (zMl N) none (zws N) (zRoom d mc ms) mc ms np :=
    ⟨⟨rfl, rfl, hr1, hr2, hws, by rw [← hr0]; exact List.mem_cons_self⟩, hcode, hts _ hN.2.1, hN.2.2.1, fun sig h => zlen hN sig h, hts _ hlink⟩
  exact va_runIN (g := F0 (zXm X) pc ls ((as.reverse ++ zrv r :: st).map zcv)) hfix hM ⟨hcn, hnm, hts _ hins⟩ hP rfl (by rw [List.length_map, hn]) hl.1 (by simp [e]) (by rw [zcats_eq]; show 2 * 0 + _ ≤ 8; omega) hd ⟨hc1, hc2⟩
theorem z_objInit {index : Nat} {r : Int} (hd : decode (zMb M) pc = .ok (.invokespecial index, 3)) (hlink : Cond.methodLink (zMy M).cls index objectInit ∈ ztbl) (hins : Cond.instanceMethod objectInit ∈ ztbl) (hcode : Cond.code objectInit ⟨#[0xb1]⟩ 1 none ∈ ztbl) (hr : 0 < r) (hcat : zcats st ≤ 8) (hr1 : 1 ≤ R.frames) (hr2 : 20 ≤ R.locals) (h : Zr E X R M Q k n (pc + 3) L st S V) : Zr E X R M Q k n pc L (zrv r :: st) S V := by
  intro C H locs ls hR hS hl hL hst
  have hts := C.2.2.2.2.2.2.1
  have e : zcv (zrv r) = .ref (r - 1).toNat := zref_pos hr
  rw [List.map_cons, e]
  exact W.objInit C.1 C.2.1 C.2.2.2.2.1 (hts _ hlink) (hts _ hins) (hts _ hcode) rfl (hl.1.trans C.2.2.1.symm) rfl hd hr1 (by rw [zcats_eq]; show 2 * 0 + _ + 12 ≤ _; omega) (h C H locs ls hR hS hl hL (ztail hst))
theorem zF_of {H : Heap} {locs : List Loc} (hS : va_S (zA E) (zXs X).heap H locs) {t : State} (ht : t.heap = H) : va_F (zA E) (zXs X) t := hS.F ht
theorem z_iret {P : Option zV → zS → zH → Prop} {mc ms : Nat} {x : Int} (hd : decode (zMb M) pc = .ok (.ireturn, 1)) (hr : zMr M = some .int) (hk : k ≤ mc) (hn : n ≤ ms) (h : z32 x → P (some (ziv x)) S V) : Zr E X R M (zQm E X P mc ms) k n pc L [ziv x] S V := by
  intro C H locs ls hR hS hl hL hst
  refine W.widen hk hn ?_
  have hlocks := C.2.2.2.2.2.1
  have hx : z32 x := zhead hst
  exact W.iret (v := Int32.ofInt x) C.1 C.2.1 (C.2.2.2.1.trans hr) (fun t ht hW => ⟨⟨some (ziv x), S, V, rfl, fun v hv => by cases hv; exact hx, h hx, by rw [ht]; exact hR⟩, hS.F ht⟩) hS.2.2 hd hlocks
theorem z_zret {P : Option zV → zS → zH → Prop} {mc ms : Nat} {x : Int} (hd : decode (zMb M) pc = .ok (.ireturn, 1)) (hr : zMr M = some .boolean) (hk : k ≤ mc) (hn : n ≤ ms) (hx : x = 0 ∨ x = 1) (h : P (some (ziv x)) S V) : Zr E X R M (zQm E X P mc ms) k n pc L [ziv x] S V := by
  intro C H locs ls hR hS hl hL hst
  refine W.widen hk hn ?_
  have hlocks := C.2.2.2.2.2.1
  have hz : z32 x := zhead hst
  have hnar : narrow .boolean (.int (Int32.ofInt x)) = .int (Int32.ofInt x) := by rcases hx with rfl | rfl <;> decide
  exact W.zret (v := Int32.ofInt x) C.1 C.2.1 (C.2.2.2.1.trans hr) hnar (fun t ht hW => ⟨⟨some (ziv x), S, V, rfl, fun v hv => by cases hv; exact hz, h, by rw [ht]; exact hR⟩, hS.F ht⟩) hS.2.2 hd hlocks
theorem z_lret {P : Option zV → zS → zH → Prop} {mc ms : Nat} {x : Int} (hd : decode (zMb M) pc = .ok (.lreturn, 1)) (hr : zMr M = some .long) (hk : k ≤ mc) (hn : n ≤ ms) (h : z64 x → P (some (zjv x)) S V) : Zr E X R M (zQm E X P mc ms) k n pc L [zjv x] S V := by
  intro C H locs ls hR hS hl hL hst
  refine W.widen hk hn ?_
  have hlocks := C.2.2.2.2.2.1
  have hx : z64 x := zhead hst
  exact W.lret (v := Int64.ofInt x) C.1 C.2.1 (C.2.2.2.1.trans hr) (fun t ht hW => ⟨⟨some (zjv x), S, V, rfl, fun v hv => by cases hv; exact hx, h hx, by rw [ht]; exact hR⟩, hS.F ht⟩) hS.2.2 hd hlocks
theorem z_aret {P : Option zV → zS → zH → Prop} {mc ms : Nat} {x : Int} {rt : String} (hd : decode (zMb M) pc = .ok (.areturn, 1)) (hr : zMr M = some (.object rt)) (hk : k ≤ mc) (hn : n ≤ ms) (h : P (some (zrv x)) S V) : Zr E X R M (zQm E X P mc ms) k n pc L [zrv x] S V := by
  intro C H locs ls hR hS hl hL hst
  refine W.widen hk hn ?_
  have hlocks := C.2.2.2.2.2.1
  have hx : zok (zrv x) := zhead hst
  refine W.aret (v := zcv (zrv x)) C.1 C.2.1 (C.2.2.2.1.trans hr) (Or.inl ⟨_, rfl⟩) ?_ (fun t ht hW => ⟨⟨some (zrv x), S, V, rfl, fun v hv => by cases hv; exact hx, h, by rw [ht]; exact hR⟩, hS.F ht⟩) hS.2.2 hd hlocks
  show zref x = _ ∨ ∃ a, zref x = _
  unfold zref
  split
  · exact Or.inl rfl
  · exact Or.inr ⟨_, rfl⟩
theorem z_vret {P : Option zV → zS → zH → Prop} {mc ms : Nat} (hd : decode (zMb M) pc = .ok (.return_, 1)) (hr : zMr M = none) (hk : k ≤ mc) (hn : n ≤ ms) (h : P none S V) : Zr E X R M (zQm E X P mc ms) k n pc L [] S V := by
  intro C H locs ls hR hS hl hL hst
  refine W.widen hk hn ?_
  have hlocks := C.2.2.2.2.2.1
  exact W.vret C.1 C.2.1 (C.2.2.2.1.trans hr) (fun t ht hW => ⟨⟨none, S, V, rfl, fun v hv => (by cases hv), h, by rw [ht]; exact hR⟩, hS.F ht⟩) hS.2.2 hd hlocks
/-- the locals with which a method begins -/
def zargs : Nat → List zV → List (Nat × zV)
  | _, [] => []
  | i, v :: vs => (i, v) :: zargs (if zcat2 v then i + 2 else i + 1) vs
theorem zargs_eq (vs : List zV) : ∀ i, lv_args i (vs.map zcv) = zL (zargs i vs) := by
  induction vs with
  | nil => intro i; rfl
  | cons v vs ih =>
    intro i
    have e : (if (zcv v).category = 2 then i + 2 else i + 1) = if zcat2 v then i + 2 else i + 1 := by
      have h := zcat2_eq v
      by_cases hc : (zcv v).category = 2
      · have : zcat2 v = true := by rw [← h]; simp [hc]
        simp [hc, this]
      · have : zcat2 v = false := by rw [← h]; simp [hc]
        simp [hc, this]
    show (i, zcv v) :: lv_args _ (vs.map zcv) = (i, zcv v) :: zL (zargs _ vs)
    rw [e, ih]
theorem zargs_ok (vs : List zV) (h : ∀ a ∈ vs, zok a) : ∀ i, ∀ q ∈ zargs i vs, zok q.2 := by
  induction vs with
  | nil => intro i q hq; cases hq
  | cons v vs ih =>
    intro i q hq
    rcases List.mem_cons.mp hq with rfl | hq
    · exact h v List.mem_cons_self
    · exact ih (fun a ha => h a (List.mem_cons_of_mem _ ha)) _ q hq
/-- the words that arguments take -/
theorem zargs_len (vs : List zV) : (lg_sl (vs.map zcv)).length = zcats vs := by
  induction vs with
  | nil => rfl
  | cons v vs ih =>
    have h := zcat2_eq v
    have e : zcats (v :: vs) = (if zcat2 v then 2 else 1) + zcats vs := by simp [zcats]
    rw [e, ← ih]
    simp only [lg_sl, List.map_cons, List.flatMap_cons, List.length_append]
    by_cases hc : (zcv v).category = 2
    · have : zcat2 v = true := by rw [← h]; simp [hc]
      simp [hc, this]
    · have : zcat2 v = false := by rw [← h]; simp [hc]
      simp [hc, this]
/-- A CONTRACT OUT OF ONE WALK of the method's body -/
theorem zMet_ofW {l : Launch} {y : MethodName} {ws ws' : List Cond} {rm : Room} {Pc : Array Value → State → Prop} {Qc : Array Value → State → Outcome → State → Prop} {mc ms : Nat} {free : Addr → Prop} {cc : ByteArray} {maxL : Nat} {ret : Option FieldType}
    (hy : plainFor y = true) (hw : ws = Cond.code y cc maxL ret :: ws')
    (body : ∀ p e s m args below meth c s₁, BodyLoose p l y (headSpec ws rm) cc maxL ret e s m args below meth c s₁ → c.maxLocals = maxL → Pc args s →
      W p l e (headSpec ws rm).room s m args below meth c s.heap [] 0 0 (MQ below Qc args s mc ms free) (entryFrame m args maxL)) : Met l y ws rm Pc Qc mc ms free := by
  refine MetFree.of_bodySF (code := cc) (maxLocals := maxL) (ret := ret) hy ?_ ?_
  · intro args s m h hn
    obtain ⟨meth, c, h1, h2, h3, h4, h5, h6, -, -⟩ := Cond.code_spec hn (atoms_spec (ws := ws) h _ (by rw [hw]; exact List.mem_cons_self))
    exact ⟨meth, c, h1, h2, h3, h4, h5, h6⟩
  · intro p e s m args below meth c s₁ B hml hP _
    have hh0 : s₁.heap = s.heap := by rw [B.state]; rfl
    obtain ⟨t, a1, o, b1, b2, b3⟩ := body p e s m args below meth c s₁ B hml hP s₁ hh0 (Stand.of_body B)
    exact ⟨t, o, a1, b1, b2, ⟨b3.1, b3.2⟩⟩
theorem Sp.of {N : zM} {d mc ms : Nat} {as : List zV} {P : Option zV → zS → zH → Prop} (hy : plainFor (zMy N) = true) (ha : zcats as ≤ zMl N) (h : (∀ a ∈ as, zok a) → ∀ X : zX, Zr E X (zRoom d mc ms) N (zQm E X P mc ms) 0 0 0 (zargs 0 as) [] S V) : Sp E d mc ms N as S V P := by
  refine zMet_ofW (cc := zMb N) (maxL := zMl N) (ret := zMr N) hy rfl ?_
  intro p e s m args below meth c s₁ B hml hv
  obtain ⟨rfl, hok, hR, hK, hb⟩ := hv
  have hts := atoms_spec (ws := zws N) B.pre
  have hC : zC E (p, e, s, m, (as.map zcv).toArray, below, meth, c) N := ⟨B.exec, B.bytes, hml, B.returns, findClass_of_methodNamed B.named, B.notSynchronized, fun w hw => hts w (List.mem_cons_of_mem _ hw), hK, (name_of_methodNamed B.named B.method).1, hb⟩
  have hl := lv_entry (as.map zcv) (n := zMl N) (by rw [zargs_len]; exact ha)
  rw [zargs_eq] at hl
  rw [lg_entry_eq]
  exact h hok (p, e, s, m, (as.map zcv).toArray, below, meth, c) hC s.heap [] _ hR va_S.rf hl (zargs_ok as hok 0) (fun v hv => by cases hv)
theorem Sp.mono {N : zM} {d mc ms : Nat} {as : List zV} {P P' : Option zV → zS → zH → Prop} (h : Sp E d mc ms N as S V P) (hp : ∀ r S' V', P r S' V' → P' r S' V') : Sp E d mc ms N as S V P' := by
  intro p e ha hc hk s m args below hf happ hP hT
  obtain ⟨n', o, h1, h2, h3, ⟨⟨⟨r, S', V', q1, q2, q3, q4⟩, q5⟩, q6⟩⟩ := h p e ha hc hk s m args below hf happ hP hT
  exact ⟨n', o, h1, h2, h3, ⟨⟨⟨r, S', V', q1, q2, hp _ _ _ q3, q4⟩, q5⟩, q6⟩⟩
end ZCALL
