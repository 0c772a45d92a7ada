/-! THE Z KIT, part 8: contracts by the kind of answer, calls by it, names for what was computed -/
section ZWRAP
variable {E : zE} {X : zX} {R : Room} {M : zM} {Q : State → Prop} {k n pc : Nat} {L : List (Nat × zV)} {st : List zV} {S : zS} {V : zH}
/-- contracts of methods that make no cell -/
def zpI (S : zS) (F : Int → zH → Prop) : Option zV → zS → zH → Prop := fun r S' V' => S' = S ∧ ∃ x, r = some (ziv x) ∧ z32 x ∧ F x V'
def zpJ (S : zS) (F : Int → zH → Prop) : Option zV → zS → zH → Prop := fun r S' V' => S' = S ∧ ∃ x, r = some (zjv x) ∧ z64 x ∧ F x V'
def zpR (S : zS) (F : Int → zH → Prop) : Option zV → zS → zH → Prop := fun r S' V' => S' = S ∧ ∃ x, r = some (zrv x) ∧ F x V'
def zpV (S : zS) (F : zH → Prop) : Option zV → zS → zH → Prop := fun r S' V' => S' = S ∧ r = none ∧ F V'
/-- contracts of methods that may make cells -/
def zaI (F : Int → zS → zH → Prop) : Option zV → zS → zH → Prop := fun r S' V' => ∃ x, r = some (ziv x) ∧ z32 x ∧ F x S' V'
def zaJ (F : Int → zS → zH → Prop) : Option zV → zS → zH → Prop := fun r S' V' => ∃ x, r = some (zjv x) ∧ z64 x ∧ F x S' V'
def zaR (F : Int → zS → zH → Prop) : Option zV → zS → zH → Prop := fun r S' V' => ∃ x, r = some (zrv x) ∧ F x S' V'
def zaV (F : zS → zH → Prop) : Option zV → zS → zH → Prop := fun r S' V' => r = none ∧ F S' V'
def SpI (E : zE) (d : Nat) (N : zM) (as : List zV) (S : zS) (V : zH) (F : Int → zH → Prop) : Prop := Sp E d 0 0 N as S V (zpI S F)
def SpJ (E : zE) (d : Nat) (N : zM) (as : List zV) (S : zS) (V : zH) (F : Int → zH → Prop) : Prop := Sp E d 0 0 N as S V (zpJ S F)
def SpR (E : zE) (d : Nat) (N : zM) (as : List zV) (S : zS) (V : zH) (F : Int → zH → Prop) : Prop := Sp E d 0 0 N as S V (zpR S F)
def SpV (E : zE) (d : Nat) (N : zM) (as : List zV) (S : zS) (V : zH) (F : zH → Prop) : Prop := Sp E d 0 0 N as S V (zpV S F)
def SaI (E : zE) (d mc ms : Nat) (N : zM) (as : List zV) (S : zS) (V : zH) (F : Int → zS → zH → Prop) : Prop := Sp E d mc ms N as S V (zaI F)
def SaJ (E : zE) (d mc ms : Nat) (N : zM) (as : List zV) (S : zS) (V : zH) (F : Int → zS → zH → Prop) : Prop := Sp E d mc ms N as S V (zaJ F)
def SaR (E : zE) (d mc ms : Nat) (N : zM) (as : List zV) (S : zS) (V : zH) (F : Int → zS → zH → Prop) : Prop := Sp E d mc ms N as S V (zaR F)
def SaV (E : zE) (d mc ms : Nat) (N : zM) (as : List zV) (S : zS) (V : zH) (F : zS → zH → Prop) : Prop := Sp E d mc ms N as S V (zaV F)
theorem SpI.mono {d : Nat} {N : zM} {as : List zV} {F F' : Int → zH → Prop} (h : SpI E d N as S V F) (hp : ∀ x V', F x V' → F' x V') : SpI E d N as S V F' :=
  Sp.mono h (fun _ _ _ ⟨e, x, e2, hx, hf⟩ => ⟨e, x, e2, hx, hp x _ hf⟩)
theorem SpJ.mono {d : Nat} {N : zM} {as : List zV} {F F' : Int → zH → Prop} (h : SpJ E d N as S V F) (hp : ∀ x V', F x V' → F' x V') : SpJ E d N as S V F' :=
  Sp.mono h (fun _ _ _ ⟨e, x, e2, hx, hf⟩ => ⟨e, x, e2, hx, hp x _ hf⟩)
theorem SpR.mono {d : Nat} {N : zM} {as : List zV} {F F' : Int → zH → Prop} (h : SpR E d N as S V F) (hp : ∀ x V', F x V' → F' x V') : SpR E d N as S V F' :=
  Sp.mono h (fun _ _ _ ⟨e, x, e2, hf⟩ => ⟨e, x, e2, hp x _ hf⟩)
theorem SpV.mono {d : Nat} {N : zM} {as : List zV} {F F' : zH → Prop} (h : SpV E d N as S V F) (hp : ∀ V', F V' → F' V') : SpV E d N as S V F' :=
  Sp.mono h (fun _ _ _ ⟨e, e2, hf⟩ => ⟨e, e2, hp _ hf⟩)
theorem SaI.mono {d mc ms : Nat} {N : zM} {as : List zV} {F F' : Int → zS → zH → Prop} (h : SaI E d mc ms N as S V F) (hp : ∀ x S' V', F x S' V' → F' x S' V') : SaI E d mc ms N as S V F' :=
  Sp.mono h (fun _ _ _ ⟨x, e2, hx, hf⟩ => ⟨x, e2, hx, hp x _ _ hf⟩)
theorem SaJ.mono {d mc ms : Nat} {N : zM} {as : List zV} {F F' : Int → zS → zH → Prop} (h : SaJ E d mc ms N as S V F) (hp : ∀ x S' V', F x S' V' → F' x S' V') : SaJ E d mc ms N as S V F' :=
  Sp.mono h (fun _ _ _ ⟨x, e2, hx, hf⟩ => ⟨x, e2, hx, hp x _ _ hf⟩)
theorem SaR.mono {d mc ms : Nat} {N : zM} {as : List zV} {F F' : Int → zS → zH → Prop} (h : SaR E d mc ms N as S V F) (hp : ∀ x S' V', F x S' V' → F' x S' V') : SaR E d mc ms N as S V F' :=
  Sp.mono h (fun _ _ _ ⟨x, e2, hf⟩ => ⟨x, e2, hp x _ _ hf⟩)
theorem SaV.mono {d mc ms : Nat} {N : zM} {as : List zV} {F F' : zS → zH → Prop} (h : SaV E d mc ms N as S V F) (hp : ∀ S' V', F S' V' → F' S' V') : SaV E d mc ms N as S V F' :=
  Sp.mono h (fun _ _ _ ⟨e2, hf⟩ => ⟨e2, hp _ _ hf⟩)
/-- what a call is followed by, by the kind of its answer: a sum of both forms -/
theorem z_nameV (h : ∀ V1 : zH, V1 = V → Zr E X R M Q k n pc L st S V1) : Zr E X R M Q k n pc L st S V := h V rfl
theorem z_nameS (h : ∀ (S1 : zS) (V1 : zH), S1 = S → V1 = V → Zr E X R M Q k n pc L st S1 V1) : Zr E X R M Q k n pc L st S V := h S V rfl rfl
theorem z_nameI {x : Int} (h : ∀ x1 : Int, x1 = x → Zr E X R M Q k n pc L (ziv x1 :: st) S V) : Zr E X R M Q k n pc L (ziv x :: st) S V := h x rfl
theorem z_nameJ {x : Int} (h : ∀ x1 : Int, x1 = x → Zr E X R M Q k n pc L (zjv x1 :: st) S V) : Zr E X R M Q k n pc L (zjv x :: st) S V := h x rfl
theorem z_nameR {x : Int} (h : ∀ x1 : Int, x1 = x → Zr E X R M Q k n pc L (zrv x1 :: st) S V) : Zr E X R M Q k n pc L (zrv x :: st) S V := h x rfl
theorem zpair {r : Int} {c : Int} (h : (S r).1 = c) : S r = (c, (S r).2) := by rw [← h]
theorem z_iald {r j : Int} (hd : decode (zMb M) pc = .ok (.iaload, 1)) (hk : (S r).1 = 1) (h01 : 0 ≤ j ∧ j < (S r).2) (h : Zr E X R M Q k n (pc + 1) L (ziv (V r j) :: st) S V) : Zr E X R M Q k n pc L (ziv j :: zrv r :: st) S V :=
  z_iaload hd (zpair hk) h01.1 h01.2 h
theorem z_lald {r j : Int} (hd : decode (zMb M) pc = .ok (.laload, 1)) (hk : (S r).1 = 2) (h01 : 0 ≤ j ∧ j < (S r).2) (h : Zr E X R M Q k n (pc + 1) L (zjv (V r j) :: st) S V) : Zr E X R M Q k n pc L (ziv j :: zrv r :: st) S V :=
  z_laload hd (zpair hk) h01.1 h01.2 h
theorem z_iast {r j x : Int} (hd : decode (zMb M) pc = .ok (.iastore, 1)) (hk : (S r).1 = 1) (h01 : 0 ≤ j ∧ j < (S r).2) (h : Zr E X R M Q k n (pc + 1) L st S (zput V r j x)) : Zr E X R M Q k n pc L (ziv x :: ziv j :: zrv r :: st) S V :=
  z_iastore hd (zpair hk) h01.1 h01.2 h
theorem z_last {r j x : Int} (hd : decode (zMb M) pc = .ok (.lastore, 1)) (hk : (S r).1 = 2) (h01 : 0 ≤ j ∧ j < (S r).2) (h : Zr E X R M Q k n (pc + 1) L st S (zput V r j x)) : Zr E X R M Q k n pc L (zjv x :: ziv j :: zrv r :: st) S V :=
  z_lastore hd (zpair hk) h01.1 h01.2 h
theorem z_len1 {r : Int} (hd : decode (zMb M) pc = .ok (.arraylength, 1)) (hk : (S r).1 = 1) (h : Zr E X R M Q k n (pc + 1) L (ziv (S r).2 :: st) S V) : Zr E X R M Q k n pc L (zrv r :: st) S V := z_alen1 hd (zpair hk) h
theorem z_len2 {r : Int} (hd : decode (zMb M) pc = .ok (.arraylength, 1)) (hk : (S r).1 = 2) (h : Zr E X R M Q k n (pc + 1) L (ziv (S r).2 :: st) S V) : Zr E X R M Q k n pc L (zrv r :: st) S V := z_alen2 hd (zpair hk) h
theorem z_copy {index : Nat} {src dst sp dp m : Int} (hd : decode (zMb M) pc = .ok (.invokestatic index, 3)) (hlink : Cond.methodLink (zMy M).cls index arraycopyName ∈ ztbl) (hw : Cond.native arraycopyName ∈ ztbl ∧ Cond.static arraycopyName ∈ ztbl ∧ Cond.initialized "java/lang/System" ∈ ztbl)
    (hk0 : (S src).1 = 1) (hk1 : (S dst).1 = 1) (h1 : 0 ≤ sp ∧ 0 ≤ dp ∧ 0 ≤ m ∧ sp + m ≤ (S src).2 ∧ dp + m ≤ (S dst).2) (hcat : zcats st ≤ 8) (hr1 : 1 ≤ R.frames) (hr2 : 64 ≤ R.locals)
    (h : Zr E X R M Q k n (pc + 3) L st S (zcpy V src sp dst dp m)) : Zr E X R M Q k n pc L (ziv m :: ziv dp :: zrv dst :: ziv sp :: zrv src :: st) S V :=
  z_copyi hd hlink hw.1 hw.2.1 hw.2.2 (zpair hk0) (zpair hk1) h1.1 h1.2.1 h1.2.2.1 h1.2.2.2.1 h1.2.2.2.2 hcat hr1 hr2 h
theorem z_cV {N : zM} {np d mc ms ci index : Nat} {r c : Int} (as : List zV) {st0 : List zV} {P : Option zV → zS → zH → Prop} (hw : zcV M N np index ci) (hd : decode (zMb M) pc = .ok (.invokevirtual index, 3)) (hk : (S r).1 = c) (hc : c = 3 + (ci : Int)) (hn : as.length = np) (hst0 : st0 = as.reverse ++ zrv r :: st) (hcat : zcats st ≤ 8) (hr1 : d + 1 ≤ R.frames) (hr2 : 8 + (zMl N + 11) + 64 * d ≤ R.locals) (hc1 : k + mc ≤ R.cells) (hc2 : n + ms ≤ R.slots)
    (hM : Sp E d mc ms N (zrv r :: as) S V P) (h : ∀ r S' V', P r S' V' → Zr E X R M Q (k + mc) (n + ms) (pc + 3) L (r.toList ++ st) S' V') : Zr E X R M Q k n pc L st0 S V := by
  obtain ⟨w1, w2, w3, w4, q, w5, w6⟩ := hw
  exact z_callV hd w1 w2 w3 w4 (zpair (hk.trans hc)) w5 w6 hn hst0 hcat hr1 hr2 hc1 hc2 hM h
theorem z_cVI {N : zM} {np d ci index : Nat} {r c : Int} (as : List zV) {st0 : List zV} {F : Int → zH → Prop} (hw : zcV M N np index ci) (hd : decode (zMb M) pc = .ok (.invokevirtual index, 3)) (hk : (S r).1 = c) (hc : c = 3 + (ci : Int)) (hn : as.length = np) (hst0 : st0 = as.reverse ++ zrv r :: st) (hcat : zcats st ≤ 8) (hr1 : d + 1 ≤ R.frames) (hr2 : 8 + (zMl N + 11) + 64 * d ≤ R.locals) (hc1 : k ≤ R.cells) (hc2 : n ≤ R.slots)
    (hM : SpI E d N (zrv r :: as) S V F) (h : ∀ x V', F x V' → Zr E X R M Q k n (pc + 3) L (ziv x :: st) S V') : Zr E X R M Q k n pc L st0 S V :=
  z_cV as hw hd hk hc hn hst0 hcat hr1 hr2 hc1 hc2 hM (fun r S' V' ⟨e, x, e2, _, hf⟩ => by subst e2; rw [e]; exact h x V' hf)
theorem z_cVJ {N : zM} {np d ci index : Nat} {r c : Int} (as : List zV) {st0 : List zV} {F : Int → zH → Prop} (hw : zcV M N np index ci) (hd : decode (zMb M) pc = .ok (.invokevirtual index, 3)) (hk : (S r).1 = c) (hc : c = 3 + (ci : Int)) (hn : as.length = np) (hst0 : st0 = as.reverse ++ zrv r :: st) (hcat : zcats st ≤ 8) (hr1 : d + 1 ≤ R.frames) (hr2 : 8 + (zMl N + 11) + 64 * d ≤ R.locals) (hc1 : k ≤ R.cells) (hc2 : n ≤ R.slots)
    (hM : SpJ E d N (zrv r :: as) S V F) (h : ∀ x V', F x V' → Zr E X R M Q k n (pc + 3) L (zjv x :: st) S V') : Zr E X R M Q k n pc L st0 S V :=
  z_cV as hw hd hk hc hn hst0 hcat hr1 hr2 hc1 hc2 hM (fun r S' V' ⟨e, x, e2, _, hf⟩ => by subst e2; rw [e]; exact h x V' hf)
theorem z_cVR {N : zM} {np d ci index : Nat} {r c : Int} (as : List zV) {st0 : List zV} {F : Int → zH → Prop} (hw : zcV M N np index ci) (hd : decode (zMb M) pc = .ok (.invokevirtual index, 3)) (hk : (S r).1 = c) (hc : c = 3 + (ci : Int)) (hn : as.length = np) (hst0 : st0 = as.reverse ++ zrv r :: st) (hcat : zcats st ≤ 8) (hr1 : d + 1 ≤ R.frames) (hr2 : 8 + (zMl N + 11) + 64 * d ≤ R.locals) (hc1 : k ≤ R.cells) (hc2 : n ≤ R.slots)
    (hM : SpR E d N (zrv r :: as) S V F) (h : ∀ x V', F x V' → Zr E X R M Q k n (pc + 3) L (zrv x :: st) S V') : Zr E X R M Q k n pc L st0 S V :=
  z_cV as hw hd hk hc hn hst0 hcat hr1 hr2 hc1 hc2 hM (fun r S' V' ⟨e, x, e2, hf⟩ => by subst e2; rw [e]; exact h x V' hf)
theorem z_cVV {N : zM} {np d ci index : Nat} {r c : Int} (as : List zV) {st0 : List zV} {F : zH → Prop} (hw : zcV M N np index ci) (hd : decode (zMb M) pc = .ok (.invokevirtual index, 3)) (hk : (S r).1 = c) (hc : c = 3 + (ci : Int)) (hn : as.length = np) (hst0 : st0 = as.reverse ++ zrv r :: st) (hcat : zcats st ≤ 8) (hr1 : d + 1 ≤ R.frames) (hr2 : 8 + (zMl N + 11) + 64 * d ≤ R.locals) (hc1 : k ≤ R.cells) (hc2 : n ≤ R.slots)
    (hM : SpV E d N (zrv r :: as) S V F) (h : ∀ V', F V' → Zr E X R M Q k n (pc + 3) L st S V') : Zr E X R M Q k n pc L st0 S V :=
  z_cV as hw hd hk hc hn hst0 hcat hr1 hr2 hc1 hc2 hM (fun r S' V' ⟨e, e2, hf⟩ => by subst e2; rw [e]; exact h V' hf)
theorem z_aVI {N : zM} {np d mc ms ci index : Nat} {r c : Int} (as : List zV) {st0 : List zV} {F : Int → zS → zH → Prop} (hw : zcV M N np index ci) (hd : decode (zMb M) pc = .ok (.invokevirtual index, 3)) (hk : (S r).1 = c) (hc : c = 3 + (ci : Int)) (hn : as.length = np) (hst0 : st0 = as.reverse ++ zrv r :: st) (hcat : zcats st ≤ 8) (hr1 : d + 1 ≤ R.frames) (hr2 : 8 + (zMl N + 11) + 64 * d ≤ R.locals) (hc1 : k + mc ≤ R.cells) (hc2 : n + ms ≤ R.slots)
    (hM : SaI E d mc ms N (zrv r :: as) S V F) (h : ∀ x S' V', F x S' V' → Zr E X R M Q (k + mc) (n + ms) (pc + 3) L (ziv x :: st) S' V') : Zr E X R M Q k n pc L st0 S V :=
  z_cV as hw hd hk hc hn hst0 hcat hr1 hr2 hc1 hc2 hM (fun r S' V' ⟨x, e2, _, hf⟩ => by subst e2; exact h x S' V' hf)
theorem z_aVJ {N : zM} {np d mc ms ci index : Nat} {r c : Int} (as : List zV) {st0 : List zV} {F : Int → zS → zH → Prop} (hw : zcV M N np index ci) (hd : decode (zMb M) pc = .ok (.invokevirtual index, 3)) (hk : (S r).1 = c) (hc : c = 3 + (ci : Int)) (hn : as.length = np) (hst0 : st0 = as.reverse ++ zrv r :: st) (hcat : zcats st ≤ 8) (hr1 : d + 1 ≤ R.frames) (hr2 : 8 + (zMl N + 11) + 64 * d ≤ R.locals) (hc1 : k + mc ≤ R.cells) (hc2 : n + ms ≤ R.slots)
    (hM : SaJ E d mc ms N (zrv r :: as) S V F) (h : ∀ x S' V', F x S' V' → Zr E X R M Q (k + mc) (n + ms) (pc + 3) L (zjv x :: st) S' V') : Zr E X R M Q k n pc L st0 S V :=
  z_cV as hw hd hk hc hn hst0 hcat hr1 hr2 hc1 hc2 hM (fun r S' V' ⟨x, e2, _, hf⟩ => by subst e2; exact h x S' V' hf)
theorem z_aVR {N : zM} {np d mc ms ci index : Nat} {r c : Int} (as : List zV) {st0 : List zV} {F : Int → zS → zH → Prop} (hw : zcV M N np index ci) (hd : decode (zMb M) pc = .ok (.invokevirtual index, 3)) (hk : (S r).1 = c) (hc : c = 3 + (ci : Int)) (hn : as.length = np) (hst0 : st0 = as.reverse ++ zrv r :: st) (hcat : zcats st ≤ 8) (hr1 : d + 1 ≤ R.frames) (hr2 : 8 + (zMl N + 11) + 64 * d ≤ R.locals) (hc1 : k + mc ≤ R.cells) (hc2 : n + ms ≤ R.slots)
    (hM : SaR E d mc ms N (zrv r :: as) S V F) (h : ∀ x S' V', F x S' V' → Zr E X R M Q (k + mc) (n + ms) (pc + 3) L (zrv x :: st) S' V') : Zr E X R M Q k n pc L st0 S V :=
  z_cV as hw hd hk hc hn hst0 hcat hr1 hr2 hc1 hc2 hM (fun r S' V' ⟨x, e2, hf⟩ => by subst e2; exact h x S' V' hf)
theorem z_aVV {N : zM} {np d mc ms ci index : Nat} {r c : Int} (as : List zV) {st0 : List zV} {F : zS → zH → Prop} (hw : zcV M N np index ci) (hd : decode (zMb M) pc = .ok (.invokevirtual index, 3)) (hk : (S r).1 = c) (hc : c = 3 + (ci : Int)) (hn : as.length = np) (hst0 : st0 = as.reverse ++ zrv r :: st) (hcat : zcats st ≤ 8) (hr1 : d + 1 ≤ R.frames) (hr2 : 8 + (zMl N + 11) + 64 * d ≤ R.locals) (hc1 : k + mc ≤ R.cells) (hc2 : n + ms ≤ R.slots)
    (hM : SaV E d mc ms N (zrv r :: as) S V F) (h : ∀ S' V', F S' V' → Zr E X R M Q (k + mc) (n + ms) (pc + 3) L st S' V') : Zr E X R M Q k n pc L st0 S V :=
  z_cV as hw hd hk hc hn hst0 hcat hr1 hr2 hc1 hc2 hM (fun r S' V' ⟨e2, hf⟩ => by subst e2; exact h S' V' hf)
theorem z_cSI {N : zM} {np d index : Nat} (as : List zV) {st0 : List zV} {F : Int → zH → Prop} (hw : zcS M N np index) (hd : decode (zMb M) pc = .ok (.invokestatic index, 3)) (hn : as.length = np) (hst0 : st0 = as.reverse ++ st) (hcat : zcats st ≤ 8) (hr1 : d + 1 ≤ R.frames) (hr2 : 8 + (zMl N + 11) + 64 * d ≤ R.locals) (hc1 : k ≤ R.cells) (hc2 : n ≤ R.slots)
    (hM : SpI E d N as S V F) (h : ∀ x V', F x V' → Zr E X R M Q k n (pc + 3) L (ziv x :: st) S V') : Zr E X R M Q k n pc L st0 S V :=
  z_callS (mc := 0) (ms := 0) hd hw.1 hw.2.1 hw.2.2 hn hst0 hcat hr1 hr2 hc1 hc2 hM (fun r S' V' ⟨e, x, e2, _, hf⟩ => by subst e2; rw [e]; exact h x V' hf)
theorem z_cSJ {N : zM} {np d index : Nat} (as : List zV) {st0 : List zV} {F : Int → zH → Prop} (hw : zcS M N np index) (hd : decode (zMb M) pc = .ok (.invokestatic index, 3)) (hn : as.length = np) (hst0 : st0 = as.reverse ++ st) (hcat : zcats st ≤ 8) (hr1 : d + 1 ≤ R.frames) (hr2 : 8 + (zMl N + 11) + 64 * d ≤ R.locals) (hc1 : k ≤ R.cells) (hc2 : n ≤ R.slots)
    (hM : SpJ E d N as S V F) (h : ∀ x V', F x V' → Zr E X R M Q k n (pc + 3) L (zjv x :: st) S V') : Zr E X R M Q k n pc L st0 S V :=
  z_callS (mc := 0) (ms := 0) hd hw.1 hw.2.1 hw.2.2 hn hst0 hcat hr1 hr2 hc1 hc2 hM (fun r S' V' ⟨e, x, e2, _, hf⟩ => by subst e2; rw [e]; exact h x V' hf)
theorem z_cSV {N : zM} {np d index : Nat} (as : List zV) {st0 : List zV} {F : zH → Prop} (hw : zcS M N np index) (hd : decode (zMb M) pc = .ok (.invokestatic index, 3)) (hn : as.length = np) (hst0 : st0 = as.reverse ++ st) (hcat : zcats st ≤ 8) (hr1 : d + 1 ≤ R.frames) (hr2 : 8 + (zMl N + 11) + 64 * d ≤ R.locals) (hc1 : k ≤ R.cells) (hc2 : n ≤ R.slots)
    (hM : SpV E d N as S V F) (h : ∀ V', F V' → Zr E X R M Q k n (pc + 3) L st S V') : Zr E X R M Q k n pc L st0 S V :=
  z_callS (mc := 0) (ms := 0) hd hw.1 hw.2.1 hw.2.2 hn hst0 hcat hr1 hr2 hc1 hc2 hM (fun r S' V' ⟨e, e2, hf⟩ => by subst e2; rw [e]; exact h V' hf)
theorem z_aI {N : zM} {np d mc ms index : Nat} {r : Int} (as : List zV) {st0 : List zV} {F : zS → zH → Prop} (hw : zcI M N np index) (hd : decode (zMb M) pc = .ok (.invokespecial index, 3)) (hr : 0 < r) (hn : as.length = np) (hst0 : st0 = as.reverse ++ zrv r :: st) (hcat : zcats st ≤ 8) (hr1 : d + 1 ≤ R.frames) (hr2 : 8 + (zMl N + 11) + 64 * d ≤ R.locals) (hc1 : k + mc ≤ R.cells) (hc2 : n + ms ≤ R.slots)
    (hM : SaV E d mc ms N (zrv r :: as) S V F) (h : ∀ S' V', F S' V' → Zr E X R M Q (k + mc) (n + ms) (pc + 3) L st S' V') : Zr E X R M Q k n pc L st0 S V := by
  obtain ⟨w1, w2, w3, w4 | ⟨host, w4⟩, w5⟩ := hw
  · exact z_callI hd w1 w2 w3 w4 w5 hr hn hst0 hcat hr1 hr2 hc1 hc2 hM (fun r S' V' ⟨e2, hf⟩ => by subst e2; exact h S' V' hf)
  · exact z_callIN hd w1 w2 w3 w4 w5 hr hn hst0 hcat hr1 hr2 hc1 hc2 hM (fun r S' V' ⟨e2, hf⟩ => by subst e2; exact h S' V' hf)
/-- returns by the kind of answer -/
theorem z_retI {F : Int → zH → Prop} {x : Int} (hd : decode (zMb M) pc = .ok (.ireturn, 1)) (hr : zMr M = some .int) (h : F x V) : Zr E X R M (zQm E X (zpI S F) 0 0) 0 0 pc L [ziv x] S V := z_iret hd hr (Nat.le_refl 0) (Nat.le_refl 0) (fun hx => ⟨rfl, x, rfl, hx, h⟩)
theorem z_retZ {F : Int → zH → Prop} {x : Int} (hd : decode (zMb M) pc = .ok (.ireturn, 1)) (hr : zMr M = some .boolean) (hx : x = 0 ∨ x = 1) (h : F x V) : Zr E X R M (zQm E X (zpI S F) 0 0) 0 0 pc L [ziv x] S V := z_zret hd hr (Nat.le_refl 0) (Nat.le_refl 0) hx ⟨rfl, x, rfl, by unfold z32; omega, h⟩
theorem z_retJ {F : Int → zH → Prop} {x : Int} (hd : decode (zMb M) pc = .ok (.lreturn, 1)) (hr : zMr M = some .long) (h : F x V) : Zr E X R M (zQm E X (zpJ S F) 0 0) 0 0 pc L [zjv x] S V := z_lret hd hr (Nat.le_refl 0) (Nat.le_refl 0) (fun hx => ⟨rfl, x, rfl, hx, h⟩)
theorem z_retV {F : zH → Prop} (hd : decode (zMb M) pc = .ok (.return_, 1)) (hr : zMr M = none) (h : F V) : Zr E X R M (zQm E X (zpV S F) 0 0) 0 0 pc L [] S V := z_vret hd hr (Nat.le_refl 0) (Nat.le_refl 0) ⟨rfl, rfl, h⟩
theorem z_retaI {F : Int → zS → zH → Prop} {mc ms : Nat} {x : Int} (hd : decode (zMb M) pc = .ok (.ireturn, 1)) (hr : zMr M = some .int) (hk : k ≤ mc) (hn : n ≤ ms) (h : F x S V) : Zr E X R M (zQm E X (zaI F) mc ms) k n pc L [ziv x] S V := z_iret hd hr hk hn (fun hx => ⟨x, rfl, hx, h⟩)
theorem z_retaZ {F : Int → zS → zH → Prop} {mc ms : Nat} {x : Int} (hd : decode (zMb M) pc = .ok (.ireturn, 1)) (hr : zMr M = some .boolean) (hk : k ≤ mc) (hn : n ≤ ms) (hx : x = 0 ∨ x = 1) (h : F x S V) : Zr E X R M (zQm E X (zaI F) mc ms) k n pc L [ziv x] S V := z_zret hd hr hk hn hx ⟨x, rfl, by unfold z32; omega, h⟩
theorem z_retaJ {F : Int → zS → zH → Prop} {mc ms : Nat} {x : Int} (hd : decode (zMb M) pc = .ok (.lreturn, 1)) (hr : zMr M = some .long) (hk : k ≤ mc) (hn : n ≤ ms) (h : F x S V) : Zr E X R M (zQm E X (zaJ F) mc ms) k n pc L [zjv x] S V := z_lret hd hr hk hn (fun hx => ⟨x, rfl, hx, h⟩)
theorem z_retaR {F : Int → zS → zH → Prop} {mc ms : Nat} {x : Int} {rt : String} (hd : decode (zMb M) pc = .ok (.areturn, 1)) (hr : zMr M = some (.object rt)) (hk : k ≤ mc) (hn : n ≤ ms) (h : F x S V) : Zr E X R M (zQm E X (zaR F) mc ms) k n pc L [zrv x] S V := z_aret hd hr hk hn ⟨x, rfl, h⟩
theorem z_retaV {F : zS → zH → Prop} {mc ms : Nat} (hd : decode (zMb M) pc = .ok (.return_, 1)) (hr : zMr M = none) (hk : k ≤ mc) (hn : n ≤ ms) (h : F S V) : Zr E X R M (zQm E X (zaV F) mc ms) k n pc L [] S V := z_vret hd hr hk hn ⟨rfl, h⟩
end ZWRAP
