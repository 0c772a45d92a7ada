/-! THE Z KIT, part 9: what a write leaves alone; another text for what is on top -/
section ZFR
variable {E : zE} {X : zX} {R : Room} {M : zM} {Q : State → Prop} {k n pc : Nat} {L : List (Nat × zV)} {st : List zV} {S : zS} {V V1 : zH}
theorem zfr_k {r j x q i c c' : Int} (e : V1 = zput V r j x) (h1 : (S r).1 = c) (h2 : (S q).1 = c') (hc : c ≠ c') : V1 q i = V q i := by
  rw [e]
  refine zput_ne V j x i (fun z => hc ?_)
  rw [← h1, ← h2, z]
theorem zfr_j {r j x q i : Int} (e : V1 = zput V r j x) (h : j ≠ i) : V1 q i = V q i := by
  rw [e]; exact zput_nk V r x q (Ne.symm h)
theorem zfr_s {r j x : Int} (e : V1 = zput V r j x) : V1 r j = x := by rw [e]; exact zput_self V r j x
theorem zfr_c {s sp r dp m q i c c' : Int} (e : V1 = zcpy V s sp r dp m) (h1 : (S r).1 = c) (h2 : (S q).1 = c') (hc : c ≠ c') : V1 q i = V q i := by
  rw [e]
  refine zcpy_ne V s sp dp m i (fun z => hc ?_)
  rw [← h1, ← h2, z]
theorem z_topI {x y : Int} (e : x = y) (h : Zr E X R M Q k n pc L (ziv y :: st) S V) : Zr E X R M Q k n pc L (ziv x :: st) S V := e ▸ h
theorem z_topJ {x y : Int} (e : x = y) (h : Zr E X R M Q k n pc L (zjv y :: st) S V) : Zr E X R M Q k n pc L (zjv x :: st) S V := e ▸ h
theorem z_topR {x y : Int} (e : x = y) (h : Zr E X R M Q k n pc L (zrv y :: st) S V) : Zr E X R M Q k n pc L (zrv x :: st) S V := e ▸ h
theorem zSn_k {S1 : zS} {r q : Int} {c : Int} {kd : Int × Int} (e : S1 = zSn S r kd) (h : (S q).1 = c) (h0 : (S r).1 = 0) (hc : c ≠ 0) : (S1 q).1 = c := by
  rw [e, zSn_ne S kd (fun z => hc ?_)]
  · exact h
  · rw [← h, z, h0]
theorem zSn_r {S1 : zS} {r a b : Int} (e : S1 = zSn S r (a, b)) : (S1 r).1 = a := by rw [e, zSn_self]
/-- contracts of methods that change nothing: the heap behind them is the one ahead -/
def zpF (S : zS) (V : zH) (F : Int → Prop) : Option zV → zS → zH → Prop := fun r S' V' => S' = S ∧ V' = V ∧ ∃ x, r = some (ziv x) ∧ z32 x ∧ F x
def zpG (S : zS) (V : zH) (F : Int → Prop) : Option zV → zS → zH → Prop := fun r S' V' => S' = S ∧ V' = V ∧ ∃ x, r = some (zjv x) ∧ z64 x ∧ F x
def SpF (E : zE) (d : Nat) (N : zM) (as : List zV) (S : zS) (V : zH) (F : Int → Prop) : Prop := Sp E d 0 0 N as S V (zpF S V F)
def SpG (E : zE) (d : Nat) (N : zM) (as : List zV) (S : zS) (V : zH) (F : Int → Prop) : Prop := Sp E d 0 0 N as S V (zpG S V F)
theorem SpF.mono {d : Nat} {N : zM} {as : List zV} {F F' : Int → Prop} (h : SpF E d N as S V F) (hp : ∀ x, F x → F' x) : SpF E d N as S V F' :=
  Sp.mono h (fun _ _ _ ⟨e, e1, x, e2, hx, hf⟩ => ⟨e, e1, x, e2, hx, hp x hf⟩)
theorem SpG.mono {d : Nat} {N : zM} {as : List zV} {F F' : Int → Prop} (h : SpG E d N as S V F) (hp : ∀ x, F x → F' x) : SpG E d N as S V F' :=
  Sp.mono h (fun _ _ _ ⟨e, e1, x, e2, hx, hf⟩ => ⟨e, e1, x, e2, hx, hp x hf⟩)
theorem z_cVF {N : zM} {np d ci index : Nat} {r c : Int} (as : List zV) {st0 : List zV} {F : Int → Prop} (hw : zcV M N np index ci) (hd : decode (zMb M) pc = .ok (.invokevirtual index, 3)) (hk : (S r).1 = c) (hc : c = 3 + (ci : Int)) (hn : as.length = np) (hst0 : st0 = as.reverse ++ zrv r :: st) (hcat : zcats st ≤ 8) (hr1 : d + 1 ≤ R.frames) (hr2 : 8 + (zMl N + 11) + 64 * d ≤ R.locals) (hc1 : k ≤ R.cells) (hc2 : n ≤ R.slots)
    (hM : SpF E d N (zrv r :: as) S V F) (h : ∀ x, F x → Zr E X R M Q k n (pc + 3) L (ziv x :: st) S V) : Zr E X R M Q k n pc L st0 S V :=
  z_cV as hw hd hk hc hn hst0 hcat hr1 hr2 hc1 hc2 hM (fun r S' V' ⟨e, e1, x, e2, _, hf⟩ => by subst e2; rw [e, e1]; exact h x hf)
theorem z_cVG {N : zM} {np d ci index : Nat} {r c : Int} (as : List zV) {st0 : List zV} {F : Int → Prop} (hw : zcV M N np index ci) (hd : decode (zMb M) pc = .ok (.invokevirtual index, 3)) (hk : (S r).1 = c) (hc : c = 3 + (ci : Int)) (hn : as.length = np) (hst0 : st0 = as.reverse ++ zrv r :: st) (hcat : zcats st ≤ 8) (hr1 : d + 1 ≤ R.frames) (hr2 : 8 + (zMl N + 11) + 64 * d ≤ R.locals) (hc1 : k ≤ R.cells) (hc2 : n ≤ R.slots)
    (hM : SpG E d N (zrv r :: as) S V F) (h : ∀ x, F x → Zr E X R M Q k n (pc + 3) L (zjv x :: st) S V) : Zr E X R M Q k n pc L st0 S V :=
  z_cV as hw hd hk hc hn hst0 hcat hr1 hr2 hc1 hc2 hM (fun r S' V' ⟨e, e1, x, e2, _, hf⟩ => by subst e2; rw [e, e1]; exact h x hf)
theorem z_cSF {N : zM} {np d index : Nat} (as : List zV) {st0 : List zV} {F : Int → Prop} (hw : zcS M N np index) (hd : decode (zMb M) pc = .ok (.invokestatic index, 3)) (hn : as.length = np) (hst0 : st0 = as.reverse ++ st) (hcat : zcats st ≤ 8) (hr1 : d + 1 ≤ R.frames) (hr2 : 8 + (zMl N + 11) + 64 * d ≤ R.locals) (hc1 : k ≤ R.cells) (hc2 : n ≤ R.slots)
    (hM : SpF E d N as S V F) (h : ∀ x, F x → Zr E X R M Q k n (pc + 3) L (ziv x :: st) S V) : Zr E X R M Q k n pc L st0 S V :=
  z_callS (mc := 0) (ms := 0) hd hw.1 hw.2.1 hw.2.2 hn hst0 hcat hr1 hr2 hc1 hc2 hM (fun r S' V' ⟨e, e1, x, e2, _, hf⟩ => by subst e2; rw [e, e1]; exact h x hf)
theorem z_cSG {N : zM} {np d index : Nat} (as : List zV) {st0 : List zV} {F : Int → Prop} (hw : zcS M N np index) (hd : decode (zMb M) pc = .ok (.invokestatic index, 3)) (hn : as.length = np) (hst0 : st0 = as.reverse ++ st) (hcat : zcats st ≤ 8) (hr1 : d + 1 ≤ R.frames) (hr2 : 8 + (zMl N + 11) + 64 * d ≤ R.locals) (hc1 : k ≤ R.cells) (hc2 : n ≤ R.slots)
    (hM : SpG E d N as S V F) (h : ∀ x, F x → Zr E X R M Q k n (pc + 3) L (zjv x :: st) S V) : Zr E X R M Q k n pc L st0 S V :=
  z_callS (mc := 0) (ms := 0) hd hw.1 hw.2.1 hw.2.2 hn hst0 hcat hr1 hr2 hc1 hc2 hM (fun r S' V' ⟨e, e1, x, e2, _, hf⟩ => by subst e2; rw [e, e1]; exact h x hf)
theorem z_retFI {F : Int → Prop} {x : Int} (hd : decode (zMb M) pc = .ok (.ireturn, 1)) (hr : zMr M = some .int) (h : F x) : Zr E X R M (zQm E X (zpF S V F) 0 0) 0 0 pc L [ziv x] S V := z_iret hd hr (Nat.le_refl 0) (Nat.le_refl 0) (fun hx => ⟨rfl, rfl, x, rfl, hx, h⟩)
theorem z_retFZ {F : Int → Prop} {x : Int} (hd : decode (zMb M) pc = .ok (.ireturn, 1)) (hr : zMr M = some .boolean) (hx : x = 0 ∨ x = 1) (h : F x) : Zr E X R M (zQm E X (zpF S V F) 0 0) 0 0 pc L [ziv x] S V := z_zret hd hr (Nat.le_refl 0) (Nat.le_refl 0) hx ⟨rfl, rfl, x, rfl, by unfold z32; omega, h⟩
theorem z_retFJ {F : Int → Prop} {x : Int} (hd : decode (zMb M) pc = .ok (.lreturn, 1)) (hr : zMr M = some .long) (h : F x) : Zr E X R M (zQm E X (zpG S V F) 0 0) 0 0 pc L [zjv x] S V := z_lret hd hr (Nat.le_refl 0) (Nat.le_refl 0) (fun hx => ⟨rfl, rfl, x, rfl, hx, h⟩)
end ZFR
