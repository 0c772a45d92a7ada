/-! THE Z KIT, part 9: what a write leaves alone; another text for what is on top -/
section ZFR
variable {E : zE} {X : zX} {R : Room} {M : zM} {Q : State → Prop} {k n pc : Nat} {L : List (Nat × zV)} {st : List zV} {S : zS} {V V1 : zH}
theorem zfr_k {r j x q i c c' : Int} (e : V1 = zput V r j x) (h1 : (S r).1 = c) (h2 : (S q).1 = c') (hc : c ≠ c') : V1 q i = V q i := by
  rw [e]
  refine zput_ne V j x i (fun z => hc ?_)
  rw [← h1, ← h2, z]
theorem zfr_j {r j x q i : Int} (e : V1 = zput V r j x) (h : j ≠ i) : V1 q i = V q i := by
  rw [e]; exact zput_nk V r x q (Ne.symm h)
theorem zfr_s {r j x : Int} (e : V1 = zput V r j x) : V1 r j = x := by rw [e]; exact zput_self V r j x
theorem zfr_c {s sp r dp m q i c c' : Int} (e : V1 = zcpy V s sp r dp m) (h1 : (S r).1 = c) (h2 : (S q).1 = c') (hc : c ≠ c') : V1 q i = V q i := by
  rw [e]
  refine zcpy_ne V s sp dp m i (fun z => hc ?_)
  rw [← h1, ← h2, z]
theorem z_topI {x y : Int} (e : x = y) (h : Zr E X R M Q k n pc L (ziv y :: st) S V) : Zr E X R M Q k n pc L (ziv x :: st) S V := e ▸ h
theorem z_topJ {x y : Int} (e : x = y) (h : Zr E X R M Q k n pc L (zjv y :: st) S V) : Zr E X R M Q k n pc L (zjv x :: st) S V := e ▸ h
theorem z_topR {x y : Int} (e : x = y) (h : Zr E X R M Q k n pc L (zrv y :: st) S V) : Zr E X R M Q k n pc L (zrv x :: st) S V := e ▸ h
theorem zSn_k {S1 : zS} {r q : Int} {c : Int} {kd : Int × Int} (e : S1 = zSn S r kd) (h : (S q).1 = c) (h0 : (S r).1 = 0) (hc : c ≠ 0) : (S1 q).1 = c := by
  rw [e, zSn_ne S kd (fun z => hc ?_)]
  · exact h
  · rw [← h, z, h0]
theorem zSn_r {S1 : zS} {r a b : Int} (e : S1 = zSn S r (a, b)) : (S1 r).1 = a := by rw [e, zSn_self]
end ZFR
