/-! The law. Written by wip/gen/law.py. -/
abbrev M_La_law : xM := (x, code, 7, some .boolean, [])
def x_Sc (s0 : State) (sp : Nat → Nat) (L : Nat) (xs : Nat → Int32) : Prop := va_X (sp 1500) L xs s0 s0.heap ∧ sp 1500 < s0.heap.size
def lw_Q (_ : Array Value) (s : State) (o : Outcome) (t : State) : Prop := o = .returned (some (.int 1)) ∧ Framed s o t [] 601024 7293034
def lw_Z (below : List Frame) (a : Array Value) (s : State) : State → Prop := fun t => ∃ o, t.status = .running ∧ Ended t below o ∧ lw_Q a s o t
def x_QL (s0 : State) : List Frame → Array Value → State → (Nat → Nat) → State → Prop := fun below args s _ t => s.heap.size = s0.heap.size → lw_Z below args s t
section LR
variable {l : Launch} {s0 : State} {a0 : Array Value} {D : va_G} {cA : Nat → ClassId} {sp : Nat → Nat} {QQ : List Frame → Array Value → State → (Nat → Nat) → State → Prop} {R : Room} {M : xM} {bc bs : Nat} {pc : Nat} {ls : List (Option Value)} {st : List Value} {σ : xS}
theorem z_sald {L : Nat} {xs : Nat → Int32} (Z : x_Sc s0 sp L xs) {i : Int32} (hd : decode M.2.1 pc = .ok (.iaload, 1)) (hin : ¬ (i < 0 ∨ L ≤ i.toNatClampNeg)) (pc' : Nat) (hpc : pc + 1 = pc') (kk : zW l s0 D cA sp QQ R M bc bs pc' ls (.int (xs i.toNatClampNeg) :: st) σ) : zW l s0 D cA sp QQ R M bc bs pc ls (.int i :: .ref 1500 :: st) σ := by
  subst hpc
  intro p e s m args below meth c ad mls H locs cells slots hM hR hS hl hc hs
  have e5 : ad 1500 = sp 1500 := hR.2.2.2.2.2.2 1500 (by decide)
  show W p l e R s m args below meth c H locs cells slots (QQ below args s ad) (F0 m pc mls (.int i :: .ref (ad 1500) :: st.map (x_tr ad)))
  rw [e5]
  exact va_sld (A := fun q => s0.heap.size ≤ q) hM.1.1 hM.1.2.1 ((va_X.moved hM.2.1.alike Z.1).kept (hM.2.2.2 _ Z.2)) (Nat.lt_of_lt_of_le Z.2 hM.2.2.1) (Nat.not_le.mpr Z.2) hS hin hd (kk p e s m args below meth c ad mls H locs cells slots hM hR hS hl hc hs)
theorem z_slen0 {L : Nat} {xs : Nat → Int32} (Z : x_Sc s0 sp L xs) (hd : decode M.2.1 pc = .ok (.arraylength, 1)) (pc' : Nat) (hpc : pc + 1 = pc') (kk : zW l s0 D cA sp QQ R M bc bs pc' ls (.int (Int32.ofNat L) :: st) σ) : zW l s0 D cA sp QQ R M bc bs pc ls (.ref 1500 :: st) σ := by
  subst hpc
  intro p e s m args below meth c ad mls H locs cells slots hM hR hS hl hc hs
  have e5 : ad 1500 = sp 1500 := hR.2.2.2.2.2.2 1500 (by decide)
  show W p l e R s m args below meth c H locs cells slots (QQ below args s ad) (F0 m pc mls (.ref (ad 1500) :: st.map (x_tr ad)))
  rw [e5]
  exact va_slen (A := fun q => s0.heap.size ≤ q) hM.1.1 hM.1.2.1 ((va_X.moved hM.2.1.alike Z.1).kept (hM.2.2.2 _ Z.2)) (Nat.lt_of_lt_of_le Z.2 hM.2.2.1) (Nat.not_le.mpr Z.2) hS hd (kk p e s m args below meth c ad mls H locs cells slots hM hR hS hl hc hs)
theorem x_less {cl : List vw_C} {fk : Nat → Nat → Nat} {gr : Bool} {sh : xH} {rf : xR} {bc' bs' : Nat} (h1 : bc' ≤ bc) (h2 : bs' ≤ bs) (k : x_W cl fk l s0 D cA sp QQ R gr M bc' bs' sh rf pc ls st σ) : x_W cl fk l s0 D cA sp QQ R gr M bc bs sh rf pc ls st σ := by
  intro p e s m args below meth c ad mls H locs cells slots hM hR hS hl hc hs
  exact k p e s m args below meth c ad mls H locs cells slots hM hR hS hl (by omega) (by omega)
theorem x_gro {cl : List vw_C} {fk : Nat → Nat → Nat} {sh : xH} {rf : xR} (k : x_W cl fk l s0 D cA sp QQ R false M bc bs sh rf pc ls st σ) : x_W cl fk l s0 D cA sp QQ R true M bc bs sh rf pc ls st σ := by
  intro p e s m args below meth c ad mls H locs cells slots hM hR hS hl hc hs
  obtain ⟨r1, r2, r3, r4, r5, r6, r7⟩ := hR
  exact k p e s m args below meth c ad mls H locs cells slots hM ⟨r1, r2, r3, r4, r5, fun h => (by cases h), r7⟩ hS hl hc hs
theorem z_callHd (E : x_En CL l s0 a0 D cA sp) {n np d : Nat} {N : xM} (as rest : List Value) {v : Option Value} {σ1 : xS} (hd : decode M.2.1 pc = .ok (.invokestatic n, 3)) (K : x_KC M.1.cls n N np) (F : x_fit d N R)
    (hn : as.length = np) (hst : as.reverse ++ rest = st) (hw : (rest.map fun v => v.category).sum ≤ 8) (hls : x_okl ls = true) (hrs : rest.all x_okb = true)
    (C : x_CH l s0 D cA sp d N as σ v σ1) (pc' : Nat) (hpc : pc + 3 = pc') (st' : List Value) (hs : v.toList ++ rest = st') (kk : zW l s0 D cA sp (x_QL s0) R M bc bs pc' ls st' σ1) : zW l s0 D cA sp (x_QL s0) R M (bc + 1) (bs + 6) pc ls st σ := by
  subst hs
  exact x_callHd E (fun _ _ _ _ _ _ _ h => h) hd K F hn hst hw hls hrs C pc' hpc kk
/-- the law's end, with 1 on the stack -/
theorem x_lawret {gr : Bool} {sh : xH} {rf : xR} (hd : decode code pc = .ok (.ireturn, 1)) : x_W CL FK l s0 D cA sp (x_QL s0) room_1 gr M_La_law bc bs sh rf pc ls [.int 1] σ := by
  intro p e s m args below meth c ad mls H locs cells slots hM hR hS hl hc hs T hT X
  by_cases hsz : s.heap.size = s0.heap.size
  · have X1 : Stand p l e room_1 s m args below meth c T [] 601024 7293034 :=
      ⟨X.admits, X.cas, X.clock, X.frames, X.room, X.hears, X.method, X.code, X.here, X.tail, X.warmed, X.limits, X.bytes, X.same.weaken (fun y hy hlt => by
        have h9 : s0.heap.size ≤ y.base := hS.2.2 y hy
        exact absurd (Nat.lt_of_lt_of_le hlt (Nat.le_of_eq hsz)) (Nat.not_lt.mpr h9)) (by have : room_1.cells = 601024 := rfl; omega) (by have : room_1.slots = 7293034 := rfl; omega)⟩
    obtain ⟨fs, hret, hrun, hended, hW, hframe⟩ := X1.leave (v := some (.int 1)) (hlocks := hM.1.2.2.2.2.2.1) (fun h => by rw [hM.1.2.2.2.2.1] at h; cases h)
    have hmeth' : T.vm.method? m = some meth := X1.method'
    refine ⟨T.setFrames fs, ?_, fun _ => ⟨.returned (some (.int 1)), hrun, hended, rfl, ⟨_, rfl⟩, hW, hframe⟩⟩
    have hx := hM.1.1
    have hb : c.code = code := hM.1.2.1
    have hr : meth.sig.returnType = some .boolean := hM.1.2.2.2.2.1
    change Steps p.tables e below (T.setTop (F0 m pc mls [.int 1])) _
    jvm_step X1.here [X1.here.top, hx, hb, hd, hmeth', hr, narrow_b1]
    (try refine ⟨rfl, ?_⟩); (try refine ⟨rfl, ?_⟩)
    first | (intro acts; rw [hret _ acts rfl rfl rfl]) | rw [hret _ _ rfl rfl rfl]
    exact Steps.refl _
  · exact ⟨_, Steps.refl _, fun h => absurd h hsz⟩
end LR
