/-! Ends, entries, calls, new cells. Written by wip/gen/calls.py. -/
/-- the room of a method with d calls below it -/
def x_rm (d mc ms : Nat) : Room := { frames := d + 8, cells := mc, slots := ms, locals := 64 * d + 400 }
theorem x_rm_locals (d mc ms : Nat) : (x_rm d mc ms).locals = 64 * d + 400 := rfl
def x_Qc (cl : List vw_C) (fk : Nat → Nat → Nat) (s0 : State) (D : va_G) (cA : Nat → ClassId) (sp : Nat → Nat) (gr : Bool) (ad : Nat → Nat) (v : Option Value) (sh : xH) (rf : xR) (σ : xS) : Array Value → State → Outcome → State → Prop := fun _ st o t =>
  o = .returned (v.map (x_tr ad)) ∧ x_Rl cl fk s0 D cA sp gr ad sh rf σ t.heap ∧ s0.WarmedH t.vm ∧ st.heap.size ≤ t.heap.size
def x_QQ (cl : List vw_C) (fk : Nat → Nat → Nat) (s0 : State) (D : va_G) (cA : Nat → ClassId) (sp : Nat → Nat) (gr : Bool) (mc ms : Nat) (v : Option Value) (sh : xH) (rf : xR) (σ : xS) : List Frame → Array Value → State → (Nat → Nat) → State → Prop := fun below args s ad =>
  MQ below (x_Qc cl fk s0 D cA sp gr ad v sh rf σ) args s mc ms (fun q => s0.heap.size ≤ q)
def x_Pc (cl : List vw_C) (fk : Nat → Nat → Nat) (s0 : State) (D : va_G) (cA : Nat → ClassId) (sp : Nat → Nat) (gr : Bool) (ad : Nat → Nat) (as : List Value) (sh : xH) (rf : xR) (σ : xS) : Array Value → State → Prop := fun v U =>
  v = (as.map (x_tr ad)).toArray ∧ s0.WarmedH U.vm ∧ x_Rl cl fk s0 D cA sp gr ad sh rf σ U.heap
/-- a method's contract: from these cells, with these arguments, it answers v and leaves those cells -/
def x_C (cl : List vw_C) (fk : Nat → Nat → Nat) (l : Launch) (s0 : State) (D : va_G) (cA : Nat → ClassId) (sp : Nat → Nat) (d mc ms : Nat) (gr : Bool) (M : xM) (as : List Value) (sh : xH) (rf : xR) (σ : xS) (v : Option Value) (sh1 : xH) (rf1 : xR) (σ1 : xS) : Prop :=
  ∀ ad : Nat → Nat, Met l M.1 [Cond.code M.1 M.2.1 M.2.2.1 M.2.2.2.1] (x_rm d mc ms) (x_Pc cl fk s0 D cA sp gr ad as sh rf σ) (x_Qc cl fk s0 D cA sp gr ad v sh1 rf1 σ1) mc ms (fun q => s0.heap.size ≤ q)
/-- the locals at the entry -/
def x_as : List Value → List (Option Value)
  | [] => []
  | v :: vs => if v.category = 2 then some v :: none :: x_as vs else some v :: x_as vs
def x_args (n : Nat) (as : List Value) : List (Option Value) := x_as as ++ List.replicate (n - (x_as as).length) none
theorem x_as_len (ad : Nat → Nat) (as : List Value) : (x_as as).length = (lg_sl (as.map (x_tr ad))).length := by
  induction as with
  | nil => rfl
  | cons v vs ih =>
    have e : lg_sl ((v :: vs).map (x_tr ad)) = (if (x_tr ad v).category = 2 then [.val (x_tr ad v), .second] else [.val (x_tr ad v)]) ++ lg_sl (vs.map (x_tr ad)) := by simp [lg_sl]
    rw [e, List.length_append, ← ih, x_tr_cat]
    have e2 : x_as (v :: vs) = if v.category = 2 then some v :: none :: x_as vs else some v :: x_as vs := rfl
    rw [e2]
    by_cases h : v.category = 2
    · rw [if_pos h, if_pos h]; simp only [List.length_cons, List.length_nil]; omega
    · rw [if_neg h, if_neg h]; simp only [List.length_cons, List.length_nil]; omega
theorem x_as_at (ad : Nat → Nat) (as : List Value) : ∀ (k i : Nat) (v : Value), (x_as as)[i]? = some (some v) → (k + i, x_tr ad v) ∈ lv_args k (as.map (x_tr ad)) := by
  induction as with
  | nil => intro k i v h; simp [x_as] at h
  | cons w vs ih =>
    intro k i v h
    rw [List.map_cons]
    unfold lv_args
    rw [x_tr_cat]
    unfold x_as at h
    by_cases hc : w.category = 2
    · rw [if_pos hc] at h ⊢
      match i, h with
      | 0, h => cases h; exact List.mem_cons_self
      | 1, h => simp at h
      | i + 2, h =>
        refine List.mem_cons_of_mem _ ?_
        have := ih (k + 2) i v (by simpa using h)
        rw [show k + 2 + i = k + (i + 2) by omega] at this
        exact this
    · rw [if_neg hc] at h ⊢
      match i, h with
      | 0, h => cases h; exact List.mem_cons_self
      | i + 1, h =>
        refine List.mem_cons_of_mem _ ?_
        have := ih (k + 1) i v (by simpa using h)
        rw [show k + 1 + i = k + (i + 1) by omega] at this
        exact this
theorem x_lo_entry (ad : Nat → Nat) (as : List Value) {n : Nat} (h : (x_as as).length ≤ n) : x_lo ad n (x_args n as) ((lg_sl (as.map (x_tr ad)) ++ List.replicate (n - (lg_sl (as.map (x_tr ad))).length) Slot.unset).toArray) := by
  have hl := lv_entry (as.map (x_tr ad)) (n := n) (by rw [← x_as_len]; exact h)
  refine ⟨hl.1, hl.2.1, by unfold x_args; simp; omega, fun i v hi => ?_⟩
  unfold x_args at hi
  by_cases hlt : i < (x_as as).length
  · rw [List.getElem?_append_left hlt] at hi
    have := x_as_at ad as 0 i v hi
    rw [Nat.zero_add] at this
    exact hl.2.2 _ this
  · rw [List.getElem?_append_right (by omega), List.getElem?_replicate] at hi
    split at hi <;> simp at hi
theorem x_toList (ad : Nat → Nat) (v : Option Value) (rest : List Value) : (v.map (x_tr ad)).toList ++ rest.map (x_tr ad) = (v.toList ++ rest).map (x_tr ad) := by cases v <;> simp
section XK
variable {cl : List vw_C} {fk : Nat → Nat → Nat} {l : Launch} {s0 : State} {a0 : Array Value} {D : va_G} {cA : Nat → ClassId} {sp : Nat → Nat} {QQ : List Frame → Array Value → State → (Nat → Nat) → State → Prop} {R : Room} {gr : Bool} {M : xM} {bc bs : Nat} {sh : xH} {rf : xR} {pc : Nat} {ls : List (Option Value)} {st : List Value} {σ : xS}
/-- ends -/
theorem x_iret {mc ms : Nat} {v : Int32} (hd : decode M.2.1 pc = .ok (.ireturn, 1)) (hr : M.2.2.2.1 = some .int) (h1 : R.cells = mc) (h2 : R.slots = ms) :
    x_W cl fk l s0 D cA sp (x_QQ cl fk s0 D cA sp gr mc ms (some (.int v)) sh rf σ) R gr M bc bs sh rf pc ls [.int v] σ := by
  intro p e s m args below meth c ad mls H locs cells slots hM hR hS hl hc hs
  refine W.widen (k := mc) (n := ms) (by omega) (by omega) ?_
  exact W.iret (v := v) hM.1.1 hM.1.2.1 (hM.1.2.2.2.2.1.trans hr) (fun t ht hW => ⟨rfl, by rw [ht]; exact hR, hM.2.1.trans hW, by rw [ht]; exact hS.1⟩) hS.2.2 hd hM.1.2.2.2.2.2.1
theorem x_zret {mc ms : Nat} {v : Int32} (hv : v = 0 ∨ v = 1) (hd : decode M.2.1 pc = .ok (.ireturn, 1)) (hr : M.2.2.2.1 = some .boolean) (h1 : R.cells = mc) (h2 : R.slots = ms) :
    x_W cl fk l s0 D cA sp (x_QQ cl fk s0 D cA sp gr mc ms (some (.int v)) sh rf σ) R gr M bc bs sh rf pc ls [.int v] σ := by
  intro p e s m args below meth c ad mls H locs cells slots hM hR hS hl hc hs
  refine W.widen (k := mc) (n := ms) (by omega) (by omega) ?_
  exact W.zret (v := v) (ty := .boolean) hM.1.1 hM.1.2.1 (hM.1.2.2.2.2.1.trans hr) (by rcases hv with rfl | rfl <;> rfl) (fun t ht hW => ⟨rfl, by rw [ht]; exact hR, hM.2.1.trans hW, by rw [ht]; exact hS.1⟩) hS.2.2 hd hM.1.2.2.2.2.2.1
theorem x_lret {mc ms : Nat} {v : Int64} (hd : decode M.2.1 pc = .ok (.lreturn, 1)) (hr : M.2.2.2.1 = some .long) (h1 : R.cells = mc) (h2 : R.slots = ms) :
    x_W cl fk l s0 D cA sp (x_QQ cl fk s0 D cA sp gr mc ms (some (.long v)) sh rf σ) R gr M bc bs sh rf pc ls [.long v] σ := by
  intro p e s m args below meth c ad mls H locs cells slots hM hR hS hl hc hs
  refine W.widen (k := mc) (n := ms) (by omega) (by omega) ?_
  exact W.lret (v := v) hM.1.1 hM.1.2.1 (hM.1.2.2.2.2.1.trans hr) (fun t ht hW => ⟨rfl, by rw [ht]; exact hR, hM.2.1.trans hW, by rw [ht]; exact hS.1⟩) hS.2.2 hd hM.1.2.2.2.2.2.1
theorem x_aret {mc ms q : Nat} {rt : FieldType} (hrt : (∃ n, rt = .object n) ∨ ∃ t, rt = .array t) (hd : decode M.2.1 pc = .ok (.areturn, 1)) (hr : M.2.2.2.1 = some rt) (h1 : R.cells = mc) (h2 : R.slots = ms) :
    x_W cl fk l s0 D cA sp (x_QQ cl fk s0 D cA sp gr mc ms (some (.ref q)) sh rf σ) R gr M bc bs sh rf pc ls [.ref q] σ := by
  intro p e s m args below meth c ad mls H locs cells slots hM hR hS hl hc hs
  refine W.widen (k := mc) (n := ms) (by omega) (by omega) ?_
  exact W.aret (v := .ref (ad q)) hM.1.1 hM.1.2.1 (hM.1.2.2.2.2.1.trans hr) hrt (Or.inr ⟨_, rfl⟩) (fun t ht hW => ⟨rfl, by rw [ht]; exact hR, hM.2.1.trans hW, by rw [ht]; exact hS.1⟩) hS.2.2 hd hM.1.2.2.2.2.2.1
theorem x_vret {mc ms : Nat} (hd : decode M.2.1 pc = .ok (.return_, 1)) (hr : M.2.2.2.1 = none) (h1 : R.cells = mc) (h2 : R.slots = ms) :
    x_W cl fk l s0 D cA sp (x_QQ cl fk s0 D cA sp gr mc ms none sh rf σ) R gr M bc bs sh rf pc ls [] σ := by
  intro p e s m args below meth c ad mls H locs cells slots hM hR hS hl hc hs
  refine W.widen (k := mc) (n := ms) (by omega) (by omega) ?_
  exact W.vret hM.1.1 hM.1.2.1 (hM.1.2.2.2.2.1.trans hr) (fun t ht hW => ⟨rfl, by rw [ht]; exact hR, hM.2.1.trans hW, by rw [ht]; exact hS.1⟩) hS.2.2 hd hM.1.2.2.2.2.2.1
/-- entry -/
theorem x_enter {d mc ms : Nat} {as : List Value} {v : Option Value} {sh1 : xH} {rf1 : xR} {σ1 : xS} (ls0 : List (Option Value)) (hls : x_args M.2.2.1 as = ls0) (hn : (x_as as).length ≤ M.2.2.1) (hy : plainName M.1.cls = true) (hh : M.2.2.2.2 = [])
    (body : x_W cl fk l s0 D cA sp (x_QQ cl fk s0 D cA sp gr mc ms v sh1 rf1 σ1) (x_rm d mc ms) gr M mc ms sh rf 0 ls0 [] σ) : x_C cl fk l s0 D cA sp d mc ms gr M as sh rf σ v sh1 rf1 σ1 := by
  subst hls
  intro ad
  refine Met.ofW (cc := M.2.1) (maxL := M.2.2.1) (ret := M.2.2.2.1) hy rfl ?_
  intro p e s m args below meth c s₁ B hml hv
  obtain ⟨rfl, hW, hR⟩ := hv
  have htab : c.exceptionTable.toList = tableOf M.2.2.2.2 := by
    rw [hh]
    obtain ⟨meth', c', g1, g2, -, -, -, -, h7, -⟩ := Cond.code_spec B.named (atoms_spec (ws := [Cond.code M.1 M.2.1 M.2.2.1 M.2.2.2.1]) B.pre _ List.mem_cons_self)
    cases Option.some.inj (g1.symm.trans B.method)
    cases Option.some.inj (g2.symm.trans (Stand.of_body B).code)
    rw [Array.isEmpty_iff.mp h7]
    rfl
  rw [lg_entry_eq]
  exact body p e s m _ below meth c ad _ s.heap [] 0 0 ⟨⟨B.exec, B.bytes, hml, findClass_of_methodNamed B.named, B.returns, B.notSynchronized, (name_of_methodNamed B.named B.method).1, htab⟩, hW, hR.2.2.2.1, hR.2.2.2.2.1⟩ hR va_S.rf (x_lo_entry ad as hn) (by show 0 + mc ≤ mc; omega) (by show 0 + ms ≤ ms; omega)
end XK
/-- the words of a call of N out of the class 'own', by its entry n; np parameters -/
def x_K (own : String) (n : Nat) (N : xM) (np : Nat) : Prop :=
  Cond.methodLink own n N.1 ∈ lw_tbl ∧ Cond.code N.1 N.2.1 N.2.2.1 N.2.2.2.1 ∈ lw_tbl ∧ Cond.initialized N.1.cls ∈ lw_tbl ∧ (N.1.cls ≠ "java/lang/invoke/MethodHandle" ∧ N.1.cls ≠ "java/lang/invoke/VarHandle") ∧ (parseMethodDescriptor N.1.desc).map (fun d => d.parameters.length) = some np
def x_KV (own : String) (n : Nat) (N : xM) (np : Nat) : Prop := x_K own n N np ∧ Cond.instanceMethod N.1 ∈ lw_tbl ∧ Cond.selects N.1.cls N.1 N.1 ∈ lw_tbl
def x_KS (own : String) (n : Nat) (N : xM) (np : Nat) : Prop := x_K own n N np ∧ Cond.static N.1 ∈ lw_tbl
def x_KI (own : String) (n : Nat) (N : xM) (np : Nat) : Prop := x_K own n N np ∧ Cond.instanceMethod N.1 ∈ lw_tbl ∧ N.1.name = "<init>"
/-- .. of a nest mate's constructor -/
def x_KN (own : String) (n : Nat) (N : xM) (np : Nat) (host : String) : Prop :=
  (Cond.methodLinkNest own n N.1 host ∈ lw_tbl ∧ Cond.code N.1 N.2.1 N.2.2.1 N.2.2.2.1 ∈ lw_tbl ∧ Cond.initialized N.1.cls ∈ lw_tbl ∧ (N.1.cls ≠ "java/lang/invoke/MethodHandle" ∧ N.1.cls ≠ "java/lang/invoke/VarHandle") ∧ (parseMethodDescriptor N.1.desc).map (fun d => d.parameters.length) = some np) ∧ Cond.instanceMethod N.1 ∈ lw_tbl ∧ N.1.name = "<init>"
/-- the callee's room in the caller's -/
def x_fit (d : Nat) (N : xM) (R : Room) : Prop := d + 9 ≤ R.frames ∧ N.2.2.1 + 64 * d + 419 ≤ R.locals
set_option maxRecDepth 20000 in
theorem x_fit.lo {d mc ms : Nat} {N : xM} {R : Room} (F : x_fit d N R) : 8 + (N.2.2.1 + 11) + (x_rm d mc ms).locals ≤ R.locals := by
  obtain ⟨-, h⟩ := F
  rw [x_rm_locals]
  omega
theorem x_blind {cl : List vw_C} {fk : Nat → Nat → Nat} {s0 : State} {D : va_G} {cA : Nat → ClassId} {sp : Nat → Nat} {gr : Bool} {ad : Nat → Nat} {as : List Value} {sh : xH} {rf : xR} {σ : xS} : FrameBlind (x_Pc cl fk s0 D cA sp gr ad as sh rf σ) := fun _ _ _ _ h => ⟨h.1, h.2.1, h.2.2⟩
theorem x_callB {cl : List vw_C} {l : Launch} {s0 : State} {a0 : Array Value} {D : va_G} {cA : Nat → ClassId} {sp : Nat → Nat} (E : x_En cl l s0 a0 D cA sp) {s : State} (hW : s0.WarmedH s.vm) {own : String} {n np d mc ms : Nat} {N : xM} {R : Room} (K : x_K own n N np) (F : x_fit d N R) (args : Array Value) :
    CallB R s args own n N.1 N.2.1 N.2.2.1 N.2.2.2.1 [Cond.code N.1 N.2.1 N.2.2.1 N.2.2.2.1] (x_rm d mc ms) mc ms np := by
  obtain ⟨k1, k2, k3, k4, k5⟩ := K
  refine ⟨rfl, rfl, by show d + 8 + 1 ≤ _; exact F.1, F.lo, fun w hw a' U hU => ?_, List.mem_cons_self, x_word E hW k2 rfl args, x_word E hW k3 rfl args, k4, fun sig h => ?_, x_word E hW k1 rfl args⟩
  · rw [List.mem_singleton.mp hw]
    exact x_word E (hW.trans hU) k2 rfl a'
  · rw [h] at k5
    exact (Option.some.inj k5).symm
section XL
variable {cl : List vw_C} {fk : Nat → Nat → Nat} {l : Launch} {s0 : State} {a0 : Array Value} {D : va_G} {cA : Nat → ClassId} {sp : Nat → Nat} {QQ : List Frame → Array Value → State → (Nat → Nat) → State → Prop} {R : Room} {gr : Bool} {M : xM} {bc bs : Nat} {sh : xH} {rf : xR} {pc : Nat} {ls : List (Option Value)} {st : List Value} {σ : xS}
/-- behind a call -/
theorem x_back {p : Program} {e : Env} {s : State} {m : MethodId} {args : Array Value} {below : List Frame} {meth : Method} {c : Code} {ad : Nat → Nat} {mls : Array Slot} {H : Heap} {locs : List Loc} {cells slots mc ms : Nat} {a : Array Value} {st0 rest : List Value} {v : Option Value} {sh1 : xH} {rf1 : xR} {σ1 : xS}
    (hr : va_Run p l e R s m args below meth c H locs cells slots mc ms (F0 m pc mls st0) (rest.map (x_tr ad)) (x_Qc cl fk s0 D cA sp gr ad v sh1 rf1 σ1 a) (fun q => s0.heap.size ≤ q))
    (hM : x_Mx M s0 p m meth c s) (hS : va_S (fun q => s0.heap.size ≤ q) s.heap H locs) (hl : x_lo ad M.2.2.1 ls mls) (hc : cells + (bc + mc) ≤ R.cells) (hs : slots + (bs + ms) ≤ R.slots)
    (kk : x_W cl fk l s0 D cA sp QQ R gr M bc bs sh1 rf1 (pc + 3) ls (v.toList ++ rest) σ1) : W p l e R s m args below meth c H locs cells slots (QQ below args s ad) (F0 m pc mls st0) := by
  intro T hT X
  obtain ⟨v', st₀, t, T', L, h0, X', hL, e1, e2, ⟨ho, hR1, hW1, hz⟩, stp⟩ := hr T hT X
  have hv : v' = v.map (x_tr ad) := Outcome.returned.inj ho
  subst hv
  rw [x_toList] at stp
  rw [h0] at hz
  have hsz : s.heap.size ≤ T'.heap.size := Nat.le_trans hS.1 (by rw [e1]; exact hz)
  obtain ⟨t2, a1, b1⟩ := kk p e s m args below meth c ad mls T'.heap (locs ++ L) (cells + mc) (slots + ms) hM (by rw [e1]; exact hR1)
    ⟨hsz, fun q g1 g2 => by
      have g3 : q < s0.heap.size := Nat.lt_of_not_le g2
      rw [e1, hR1.2.2.2.2.1 q g3, hM.2.2.2 q g3], fun q hq => (List.mem_append.mp hq).elim (hS.2.2 q) (hL q)⟩ hl (by omega) (by omega) T' rfl X'
  exact ⟨t2, stp t2 a1, b1⟩
theorem x_callV (E : x_En cl l s0 a0 D cA sp) {n np d mc ms q ci u : Nat} {N : xM} {as rest : List Value} {v : Option Value} {sh1 : xH} {rf1 : xR} {σ1 : xS} {T : u_T} {nf : Nat} (hd : decode M.2.1 pc = .ok (.invokevirtual n, 3)) (K : x_KV M.1.cls n N np) (F : x_fit d N R)
    (hp : sh[q]? = some (ci, u)) (h50 : ci < 50) (hcl : cl[ci]? = some (N.1.cls, T, nf)) (hn : as.length = np) (hst : as.reverse ++ .ref q :: rest = st) (hw : (rest.map fun v => v.category).sum ≤ 8)
    (C : x_C cl fk l s0 D cA sp d mc ms gr N (.ref q :: as) sh rf σ v sh1 rf1 σ1) (pc' : Nat) (hpc : pc + 3 = pc') (kk : x_W cl fk l s0 D cA sp QQ R gr M bc bs sh1 rf1 pc' ls (v.toList ++ rest) σ1) : x_W cl fk l s0 D cA sp QQ R gr M (bc + mc) (bs + ms) sh rf pc ls st σ := by
  subst hpc
  intro p e s m args below meth c ad mls H locs cells slots hM hR hS hl hc hs
  subst hst
  have hcell := hR.1 q (ci, u) hp
  unfold x_cell at hcell
  rw [if_pos (show (ci, u).1 < 50 from h50)] at hcell
  obtain ⟨r, g1, cell, q1, q2, q3, q4⟩ := hcell
  obtain ⟨-, hfc, -⟩ := u_Kn_moved hM.2.1.alike (E.2.2.1 ci _ hcl)
  refine x_back (va_runV (Ts := []) (C := N.1.cls) (b := ad q) (As := as.map (x_tr ad)) ⟨hM.1.1, hM.1.2.1, hM.1.2.2.1, hM.1.2.2.2.1, fun _ h => by cases h⟩ (C ad) ⟨x_callB E hM.2.1 K.1 F args, x_word E hM.2.1 K.2.1 rfl args, x_word E hM.2.1 K.2.2 rfl args⟩
    ⟨x_blind, ⟨cell, q1, by rw [q3]; rfl, by rw [q2]; exact hfc⟩, fun U hU hWU => ⟨rfl, hM.2.1.trans hWU, by rw [hU]; exact hR⟩⟩ rfl (by rw [List.length_map]; exact hn) hl.1 ?_ (lv_room (by rw [x_tr_sum]; exact hw)) hd ⟨by omega, by omega⟩) hM hS hl hc hs kk
  show List.map (x_tr ad) (as.reverse ++ .ref q :: rest) = (as.map (x_tr ad)).reverse ++ .ref (ad q) :: rest.map (x_tr ad)
  rw [List.map_append, List.map_reverse]
  rfl
theorem x_callS (E : x_En cl l s0 a0 D cA sp) {n np d mc ms : Nat} {N : xM} {as rest : List Value} {v : Option Value} {sh1 : xH} {rf1 : xR} {σ1 : xS} (hd : decode M.2.1 pc = .ok (.invokestatic n, 3)) (K : x_KS M.1.cls n N np) (F : x_fit d N R)
    (hn : as.length = np) (hst : as.reverse ++ rest = st) (hw : (rest.map fun v => v.category).sum ≤ 8)
    (C : x_C cl fk l s0 D cA sp d mc ms gr N as sh rf σ v sh1 rf1 σ1) (pc' : Nat) (hpc : pc + 3 = pc') (kk : x_W cl fk l s0 D cA sp QQ R gr M bc bs sh1 rf1 pc' ls (v.toList ++ rest) σ1) : x_W cl fk l s0 D cA sp QQ R gr M (bc + mc) (bs + ms) sh rf pc ls st σ := by
  subst hpc
  intro p e s m args below meth c ad mls H locs cells slots hM hR hS hl hc hs
  subst hst
  refine x_back (va_runS (Ts := []) (As := as.map (x_tr ad)) ⟨hM.1.1, hM.1.2.1, hM.1.2.2.1, hM.1.2.2.2.1, fun _ h => by cases h⟩ (C ad) ⟨x_callB E hM.2.1 K.1 F args, x_word E hM.2.1 K.2 rfl args⟩
    ⟨x_blind, fun U hU hWU => ⟨rfl, hM.2.1.trans hWU, by rw [hU]; exact hR⟩⟩ rfl (by rw [List.length_map]; exact hn) hl.1 ?_ (lv_room (by rw [x_tr_sum]; exact hw)) hd ⟨by omega, by omega⟩) hM hS hl hc hs kk
  show List.map (x_tr ad) (as.reverse ++ rest) = (as.map (x_tr ad)).reverse ++ rest.map (x_tr ad)
  rw [List.map_append, List.map_reverse]
theorem x_callI (E : x_En cl l s0 a0 D cA sp) {n np d mc ms q : Nat} {N : xM} {as rest : List Value} {sh1 : xH} {rf1 : xR} {σ1 : xS} (hd : decode M.2.1 pc = .ok (.invokespecial n, 3)) (K : x_KI M.1.cls n N np) (hN : N.2.2.2.1 = none) (F : x_fit d N R)
    (hn : as.length = np) (hst : as.reverse ++ .ref q :: rest = st) (hw : (rest.map fun v => v.category).sum ≤ 8)
    (C : x_C cl fk l s0 D cA sp d mc ms gr N (.ref q :: as) sh rf σ none sh1 rf1 σ1) (pc' : Nat) (hpc : pc + 3 = pc') (kk : x_W cl fk l s0 D cA sp QQ R gr M bc bs sh1 rf1 pc' ls rest σ1) : x_W cl fk l s0 D cA sp QQ R gr M (bc + mc) (bs + ms) sh rf pc ls st σ := by
  subst hpc
  intro p e s m args below meth c ad mls H locs cells slots hM hR hS hl hc hs
  subst hst
  have CB := x_callB (mc := mc) (ms := ms) E hM.2.1 K.1 F args
  have CC := C ad
  rw [hN] at CB CC
  refine x_back (v := none) (va_runI (Ts := []) (b := ad q) (As := as.map (x_tr ad)) ⟨hM.1.1, hM.1.2.1, hM.1.2.2.1, hM.1.2.2.2.1, fun _ h => by cases h⟩ CC ⟨CB, K.2.2, x_word E hM.2.1 K.2.1 rfl args⟩
    ⟨x_blind, fun U hU hWU => ⟨rfl, hM.2.1.trans hWU, by rw [hU]; exact hR⟩⟩ rfl (by rw [List.length_map]; exact hn) hl.1 ?_ (lv_room (by rw [x_tr_sum]; exact hw)) hd ⟨by omega, by omega⟩) hM hS hl hc hs kk
  show List.map (x_tr ad) (as.reverse ++ .ref q :: rest) = (as.map (x_tr ad)).reverse ++ .ref (ad q) :: rest.map (x_tr ad)
  rw [List.map_append, List.map_reverse]
  rfl
theorem x_callN (E : x_En cl l s0 a0 D cA sp) {n np d mc ms q : Nat} {N : xM} {host : String} {as rest : List Value} {sh1 : xH} {rf1 : xR} {σ1 : xS} (hd : decode M.2.1 pc = .ok (.invokespecial n, 3)) (K : x_KN M.1.cls n N np host) (hN : N.2.2.2.1 = none) (F : x_fit d N R)
    (hn : as.length = np) (hst : as.reverse ++ .ref q :: rest = st) (hw : (rest.map fun v => v.category).sum ≤ 8)
    (C : x_C cl fk l s0 D cA sp d mc ms gr N (.ref q :: as) sh rf σ none sh1 rf1 σ1) (pc' : Nat) (hpc : pc + 3 = pc') (kk : x_W cl fk l s0 D cA sp QQ R gr M bc bs sh1 rf1 pc' ls rest σ1) : x_W cl fk l s0 D cA sp QQ R gr M (bc + mc) (bs + ms) sh rf pc ls st σ := by
  subst hpc
  intro p e s m args below meth c ad mls H locs cells slots hM hR hS hl hc hs
  subst hst
  obtain ⟨⟨k1, k2, k3, k4, k5⟩, k6, k7⟩ := K
  have CC := C ad
  rw [hN] at CC k2
  have hnw : va_Nw (.methodLinkNest M.1.cls n N.1 host) s := va_Nw.warmM hM.2.1 (va_Nw.of rfl (E.2.1 _ k1))
  have hcode : (Cond.code N.1 N.2.1 N.2.2.1 none).before args s = true := x_word E hM.2.1 k2 rfl args
  refine x_back (v := none) (va_runIN (Ts := []) (b := ad q) (As := as.map (x_tr ad)) (n := np) ⟨hM.1.1, hM.1.2.1, hM.1.2.2.1, hM.1.2.2.2.1, fun _ h => by cases h⟩ CC ⟨⟨⟨rfl, rfl, by show d + 8 + 1 ≤ _; exact F.1, F.lo, fun w hw a' U hU => ?_, List.mem_cons_self⟩, hcode, x_word E hM.2.1 k3 rfl args, k4, fun sig h => ?_, va_Nw.use rfl hnw⟩, k7, x_word E hM.2.1 k6 rfl args⟩
    ⟨x_blind, fun U hU hWU => ⟨rfl, hM.2.1.trans hWU, by rw [hU]; exact hR⟩⟩ rfl (by rw [List.length_map]; exact hn) hl.1 ?_ (lv_room (by rw [x_tr_sum]; exact hw)) hd ⟨by omega, by omega⟩) hM hS hl hc hs kk
  · rw [List.mem_singleton.mp hw]
    exact x_word E (hM.2.1.trans hU) k2 rfl a'
  · rw [h] at k5
    exact (Option.some.inj k5).symm
  · show List.map (x_tr ad) (as.reverse ++ .ref q :: rest) = (as.map (x_tr ad)).reverse ++ .ref (ad q) :: rest.map (x_tr ad)
    rw [List.map_append, List.map_reverse]
    rfl
/-- Object() -/
theorem x_obj (E : x_En cl l s0 a0 D cA sp) {n q : Nat} (hd : decode M.2.1 pc = .ok (.invokespecial n, 3)) (k1 : Cond.methodLink M.1.cls n Lib.objectInit ∈ lw_tbl) (k2 : Cond.instanceMethod Lib.objectInit ∈ lw_tbl) (k3 : Cond.code Lib.objectInit ⟨#[0xb1]⟩ 1 none ∈ lw_tbl) (hf : 1 ≤ R.frames) (hlo : (st.map fun v => v.category).sum + 12 ≤ R.locals) (pc' : Nat) (hpc : pc + 3 = pc') (kk : x_W cl fk l s0 D cA sp QQ R gr M bc bs sh (rf) pc' ls (st) (σ)) : x_W cl fk l s0 D cA sp QQ R gr M bc bs sh (rf) pc ls (.ref q :: st) (σ) := by
  subst hpc
  intro p e s m args below meth c ad mls H locs cells slots hM hR hS hl hc hs
  refine W.objInit hM.1.1 hM.1.2.1 hM.1.2.2.2.1 (x_word E hM.2.1 k1 rfl args) (x_word E hM.2.1 k2 rfl args) (x_word E hM.2.1 k3 rfl args) rfl (by rw [hM.1.2.2.1]; exact hl.1) rfl hd hf ?_ (kk p e s m args below meth c ad mls H locs cells slots hM hR hS hl hc hs)
  show 2 * 0 + ((st.map (x_tr ad)).map fun v => v.category).sum + 12 ≤ R.locals
  rw [x_tr_sum]; omega
/-- Math -/
def x_KM (own : String) (n : Nat) (y : MethodName) (bytes : ByteArray) (np : Nat) : Prop := Cond.methodLink own n y ∈ lw_tbl ∧ Cond.static y ∈ lw_tbl ∧ Cond.initialized "java/lang/Math" ∈ lw_tbl ∧ Cond.code y bytes np (some .int) ∈ lw_tbl
theorem x_mabs (E : x_En cl l s0 a0 D cA sp) {n : Nat} {x : Int32} (hd : decode M.2.1 pc = .ok (.invokestatic n, 3)) (K : x_KM M.1.cls n Lib.Math.abs.name Lib.Math.abs.code 1) (hf : 1 ≤ R.frames) (hlo : (st.map fun v => v.category).sum + 13 ≤ R.locals) (pc' : Nat) (hpc : pc + 3 = pc') (kk : x_W cl fk l s0 D cA sp QQ R gr M bc bs sh (rf) pc' ls (.int (if 0 ≤ x then x else 0 - x) :: st) (σ)) : x_W cl fk l s0 D cA sp QQ R gr M bc bs sh (rf) pc ls (.int x :: st) (σ) := by
  subst hpc
  intro p e s m args below meth c ad mls H locs cells slots hM hR hS hl hc hs
  exact va_mabs hM.1.1 hM.1.2.1 (hM.1.2.2.1.trans hl.1.symm) hM.1.2.2.2.1 (x_word E hM.2.1 K.1 rfl args) (x_word E hM.2.1 K.2.1 rfl args) (x_word E hM.2.1 K.2.2.1 rfl args) (x_word E hM.2.1 K.2.2.2 rfl args) hf (by rw [x_tr_sum]; exact hlo) (by omega) (by omega) hd (kk p e s m args below meth c ad mls H locs cells slots hM hR hS hl hc hs)
theorem x_mmax (E : x_En cl l s0 a0 D cA sp) {n : Nat} {x y : Int32} (hd : decode M.2.1 pc = .ok (.invokestatic n, 3)) (K : x_KM M.1.cls n Lib.Math.max.name Lib.Math.max.code 2) (hf : 1 ≤ R.frames) (hlo : (st.map fun v => v.category).sum + 13 ≤ R.locals) (pc' : Nat) (hpc : pc + 3 = pc') (kk : x_W cl fk l s0 D cA sp QQ R gr M bc bs sh (rf) pc' ls (.int (if x < y then y else x) :: st) (σ)) : x_W cl fk l s0 D cA sp QQ R gr M bc bs sh (rf) pc ls (.int y :: .int x :: st) (σ) := by
  subst hpc
  intro p e s m args below meth c ad mls H locs cells slots hM hR hS hl hc hs
  exact va_mmax hM.1.1 hM.1.2.1 (hM.1.2.2.1.trans hl.1.symm) hM.1.2.2.2.1 (x_word E hM.2.1 K.1 rfl args) (x_word E hM.2.1 K.2.1 rfl args) (x_word E hM.2.1 K.2.2.1 rfl args) (x_word E hM.2.1 K.2.2.2 rfl args) hf (by rw [x_tr_sum]; exact hlo) (by omega) (by omega) hd (kk p e s m args below meth c ad mls H locs cells slots hM hR hS hl hc hs)
theorem x_mmin (E : x_En cl l s0 a0 D cA sp) {n : Nat} {x y : Int32} (hd : decode M.2.1 pc = .ok (.invokestatic n, 3)) (K : x_KM M.1.cls n Lib.Math.min.name Lib.Math.min.code 2) (hf : 1 ≤ R.frames) (hlo : (st.map fun v => v.category).sum + 13 ≤ R.locals) (pc' : Nat) (hpc : pc + 3 = pc') (kk : x_W cl fk l s0 D cA sp QQ R gr M bc bs sh (rf) pc' ls (.int (if y < x then y else x) :: st) (σ)) : x_W cl fk l s0 D cA sp QQ R gr M bc bs sh (rf) pc ls (.int y :: .int x :: st) (σ) := by
  subst hpc
  intro p e s m args below meth c ad mls H locs cells slots hM hR hS hl hc hs
  exact va_mmin hM.1.1 hM.1.2.1 (hM.1.2.2.1.trans hl.1.symm) hM.1.2.2.2.1 (x_word E hM.2.1 K.1 rfl args) (x_word E hM.2.1 K.2.1 rfl args) (x_word E hM.2.1 K.2.2.1 rfl args) (x_word E hM.2.1 K.2.2.2 rfl args) hf (by rw [x_tr_sum]; exact hlo) (by omega) (by omega) hd (kk p e s m args below meth c ad mls H locs cells slots hM hR hS hl hc hs)
end XL
