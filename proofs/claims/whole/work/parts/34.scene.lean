/-! The two scenes change places; contracts under which cells may lie elsewhere afterwards. -/
def x_pi (p : Nat) : Nat := if 7 ≤ p ∧ p < 21 then p + 14 else if 21 ≤ p ∧ p < 35 then p - 14 else p
theorem x_pi_pi (p : Nat) : x_pi (x_pi p) = p := by
  unfold x_pi
  by_cases h1 : 7 ≤ p ∧ p < 21
  · rw [if_pos h1, if_neg (by omega), if_pos (by omega)]; omega
  · rw [if_neg h1]
    by_cases h2 : 21 ≤ p ∧ p < 35
    · rw [if_pos h2, if_pos (by omega)]; omega
    · rw [if_neg h2, if_neg h1, if_neg h2]
theorem x_pi_lt {p : Nat} (h : p < 97) : x_pi p < 97 := by
  unfold x_pi
  split
  · omega
  · split <;> omega
def x_sw (σ : xS) : xS := (fun p k => σ.1 (x_pi p) k, fun p k => σ.2 (x_pi p) k)
def x_ag (ad ad' : Nat → Nat) : Prop := ∀ p : Nat, p < 7 ∨ 35 ≤ p → ad' p = ad p
theorem x_ag.rf {ad : Nat → Nat} : x_ag ad ad := fun _ _ => rfl
theorem x_ag.tr {a b c : Nat → Nat} (h : x_ag a b) (g : x_ag b c) : x_ag a c := fun p hp => (g p hp).trans (h p hp)
def x_okb (v : Value) : Bool := match v with
  | .ref q => decide (q < 7) || decide (35 ≤ q)
  | _ => true
theorem x_tr_ag {ad ad' : Nat → Nat} (h : x_ag ad ad') {v : Value} (hv : x_okb v = true) : x_tr ad' v = x_tr ad v := by
  cases v with
  | ref q =>
    have hq : q < 7 ∨ 35 ≤ q := by
      simp only [x_okb, Bool.or_eq_true, decide_eq_true_eq] at hv
      exact hv
    show Value.ref (ad' q) = Value.ref (ad q)
    rw [h q hq]
  | _ => rfl
def x_okl (ls : List (Option Value)) : Bool := ls.all fun o => match o with
  | none => true
  | some v => x_okb v
theorem x_lo.ag {ad ad' : Nat → Nat} {n : Nat} {ls : List (Option Value)} {mls : Array Slot} (h : x_lo ad n ls mls) (ha : x_ag ad ad') (hl : x_okl ls = true) : x_lo ad' n ls mls := by
  refine ⟨h.1, h.2.1, h.2.2.1, fun i v hi => ?_⟩
  rw [x_tr_ag ha]
  · exact h.2.2.2 i v hi
  · exact List.all_eq_true.mp hl _ (List.mem_of_getElem? hi)
theorem x_map_ag {ad ad' : Nat → Nat} {st : List Value} (h : x_ag ad ad') (hs : st.all x_okb = true) : st.map (x_tr ad') = st.map (x_tr ad) :=
  List.map_congr_left (fun v hv => x_tr_ag h (List.all_eq_true.mp hs v hv))
def x_rf2 : xR := x_pR (x_pR RF 0 3 (some 21)) 0 4 (some 7)
set_option maxRecDepth 20000 in
theorem x_rf2_pi : ∀ p, p < 97 → ∀ k, k < 90 → x_rf2 (x_pi p) k = (RF p k).map x_pi := by decide +kernel
set_option maxRecDepth 20000 in
theorem x_sh_pi : ∀ p, p < 97 → SH[x_pi p]? = SH[p]? := by decide +kernel
theorem x_CL90 {c : Nat} {r : vw_C} (h : CL[c]? = some r) : r.2.2 < 90 := by
  have h1 : (CL.all fun r => decide (r.2.2 < 90)) = true := by rfl
  exact of_decide_eq_true (List.all_eq_true.mp h1 r (List.mem_of_getElem? h))
/-- after such a method the scenes' cells may lie elsewhere -/
def x_QX (s0 : State) (D : va_G) (cA : Nat → ClassId) (sp : Nat → Nat) (o : Option Value ⊕ Nat) (σ : xS) : List Frame → Array Value → State → (Nat → Nat) → State → Prop := fun below args s ad =>
  vx_MQ below (fun a st oc t => ∃ ad' : Nat → Nat, x_ag ad ad' ∧ x_Qo CL FK s0 D cA sp ad' o SH RF σ a st oc t) (fun E st t => ∃ ad' : Nat → Nat, x_ag ad ad' ∧ x_Xo CL FK s0 D cA sp ad' o SH RF σ E st t) args s 1 6 (fun q => s0.heap.size ≤ q)
def x_COX (l : Launch) (s0 : State) (D : va_G) (cA : Nat → ClassId) (sp : Nat → Nat) (d : Nat) (M : xM) (as : List Value) (σ : xS) (o : Option Value ⊕ Nat) (σ1 : xS) : Prop :=
  ∀ ad : Nat → Nat, vx_Met l M.1 [Cond.code M.1 M.2.1 M.2.2.1 M.2.2.2.1] (x_rm d 1 6) (x_Pc CL FK s0 D cA sp false ad as SH RF σ) (fun a st oc t => ∃ ad' : Nat → Nat, x_ag ad ad' ∧ x_Qo CL FK s0 D cA sp ad' o SH RF σ1 a st oc t) (fun E st t => ∃ ad' : Nat → Nat, x_ag ad ad' ∧ x_Xo CL FK s0 D cA sp ad' o SH RF σ1 E st t) 1 6 (fun q => s0.heap.size ≤ q)
def x_QH (s0 : State) (D : va_G) (cA : Nat → ClassId) (sp : Nat → Nat) (v : Option Value) (σ : xS) : List Frame → Array Value → State → (Nat → Nat) → State → Prop := fun below args s ad =>
  MQ below (fun a st oc t => ∃ ad' : Nat → Nat, x_ag ad ad' ∧ x_Qc CL FK s0 D cA sp false ad' v SH RF σ a st oc t) args s 1 6 (fun q => s0.heap.size ≤ q)
/-- the contract of a static method with handlers -/
def x_CH (l : Launch) (s0 : State) (D : va_G) (cA : Nat → ClassId) (sp : Nat → Nat) (d : Nat) (M : xM) (as : List Value) (σ : xS) (v : Option Value) (σ1 : xS) : Prop :=
  ∀ ad : Nat → Nat, Met l M.1 [Cond.codeWith M.1 M.2.1 M.2.2.1 M.2.2.2.1 M.2.2.2.2] (x_rm d 1 6) (x_Pc CL FK s0 D cA sp false ad as SH RF σ) (fun a st oc t => ∃ ad' : Nat → Nat, x_ag ad ad' ∧ x_Qc CL FK s0 D cA sp false ad' v SH RF σ1 a st oc t) 1 6 (fun q => s0.heap.size ≤ q)
/-- the words of a static call of a method with handlers -/
def x_KC (own : String) (n : Nat) (N : xM) (np : Nat) : Prop :=
  Cond.methodLink own n N.1 ∈ lw_tbl ∧ (Cond.codeWith N.1 N.2.1 N.2.2.1 N.2.2.2.1 N.2.2.2.2 ∈ lw_tbl ∧ goodWord (Cond.codeWith N.1 N.2.1 N.2.2.1 N.2.2.2.1 N.2.2.2.2) = true) ∧ Cond.initialized N.1.cls ∈ lw_tbl ∧ (N.1.cls ≠ "java/lang/invoke/MethodHandle" ∧ N.1.cls ≠ "java/lang/invoke/VarHandle") ∧ (parseMethodDescriptor N.1.desc).map (fun d => d.parameters.length) = some np ∧ Cond.static N.1 ∈ lw_tbl
section XX
variable {l : Launch} {s0 : State} {a0 : Array Value} {D : va_G} {cA : Nat → ClassId} {sp : Nat → Nat} {QQ : List Frame → Array Value → State → (Nat → Nat) → State → Prop} {R : Room} {M : xM} {bc bs : Nat} {pc : Nat} {ls : List (Option Value)} {st : List Value} {σ : xS}
theorem x_QX.cl {o : Option Value ⊕ Nat} (below : List Frame) (args : Array Value) (s : State) (ad ad' : Nat → Nat) (t : State) (h : x_ag ad ad') (g : x_QX s0 D cA sp o σ below args s ad' t) : x_QX s0 D cA sp o σ below args s ad t := by
  obtain ⟨oc, b1, b2, b3⟩ := g
  refine ⟨oc, b1, b2, ?_⟩
  rcases b3 with ⟨⟨a2, g1, g2⟩, g3⟩ | ⟨q, e, E, ce, L, ⟨a2, g1, g2⟩, g3⟩
  · exact Or.inl ⟨⟨a2, h.tr g1, g2⟩, g3⟩
  · exact Or.inr ⟨q, e, E, ce, L, ⟨a2, h.tr g1, g2⟩, g3⟩
theorem x_toX {o : Option Value ⊕ Nat} {σ1 : xS} (k : x_W CL FK l s0 D cA sp (x_QO CL FK s0 D cA sp o SH RF σ1) R false M bc bs SH RF pc ls st σ) : x_W CL FK l s0 D cA sp (x_QX s0 D cA sp o σ1) R false M bc bs SH RF pc ls st σ := by
  intro p e s m args below meth c ad mls H locs cells slots hM hR hS hl hc hs T hT X
  obtain ⟨t, a1, oc, b1, b2, b3⟩ := k p e s m args below meth c ad mls H locs cells slots hM hR hS hl hc hs T hT X
  refine ⟨t, a1, oc, b1, b2, ?_⟩
  rcases b3 with ⟨g2, g3⟩ | ⟨q, e, E, ce, L, g2, g3⟩
  · exact Or.inl ⟨⟨ad, x_ag.rf, g2⟩, g3⟩
  · exact Or.inr ⟨q, e, E, ce, L, ⟨ad, x_ag.rf, g2⟩, g3⟩
theorem x_toH {v : Option Value} {σ1 : xS} (k : x_W CL FK l s0 D cA sp (x_QQ CL FK s0 D cA sp false 1 6 v SH RF σ1) R false M bc bs SH RF pc ls st σ) : x_W CL FK l s0 D cA sp (x_QH s0 D cA sp v σ1) R false M bc bs SH RF pc ls st σ := by
  intro p e s m args below meth c ad mls H locs cells slots hM hR hS hl hc hs T hT X
  obtain ⟨t, a1, oc, b1, b2, b3, b4⟩ := k p e s m args below meth c ad mls H locs cells slots hM hR hS hl hc hs T hT X
  exact ⟨t, a1, oc, b1, b2, ⟨ad, x_ag.rf, b3⟩, b4⟩
theorem x_QH.cl {v : Option Value} (below : List Frame) (args : Array Value) (s : State) (ad ad' : Nat → Nat) (t : State) (h : x_ag ad ad') (g : x_QH s0 D cA sp v σ below args s ad' t) : x_QH s0 D cA sp v σ below args s ad t := by
  obtain ⟨oc, b1, b2, ⟨a2, g1, g2⟩, b4⟩ := g
  exact ⟨oc, b1, b2, ⟨a2, h.tr g1, g2⟩, b4⟩
theorem x_swap (hQ : ∀ (below : List Frame) (args : Array Value) (s : State) (ad ad' : Nat → Nat) (t : State), x_ag ad ad' → QQ below args s ad' t → QQ below args s ad t) (hls : x_okl ls = true) (hst : st.all x_okb = true)
    (kk : x_W CL FK l s0 D cA sp QQ R false M bc bs SH RF pc ls st (x_sw σ)) : x_W CL FK l s0 D cA sp QQ R false M bc bs SH x_rf2 pc ls st σ := by
  intro p e s m args below meth c ad mls H locs cells slots hM hR hS hl hc hs
  have ha : x_ag ad (fun p => ad (x_pi p)) := fun p hp => by
    show ad (x_pi p) = ad p
    unfold x_pi
    rw [if_neg (by omega), if_neg (by omega)]
  obtain ⟨r1, r2, r3, r4, r5, r6, r7⟩ := hR
  have hlen : SH.length = 97 := rfl
  have hR' : x_Rl CL FK s0 D cA sp false (fun p => ad (x_pi p)) SH RF (x_sw σ) H := by
    refine ⟨fun p t hp => ?_, fun p q hp hq h => ?_, fun p hp => ?_, r4, r5, fun h => (by cases h), fun p hp => ?_⟩
    · have hlt : p < 97 := (List.getElem?_eq_some_iff.mp hp).1
      have hc := r1 (x_pi p) t ((x_sh_pi p hlt).trans hp)
      unfold x_cell at hc ⊢
      by_cases h50 : t.1 < 50
      · rw [if_pos h50] at hc ⊢
        obtain ⟨r, g1, g2⟩ := hc
        refine ⟨r, g1, g2.to (fun k hk => ?_)⟩
        have hk9 : k < 90 := Nat.lt_trans hk (x_CL90 g1)
        unfold x_fv
        rw [x_rf2_pi p hlt k hk9, Option.map_map]
        rfl
      · rw [if_neg h50] at hc ⊢
        exact hc
    · rw [hlen] at hp hq
      have h2 := r2 (x_pi p) (x_pi q) (by rw [hlen]; exact x_pi_lt hp) (by rw [hlen]; exact x_pi_lt hq) h
      have h3 := congrArg x_pi h2
      rw [x_pi_pi, x_pi_pi] at h3
      exact h3
    · rw [hlen] at hp
      exact r3 (x_pi p) (by rw [hlen]; exact x_pi_lt hp)
    · show ad (x_pi p) = sp p
      have h1 : x_pi p = p := by
        unfold x_pi
        rw [if_neg (by omega), if_neg (by omega)]
      rw [h1]
      exact r7 p hp
  have w := kk p e s m args below meth c (fun p => ad (x_pi p)) mls H locs cells slots hM hR' hS (hl.ag ha hls) hc hs
  rw [x_map_ag ha hst] at w
  intro T hT X
  obtain ⟨t, a1, b1⟩ := w T hT X
  exact ⟨t, a1, hQ _ _ _ _ _ _ ha b1⟩
theorem x_enterX {d : Nat} {as : List Value} {o : Option Value ⊕ Nat} {σ1 : xS} (ls0 : List (Option Value)) (hls : x_args M.2.2.1 as = ls0) (hn : (x_as as).length ≤ M.2.2.1) (hy : plainName M.1.cls = true) (hh : M.2.2.2.2 = [])
    (body : x_W CL FK l s0 D cA sp (x_QX s0 D cA sp o σ1) (x_rm d 1 6) false M 1 6 SH RF 0 ls0 [] σ) : x_COX l s0 D cA sp d M as σ o σ1 := by
  subst hls
  intro ad
  refine vx_ofW (cc := M.2.1) (maxL := M.2.2.1) (ret := M.2.2.2.1) hy rfl ?_
  intro p e s m args below meth c s₁ B hml hno hv
  obtain ⟨rfl, hW, hR⟩ := hv
  have htab : c.exceptionTable.toList = tableOf M.2.2.2.2 := by
    rw [hh]
    cases ht : c.exceptionTable.toList with
    | nil => rfl
    | cons a t => exact absurd (hno a (by rw [ht]; exact List.mem_cons_self)) (fun h => h)
  rw [lg_entry_eq]
  exact body p e s m _ below meth c ad _ s.heap [] 0 0 ⟨⟨B.exec, B.bytes, hml, findClass_of_methodNamed B.named, B.returns, B.notSynchronized, (name_of_methodNamed B.named B.method).1, htab⟩, hW, hR.2.2.2.1, hR.2.2.2.2.1⟩ hR va_S.rf (x_lo_entry ad as hn) (by show 0 + 1 ≤ 1; omega) (by show 0 + 6 ≤ 6; omega)
theorem x_enterH {d : Nat} {as : List Value} {v : Option Value} {σ1 : xS} (ls0 : List (Option Value)) (hls : x_args M.2.2.1 as = ls0) (hn : (x_as as).length ≤ M.2.2.1) (hy : plainName M.1.cls = true)
    (body : x_W CL FK l s0 D cA sp (x_QH s0 D cA sp v σ1) (x_rm d 1 6) false M 1 6 SH RF 0 ls0 [] σ) : x_CH l s0 D cA sp d M as σ v σ1 := by
  subst hls
  intro ad
  refine va_MetW (cc := M.2.1) (maxL := M.2.2.1) (ret := M.2.2.2.1) (hh := M.2.2.2.2) hy rfl ?_
  intro p e s m args below meth c s₁ B hml hv
  obtain ⟨rfl, hW, hR⟩ := hv
  have htab : c.exceptionTable.toList = tableOf M.2.2.2.2 := vx_table (x := M.1) B (atoms_spec (ws := [Cond.codeWith M.1 M.2.1 M.2.2.1 M.2.2.2.1 M.2.2.2.2]) B.pre _ List.mem_cons_self)
  rw [lg_entry_eq]
  exact body p e s m _ below meth c ad _ s.heap [] 0 0 ⟨⟨B.exec, B.bytes, hml, findClass_of_methodNamed B.named, B.returns, B.notSynchronized, (name_of_methodNamed B.named B.method).1, htab⟩, hW, hR.2.2.2.1, hR.2.2.2.2.1⟩ hR va_S.rf (x_lo_entry ad as hn) (by show 0 + 1 ≤ 1; omega) (by show 0 + 6 ≤ 6; omega)
theorem x_callHd (E : x_En CL l s0 a0 D cA sp) (hQ : ∀ (below : List Frame) (args : Array Value) (s : State) (ad ad' : Nat → Nat) (t : State), x_ag ad ad' → QQ below args s ad' t → QQ below args s ad t) {n np d : Nat} {N : xM} {as rest : List Value} {v : Option Value} {σ1 : xS} (hd : decode M.2.1 pc = .ok (.invokestatic n, 3)) (K : x_KC M.1.cls n N np) (F : x_fit d N R)
    (hn : as.length = np) (hst : as.reverse ++ rest = st) (hw : (rest.map fun v => v.category).sum ≤ 8) (hls : x_okl ls = true) (hrs : rest.all x_okb = true)
    (C : x_CH l s0 D cA sp d N as σ v σ1) (pc' : Nat) (hpc : pc + 3 = pc') (kk : x_W CL FK l s0 D cA sp QQ R false M bc bs SH RF pc' ls (v.toList ++ rest) σ1) : x_W CL FK l s0 D cA sp QQ R false M (bc + 1) (bs + 6) SH RF pc ls st σ := by
  subst hpc
  intro p e s m args below meth c ad mls H locs cells slots hM hR hS hl hc hs
  subst hst
  obtain ⟨k1, ⟨k2, k2g⟩, k3, k4, k5, k6⟩ := K
  have hr := vx_runSW (H := H) (locs := locs) (cells := cells) (slots := slots) (below := below) (meth := meth) (e := e) (R := R) (rest := rest.map (x_tr ad)) (g := F0 m pc mls ((as.reverse ++ rest).map (x_tr ad))) (Ts := []) (As := as.map (x_tr ad)) (n := np) ⟨hM.1.1, hM.1.2.1, hM.1.2.2.1, hM.1.2.2.2.1, fun _ h => by cases h⟩ (C ad) ⟨⟨rfl, rfl, by show d + 8 + 1 ≤ _; exact F.1, F.lo, fun w hw a' U hU => by
      rw [List.mem_singleton.mp hw]
      exact x_word E (hM.2.1.trans hU) k2 k2g a', List.mem_cons_self⟩, x_word E hM.2.1 k2 k2g args, x_word E hM.2.1 k3 rfl args, k4, fun sig h => by
      rw [h] at k5
      exact (Option.some.inj k5).symm, x_word E hM.2.1 k1 rfl args, x_word E hM.2.1 k6 rfl args⟩
    ⟨x_blind, fun U hU hWU => ⟨rfl, hM.2.1.trans hWU, by rw [hU]; exact hR⟩⟩ rfl (by rw [List.length_map]; exact hn) hl.1 (by
      show List.map (x_tr ad) (as.reverse ++ rest) = (as.map (x_tr ad)).reverse ++ rest.map (x_tr ad)
      rw [List.map_append, List.map_reverse]) (lv_room (by rw [x_tr_sum]; exact hw)) hd ⟨by omega, by omega⟩
  intro T hT X
  obtain ⟨v', st₀, t, T', L, h0, X', hL, e1, e2, ⟨ad', hag, ho, hR1, hW1, hz⟩, stp⟩ := hr T hT X
  have hv : v' = v.map (x_tr ad') := Outcome.returned.inj ho
  subst hv
  rw [← x_map_ag hag hrs, x_toList] at stp
  rw [h0] at hz
  have hsz : s.heap.size ≤ T'.heap.size := Nat.le_trans hS.1 (by rw [e1]; exact hz)
  obtain ⟨t2, a1, b1⟩ := kk p e s m args below meth c ad' mls T'.heap (locs ++ L) (cells + 1) (slots + 6) hM (by rw [e1]; exact hR1)
    ⟨hsz, fun q g1 g2 => by
      have g3 : q < s0.heap.size := Nat.lt_of_not_le g2
      rw [e1, hR1.2.2.2.2.1 q g3, hM.2.2.2 q g3], fun q hq => (List.mem_append.mp hq).elim (hS.2.2 q) (hL q)⟩ (hl.ag hag hls) (by omega) (by omega) T' rfl X'
  exact ⟨t2, stp t2 a1, hQ _ _ _ _ _ _ hag b1⟩
/-- the call of scene -/
theorem x_callOX (E : x_En CL l s0 a0 D cA sp) (hQ : ∀ (below : List Frame) (args : Array Value) (s : State) (ad ad' : Nat → Nat) (t : State), x_ag ad ad' → QQ below args s ad' t → QQ below args s ad t) {n np d q ci u : Nat} {N : xM} {as rest : List Value} {o : Option Value ⊕ Nat} {σ1 : xS} {T : u_T} {nf : Nat} (hd : decode M.2.1 pc = .ok (.invokevirtual n, 3)) (K : x_KV M.1.cls n N np) (F : x_fit d N R)
    (hp : SH[q]? = some (ci, u)) (h50 : ci < 50) (hcl : CL[ci]? = some (N.1.cls, T, nf)) (hn : as.length = np) (hst : as.reverse ++ .ref q :: rest = st) (hw : (rest.map fun v => v.category).sum ≤ 8) (hls : x_okl ls = true) (hrs : rest.all x_okb = true)
    (C : x_COX l s0 D cA sp d N (.ref q :: as) σ o σ1) (pc' : Nat) (hpc : pc + 3 = pc')
    (kk : ∀ v : Option Value, o = .inl v → x_W CL FK l s0 D cA sp QQ R false M bc bs SH RF pc' ls (v.toList ++ rest) σ1)
    (kx : ∀ k : Nat, o = .inr k → ∃ (hp i ln : Nat), x_KHd M.1.cls M.2.2.2.2 pc k hp ∧ x_AS M.2.1 hp i ln ∧ i < M.2.2.1 ∧ x_W CL FK l s0 D cA sp QQ R false M bc bs SH RF (hp + ln) ((x_off ls i).set i none) [] σ1) :
    x_W CL FK l s0 D cA sp QQ R false M (bc + 1) (bs + 6) SH RF pc ls st σ := by
  subst hpc
  intro p e s m args below meth c ad mls H locs cells slots hM hR hS hl hc hs
  subst hst
  have hcell := hR.1 q (ci, u) hp
  unfold x_cell at hcell
  rw [if_pos (show (ci, u).1 < 50 from h50)] at hcell
  obtain ⟨r, g1, cell, q1, q2, q3, q4⟩ := hcell
  obtain ⟨-, hfc, -⟩ := u_Kn_moved hM.2.1.alike (E.2.2.1 ci _ hcl)
  have hr := vx_runV (H := H) (locs := locs) (cells := cells) (slots := slots) (below := below) (meth := meth) (e := e) (R := R) (rest := rest.map (x_tr ad)) (g := F0 m pc mls ((as.reverse ++ .ref q :: rest).map (x_tr ad))) (Ts := []) (C := N.1.cls) (b := ad q) (As := as.map (x_tr ad)) ⟨hM.1.1, hM.1.2.1, hM.1.2.2.1, hM.1.2.2.2.1, fun _ h => by cases h⟩ (C ad) ⟨x_callB E hM.2.1 K.1 F args, x_word E hM.2.1 K.2.1 rfl args, x_word E hM.2.1 K.2.2 rfl args⟩
    ⟨x_blind, ⟨cell, q1, by rw [q3]; rfl, by rw [q2]; exact hfc⟩, fun U hU hWU => ⟨rfl, hM.2.1.trans hWU, by rw [hU]; exact hR⟩⟩ rfl (by rw [List.length_map]; exact hn) hl.1 (by
      show List.map (x_tr ad) (as.reverse ++ .ref q :: rest) = (as.map (x_tr ad)).reverse ++ .ref (ad q) :: rest.map (x_tr ad)
      rw [List.map_append, List.map_reverse]
      rfl) (lv_room (by rw [x_tr_sum]; exact hw)) hd ⟨by omega, by omega⟩
  intro T1 hT1 X1
  rcases hr T1 hT1 X1 with ⟨v', st₀, t, T', L, h0, X', hL, e1, e2, ⟨ad', hag, hQ1⟩, stp⟩ | ⟨q9, st₀, t, T', L, E9, ce, h0, X', hL, e1, e2, ⟨ad', hag, hQ1⟩, hce, hcv, hcl9, stp⟩
  · cases o with
    | inr k => exact hQ1.elim
    | inl v =>
      obtain ⟨ho, hR1, hW1, hz⟩ := hQ1
      have hv : v' = v.map (x_tr ad') := Outcome.returned.inj ho
      subst hv
      rw [← x_map_ag hag hrs, x_toList] at stp
      rw [h0] at hz
      have hsz : s.heap.size ≤ T'.heap.size := Nat.le_trans hS.1 (by rw [e1]; exact hz)
      obtain ⟨t2, a1, b1⟩ := kk v rfl p e s m args below meth c ad' mls T'.heap (locs ++ L) (cells + 1) (slots + 6) hM (by rw [e1]; exact hR1)
        ⟨hsz, fun q g1 g2 => by
          have g3 : q < s0.heap.size := Nat.lt_of_not_le g2
          rw [e1, hR1.2.2.2.2.1 q g3, hM.2.2.2 q g3], fun q hq => (List.mem_append.mp hq).elim (hS.2.2 q) (hL q)⟩ (hl.ag hag hls) (by omega) (by omega) T' rfl X'
      exact ⟨t2, stp t2 a1, hQ _ _ _ _ _ _ hag b1⟩
  · cases o with
    | inl v => exact hQ1.elim
    | inr k =>
      obtain ⟨hE, hR1, hz⟩ := hQ1
      subst hE
      rw [h0] at hz
      have hsz : s.heap.size ≤ T'.heap.size := Nat.le_trans hS.1 (by rw [e1]; exact hz)
      obtain ⟨hp, i, ln, ⟨pre, x, suf, k1, k2, k3, k4, k5, k6, k7⟩, hA, hi, kw⟩ := kx k rfl
      have hgv := E.2.2.2.2.2.2.1
      have hl' := hl.ag hag hls
      have hS1 : va_S (fun q => s0.heap.size ≤ q) s.heap T'.heap (locs ++ L) := ⟨hsz, fun q g1 g2 => by
          have g3 : q < s0.heap.size := Nat.lt_of_not_le g2
          rw [e1, hR1.2.2.2.2.1 q g3, hM.2.2.2 q g3], fun q hq => (List.mem_append.mp hq).elim (hS.2.2 q) (hL q)⟩
      have hc9 := vx_catch (p := p) (l := l) (e := e) (R := R) (below := below) (meth := meth) (locs := locs ++ L) (cells := cells + 1) (slots := slots + 6) (Q := QQ below args s ad') (ls := mls) (rest := rest.map (x_tr ad)) (pc := pc) (H := T'.heap) (q := q9) (ce := ce) (c := c) (own := M.1.cls) (name := x_Xn k) (E := x_Xn k) hM.1.2.2.2.1 pre x suf (by rw [hM.1.2.2.2.2.2.2.2]; exact k1)
        (fun z hz => (k2 z hz).elim Or.inl (fun ⟨z0, nm, z1, z2⟩ => Or.inr ⟨z0, nm, x_word E hM.2.1 z1 rfl args, va_Nc.moved hM.2.1.alike (va_Nc.of (flat_of_before _ hgv _ z2))⟩)) k3 k4 (x_word E hM.2.1 k5 rfl args) (x_mv_at hM.2.1 rfl (E.2.1 _ k6)) (by rw [e1]; exact hce) hcv hcl9
        (by
          rw [k7]
          rcases hA with ⟨j, hj, hji, hln⟩ | ⟨hj, hln⟩
          · subst hln
            exact lv_astore_n hM.1.1 hM.1.2.1 hj hji hl'.has hi rfl (fun mls' h' => kw p e s m args below meth c ad' mls' T'.heap (locs ++ L) (cells + 1) (slots + 6) hM (by rw [e1]; exact hR1) hS1 (hl'.st0 (v := .ref q9) h' rfl) (by omega) (by omega))
          · subst hln
            exact lv_astore hM.1.1 hM.1.2.1 hj hl'.has hi rfl (fun mls' h' => kw p e s m args below meth c ad' mls' T'.heap (locs ++ L) (cells + 1) (slots + 6) hM (by rw [e1]; exact hR1) hS1 (hl'.st0 (v := .ref q9) h' rfl) (by omega) (by omega)))
      obtain ⟨t2, a1, b1⟩ := hc9 T' rfl X'
      exact ⟨t2, stp.trans a1, hQ _ _ _ _ _ _ hag b1⟩
end XX
