/-! Methods that may throw: what they answer or throw. Written by wip/gen/throws.py. -/
def x_names : List String := ["java/lang/RuntimeException", "java/lang/Exception"]
def x_Xn (k : Nat) : String := if k = 1 then "java/lang/IllegalArgumentException" else "java/util/NoSuchElementException"
def x_mv (w : Cond) : Bool := goodWord w || (match w with
  | .castable _ _ => true
  | .declares _ => true
  | _ => false)
theorem x_mv_at {args a' : Array Value} {s U : State} {w : Cond} (hW : s.WarmedH U.vm) (hg : x_mv w = true) (h : w.before args s = true) : w.before a' U = true := by
  unfold x_mv at hg
  by_cases g : goodWord w = true
  · exact word_at hW (good_of_word g) h
  · cases w with
    | castable a b => exact va_Nw.use rfl (va_Nw.warmC hW (va_Nw.of rfl h))
    | declares a => exact va_Nw.use rfl (va_Nw.warmD hW (va_Nw.of rfl h))
    | _ => simp [g] at hg
/-- the words of a throw of cls out of the class 'own': entries of the class, the text, the constructor -/
def x_KX (own : String) (ik is ic : Nat) (cls text : String) : Prop :=
  Bundle.fit cls = true ∧ Cond.classLink own ik cls ∈ lw_tbl ∧ Cond.initialized cls ∈ lw_tbl ∧ Cond.stringRef own is text ∈ lw_tbl ∧ Cond.exactly (.string own is) "java/lang/String" ∈ flatC (Jvm.Cond.and given_1 narrow_1) ∧
  (∀ w ∈ vx_atS own ic cls x_names, w ∈ lw_tbl ∧ x_mv w = true) ∧ (∀ w ∈ Cond.classLink own ik cls :: Cond.initialized cls :: vx_atS own ic cls x_names, vx_ot w = true)
def x_KN2 (own : String) (ik is ic : Nat) (cls text : String) : Prop :=
  Bundle.fit cls = true ∧ Cond.classLink own ik cls ∈ lw_tbl ∧ Cond.initialized cls ∈ lw_tbl ∧ Cond.stringRef own is text ∈ lw_tbl ∧ Cond.exactly (.string own is) "java/lang/String" ∈ flatC (Jvm.Cond.and given_1 narrow_1) ∧
  (∀ w ∈ x_atF own ic cls "java/lang/RuntimeException" ["java/lang/Exception"], w ∈ lw_tbl ∧ x_mv w = true) ∧ (∀ w ∈ Cond.classLink own ik cls :: Cond.initialized cls :: x_atF own ic cls "java/lang/RuntimeException" ["java/lang/Exception"], vx_ot w = true)
def x_KU : Prop := (Cond.laysStatic Bundle.tN "UNASSIGNED_STACK" Bundle.steD ∈ lw_tbl ∧ Cond.isRef (.static Bundle.tN "UNASSIGNED_STACK" Bundle.steD) ∈ flatC (Jvm.Cond.and given_1 narrow_1)) ∧ (Cond.laysStatic Bundle.tN "SUPPRESSED_SENTINEL" Bundle.listD ∈ lw_tbl ∧ Cond.isRef (.static Bundle.tN "SUPPRESSED_SENTINEL" Bundle.listD) ∈ flatC (Jvm.Cond.and given_1 narrow_1)) ∧ Cond.initialized Bundle.tN ∈ lw_tbl
def x_Qo (cl : List vw_C) (fk : Nat → Nat → Nat) (s0 : State) (D : va_G) (cA : Nat → ClassId) (sp : Nat → Nat) (ad : Nat → Nat) (o : Option Value ⊕ Nat) (sh : xH) (rf : xR) (σ : xS) : Array Value → State → Outcome → State → Prop := fun a st oc t => match o with
  | .inl v => x_Qc cl fk s0 D cA sp false ad v sh rf σ a st oc t
  | .inr _ => False
def x_Xo (cl : List vw_C) (fk : Nat → Nat → Nat) (s0 : State) (D : va_G) (cA : Nat → ClassId) (sp : Nat → Nat) (ad : Nat → Nat) (o : Option Value ⊕ Nat) (sh : xH) (rf : xR) (σ : xS) : String → State → State → Prop := fun E st t => match o with
  | .inl _ => False
  | .inr k => E = x_Xn k ∧ x_Rl cl fk s0 D cA sp false ad sh rf σ t.heap ∧ st.heap.size ≤ t.heap.size
def x_QO (cl : List vw_C) (fk : Nat → Nat → Nat) (s0 : State) (D : va_G) (cA : Nat → ClassId) (sp : Nat → Nat) (o : Option Value ⊕ Nat) (sh : xH) (rf : xR) (σ : xS) : List Frame → Array Value → State → (Nat → Nat) → State → Prop := fun below args s ad =>
  vx_MQ below (x_Qo cl fk s0 D cA sp ad o sh rf σ) (x_Xo cl fk s0 D cA sp ad o sh rf σ) args s 1 6 (fun q => s0.heap.size ≤ q)
/-- the contract of a method that may throw -/
def x_CO (cl : List vw_C) (fk : Nat → Nat → Nat) (l : Launch) (s0 : State) (D : va_G) (cA : Nat → ClassId) (sp : Nat → Nat) (d : Nat) (M : xM) (as : List Value) (sh : xH) (rf : xR) (σ : xS) (o : Option Value ⊕ Nat) (σ1 : xS) : Prop :=
  ∀ ad : Nat → Nat, vx_Met l M.1 [Cond.code M.1 M.2.1 M.2.2.1 M.2.2.2.1] (x_rm d 1 6) (x_Pc cl fk s0 D cA sp false ad as sh rf σ) (x_Qo cl fk s0 D cA sp ad o sh rf σ1) (x_Xo cl fk s0 D cA sp ad o sh rf σ1) 1 6 (fun q => s0.heap.size ≤ q)
section XT
variable {cl : List vw_C} {fk : Nat → Nat → Nat} {l : Launch} {s0 : State} {a0 : Array Value} {D : va_G} {cA : Nat → ClassId} {sp : Nat → Nat} {QQ : List Frame → Array Value → State → (Nat → Nat) → State → Prop} {R : Room} {gr : Bool} {M : xM} {bc bs : Nat} {sh : xH} {rf : xR} {pc : Nat} {ls : List (Option Value)} {st : List Value} {σ : xS}
theorem x_Oret {v : Option Value} (k : x_W cl fk l s0 D cA sp (x_QQ cl fk s0 D cA sp false 1 6 v sh rf σ) R false M bc bs sh rf pc ls st σ) : x_W cl fk l s0 D cA sp (x_QO cl fk s0 D cA sp (.inl v) sh rf σ) R false M bc bs sh rf pc ls st σ := by
  intro p e s m args below meth c ad mls H locs cells slots hM hR hS hl hc hs
  exact vx_ret (k p e s m args below meth c ad mls H locs cells slots hM hR hS hl hc hs)
theorem x_enterO {d : Nat} {as : List Value} {o : Option Value ⊕ Nat} {σ1 : xS} (ls0 : List (Option Value)) (hls : x_args M.2.2.1 as = ls0) (hn : (x_as as).length ≤ M.2.2.1) (hy : plainName M.1.cls = true) (hh : M.2.2.2.2 = [])
    (body : x_W cl fk l s0 D cA sp (x_QO cl fk s0 D cA sp o sh rf σ1) (x_rm d 1 6) false M 1 6 sh rf 0 ls0 [] σ) : x_CO cl fk l s0 D cA sp d M as sh rf σ o σ1 := by
  subst hls
  intro ad
  refine vx_ofW (cc := M.2.1) (maxL := M.2.2.1) (ret := M.2.2.2.1) hy rfl ?_
  intro p e s m args below meth c s₁ B hml hno hv
  obtain ⟨rfl, hW, hR⟩ := hv
  have htab : c.exceptionTable.toList = tableOf M.2.2.2.2 := by
    rw [hh]
    cases ht : c.exceptionTable.toList with
    | nil => rfl
    | cons a t => exact absurd (hno a (by rw [ht]; exact List.mem_cons_self)) (fun h => h)
  rw [lg_entry_eq]
  exact body p e s m _ below meth c ad _ s.heap [] 0 0 ⟨⟨B.exec, B.bytes, hml, findClass_of_methodNamed B.named, B.returns, B.notSynchronized, (name_of_methodNamed B.named B.method).1, htab⟩, hW, hR.2.2.2.1, hR.2.2.2.2.1⟩ hR va_S.rf (x_lo_entry ad as hn) (by show 0 + 1 ≤ 1; omega) (by show 0 + 6 ≤ 6; omega)
set_option maxRecDepth 20000 in
theorem x_throw (E : x_En cl l s0 a0 D cA sp) (U : x_KU) {ik is ic k d : Nat} {text : String} (K : x_KX M.1.cls ik is ic (x_Xn k) text) (hh : M.2.2.2.2 = [])
    (d0 : decode M.2.1 pc = .ok (.new ik, 3)) (d3 : decode M.2.1 (pc + 3) = .ok (.dup, 1)) (d4 : decode M.2.1 (pc + 4) = .ok (.ldc is, 2)) (d6 : decode M.2.1 (pc + 6) = .ok (.invokespecial ic, 3)) (d9 : decode M.2.1 (pc + 9) = .ok (.athrow, 1))
    (hst : (st.map fun v => v.category).sum ≤ 100) : x_W cl fk l s0 D cA sp (x_QO cl fk s0 D cA sp (.inr k) sh rf σ) (x_rm d 1 6) false M 1 6 sh rf pc ls st σ := by
  intro p e s m args below meth c ad mls H locs cells slots hM hR hS hl hc hs
  obtain ⟨k1, k2, k3, k4, k5, k6, k7⟩ := K
  obtain ⟨⟨u1, u2⟩, ⟨u3, u4⟩, u5⟩ := U
  have hgv := E.2.2.2.2.2.2.1
  have hA0 : ∀ a : Nat, a < s0.heap.size → ¬ (fun q => s0.heap.size ≤ q) a := fun a h => Nat.not_le.mpr h
  have hkp : ∀ a : Nat, a < s0.heap.size → ¬ (fun q => s0.heap.size ≤ q) a → s.heap[a]? = s0.heap[a]? := fun a h _ => hM.2.2.2 a h
  have hU := ((vx_Zqof (E.2.1 _ u1) (E.2.1 _ u5) (flat_of_before _ hgv _ u2) hA0).moved hM.2.1.alike).kept hkp
  have hN := ((vx_Zqof (E.2.1 _ u3) (E.2.1 _ u5) (flat_of_before _ hgv _ u4) hA0).moved hM.2.1.alike).kept hkp
  obtain ⟨sa, -, -, -, hsa, -⟩ := Cond.exactly_spec (flat_of_before _ hgv _ k5)
  have hstr := vk_R.warm hM.2.1 (vk_R.of (E.2.1 _ k4) hsa)
  refine vx_throwS (names := x_names) (A := fun q => s0.heap.size ≤ q) hM.1.1 hM.1.2.1 E.1 hM.1.2.2.2.1 k1 (by decide +kernel) (x_word E hM.2.1 k2 rfl args) (x_word E hM.2.1 k3 rfl args) hstr (fun w hw => x_mv_at hM.2.1 (k6 w hw).2 (E.2.1 w (k6 w hw).1)) k7 hU hN hS (by rw [hM.1.2.2.1]; exact hl.1)
    d0 d3 d4 d6 d9 (fun x hx => by rw [hM.1.2.2.2.2.2.2.2, hh] at hx; cases hx) (by show 2 + 3 < d + 8; omega) ?_ (by omega) (by omega) hM.1.2.2.2.2.2.1 (fun t hal hz hq => ⟨rfl, ?_, Nat.le_trans hS.1 hz⟩) hS.2.2 (by show cells + 1 ≤ 1; have : (x_rm d 1 6).cells = 1 := rfl; omega) (by show slots + 6 ≤ 6; have : (x_rm d 1 6).slots = 6 := rfl; omega)
  · rw [x_tr_sum, x_rm_locals]
    show _ + (13 * (2 + 1) + 43) ≤ _
    omega
  · obtain ⟨r1, r2, r3, r4, r5, r6, r7⟩ := hR
    exact ⟨fun p' t' hp' => (r1 p' t' hp').kept (hq _ (r1 p' t' hp').lt) (fun _ => rfl) (fun _ => rfl) (fun _ => rfl), r2, r3, Nat.le_trans r4 hz, fun q h9 => by rw [hq q (Nat.lt_of_lt_of_le h9 r4)]; exact r5 q h9, fun h => (by cases h), r7⟩
set_option maxRecDepth 20000 in
theorem x_throwW (E : x_En cl l s0 a0 D cA sp) (U : x_KU) {ik is ic k d : Nat} {text : String} (K : x_KX M.1.cls ik is ic (x_Xn k) text) (hh : M.2.2.2.2 = [])
    (d0 : decode M.2.1 pc = .ok (.new ik, 3)) (d3 : decode M.2.1 (pc + 3) = .ok (.dup, 1)) (d4 : decode M.2.1 (pc + 4) = .ok (.ldc_w is, 3)) (d6 : decode M.2.1 (pc + 7) = .ok (.invokespecial ic, 3)) (d9 : decode M.2.1 (pc + 10) = .ok (.athrow, 1))
    (hst : (st.map fun v => v.category).sum ≤ 100) : x_W cl fk l s0 D cA sp (x_QO cl fk s0 D cA sp (.inr k) sh rf σ) (x_rm d 1 6) false M 1 6 sh rf pc ls st σ := by
  intro p e s m args below meth c ad mls H locs cells slots hM hR hS hl hc hs
  obtain ⟨k1, k2, k3, k4, k5, k6, k7⟩ := K
  obtain ⟨⟨u1, u2⟩, ⟨u3, u4⟩, u5⟩ := U
  have hgv := E.2.2.2.2.2.2.1
  have hA0 : ∀ a : Nat, a < s0.heap.size → ¬ (fun q => s0.heap.size ≤ q) a := fun a h => Nat.not_le.mpr h
  have hkp : ∀ a : Nat, a < s0.heap.size → ¬ (fun q => s0.heap.size ≤ q) a → s.heap[a]? = s0.heap[a]? := fun a h _ => hM.2.2.2 a h
  have hU := ((vx_Zqof (E.2.1 _ u1) (E.2.1 _ u5) (flat_of_before _ hgv _ u2) hA0).moved hM.2.1.alike).kept hkp
  have hN := ((vx_Zqof (E.2.1 _ u3) (E.2.1 _ u5) (flat_of_before _ hgv _ u4) hA0).moved hM.2.1.alike).kept hkp
  obtain ⟨sa, -, -, -, hsa, -⟩ := Cond.exactly_spec (flat_of_before _ hgv _ k5)
  have hstr := vk_R.warm hM.2.1 (vk_R.of (E.2.1 _ k4) hsa)
  refine vx_throwSW (names := x_names) (A := fun q => s0.heap.size ≤ q) hM.1.1 hM.1.2.1 E.1 hM.1.2.2.2.1 k1 (by decide +kernel) (x_word E hM.2.1 k2 rfl args) (x_word E hM.2.1 k3 rfl args) hstr (fun w hw => x_mv_at hM.2.1 (k6 w hw).2 (E.2.1 w (k6 w hw).1)) k7 hU hN hS (by rw [hM.1.2.2.1]; exact hl.1)
    d0 d3 d4 d6 d9 (fun x hx => by rw [hM.1.2.2.2.2.2.2.2, hh] at hx; cases hx) (by show 2 + 3 < d + 8; omega) ?_ (by omega) (by omega) hM.1.2.2.2.2.2.1 (fun t hal hz hq => ⟨rfl, ?_, Nat.le_trans hS.1 hz⟩) hS.2.2 (by show cells + 1 ≤ 1; have : (x_rm d 1 6).cells = 1 := rfl; omega) (by show slots + 6 ≤ 6; have : (x_rm d 1 6).slots = 6 := rfl; omega)
  · rw [x_tr_sum, x_rm_locals]
    show _ + (13 * (2 + 1) + 43) ≤ _
    omega
  · obtain ⟨r1, r2, r3, r4, r5, r6, r7⟩ := hR
    exact ⟨fun p' t' hp' => (r1 p' t' hp').kept (hq _ (r1 p' t' hp').lt) (fun _ => rfl) (fun _ => rfl) (fun _ => rfl), r2, r3, Nat.le_trans r4 hz, fun q h9 => by rw [hq q (Nat.lt_of_lt_of_le h9 r4)]; exact r5 q h9, fun h => (by cases h), r7⟩
set_option maxRecDepth 20000 in
theorem x_throwN (E : x_En cl l s0 a0 D cA sp) (U : x_KU) {ik is ic k d : Nat} {text : String} (K : x_KN2 M.1.cls ik is ic (x_Xn k) text) (hh : M.2.2.2.2 = [])
    (d0 : decode M.2.1 pc = .ok (.new ik, 3)) (d3 : decode M.2.1 (pc + 3) = .ok (.dup, 1)) (d4 : decode M.2.1 (pc + 4) = .ok (.ldc is, 2)) (d6 : decode M.2.1 (pc + 6) = .ok (.invokespecial ic, 3)) (d9 : decode M.2.1 (pc + 9) = .ok (.athrow, 1))
    (hst : (st.map fun v => v.category).sum ≤ 100) : x_W cl fk l s0 D cA sp (x_QO cl fk s0 D cA sp (.inr k) sh rf σ) (x_rm d 1 6) false M 1 6 sh rf pc ls st σ := by
  intro p e s m args below meth c ad mls H locs cells slots hM hR hS hl hc hs
  obtain ⟨k1, k2, k3, k4, k5, k6, k7⟩ := K
  obtain ⟨⟨u1, u2⟩, ⟨u3, u4⟩, u5⟩ := U
  have hgv := E.2.2.2.2.2.2.1
  have hA0 : ∀ a : Nat, a < s0.heap.size → ¬ (fun q => s0.heap.size ≤ q) a := fun a h => Nat.not_le.mpr h
  have hkp : ∀ a : Nat, a < s0.heap.size → ¬ (fun q => s0.heap.size ≤ q) a → s.heap[a]? = s0.heap[a]? := fun a h _ => hM.2.2.2 a h
  have hU := ((vx_Zqof (E.2.1 _ u1) (E.2.1 _ u5) (flat_of_before _ hgv _ u2) hA0).moved hM.2.1.alike).kept hkp
  have hN := ((vx_Zqof (E.2.1 _ u3) (E.2.1 _ u5) (flat_of_before _ hgv _ u4) hA0).moved hM.2.1.alike).kept hkp
  obtain ⟨sa, -, -, -, hsa, -⟩ := Cond.exactly_spec (flat_of_before _ hgv _ k5)
  have hstr := vk_R.warm hM.2.1 (vk_R.of (E.2.1 _ k4) hsa)
  refine x_throwNS (sup := "java/lang/RuntimeException") (names := ["java/lang/Exception"]) (A := fun q => s0.heap.size ≤ q) hM.1.1 hM.1.2.1 E.1 hM.1.2.2.2.1 k1 (by decide +kernel) (by decide +kernel) (x_word E hM.2.1 k2 rfl args) (x_word E hM.2.1 k3 rfl args) hstr (fun w hw => x_mv_at hM.2.1 (k6 w hw).2 (E.2.1 w (k6 w hw).1)) k7 hU hN hS (by rw [hM.1.2.2.1]; exact hl.1)
    d0 d3 d4 d6 d9 (fun x hx => by rw [hM.1.2.2.2.2.2.2.2, hh] at hx; cases hx) (by show 1 + 4 < d + 8; omega) ?_ (by omega) (by omega) hM.1.2.2.2.2.2.1 (fun t hal hz hq => ⟨rfl, ?_, Nat.le_trans hS.1 hz⟩) hS.2.2 (by show cells + 1 ≤ 1; have : (x_rm d 1 6).cells = 1 := rfl; omega) (by show slots + 6 ≤ 6; have : (x_rm d 1 6).slots = 6 := rfl; omega)
  · rw [x_tr_sum, x_rm_locals]
    show _ + (13 * (1 + 2) + 43) ≤ _
    omega
  · obtain ⟨r1, r2, r3, r4, r5, r6, r7⟩ := hR
    exact ⟨fun p' t' hp' => (r1 p' t' hp').kept (hq _ (r1 p' t' hp').lt) (fun _ => rfl) (fun _ => rfl) (fun _ => rfl), r2, r3, Nat.le_trans r4 hz, fun q h9 => by rw [hq q (Nat.lt_of_lt_of_le h9 r4)]; exact r5 q h9, fun h => (by cases h), r7⟩
set_option maxRecDepth 20000 in
theorem x_throwNW2 (E : x_En cl l s0 a0 D cA sp) (U : x_KU) {ik is ic k d : Nat} {text : String} (K : x_KN2 M.1.cls ik is ic (x_Xn k) text) (hh : M.2.2.2.2 = [])
    (d0 : decode M.2.1 pc = .ok (.new ik, 3)) (d3 : decode M.2.1 (pc + 3) = .ok (.dup, 1)) (d4 : decode M.2.1 (pc + 4) = .ok (.ldc_w is, 3)) (d6 : decode M.2.1 (pc + 7) = .ok (.invokespecial ic, 3)) (d9 : decode M.2.1 (pc + 10) = .ok (.athrow, 1))
    (hst : (st.map fun v => v.category).sum ≤ 100) : x_W cl fk l s0 D cA sp (x_QO cl fk s0 D cA sp (.inr k) sh rf σ) (x_rm d 1 6) false M 1 6 sh rf pc ls st σ := by
  intro p e s m args below meth c ad mls H locs cells slots hM hR hS hl hc hs
  obtain ⟨k1, k2, k3, k4, k5, k6, k7⟩ := K
  obtain ⟨⟨u1, u2⟩, ⟨u3, u4⟩, u5⟩ := U
  have hgv := E.2.2.2.2.2.2.1
  have hA0 : ∀ a : Nat, a < s0.heap.size → ¬ (fun q => s0.heap.size ≤ q) a := fun a h => Nat.not_le.mpr h
  have hkp : ∀ a : Nat, a < s0.heap.size → ¬ (fun q => s0.heap.size ≤ q) a → s.heap[a]? = s0.heap[a]? := fun a h _ => hM.2.2.2 a h
  have hU := ((vx_Zqof (E.2.1 _ u1) (E.2.1 _ u5) (flat_of_before _ hgv _ u2) hA0).moved hM.2.1.alike).kept hkp
  have hN := ((vx_Zqof (E.2.1 _ u3) (E.2.1 _ u5) (flat_of_before _ hgv _ u4) hA0).moved hM.2.1.alike).kept hkp
  obtain ⟨sa, -, -, -, hsa, -⟩ := Cond.exactly_spec (flat_of_before _ hgv _ k5)
  have hstr := vk_R.warm hM.2.1 (vk_R.of (E.2.1 _ k4) hsa)
  refine x_throwNW (sup := "java/lang/RuntimeException") (names := ["java/lang/Exception"]) (A := fun q => s0.heap.size ≤ q) hM.1.1 hM.1.2.1 E.1 hM.1.2.2.2.1 k1 (by decide +kernel) (by decide +kernel) (x_word E hM.2.1 k2 rfl args) (x_word E hM.2.1 k3 rfl args) hstr (fun w hw => x_mv_at hM.2.1 (k6 w hw).2 (E.2.1 w (k6 w hw).1)) k7 hU hN hS (by rw [hM.1.2.2.1]; exact hl.1)
    d0 d3 d4 d6 d9 (fun x hx => by rw [hM.1.2.2.2.2.2.2.2, hh] at hx; cases hx) (by show 1 + 4 < d + 8; omega) ?_ (by omega) (by omega) hM.1.2.2.2.2.2.1 (fun t hal hz hq => ⟨rfl, ?_, Nat.le_trans hS.1 hz⟩) hS.2.2 (by show cells + 1 ≤ 1; have : (x_rm d 1 6).cells = 1 := rfl; omega) (by show slots + 6 ≤ 6; have : (x_rm d 1 6).slots = 6 := rfl; omega)
  · rw [x_tr_sum, x_rm_locals]
    show _ + (13 * (1 + 2) + 43) ≤ _
    omega
  · obtain ⟨r1, r2, r3, r4, r5, r6, r7⟩ := hR
    exact ⟨fun p' t' hp' => (r1 p' t' hp').kept (hq _ (r1 p' t' hp').lt) (fun _ => rfl) (fun _ => rfl) (fun _ => rfl), r2, r3, Nat.le_trans r4 hz, fun q h9 => by rw [hq q (Nat.lt_of_lt_of_le h9 r4)]; exact r5 q h9, fun h => (by cases h), r7⟩
end XT
def x_oi (r : Int32 ⊕ Nat) : Option Value ⊕ Nat := match r with
  | .inl v => .inl (some (.int v))
  | .inr k => .inr k
abbrev oQ (s0 : State) (D : va_G) (cA : Nat → ClassId) (sp : Nat → Nat) (o : Option Value ⊕ Nat) (σ : xS) : List Frame → Array Value → State → (Nat → Nat) → State → Prop := x_QO CL FK s0 D cA sp o SH RF σ
abbrev oC (l : Launch) (s0 : State) (D : va_G) (cA : Nat → ClassId) (sp : Nat → Nat) (d : Nat) (M : xM) (as : List Value) (σ : xS) (o : Option Value ⊕ Nat) (σ1 : xS) : Prop :=
  x_CO CL FK l s0 D cA sp d M as SH RF σ o σ1
theorem KU_ : x_KU := ⟨⟨(List.mem_append_right _ (List.mem_of_getElem? (i := 571) (by decide +kernel))), (List.mem_of_getElem? (i := 4) (by decide +kernel))⟩, ⟨(List.mem_append_right _ (List.mem_of_getElem? (i := 573) (by decide +kernel))), (List.mem_of_getElem? (i := 5) (by decide +kernel))⟩, (List.mem_append_right _ (List.mem_of_getElem? (i := 10) (by decide +kernel)))⟩
