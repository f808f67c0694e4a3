/-! A call that may throw, and the handler that takes what is thrown. -/
section XV
variable {p : Program} {l : Launch} {e : Env} {R : Room} {s : State} {m : MethodId} {args : Array Value} {below : List Frame} {meth : Method} {c : Code} {H : Heap} {locs : List Loc} {cells slots : Nat} {Q : State → Prop}
variable {mc ms : Nat} {free : Addr → Prop} {A0 A1 : Nat → Prop} {H0 : Heap} {a : Array Value} {pc : Nat} {ls : Array Slot} {st0 rest : List Value}
/-- caught by the row x of this method's table; the rows ahead don't take it -/
theorem vx_catch {own name : String} {E : String} {ce : Cell} {q : Addr} (hown : s.vm.findClass own = some m.cls) (pre : List ExceptionTableEntry) (x : ExceptionTableEntry) (suf : List ExceptionTableEntry) (hsplit : c.exceptionTable.toList = pre ++ x :: suf)
    (hpass : ∀ z ∈ pre, covers z pc = false ∨ (z.catchType ≠ 0 ∧ ∃ nm : String, (Cond.classLink own z.catchType nm).before args s = true ∧ va_Nc E nm s)) (hx : covers x pc = true) (h0 : x.catchType ≠ 0)
    (hlink : (Cond.classLink own x.catchType name).before args s = true) (hcast : (Cond.castable E name).before args s = true) (hcell : H[q]? = some ce) (hv : ce.vm = .none) (hcl : s.vm.findClass E = some ce.cls)
    (kk : W p l e R s m args below meth c H locs cells slots Q (F0 m x.handlerPc ls [.ref q])) : vx_W p l e R s m args below meth c H locs cells slots Q (F0 m pc ls rest) q := by
  intro T hT X
  have hpl : e.platform.magicAccessors = ({} : Platform).magicAccessors := by rw [X.admits.platform]
  obtain ⟨c3, c4, hc3, hc4, hasg⟩ := Cond.castable_spec hcast
  cases Option.some.inj (hc3.symm.trans hcl)
  obtain ⟨c5, hc5, hcl5⟩ := Cond.classLink_spec hown hlink e.platform hpl
  cases Option.some.inj (hc4.symm.trans hc5)
  obtain ⟨vm', X', st⟩ := Stand.thenCaughtThrough X q (g := F0 m pc ls rest) rfl (Steps.refl _) (by rw [hT]; exact hcell) (by rw [hv]; rfl) (by obtain ⟨k9, h9, -⟩ := Vm.findClass_spec hcl; exact ⟨k9, h9⟩) pre x suf hsplit
    (fun z hz => by
      rcases hpass z hz with h | ⟨hz0, nm, hl1, hn1⟩
      · exact Or.inl h
      · obtain ⟨c6, hc6, hcl6⟩ := Cond.classLink_spec hown hl1 e.platform hpl
        obtain ⟨a8, b8, h1, h2, h3⟩ := hn1
        cases Option.some.inj (h1.symm.trans hcl)
        cases Option.some.inj (h2.symm.trans hc6)
        exact Or.inr ⟨hz0, _, hcl6, h3⟩) hx (Or.inr ⟨h0, c4, hcl5, hasg⟩)
  obtain ⟨t, a1, b1⟩ := kk (T.setVm vm') hT X'
  exact ⟨t, st.trans a1, b1⟩
end XV
theorem x_lo.st0 {ad : Nat → Nat} {n i : Nat} {ls : List (Option Value)} {mls : Array Slot} {v : Value} (h : x_lo ad n ls mls) {mls' : Array Slot} {lv' : List (Nat × Value)} (h' : lv_has mls' n lv')
    (e : (i, v) :: (x_al ad ls).filter (fun q => !(q.1 == i) && !(q.1 + 1 == i && q.2.category == 2)) = lv') : x_lo ad n ((x_off ls i).set i none) mls' := by
  subst e
  refine ⟨h'.1, h'.2.1, by rw [List.length_set, x_off_len]; exact h.2.2.1, fun j w hj => ?_⟩
  by_cases e : j = i
  · subst e
    rw [List.getElem?_set] at hj
    split at hj
    · split at hj <;> simp at hj
    · rename_i hne; exact absurd rfl hne
  · rw [List.getElem?_set_ne (fun h => e h.symm)] at hj
    obtain ⟨g1, g2⟩ := x_off_get hj
    refine h'.2.2 (j, x_tr ad w) (List.mem_cons_of_mem _ (List.mem_filter.mpr ⟨x_al_mem.mpr ⟨w, g1, rfl⟩, ?_⟩))
    simp only [x_tr_cat, Bool.and_eq_true, Bool.not_eq_true', beq_eq_false_iff_ne, ne_eq, e, not_false_eq_true, true_and, Bool.and_eq_false_iff, beq_eq_false_iff_ne]
    by_cases e3 : j + 1 = i
    · exact Or.inr (g2 e3)
    · exact Or.inl e3
/-- a row of the table hh takes what is thrown at pc, of the class k, at hp; the rows ahead don't -/
def x_KHd (own : String) (hh : List (Nat × Nat × Nat × Nat)) (pc k hp : Nat) : Prop :=
  ∃ (pre : List ExceptionTableEntry) (x : ExceptionTableEntry) (suf : List ExceptionTableEntry), tableOf hh = pre ++ x :: suf ∧
    (∀ z ∈ pre, covers z pc = false ∨ (z.catchType ≠ 0 ∧ ∃ nm : String, Cond.classLink own z.catchType nm ∈ lw_tbl ∧ Cond.not (.castable (x_Xn k) nm) ∈ flatC (Jvm.Cond.and given_1 narrow_1))) ∧
    covers x pc = true ∧ x.catchType ≠ 0 ∧ Cond.classLink own x.catchType (x_Xn k) ∈ lw_tbl ∧ Cond.castable (x_Xn k) (x_Xn k) ∈ lw_tbl ∧ x.handlerPc = hp
/-- the handler's first instruction lays the exception into the place i -/
def x_AS (cc : ByteArray) (hp i ln : Nat) : Prop := (∃ j : Fin 4, decode cc hp = .ok (.astore_n j, 1) ∧ (j : Nat) = i ∧ ln = 1) ∨ (decode cc hp = .ok (.astore i, 2) ∧ ln = 2)
section XC
variable {cl : List vw_C} {fk : Nat → Nat → Nat} {l : Launch} {s0 : State} {a0 : Array Value} {D : va_G} {cA : Nat → ClassId} {sp : Nat → Nat} {QQ : List Frame → Array Value → State → (Nat → Nat) → State → Prop} {R : Room} {M : xM} {bc bs : Nat} {sh : xH} {rf : xR} {pc : Nat} {ls : List (Option Value)} {st : List Value} {σ : xS}
theorem x_callOC (E : x_En cl l s0 a0 D cA sp) {n np d q ci u : Nat} {N : xM} {as rest : List Value} {o : Option Value ⊕ Nat} {σ1 : xS} {T : u_T} {nf : Nat} (hd : decode M.2.1 pc = .ok (.invokevirtual n, 3)) (K : x_KV M.1.cls n N np) (F : x_fit d N R)
    (hp : sh[q]? = some (ci, u)) (h50 : ci < 50) (hcl : cl[ci]? = some (N.1.cls, T, nf)) (hn : as.length = np) (hst : as.reverse ++ .ref q :: rest = st) (hw : (rest.map fun v => v.category).sum ≤ 8)
    (C : x_CO cl fk l s0 D cA sp d N (.ref q :: as) sh rf σ o σ1) (pc' : Nat) (hpc : pc + 3 = pc')
    (kk : ∀ v : Option Value, o = .inl v → x_W cl fk l s0 D cA sp QQ R false M bc bs sh rf pc' ls (v.toList ++ rest) σ1)
    (kx : ∀ k : Nat, o = .inr k → ∃ (hp i ln : Nat), x_KHd M.1.cls M.2.2.2.2 pc k hp ∧ x_AS M.2.1 hp i ln ∧ i < M.2.2.1 ∧ x_W cl fk l s0 D cA sp QQ R false M bc bs sh rf (hp + ln) ((x_off ls i).set i none) [] σ1) :
    x_W cl fk l s0 D cA sp QQ R false M (bc + 1) (bs + 6) sh rf pc ls st σ := by
  subst hpc
  intro p e s m args below meth c ad mls H locs cells slots hM hR hS hl hc hs
  subst hst
  have hcell := hR.1 q (ci, u) hp
  unfold x_cell at hcell
  rw [if_pos (show (ci, u).1 < 50 from h50)] at hcell
  obtain ⟨r, g1, cell, q1, q2, q3, q4⟩ := hcell
  obtain ⟨-, hfc, -⟩ := u_Kn_moved hM.2.1.alike (E.2.2.1 ci _ hcl)
  have hr := vx_runV (H := H) (locs := locs) (cells := cells) (slots := slots) (below := below) (meth := meth) (e := e) (R := R) (rest := rest.map (x_tr ad)) (g := F0 m pc mls ((as.reverse ++ .ref q :: rest).map (x_tr ad))) (Ts := []) (C := N.1.cls) (b := ad q) (As := as.map (x_tr ad)) ⟨hM.1.1, hM.1.2.1, hM.1.2.2.1, hM.1.2.2.2.1, fun _ h => by cases h⟩ (C ad) ⟨x_callB E hM.2.1 K.1 F args, x_word E hM.2.1 K.2.1 rfl args, x_word E hM.2.1 K.2.2 rfl args⟩
    ⟨x_blind, ⟨cell, q1, by rw [q3]; rfl, by rw [q2]; exact hfc⟩, fun U hU hWU => ⟨rfl, hM.2.1.trans hWU, by rw [hU]; exact hR⟩⟩ rfl (by rw [List.length_map]; exact hn) hl.1 (by
      show List.map (x_tr ad) (as.reverse ++ .ref q :: rest) = (as.map (x_tr ad)).reverse ++ .ref (ad q) :: rest.map (x_tr ad)
      rw [List.map_append, List.map_reverse]
      rfl) (lv_room (by rw [x_tr_sum]; exact hw)) hd ⟨by omega, by omega⟩
  intro T1 hT1 X1
  rcases hr T1 hT1 X1 with ⟨v', st₀, t, T', L, h0, X', hL, e1, e2, hQ, stp⟩ | ⟨q9, st₀, t, T', L, E9, ce, h0, X', hL, e1, e2, hQ, hce, hcv, hcl9, stp⟩
  · cases o with
    | inr k => exact hQ.elim
    | inl v =>
      obtain ⟨ho, hR1, hW1, hz⟩ := hQ
      have hv : v' = v.map (x_tr ad) := Outcome.returned.inj ho
      subst hv
      rw [x_toList] at stp
      rw [h0] at hz
      have hsz : s.heap.size ≤ T'.heap.size := Nat.le_trans hS.1 (by rw [e1]; exact hz)
      obtain ⟨t2, a1, b1⟩ := kk v rfl p e s m args below meth c ad mls T'.heap (locs ++ L) (cells + 1) (slots + 6) hM (by rw [e1]; exact hR1)
        ⟨hsz, fun q g1 g2 => by
          have g3 : q < s0.heap.size := Nat.lt_of_not_le g2
          rw [e1, hR1.2.2.2.2.1 q g3, hM.2.2.2 q g3], fun q hq => (List.mem_append.mp hq).elim (hS.2.2 q) (hL q)⟩ hl (by omega) (by omega) T' rfl X'
      exact ⟨t2, stp t2 a1, b1⟩
  · cases o with
    | inl v => exact hQ.elim
    | inr k =>
      obtain ⟨hE, hR1, hz⟩ := hQ
      subst hE
      rw [h0] at hz
      have hsz : s.heap.size ≤ T'.heap.size := Nat.le_trans hS.1 (by rw [e1]; exact hz)
      obtain ⟨hp, i, ln, ⟨pre, x, suf, k1, k2, k3, k4, k5, k6, k7⟩, hA, hi, kw⟩ := kx k rfl
      have hgv := E.2.2.2.2.2.2.1
      have hS1 : va_S (fun q => s0.heap.size ≤ q) s.heap T'.heap (locs ++ L) := ⟨hsz, fun q g1 g2 => by
          have g3 : q < s0.heap.size := Nat.lt_of_not_le g2
          rw [e1, hR1.2.2.2.2.1 q g3, hM.2.2.2 q g3], fun q hq => (List.mem_append.mp hq).elim (hS.2.2 q) (hL q)⟩
      have hc9 := vx_catch (p := p) (l := l) (e := e) (R := R) (below := below) (meth := meth) (locs := locs ++ L) (cells := cells + 1) (slots := slots + 6) (Q := QQ below args s ad) (ls := mls) (rest := rest.map (x_tr ad)) (pc := pc) (H := T'.heap) (q := q9) (ce := ce) (c := c) (own := M.1.cls) (name := x_Xn k) (E := x_Xn k) hM.1.2.2.2.1 pre x suf (by rw [hM.1.2.2.2.2.2.2.2]; exact k1)
        (fun z hz => (k2 z hz).elim Or.inl (fun ⟨z0, nm, z1, z2⟩ => Or.inr ⟨z0, nm, x_word E hM.2.1 z1 rfl args, va_Nc.moved hM.2.1.alike (va_Nc.of (flat_of_before _ hgv _ z2))⟩)) k3 k4 (x_word E hM.2.1 k5 rfl args) (x_mv_at hM.2.1 rfl (E.2.1 _ k6)) (by rw [e1]; exact hce) hcv hcl9
        (by
          rw [k7]
          rcases hA with ⟨j, hj, hji, hln⟩ | ⟨hj, hln⟩
          · subst hln
            exact lv_astore_n hM.1.1 hM.1.2.1 hj hji hl.has hi rfl (fun mls' h' => kw p e s m args below meth c ad mls' T'.heap (locs ++ L) (cells + 1) (slots + 6) hM (by rw [e1]; exact hR1) hS1 (hl.st0 (v := .ref q9) h' rfl) (by omega) (by omega))
          · subst hln
            exact lv_astore hM.1.1 hM.1.2.1 hj hl.has hi rfl (fun mls' h' => kw p e s m args below meth c ad mls' T'.heap (locs ++ L) (cells + 1) (slots + 6) hM (by rw [e1]; exact hR1) hS1 (hl.st0 (v := .ref q9) h' rfl) (by omega) (by omega)))
      obtain ⟨t2, a1, b1⟩ := hc9 T' rfl X'
      exact ⟨t2, stp.trans a1, b1⟩
end XC
