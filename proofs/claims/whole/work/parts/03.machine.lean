/-! My own judgement over the kit's rows: a method's run as it is seen on numbered cells. -/
/-- a method: its name, its code, its locals, its answer's type, its handlers -/
abbrev xM : Type := MethodName × ByteArray × Nat × Option FieldType × List (Nat × Nat × Nat × Nat)
/-- what ints and longs the cells hold, by cell and place -/
abbrev xS : Type := (Nat → Nat → Int32) × (Nat → Nat → Int64)
/-- which references the cells hold -/
abbrev xR : Type := Nat → Nat → Option Nat
/-- the cells' kinds: below 50 an object of that class, 50 a row of ints, 51 of booleans, 52 of longs, with its length -/
abbrev xH : Type := List (Nat × Nat)
def x_tr (ad : Nat → Nat) (v : Value) : Value := match v with
  | .ref q => .ref (ad q)
  | w => w
theorem x_tr_cat (ad : Nat → Nat) (v : Value) : (x_tr ad v).category = v.category := by cases v <;> rfl
theorem x_tr_sum (ad : Nat → Nat) (st : List Value) : ((st.map (x_tr ad)).map fun v => v.category).sum = (st.map fun v => v.category).sum := by
  induction st with
  | nil => rfl
  | cons a t ih => simp only [List.map_cons, List.sum_cons, x_tr_cat, ih]
/-- the class tables: a class's name, its fields, how many; the fields' kinds: 0 an int or boolean, 1 a long, 2 a reference -/
def x_fv (ad : Nat → Nat) (rf : xR) (σ : xS) (p k tc : Nat) : Value :=
  if tc = 0 then .int (σ.1 p k) else if tc = 1 then .long (σ.2 p k) else va_rf ((rf p k).map ad)
def x_cell (cl : List vw_C) (fk : Nat → Nat → Nat) (D : va_G) (cA : Nat → ClassId) (ad : Nat → Nat) (rf : xR) (σ : xS) (H : Heap) (p : Nat) (s : Nat × Nat) : Prop :=
  if s.1 < 50 then ∃ r : vw_C, cl[s.1]? = some r ∧ t_OB (ad p) (D.1 s.1) r.2.2 (D.2 s.1) H (fun k => x_fv ad rf σ p k (fk s.1 k))
  else if s.1 = 52 then H[ad p]? = some (arrV (cA 52) s.2 (fun j => .long (σ.2 p j)))
  else H[ad p]? = some (arrV (cA s.1) s.2 (fun j => .int (σ.1 p j)))
theorem x_cell.kept {cl : List vw_C} {fk : Nat → Nat → Nat} {D : va_G} {cA : Nat → ClassId} {ad : Nat → Nat} {rf rf' : xR} {σ σ' : xS} {H H1 : Heap} {p : Nat} {s : Nat × Nat} (h : x_cell cl fk D cA ad rf σ H p s) (hq : H1[ad p]? = H[ad p]?)
    (h1 : ∀ k, σ'.1 p k = σ.1 p k) (h2 : ∀ k, σ'.2 p k = σ.2 p k) (h3 : ∀ k, rf' p k = rf p k) : x_cell cl fk D cA ad rf' σ' H1 p s := by
  have e1 : σ'.1 p = σ.1 p := funext h1
  have e2 : σ'.2 p = σ.2 p := funext h2
  have e3 : rf' p = rf p := funext h3
  unfold x_cell at h ⊢
  split at h
  · rename_i hc
    rw [if_pos hc]
    obtain ⟨r, g1, g2⟩ := h
    refine ⟨r, g1, (g2.kept hq).to (fun k _ => ?_)⟩
    simp only [x_fv, e1, e2, e3]
  · rename_i hc
    rw [if_neg hc]
    split at h
    · rename_i hc2
      rw [if_pos hc2, hq, e2]; exact h
    · rename_i hc2
      rw [if_neg hc2, hq, e1]; exact h
theorem x_cell.lt {cl : List vw_C} {fk : Nat → Nat → Nat} {D : va_G} {cA : Nat → ClassId} {ad : Nat → Nat} {rf : xR} {σ : xS} {H : Heap} {p : Nat} {s : Nat × Nat} (h : x_cell cl fk D cA ad rf σ H p s) : ad p < H.size := by
  unfold x_cell at h
  split at h
  · obtain ⟨r, g1, cell, g2, -⟩ := h
    exact (Array.getElem?_eq_some_iff.mp g2).1
  · split at h
    · exact (Array.getElem?_eq_some_iff.mp h).1
    · exact (Array.getElem?_eq_some_iff.mp h).1
/-- the heap H holds the cells, at the addresses ad; below s0's heap nothing has changed -/
def x_Rl (cl : List vw_C) (fk : Nat → Nat → Nat) (s0 : State) (D : va_G) (cA : Nat → ClassId) (sp : Nat → Nat) (gr : Bool) (ad : Nat → Nat) (sh : xH) (rf : xR) (σ : xS) (H : Heap) : Prop :=
  (∀ (p : Nat) (s : Nat × Nat), sh[p]? = some s → x_cell cl fk D cA ad rf σ H p s) ∧
  (∀ p q : Nat, p < sh.length → q < sh.length → ad p = ad q → p = q) ∧
  (∀ p : Nat, p < sh.length → s0.heap.size ≤ ad p) ∧
  s0.heap.size ≤ H.size ∧ (∀ q : Nat, q < s0.heap.size → H[q]? = s0.heap[q]?) ∧
  (gr = true → (∀ p : Nat, p < 1000 → ad p = s0.heap.size + p) ∧ H.size = s0.heap.size + sh.length) ∧ (∀ p : Nat, 1000 ≤ p → ad p = sp p)
/-- what holds of the start s0: the words, the classes -/
def x_Sp (s0 : State) (sp : Nat → Nat) : Prop := True
def x_En (cl : List vw_C) (l : Launch) (s0 : State) (a0 : Array Value) (D : va_G) (cA : Nat → ClassId) (sp : Nat → Nat) : Prop :=
  l.stackTraces = false ∧ (∀ w ∈ lw_tbl, w.before a0 s0 = true) ∧ (∀ (c : Nat) (q : vw_C), cl[c]? = some q → u_Kn s0 q.1 q.2.1 q.2.2 (D.1 c) (D.2 c)) ∧
  ArrOfT s0 (cA 50) .int ∧ ArrOfT s0 (cA 51) .boolean ∧ ArrOfT s0 (cA 52) .long ∧ (Jvm.Cond.and given_1 narrow_1).before a0 s0 = true ∧ x_Sp s0 sp
/-- the method M stands -/
def x_Mx (M : xM) (s0 : State) (p : Program) (m : MethodId) (meth : Method) (c : Code) (s : State) : Prop :=
  (p.tables.exec = Jvm.exec ∧ c.code = M.2.1 ∧ c.maxLocals = M.2.2.1 ∧ s.vm.findClass M.1.cls = some m.cls ∧ meth.sig.returnType = M.2.2.2.1 ∧ meth.locks = false ∧ meth.name = M.1.name ∧ c.exceptionTable.toList = tableOf M.2.2.2.2) ∧
  s0.WarmedH s.vm ∧ s0.heap.size ≤ s.heap.size ∧ ∀ q : Nat, q < s0.heap.size → s.heap[q]? = s0.heap[q]?
/-- the locals -/
def x_lo (ad : Nat → Nat) (n : Nat) (ls : List (Option Value)) (mls : Array Slot) : Prop :=
  mls.size = n ∧ lv_wf mls ∧ ls.length = n ∧ ∀ (i : Nat) (v : Value), ls[i]? = some (some v) → mls[i]? = some (.val (x_tr ad v))
/-- the judgement -/
def x_W (cl : List vw_C) (fk : Nat → Nat → Nat) (l : Launch) (s0 : State) (D : va_G) (cA : Nat → ClassId) (sp : Nat → Nat) (QQ : List Frame → Array Value → State → (Nat → Nat) → State → Prop) (R : Room) (gr : Bool) (M : xM) (bc bs : Nat) (sh : xH) (rf : xR) (pc : Nat) (ls : List (Option Value)) (st : List Value) (σ : xS) : Prop :=
  ∀ (p : Program) (e : Env) (s : State) (m : MethodId) (args : Array Value) (below : List Frame) (meth : Method) (c : Code) (ad : Nat → Nat) (mls : Array Slot) (H : Heap) (locs : List Loc) (cells slots : Nat),
    x_Mx M s0 p m meth c s → x_Rl cl fk s0 D cA sp gr ad sh rf σ H → va_S (fun q => s0.heap.size ≤ q) s.heap H locs → x_lo ad M.2.2.1 ls mls → cells + bc ≤ R.cells → slots + bs ≤ R.slots →
    W p l e R s m args below meth c H locs cells slots (QQ below args s ad) (F0 m pc mls (st.map (x_tr ad)))
theorem x_word {cl : List vw_C} {l : Launch} {s0 : State} {a0 : Array Value} {D : va_G} {cA : Nat → ClassId} {sp : Nat → Nat} (E : x_En cl l s0 a0 D cA sp) {s : State} (hW : s0.WarmedH s.vm) {w : Cond} (h : w ∈ lw_tbl) (hg : goodWord w = true) (args : Array Value) : w.before args s = true :=
  word_at hW (good_of_word hg) (E.2.1 w h)
theorem x_lo.at {ad : Nat → Nat} {n : Nat} {ls : List (Option Value)} {mls : Array Slot} (h : x_lo ad n ls mls) {i : Nat} {v : Value} (hi : ls[i]? = some (some v)) : mls[i]? = some (.val (x_tr ad v)) := h.2.2.2 i v hi
/-- all that is known of the locals, as the kit's rows want it -/
def x_al (ad : Nat → Nat) (ls : List (Option Value)) : List (Nat × Value) := (List.range ls.length).filterMap (fun i => match ls[i]? with
  | some (some v) => some (i, x_tr ad v)
  | _ => none)
theorem x_al_mem {ad : Nat → Nat} {ls : List (Option Value)} {i : Nat} {w : Value} : (i, w) ∈ x_al ad ls ↔ ∃ v, ls[i]? = some (some v) ∧ w = x_tr ad v := by
  unfold x_al
  rw [List.mem_filterMap]
  constructor
  · rintro ⟨a, ha, h⟩
    split at h
    · rename_i v hv
      cases h
      exact ⟨v, hv, rfl⟩
    · cases h
  · rintro ⟨v, hv, rfl⟩
    refine ⟨i, List.mem_range.mpr (List.getElem?_eq_some_iff.mp hv).1, ?_⟩
    rw [hv]
theorem x_lo.has {ad : Nat → Nat} {n : Nat} {ls : List (Option Value)} {mls : Array Slot} (h : x_lo ad n ls mls) : lv_has mls n (x_al ad ls) := by
  refine ⟨h.1, h.2.1, fun q hq => ?_⟩
  obtain ⟨v, hv, hw⟩ := x_al_mem.mp (show (q.1, q.2) ∈ x_al ad ls from hq)
  rw [hw]
  exact h.2.2.2 _ _ hv
/-- a store: of one place, or of two; a long that is written over half goes -/
def x_off (ls : List (Option Value)) (i : Nat) : List (Option Value) := match i with
  | 0 => ls
  | j + 1 => match ls[j]? with
    | some (some (.long _)) => ls.set j none
    | some (some (.double _)) => ls.set j none
    | _ => ls
def x_st1 (ls : List (Option Value)) (i : Nat) (v : Value) : List (Option Value) := (x_off ls i).set i (some v)
def x_st2 (ls : List (Option Value)) (i : Nat) (v : Value) : List (Option Value) := ((x_off ls i).set i (some v)).set (i + 1) none
theorem x_off_len (ls : List (Option Value)) (i : Nat) : (x_off ls i).length = ls.length := by
  unfold x_off
  split
  · rfl
  · split <;> simp
theorem x_off_get {ls : List (Option Value)} {i j : Nat} {v : Value} (h : (x_off ls i)[j]? = some (some v)) : ls[j]? = some (some v) ∧ (j + 1 = i → ¬ v.category = 2) := by
  unfold x_off at h
  split at h
  · exact ⟨h, fun e => by omega⟩
  · rename_i k
    have key : ∀ w, ls[k]? = some (some w) → w.category = 2 → (ls.set k none)[j]? = some (some v) → ls[j]? = some (some v) ∧ (j + 1 = k + 1 → ¬ v.category = 2) := by
      intro w _ _ h
      by_cases e : j = k
      · subst e
        rw [List.getElem?_set] at h
        split at h
        · split at h <;> simp at h
        · rename_i hne; exact absurd rfl hne
      · rw [List.getElem?_set_ne (fun h => e h.symm)] at h
        exact ⟨h, fun e2 => absurd (by omega) e⟩
    split at h
    · rename_i x hx
      exact key _ hx rfl h
    · rename_i x hx
      exact key _ hx rfl h
    · rename_i hn1 hn2
      refine ⟨h, fun e hc => ?_⟩
      have e : j = k := by omega
      subst e
      cases v with
      | long x => exact hn1 _ h
      | double x => exact hn2 _ h
      | _ => simp [Value.category] at hc
theorem x_lo.st1 {ad : Nat → Nat} {n i : Nat} {ls : List (Option Value)} {mls : Array Slot} {v : Value} (h : x_lo ad n ls mls) {mls' : Array Slot} {lv' : List (Nat × Value)} (h' : lv_has mls' n lv')
    (e : (i, x_tr ad v) :: (x_al ad ls).filter (fun q => !(q.1 == i) && !(q.1 + 1 == i && q.2.category == 2)) = lv') : x_lo ad n (x_st1 ls i v) mls' := by
  subst e
  refine ⟨h'.1, h'.2.1, by rw [x_st1, List.length_set, x_off_len]; exact h.2.2.1, fun j w hj => ?_⟩
  by_cases e : j = i
  · subst e
    rw [x_st1, List.getElem?_set] at hj
    split at hj
    · split at hj
      · cases hj
        exact h'.2.2 (j, x_tr ad v) List.mem_cons_self
      · cases hj
    · rename_i hne; exact absurd rfl hne
  · rw [x_st1, List.getElem?_set_ne (fun h => e h.symm)] at hj
    obtain ⟨g1, g2⟩ := x_off_get hj
    refine h'.2.2 (j, x_tr ad w) (List.mem_cons_of_mem _ (List.mem_filter.mpr ⟨x_al_mem.mpr ⟨w, g1, rfl⟩, ?_⟩))
    simp only [x_tr_cat, Bool.and_eq_true, Bool.not_eq_true', beq_eq_false_iff_ne, ne_eq, e, not_false_eq_true, true_and, Bool.and_eq_false_iff, beq_eq_false_iff_ne]
    by_cases e3 : j + 1 = i
    · exact Or.inr (g2 e3)
    · exact Or.inl e3
theorem x_lo.st2 {ad : Nat → Nat} {n i : Nat} {ls : List (Option Value)} {mls : Array Slot} {v : Value} (h : x_lo ad n ls mls) {mls' : Array Slot} {lv' : List (Nat × Value)} (h' : lv_has mls' n lv')
    (e : (i, x_tr ad v) :: (x_al ad ls).filter (fun q => !(q.1 == i) && (!(q.1 == i + 1) && !(q.1 + 1 == i && q.2.category == 2))) = lv') : x_lo ad n (x_st2 ls i v) mls' := by
  subst e
  refine ⟨h'.1, h'.2.1, by rw [x_st2, List.length_set, List.length_set, x_off_len]; exact h.2.2.1, fun j w hj => ?_⟩
  by_cases e2 : j = i + 1
  · subst e2
    rw [x_st2, List.getElem?_set] at hj
    split at hj
    · split at hj <;> simp at hj
    · rename_i hne; exact absurd rfl hne
  rw [x_st2, List.getElem?_set_ne (fun h => e2 h.symm)] at hj
  by_cases e : j = i
  · subst e
    rw [List.getElem?_set] at hj
    split at hj
    · split at hj
      · cases hj
        exact h'.2.2 (j, x_tr ad v) List.mem_cons_self
      · cases hj
    · rename_i hne; exact absurd rfl hne
  · rw [List.getElem?_set_ne (fun h => e h.symm)] at hj
    obtain ⟨g1, g2⟩ := x_off_get hj
    refine h'.2.2 (j, x_tr ad w) (List.mem_cons_of_mem _ (List.mem_filter.mpr ⟨x_al_mem.mpr ⟨w, g1, rfl⟩, ?_⟩))
    simp only [x_tr_cat, Bool.and_eq_true, Bool.not_eq_true', beq_eq_false_iff_ne, ne_eq, e, e2, not_false_eq_true, true_and, Bool.and_eq_false_iff, beq_eq_false_iff_ne]
    by_cases e3 : j + 1 = i
    · exact Or.inr (g2 e3)
    · exact Or.inl e3
