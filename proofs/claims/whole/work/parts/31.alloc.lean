/-! New cells. Written by wip/gen/alloc.py. -/
def x_d0 (tc : Nat) : Value := if tc = 0 then .int 0 else if tc = 1 then .long 0 else .null
def x_nR (rf : xR) (q : Nat) : xR := fun a b => if a = q then none else rf a b
def x_n0 (σ : xS) (q : Nat) : xS := (fun a b => if a = q then 0 else σ.1 a b, fun a b => if a = q then 0 else σ.2 a b)
/-- the words of 'new' by entry n of the class 'own': class ci, of N fields -/
def x_KW (cl : List vw_C) (fk : Nat → Nat → Nat) (own : String) (n ci N : Nat) : Prop :=
  ∃ (C : String) (T : u_T) (ty0 : Nat → FieldType), cl[ci]? = some (C, T, N) ∧ ci < 50 ∧ Cond.classLink own n C ∈ lw_tbl ∧ Cond.instantiable C N ∈ lw_tbl ∧ Cond.initialized C ∈ lw_tbl ∧
    (∀ w ∈ u_ws C T N, w ∈ lw_tbl ∧ goodWord w = true) ∧ (∀ j, j < N → parseFieldDescriptor (T j).2.2.1 = some (ty0 j)) ∧ ∀ j, j < N → defaultValue (ty0 j) = x_d0 (fk ci j)
theorem x_Rl.grow {cl : List vw_C} {fk : Nat → Nat → Nat} {s0 : State} {D : va_G} {cA : Nat → ClassId} {sp : Nat → Nat} {ad : Nat → Nat} {sh : xH} {rf : xR} {σ : xS} {H H1 : Heap} (hR : x_Rl cl fk s0 D cA sp true ad sh rf σ H) {s : Nat × Nat} (hn : sh.length < 1000) (hz : H1.size = H.size + 1) (oq : ∀ q, q < H.size → H1[q]? = H[q]?)
    (hnew : x_cell cl fk D cA ad (x_nR rf sh.length) (x_n0 σ sh.length) H1 sh.length s) : x_Rl cl fk s0 D cA sp true ad (sh ++ [s]) (x_nR rf sh.length) (x_n0 σ sh.length) H1 := by
  obtain ⟨r1, r2, r3, r4, r5, r6, r7⟩ := hR
  obtain ⟨g1, g2⟩ := r6 rfl
  refine ⟨fun p t hp => ?_, fun p q hp hq h => ?_, fun p hp => ?_, by omega, fun q hq => ?_, fun _ => ⟨g1, by rw [hz, g2, List.length_append]; rfl⟩, r7⟩
  · by_cases hl : p < sh.length
    · rw [List.getElem?_append_left hl] at hp
      have e : ∀ {α : Type} (x y : α), (if p = sh.length then x else y) = y := fun x y => if_neg (by omega)
      exact (r1 p t hp).kept (oq _ (r1 p t hp).lt) (fun k => e _ _) (fun k => e _ _) (fun k => e _ _)
    · have hlt : p < (sh ++ [s]).length := (List.getElem?_eq_some_iff.mp hp).1
      rw [List.length_append] at hlt
      have e : p = sh.length := by simp at hlt; omega
      subst e
      rw [List.getElem?_append_right (Nat.le_refl _), Nat.sub_self] at hp
      cases hp
      exact hnew
  · rw [List.length_append] at hp hq
    simp at hp hq
    rw [g1 p (by omega), g1 q (by omega)] at h
    omega
  · rw [List.length_append] at hp
    simp at hp
    rw [g1 p (by omega)]
    omega
  · rw [oq q (by omega)]
    exact r5 q hq
section XA
variable {cl : List vw_C} {fk : Nat → Nat → Nat} {l : Launch} {s0 : State} {a0 : Array Value} {D : va_G} {cA : Nat → ClassId} {sp : Nat → Nat} {QQ : List Frame → Array Value → State → (Nat → Nat) → State → Prop} {R : Room} {M : xM} {bc bs : Nat} {sh : xH} {rf : xR} {pc : Nat} {ls : List (Option Value)} {st : List Value} {σ : xS}
theorem x_new (E : x_En cl l s0 a0 D cA sp) {n ci N q : Nat} (hd : decode M.2.1 pc = .ok (.new n, 3)) (K : x_KW cl fk M.1.cls n ci N) (hq : sh.length = q) (hn : q < 1000) (sh' : xH) (hs' : sh ++ [(ci, 0)] = sh') (pc' : Nat) (hpc : pc + 3 = pc')
    (kk : x_W cl fk l s0 D cA sp QQ R true M bc bs sh' (x_nR rf q) pc' ls (.ref q :: st) (x_n0 σ q)) : x_W cl fk l s0 D cA sp QQ R true M (bc + 1) (bs + N) sh rf pc ls st σ := by
  subst hpc
  subst hs'
  subst hq
  intro p e s m args below meth c ad mls H locs cells slots hM hR hS hl hc hs
  obtain ⟨C, T, ty0, hcl, h50, k1, k2, k3, hws, hty, hdef⟩ := K
  have hKn := u_Kn_moved hM.2.1.alike (E.2.2.1 ci _ hcl)
  have hts : ∀ w ∈ u_ws C T N, w.before args s = true := fun w hw => x_word E hM.2.1 (hws w hw).1 (hws w hw).2 args
  have hadq : ad sh.length = H.size := by
    obtain ⟨g1, g2⟩ := hR.2.2.2.2.2.1 rfl
    rw [g1 _ hn, g2]
  refine W.newcK hM.1.1 hM.1.2.1 hM.1.2.2.2.1 (x_word E hM.2.1 k1 rfl args) (x_word E hM.2.1 k2 rfl args) (x_word E hM.2.1 k3 rfl args) rfl hd (by omega) (by omega) hKn.2.1 rfl fun H1 kC hkC e1 z1 o1 => ?_
  have hS1 : va_S (fun q => s0.heap.size ≤ q) s.heap H1 locs := ⟨Nat.le_trans hS.1 (by omega), fun x h1 h2 => (o1 x (Nat.lt_of_lt_of_le h1 hS.1)).trans (hS.2.1 x h1 h2), hS.2.2⟩
  have kk' := kk p e s m args below meth c ad mls H1 locs (cells + 1) (slots + N) hM (hR.grow hn z1 o1 (by
    unfold x_cell
    rw [if_pos (show (ci, 0).1 < 50 from h50)]
    refine ⟨_, hcl, ?_⟩
    rw [hadq]
    exact (u_born ty0 hts (fun _ h => h) hKn hkC e1 hty).to (fun k hk => by rw [hdef k hk]; simp [x_fv, x_d0, x_n0, x_nR, va_rf]))) hS1 hl (by omega) (by omega)
  rw [show (List.map (x_tr ad) (.ref sh.length :: st)) = .ref (ad sh.length) :: List.map (x_tr ad) st from rfl, hadq] at kk'
  exact kk'
theorem x_newA (E : x_En cl l s0 a0 D cA sp) {t N q : Nat} {atype : ArrayType} {ty : FieldType} {n : Int32} (hd : decode M.2.1 pc = .ok (.newarray atype, 2)) (hat : newarray.typeOf atype = ty) (ht : (t = 50 ∧ ty = .int) ∨ (t = 51 ∧ ty = .boolean) ∨ (t = 52 ∧ ty = .long)) (hw : Cond.arrayClass ty ∈ lw_tbl) (hcA : s0.vm.findClass ("[" ++ ty.toString) = some (cA t))
    (h0 : ¬ n < 0) (hN : n.toNatClampNeg = N) (hb : N * componentBytes ty ≤ 536870912) (hq : sh.length = q) (hn : q < 1000) (sh' : xH) (hs' : sh ++ [(t, N)] = sh') (pc' : Nat) (hpc : pc + 2 = pc')
    (kk : x_W cl fk l s0 D cA sp QQ R true M bc bs sh' (x_nR rf q) pc' ls (.ref q :: st) (x_n0 σ q)) : x_W cl fk l s0 D cA sp QQ R true M (bc + 1) (bs + N) sh rf pc ls (.int n :: st) σ := by
  subst hpc
  subst hs'
  subst hq
  subst hat
  intro p e s m args below meth c ad mls H locs cells slots hM hR hS hl hc hs
  have hadq : ad sh.length = H.size := by
    obtain ⟨g1, g2⟩ := hR.2.2.2.2.2.1 rfl
    rw [g1 _ hn, g2]
  refine va_newaK (N := N) hM.1.1 hM.1.2.1 (word_at hM.2.1 (Or.inr ⟨_, rfl⟩) (E.2.1 _ hw)) rfl hd rfl h0 hN hb (by omega) (by omega) rfl fun H1 cB e1 z1 o1 hAr hNm => ?_
  have hcB : cB = cA t := by
    have h9 : s.vm.findClass ("[" ++ (newarray.typeOf atype).toString) = some (cA t) := by rw [hM.2.1.alike.findClass]; exact hcA
    exact Option.some.inj (hNm.symm.trans h9)
  subst hcB
  have hS1 : va_S (fun q => s0.heap.size ≤ q) s.heap H1 locs := ⟨Nat.le_trans hS.1 (by omega), fun x h1 h2 => (o1 x (Nat.lt_of_lt_of_le h1 hS.1)).trans (hS.2.1 x h1 h2), hS.2.2⟩
  have kk' := kk p e s m args below meth c ad mls H1 locs (cells + 1) (slots + N) hM (hR.grow hn z1 o1 (by
    unfold x_cell
    rcases ht with ⟨rfl, ht⟩ | ⟨rfl, ht⟩ | ⟨rfl, ht⟩
    · rw [if_neg (by show ¬ 50 < 50; omega), if_neg (by show ¬ 50 = 52; omega), hadq, e1, ht]
      simp [x_n0, defaultValue]
    · rw [if_neg (by show ¬ 51 < 50; omega), if_neg (by show ¬ 51 = 52; omega), hadq, e1, ht]
      simp [x_n0, defaultValue]
    · rw [if_neg (by show ¬ 52 < 50; omega), if_pos rfl, hadq, e1, ht]
      simp [x_n0, defaultValue])) hS1 hl (by omega) (by omega)
  rw [show (List.map (x_tr ad) (.ref sh.length :: st)) = .ref (ad sh.length) :: List.map (x_tr ad) st from rfl, hadq] at kk'
  exact kk'
/-- references and numbers that no cell holds don't matter -/
theorem x_same {gr : Bool} {rf' : xR} {σ' : xS} (h1 : ∀ (p : Nat) (s : Nat × Nat), sh[p]? = some s → ∀ k, rf' p k = rf p k) (h2 : ∀ (p : Nat) (s : Nat × Nat), sh[p]? = some s → ∀ k, σ'.1 p k = σ.1 p k) (h3 : ∀ (p : Nat) (s : Nat × Nat), sh[p]? = some s → ∀ k, σ'.2 p k = σ.2 p k)
    (kk : x_W cl fk l s0 D cA sp QQ R gr M bc bs sh rf' pc ls st σ') : x_W cl fk l s0 D cA sp QQ R gr M bc bs sh rf pc ls st σ := by
  intro p e s m args below meth c ad mls H locs cells slots hM hR hS hl hc hs
  refine kk p e s m args below meth c ad mls H locs cells slots hM ⟨fun p t hp => (hR.1 p t hp).kept rfl (h2 p t hp) (h3 p t hp) (h1 p t hp), hR.2⟩ hS hl hc hs
end XA
