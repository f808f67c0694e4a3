/-! Static calls of nest mates; System.arraycopy. Written by wip/gen/more.py. -/
def x_KT (own : String) (n : Nat) (N : xM) (np : Nat) (host : String) : Prop :=
  (Cond.methodLinkNest own n N.1 host ∈ lw_tbl ∧ Cond.code N.1 N.2.1 N.2.2.1 N.2.2.2.1 ∈ lw_tbl ∧ Cond.initialized N.1.cls ∈ lw_tbl ∧ (N.1.cls ≠ "java/lang/invoke/MethodHandle" ∧ N.1.cls ≠ "java/lang/invoke/VarHandle") ∧ (parseMethodDescriptor N.1.desc).map (fun d => d.parameters.length) = some np) ∧ Cond.static N.1 ∈ lw_tbl
/-- n places of the row a come into the row b -/
def x_cp (σ : xS) (a b n : Nat) : xS := (fun p k => if p = b ∧ k < n then σ.1 a k else σ.1 p k, σ.2)
section XO
variable {cl : List vw_C} {fk : Nat → Nat → Nat} {l : Launch} {s0 : State} {a0 : Array Value} {D : va_G} {cA : Nat → ClassId} {sp : Nat → Nat} {QQ : List Frame → Array Value → State → (Nat → Nat) → State → Prop} {R : Room} {gr : Bool} {M : xM} {bc bs : Nat} {sh : xH} {rf : xR} {pc : Nat} {ls : List (Option Value)} {st : List Value} {σ : xS}
theorem x_callT (E : x_En cl l s0 a0 D cA sp) {n np d mc ms : Nat} {N : xM} {host : String} {as rest : List Value} {v : Option Value} {sh1 : xH} {rf1 : xR} {σ1 : xS} (hd : decode M.2.1 pc = .ok (.invokestatic n, 3)) (K : x_KT M.1.cls n N np host) (F : x_fit d N R)
    (hn : as.length = np) (hst : as.reverse ++ rest = st) (hw : (rest.map fun v => v.category).sum ≤ 8)
    (C : x_C cl fk l s0 D cA sp d mc ms gr N as sh rf σ v sh1 rf1 σ1) (pc' : Nat) (hpc : pc + 3 = pc') (kk : x_W cl fk l s0 D cA sp QQ R gr M bc bs sh1 rf1 pc' ls (v.toList ++ rest) σ1) : x_W cl fk l s0 D cA sp QQ R gr M (bc + mc) (bs + ms) sh rf pc ls st σ := by
  subst hpc
  intro p e s m args below meth c ad mls H locs cells slots hM hR hS hl hc hs
  subst hst
  obtain ⟨⟨k1, k2, k3, k4, k5⟩, k6⟩ := K
  have hnw : va_Nw (.methodLinkNest M.1.cls n N.1 host) s := va_Nw.warmM hM.2.1 (va_Nw.of rfl (E.2.1 _ k1))
  refine x_back (va_runSN (Ts := []) (As := as.map (x_tr ad)) (n := np) ⟨hM.1.1, hM.1.2.1, hM.1.2.2.1, hM.1.2.2.2.1, fun _ h => by cases h⟩ (C ad) ⟨⟨⟨rfl, rfl, by show d + 8 + 1 ≤ _; exact F.1, F.lo, fun w hw a' U hU => ?_, List.mem_cons_self⟩, x_word E hM.2.1 k2 rfl args, x_word E hM.2.1 k3 rfl args, k4, fun sig h => ?_, va_Nw.use rfl hnw⟩, x_word E hM.2.1 k6 rfl args, trivial⟩
    ⟨x_blind, fun U hU hWU => ⟨rfl, hM.2.1.trans hWU, by rw [hU]; exact hR⟩⟩ rfl (by rw [List.length_map]; exact hn) hl.1 ?_ (lv_room (by rw [x_tr_sum]; exact hw)) hd ⟨by omega, by omega⟩) hM hS hl hc hs kk
  · rw [List.mem_singleton.mp hw]
    exact x_word E (hM.2.1.trans hU) k2 rfl a'
  · rw [h] at k5
    exact (Option.some.inj k5).symm
  · show List.map (x_tr ad) (as.reverse ++ rest) = (as.map (x_tr ad)).reverse ++ rest.map (x_tr ad)
    rw [List.map_append, List.map_reverse]
def x_KY (own : String) (n : Nat) : Prop := Cond.methodLink own n arraycopyName ∈ lw_tbl ∧ Cond.native arraycopyName ∈ lw_tbl ∧ Cond.static arraycopyName ∈ lw_tbl ∧ Cond.initialized "java/lang/System" ∈ lw_tbl
set_option maxRecDepth 20000 in
/-- System.arraycopy(a, 0, b, 0, n) of rows of ints -/
theorem x_copy (E : x_En cl l s0 a0 D cA sp) {k a b na nb : Nat} {n : Int32} (hd : decode M.2.1 pc = .ok (.invokestatic k, 3)) (K : x_KY M.1.cls k) (ha : sh[a]? = some (50, na)) (hb : sh[b]? = some (50, nb)) (j : Nat) (hj : n.toNatClampNeg = j) (h0 : ¬ n < 0) (h1 : j ≤ na) (h2 : j ≤ nb)
    (hf : 1 ≤ R.frames) (hlo : (st.map fun v => v.category).sum + (nativeFrameWords "java/lang/System" "arraycopy" 5 + 11) ≤ R.locals) (pc' : Nat) (hpc : pc + 3 = pc') (kk : x_W cl fk l s0 D cA sp QQ R gr M bc bs sh (rf) pc' ls (st) (x_cp σ a b j)) : x_W cl fk l s0 D cA sp QQ R gr M bc bs sh (rf) pc ls (.int n :: .int 0 :: .ref b :: .int 0 :: .ref a :: st) (σ) := by
  subst hpc
  subst hj
  intro p e s m args below meth c ad mls H locs cells slots hM hR hS hl hc hs
  have hqA : s0.heap.size ≤ ad b := hR.2.2.1 b (List.getElem?_eq_some_iff.mp hb).1
  have nn : ∀ z : Int32, ¬ z < 0 → z.toInt = (z.toNatClampNeg : Int) := by
    intro z hz
    have hz0 : (0 : Int) ≤ z.toInt := by
      have := Int32.not_lt.mp hz
      simpa using Int32.le_iff_toInt_le.mp this
    show z.toInt = ((z.toInt.toNat : Nat) : Int)
    omega
  intro T hT X
  have hc0 := x_row hR ha (Or.inl rfl)
  have hc1 := x_row hR hb (Or.inl rfl)
  obtain ⟨-, k0, hk0, cm0, hkk0⟩ := arrOfT_moved hM.2.1.alike E.2.2.2.1 na (fun j => .int (σ.1 a j))
  obtain ⟨-, k1, hk1, cm1, hkk1⟩ := arrOfT_moved hM.2.1.alike E.2.2.2.1 nb (fun j => .int (σ.1 b j))
  obtain ⟨vm', X', step⟩ := X.arraycopy hM.1.1 hM.1.2.2.2.1 (x_word E hM.2.1 K.1 rfl args) (x_word E hM.2.1 K.2.1 rfl args) (x_word E hM.2.1 K.2.2.1 rfl args) (x_word E hM.2.1 K.2.2.2 rfl args) (src := ad a) (dst := ad b) (cs := arrV (cA 50) na (fun j => .int (σ.1 a j))) (cd := arrV (cA 50) nb (fun j => .int (σ.1 b j))) (srcPos := 0) (destPos := 0) (n := n) (by rw [hT]; exact hc0) (by rw [hT]; exact hc1)
    (fun _ h => by cases h) (fun _ h => by cases h) (fun h => by cases h) (fun h => by cases h) hk0 hk1 hkk0 hkk1 (by simp [show refKind .int = false from rfl]) (by decide) (by decide) h0
    (by rw [nn n h0, show (0 : Int32).toInt = 0 from rfl, arrV_size]; omega)
    (by rw [nn n h0, show (0 : Int32).toInt = 0 from rfl, arrV_size]; omega)
    (fun vm₁ _ i hi => by
      have e : (arrV (cA 50) na (fun j => .int (σ.1 a j))).slots.getD ((0 : Int32).toNatClampNeg + i) .null = .int (σ.1 a i) := by
        rw [show (0 : Int32).toNatClampNeg = 0 from rfl, Nat.zero_add, Array.getD_eq_getD_getElem?, arrV_read _ _ (by omega)]
        rfl
      refine ⟨?_, ?_⟩
      · rw [e]; rfl
      · rw [e]; exact trivial)
    (g := F0 m pc mls ((.int n :: .int 0 :: .ref b :: .int 0 :: .ref a :: st).map (x_tr ad))) rfl (by rw [hM.1.2.2.1]; exact hl.1) (rest := st.map (x_tr ad)) rfl (by rw [hM.1.2.1]; exact hd) hf (by show 2 * 0 + _ + _ ≤ _; rw [x_tr_sum]; omega)
  have e1 : copied (arrV (cA 50) na (fun j => .int (σ.1 a j))) (arrV (cA 50) nb (fun j => .int (σ.1 b j))) 0 0 n = arrV (cA 50) nb (fun j => .int ((x_cp σ a b n.toNatClampNeg).1 b j)) := by
    have := va_copied (fun z => .int z) (cA 50) (cA 50) (σ.1 a) (σ.1 b) (sp := 0) (dp := 0) (n := n.toNatClampNeg) (n0 := na) (n1 := nb) (by omega)
    refine Eq.trans this ?_
    congr 1
    funext j
    simp only [va_cpy, x_cp, Nat.zero_le, Nat.zero_add, true_and, Nat.sub_zero]
  rw [e1] at X' step
  have hlb : ad b < H.size := (Array.getElem?_eq_some_iff.mp hc1).1
  have hheap : ((T.setVm vm').setCell (ad b) (arrV (cA 50) nb (fun j => .int ((x_cp σ a b n.toNatClampNeg).1 b j)))).heap = H.setIfInBounds (ad b) (arrV (cA 50) nb (fun j => .int ((x_cp σ a b n.toNatClampNeg).1 b j))) := by rw [← hT]; rfl
  have oq : ∀ q : Nat, q ≠ ad b → (H.setIfInBounds (ad b) (arrV (cA 50) nb (fun j => .int ((x_cp σ a b n.toNatClampNeg).1 b j))))[q]? = H[q]? := fun q hq => by simp [Array.getElem?_setIfInBounds, Ne.symm hq]
  obtain ⟨t, a1, b1⟩ := kk p e s m args below meth c ad mls _ _ cells slots hM (hR.put (σ' := x_cp σ a b n.toNatClampNeg) hb (by simp) oq (by
      unfold x_cell
      rw [if_neg (by show ¬ 50 < 50; omega), if_neg (by show ¬ 50 = 52; omega)]
      simp [Array.getElem?_setIfInBounds, hlb]) (fun z hz k => if_neg (fun e => hz e.1)) (fun _ _ _ => rfl) (fun _ _ _ => rfl)) ⟨by simp; exact hS.1, fun q g1 g2 => by
      rw [oq q (fun e => g2 (by rw [e]; exact hqA))]
      exact hS.2.1 q g1 g2, fun q hq => by
      rcases List.mem_append.mp hq with h | h
      · exact hS.2.2 q h
      · obtain ⟨z, -, hz⟩ := List.mem_map.mp h
        rw [← hz]
        exact hqA⟩ hl hc hs _ hheap X'
  exact ⟨t, step t a1, b1⟩
end XO
section ZT
variable {l : Launch} {s0 : State} {a0 : Array Value} {D : va_G} {cA : Nat → ClassId} {sp : Nat → Nat} {QQ : List Frame → Array Value → State → (Nat → Nat) → State → Prop} {R : Room} {M : xM} {bc bs : Nat} {pc : Nat} {ls : List (Option Value)} {st : List Value} {σ : xS}
theorem z_callT (E : x_En CL l s0 a0 D cA sp) {n np d : Nat} {N : xM} {host : String} (as rest : List Value) {v : Option Value} {σ1 : xS} (hd : decode M.2.1 pc = .ok (.invokestatic n, 3)) (K : x_KT M.1.cls n N np host) (F : x_fit d N R)
    (C : zC l s0 D cA sp d N as σ v σ1) (hn : as.length = np) (hst : as.reverse ++ rest = st) (hw : (rest.map fun v => v.category).sum ≤ 8)
    (pc' : Nat) (hpc : pc + 3 = pc') (st' : List Value) (hs : v.toList ++ rest = st') (kk : zW l s0 D cA sp QQ R M bc bs pc' ls st' σ1) : zW l s0 D cA sp QQ R M bc bs pc ls st σ := by
  subst hs
  exact x_callT (bc := bc) (bs := bs) (mc := 0) (ms := 0) E hd K F hn hst hw C pc' hpc kk
end ZT
