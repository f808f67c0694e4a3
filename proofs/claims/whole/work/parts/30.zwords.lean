/-! Steps on words. Written by wip/gen/zwords.py. -/
section ZW
variable {l : Launch} {s0 : State} {a0 : Array Value} {D : va_G} {cA : Nat → ClassId} {sp : Nat → Nat} {QQ : List Frame → Array Value → State → (Nat → Nat) → State → Prop} {R : Room} {M : xM} {bc bs : Nat} {pc : Nat} {ls : List (Option Value)} {st : List Value} {σ : xS}
theorem z_word (E : x_En CL l s0 a0 D cA sp) (S : x_Sw s0 sp) {k : Nat} (i q : Nat) {n : String} (hi : i < 23) (hq : 1000 + i = q) (hn : x_wn.getD i "" = n) (hd : decode M.2.1 pc = .ok (.getstatic k, 3)) (hw : Cond.fieldLink M.1.cls k "RingHand$Word" n "LRingHand$Word;" ∈ lw_tbl) (pc' : Nat) (hpc : pc + 3 = pc') (kk : zW l s0 D cA sp QQ R M bc bs pc' ls (.ref q :: st) σ) : zW l s0 D cA sp QQ R M bc bs pc ls st σ := by
  subst hq
  subst hn
  exact x_gst E (v := .ref (1000 + i)) (S.1.1 i hi).1 (fun z h => by rw [← Value.ref.inj h]; exact Nat.le_add_right _ _) hd hw pc' hpc kk
theorem z_words (E : x_En CL l s0 a0 D cA sp) (S : x_Sw s0 sp) {k : Nat} {host : String} (hd : decode M.2.1 pc = .ok (.getstatic k, 3)) (hw : Cond.fieldLinkNest M.1.cls k "RingHand" "WORDS" "[LRingHand$Word;" host ∈ lw_tbl) (pc' : Nat) (hpc : pc + 3 = pc') (kk : zW l s0 D cA sp QQ R M bc bs pc' ls (.ref 1100 :: st) σ) : zW l s0 D cA sp QQ R M bc bs pc ls st σ :=
  x_gstN E (v := .ref 1100) S.2.1 (fun z h => by rw [← Value.ref.inj h]; exact (by decide : 1000 ≤ 1100)) hd hw pc' hpc kk
theorem z_smap (E : x_En CL l s0 a0 D cA sp) (S : x_Sw s0 sp) {k : Nat} (hd : decode M.2.1 pc = .ok (.getstatic k, 3)) (hw : Cond.fieldLink M.1.cls k "RingHand$1" "$SwitchMap$RingHand$Word" "[I" ∈ lw_tbl) (pc' : Nat) (hpc : pc + 3 = pc') (kk : zW l s0 D cA sp QQ R M bc bs pc' ls (.ref 1101 :: st) σ) : zW l s0 D cA sp QQ R M bc bs pc ls st σ :=
  x_gst E (v := .ref 1101) S.2.2.2.1 (fun z h => by rw [← Value.ref.inj h]; exact (by decide : 1000 ≤ 1101)) hd hw pc' hpc kk
theorem z_wlen (S : x_Sw s0 sp) (hd : decode M.2.1 pc = .ok (.arraylength, 1)) (pc' : Nat) (hpc : pc + 1 = pc') (kk : zW l s0 D cA sp QQ R M bc bs pc' ls (.int (Int32.ofNat 23) :: st) σ) : zW l s0 D cA sp QQ R M bc bs pc ls (.ref 1100 :: st) σ :=
  x_tln S.2.2.1 (by decide) hd pc' hpc kk
theorem z_wald (S : x_Sw s0 sp) {i : Int32} (hd : decode M.2.1 pc = .ok (.aaload, 1)) (hin : ¬ (i < 0 ∨ 23 ≤ i.toNatClampNeg)) (pc' : Nat) (hpc : pc + 1 = pc') (kk : zW l s0 D cA sp QQ R M bc bs pc' ls (.ref (1000 + i.toNatClampNeg) :: st) σ) : zW l s0 D cA sp QQ R M bc bs pc ls (.int i :: .ref 1100 :: st) σ :=
  x_tbr (f := fun j => 1000 + j) S.2.2.1 (by decide) (fun j => Nat.le_add_right _ _) hd _ rfl hin pc' hpc kk
theorem z_mald (S : x_Sw s0 sp) {i : Int32} (hd : decode M.2.1 pc = .ok (.iaload, 1)) (hin : ¬ (i < 0 ∨ 23 ≤ i.toNatClampNeg)) (pc' : Nat) (hpc : pc + 1 = pc') (kk : zW l s0 D cA sp QQ R M bc bs pc' ls (.int (x_sm.getD i.toNatClampNeg 0) :: st) σ) : zW l s0 D cA sp QQ R M bc bs pc ls (.int i :: .ref 1101 :: st) σ :=
  x_tbi (f := fun j => x_sm.getD j 0) S.2.2.2.2.1 (by decide) hd _ rfl hin pc' hpc kk
theorem z_lets (E : x_En CL l s0 a0 D cA sp) (S : x_Sw s0 sp) {k q : Nat} (h : 1000 ≤ q ∧ q < 1023) (hd : decode M.2.1 pc = .ok (.getfield k, 3)) (hw : Cond.fieldLink M.1.cls k "RingHand$Word" "letters" "Ljava/lang/String;" ∈ lw_tbl) (pc' : Nat) (hpc : pc + 3 = pc') (kk : zW l s0 D cA sp QQ R M bc bs pc' ls (.ref (q + 200) :: st) σ) : zW l s0 D cA sp QQ R M bc bs pc ls (.ref q :: st) σ := by
  have hF := S.2.2.2.2.2.1 (q - 1000) (by omega)
  rw [show 1000 + (q - 1000) = q by omega, show 1200 + (q - 1000) = q + 200 by omega] at hF
  exact x_gof E (v := .ref (q + 200)) hF h.1 (fun z h9 => by rw [← Value.ref.inj h9]; exact Nat.le_trans h.1 (Nat.le_add_right _ _)) hd hw pc' hpc kk
theorem z_wobj (S : x_Sw s0 sp) {q : Nat} (h : 1000 ≤ q ∧ q < 1023) : va_O "RingHand$Word" (sp q) (fun q => s0.heap.size ≤ q) s0 s0.heap := by
  have hO := (S.1.1 (q - 1000) (by show _ < 23; omega)).2.1
  dsimp only at hO
  rw [show 1000 + (q - 1000) = q by omega] at hO
  exact hO
theorem z_sobj (S : x_Sw s0 sp) {q : Nat} (h : 1200 ≤ q ∧ q < 1223) : va_O "java/lang/String" (sp q) (fun q => s0.heap.size ≤ q) s0 s0.heap := by
  have hO := (S.2.2.2.2.2.2.1 (q - 1200) (by omega)).1
  rw [show 1200 + (q - 1200) = q by omega] at hO
  exact hO
theorem z_ord (E : x_En CL l s0 a0 D cA sp) (S : x_Sw s0 sp) {n q : Nat} {x : MethodName} (rest : List Value) (h : 1000 ≤ q ∧ q < 1023) (hd : decode M.2.1 pc = .ok (.invokevirtual n, 3)) (K : x_KH M.1.cls n "RingHand$Word" x M_ord 0) (F : x_fit 0 M_ord R) (hw : (rest.map fun v => v.category).sum ≤ 8) (pc' : Nat) (hpc : pc + 3 = pc') (kk : zW l s0 D cA sp QQ R M bc bs pc' ls (.int (Int32.ofNat (q - 1000)) :: rest) σ) : zW l s0 D cA sp QQ R M bc bs pc ls (.ref q :: rest) σ :=
  x_callH (bc := bc) (bs := bs) (mc := 0) (ms := 0) (as := []) (rest := rest) E hd K F (z_wobj S h) h.1 rfl rfl hw (c_ord E S h.1 h.2) pc' hpc kk
theorem z_slen (E : x_En CL l s0 a0 D cA sp) (S : x_Sw s0 sp) {n q : Nat} (rest : List Value) (h : 1200 ≤ q ∧ q < 1223) (hd : decode M.2.1 pc = .ok (.invokevirtual n, 3)) (K : x_KV M.1.cls n M_slen 0) (F : x_fit 1 M_slen R) (hw : (rest.map fun v => v.category).sum ≤ 8) (pc' : Nat) (hpc : pc + 3 = pc') (kk : zW l s0 D cA sp QQ R M bc bs pc' ls (.int (Int32.ofNat (x_ln.getD (q - 1200) 0)) :: rest) σ) : zW l s0 D cA sp QQ R M bc bs pc ls (.ref q :: rest) σ :=
  x_callO (bc := bc) (bs := bs) (mc := 0) (ms := 0) (as := []) (rest := rest) E hd K F (z_sobj S h) (Nat.le_trans (by decide) h.1) rfl rfl hw (c_slen E S h.1 h.2) pc' hpc kk
theorem z_schar (E : x_En CL l s0 a0 D cA sp) (S : x_Sw s0 sp) {n q : Nat} {i : Int32} (rest : List Value) (h : 1200 ≤ q ∧ q < 1223) (hi : ¬ i < 0 ∧ i.toNatClampNeg < x_ln.getD (q - 1200) 0) (hd : decode M.2.1 pc = .ok (.invokevirtual n, 3)) (K : x_KV M.1.cls n M_sch 1) (F : x_fit 3 M_sch R) (hw : (rest.map fun v => v.category).sum ≤ 8) (pc' : Nat) (hpc : pc + 3 = pc') (kk : zW l s0 D cA sp QQ R M bc bs pc' ls (.int (x_ch (q - 1200) i.toNatClampNeg) :: rest) σ) : zW l s0 D cA sp QQ R M bc bs pc ls (.int i :: .ref q :: rest) σ :=
  x_callO (bc := bc) (bs := bs) (mc := 0) (ms := 0) (as := [.int i]) (rest := rest) E hd K F (z_sobj S h) (Nat.le_trans (by decide) h.1) rfl rfl hw (c_schar E S h.1 h.2 hi.1 hi.2) pc' hpc kk
/-- a method of a word's own -/
theorem z_callO (E : x_En CL l s0 a0 D cA sp) (S : x_Sw s0 sp) {n np d q : Nat} {N : xM} (as rest : List Value) {v : Option Value} {σ1 : xS} (h : 1000 ≤ q ∧ q < 1023) (hN : N.1.cls = "RingHand$Word") (hd : decode M.2.1 pc = .ok (.invokevirtual n, 3)) (K : x_KV M.1.cls n N np) (F : x_fit d N R)
    (C : zC l s0 D cA sp d N (.ref q :: as) σ v σ1) (hn : as.length = np) (hst : as.reverse ++ .ref q :: rest = st) (hw : (rest.map fun v => v.category).sum ≤ 8)
    (pc' : Nat) (hpc : pc + 3 = pc') (st' : List Value) (hs : v.toList ++ rest = st') (kk : zW l s0 D cA sp QQ R M bc bs pc' ls st' σ1) : zW l s0 D cA sp QQ R M bc bs pc ls st σ := by
  subst hs
  exact x_callO (bc := bc) (bs := bs) (mc := 0) (ms := 0) E hd K F (by rw [hN]; exact z_wobj S h) h.1 hn hst hw C pc' hpc kk
end ZW
set_option maxRecDepth 20000 in
theorem x_fitR {a b dR mc ms : Nat} {N : xM} (h : a + 1 ≤ b) (hN : N.2.2.1 ≤ 45) : x_fit (dR + a) N (x_rm (dR + b) mc ms) := by
  constructor
  · show dR + a + 9 ≤ dR + b + 8
    omega
  · rw [x_rm_locals]
    omega
set_option maxRecDepth 20000 in
theorem x_fitC {a b dR mc ms : Nat} {N : xM} (h : a + 1 ≤ b) (hN : N.2.2.1 ≤ 45) : x_fit a N (x_rm (dR + b) mc ms) := by
  constructor
  · show a + 9 ≤ dR + b + 8
    omega
  · rw [x_rm_locals]
    omega
theorem x_offD {d z : Int} : ∀ (ps : List (Int × Int)), (∀ p ∈ ps, p.1 ≠ z) → Op.lookupswitch.offset ps d z = d
  | [], _ => by simp [Op.lookupswitch.offset]
  | p :: ps, h => by
    have h1 := h p List.mem_cons_self
    have h2 := x_offD (d := d) ps (fun q hq => h q (List.mem_cons_of_mem _ hq))
    simp [Op.lookupswitch.offset] at h2 ⊢
    simp [h1, h2]
