/-! Cells that stand from the start: the words' constants, their texts, tables; the JDK's small methods on them. Written by wip/gen/words.py. -/
def RJ0 : String := "java/lang/String"
def RJ1 : String := "java/lang/StringLatin1"
def RJ3 : String := "jdk/internal/util/Preconditions"
def RJx29ce0 : String := "java/lang/Enum"
abbrev cJ0_length_8abf5 : ByteArray := prog_20_method_54_code
def yJ0_length_8abf5 : MethodName := ⟨RJ0, "length", "()I"⟩
abbrev cJ0_charAt_5068e : ByteArray := prog_20_method_56_code
def yJ0_charAt_5068e : MethodName := ⟨RJ0, "charAt", "(I)C"⟩
abbrev cJ0_coder_7d493 : ByteArray := prog_20_method_152_code
def yJ0_coder_7d493 : MethodName := ⟨RJ0, "coder", "()B"⟩
abbrev cJ0_isLatin1_aae02 : ByteArray := prog_20_method_154_code
def yJ0_isLatin1_aae02 : MethodName := ⟨RJ0, "isLatin1", "()Z"⟩
abbrev cJ0_checkIndex_df160 : ByteArray := prog_20_method_155_code
def yJ0_checkIndex_df160 : MethodName := ⟨RJ0, "checkIndex", "(II)V"⟩
abbrev cJ1_charAt_3b067 : ByteArray := prog_21_method_2_code
def yJ1_charAt_3b067 : MethodName := ⟨RJ1, "charAt", "([BI)C"⟩
abbrev cJ3_checkIndex_8e157 : ByteArray := prog_28_method_11_code
def yJ3_checkIndex_8e157 : MethodName := ⟨RJ3, "checkIndex", "(IILjava/util/function/BiFunction;)I"⟩
abbrev cJx29ce0_ordinal_8abf5 : ByteArray := prog_15_method_2_code
def yJx29ce0_ordinal_8abf5 : MethodName := ⟨RJx29ce0, "ordinal", "()I"⟩
theorem dJx29ce0_ordinal_8abf5_0 : decode cJx29ce0_ordinal_8abf5 0 = .ok (.aload_n 0, 1) := by decide +kernel
theorem dJx29ce0_ordinal_8abf5_1 : decode cJx29ce0_ordinal_8abf5 1 = .ok (.getfield 7, 3) := by decide +kernel
theorem dJx29ce0_ordinal_8abf5_4 : decode cJx29ce0_ordinal_8abf5 4 = .ok (.ireturn, 1) := by decide +kernel
theorem dJ0_length_8abf5_0 : decode cJ0_length_8abf5 0 = .ok (.aload_n 0, 1) := by decide +kernel
theorem dJ0_length_8abf5_1 : decode cJ0_length_8abf5 1 = .ok (.getfield 9, 3) := by decide +kernel
theorem dJ0_length_8abf5_4 : decode cJ0_length_8abf5 4 = .ok (.arraylength, 1) := by decide +kernel
theorem dJ0_length_8abf5_5 : decode cJ0_length_8abf5 5 = .ok (.aload_n 0, 1) := by decide +kernel
theorem dJ0_length_8abf5_6 : decode cJ0_length_8abf5 6 = .ok (.invokevirtual 335, 3) := by decide +kernel
theorem dJ0_length_8abf5_9 : decode cJ0_length_8abf5 9 = .ok (.ishr, 1) := by decide +kernel
theorem dJ0_length_8abf5_10 : decode cJ0_length_8abf5 10 = .ok (.ireturn, 1) := by decide +kernel
theorem dJ0_charAt_5068e_0 : decode cJ0_charAt_5068e 0 = .ok (.aload_n 0, 1) := by decide +kernel
theorem dJ0_charAt_5068e_1 : decode cJ0_charAt_5068e 1 = .ok (.invokevirtual 492, 3) := by decide +kernel
theorem dJ0_charAt_5068e_4 : decode cJ0_charAt_5068e 4 = .ok (.ifCond .eq 12, 3) := by decide +kernel
theorem dJ0_charAt_5068e_7 : decode cJ0_charAt_5068e 7 = .ok (.aload_n 0, 1) := by decide +kernel
theorem dJ0_charAt_5068e_8 : decode cJ0_charAt_5068e 8 = .ok (.getfield 9, 3) := by decide +kernel
theorem dJ0_charAt_5068e_11 : decode cJ0_charAt_5068e 11 = .ok (.iload_n 1, 1) := by decide +kernel
theorem dJ0_charAt_5068e_12 : decode cJ0_charAt_5068e 12 = .ok (.invokestatic 495, 3) := by decide +kernel
theorem dJ0_charAt_5068e_15 : decode cJ0_charAt_5068e 15 = .ok (.ireturn, 1) := by decide +kernel
theorem dJ0_charAt_5068e_16 : decode cJ0_charAt_5068e 16 = .ok (.aload_n 0, 1) := by decide +kernel
theorem dJ0_charAt_5068e_17 : decode cJ0_charAt_5068e 17 = .ok (.getfield 9, 3) := by decide +kernel
theorem dJ0_charAt_5068e_20 : decode cJ0_charAt_5068e 20 = .ok (.iload_n 1, 1) := by decide +kernel
theorem dJ0_charAt_5068e_21 : decode cJ0_charAt_5068e 21 = .ok (.invokestatic 498, 3) := by decide +kernel
theorem dJ0_charAt_5068e_24 : decode cJ0_charAt_5068e 24 = .ok (.ireturn, 1) := by decide +kernel
theorem dJ0_coder_7d493_0 : decode cJ0_coder_7d493 0 = .ok (.getstatic 38, 3) := by decide +kernel
theorem dJ0_coder_7d493_3 : decode cJ0_coder_7d493 3 = .ok (.ifCond .eq 10, 3) := by decide +kernel
theorem dJ0_coder_7d493_6 : decode cJ0_coder_7d493 6 = .ok (.aload_n 0, 1) := by decide +kernel
theorem dJ0_coder_7d493_7 : decode cJ0_coder_7d493 7 = .ok (.getfield 15, 3) := by decide +kernel
theorem dJ0_coder_7d493_10 : decode cJ0_coder_7d493 10 = .ok (.goto 4, 3) := by decide +kernel
theorem dJ0_coder_7d493_13 : decode cJ0_coder_7d493 13 = .ok (.iconst 1, 1) := by decide +kernel
theorem dJ0_coder_7d493_14 : decode cJ0_coder_7d493 14 = .ok (.ireturn, 1) := by decide +kernel
theorem dJ0_isLatin1_aae02_0 : decode cJ0_isLatin1_aae02 0 = .ok (.getstatic 38, 3) := by decide +kernel
theorem dJ0_isLatin1_aae02_3 : decode cJ0_isLatin1_aae02 3 = .ok (.ifCond .eq 14, 3) := by decide +kernel
theorem dJ0_isLatin1_aae02_6 : decode cJ0_isLatin1_aae02 6 = .ok (.aload_n 0, 1) := by decide +kernel
theorem dJ0_isLatin1_aae02_7 : decode cJ0_isLatin1_aae02 7 = .ok (.getfield 15, 3) := by decide +kernel
theorem dJ0_isLatin1_aae02_10 : decode cJ0_isLatin1_aae02 10 = .ok (.ifCond .ne 7, 3) := by decide +kernel
theorem dJ0_isLatin1_aae02_13 : decode cJ0_isLatin1_aae02 13 = .ok (.iconst 1, 1) := by decide +kernel
theorem dJ0_isLatin1_aae02_14 : decode cJ0_isLatin1_aae02 14 = .ok (.goto 4, 3) := by decide +kernel
theorem dJ0_isLatin1_aae02_17 : decode cJ0_isLatin1_aae02 17 = .ok (.iconst 0, 1) := by decide +kernel
theorem dJ0_isLatin1_aae02_18 : decode cJ0_isLatin1_aae02 18 = .ok (.ireturn, 1) := by decide +kernel
theorem dJ0_checkIndex_df160_0 : decode cJ0_checkIndex_df160 0 = .ok (.iload_n 0, 1) := by decide +kernel
theorem dJ0_checkIndex_df160_1 : decode cJ0_checkIndex_df160 1 = .ok (.iload_n 1, 1) := by decide +kernel
theorem dJ0_checkIndex_df160_2 : decode cJ0_checkIndex_df160 2 = .ok (.getstatic 1053, 3) := by decide +kernel
theorem dJ0_checkIndex_df160_5 : decode cJ0_checkIndex_df160 5 = .ok (.invokestatic 1059, 3) := by decide +kernel
theorem dJ0_checkIndex_df160_8 : decode cJ0_checkIndex_df160 8 = .ok (.pop, 1) := by decide +kernel
theorem dJ0_checkIndex_df160_9 : decode cJ0_checkIndex_df160 9 = .ok (.return_, 1) := by decide +kernel
theorem dJ1_charAt_3b067_0 : decode cJ1_charAt_3b067 0 = .ok (.iload_n 1, 1) := by decide +kernel
theorem dJ1_charAt_3b067_1 : decode cJ1_charAt_3b067 1 = .ok (.aload_n 0, 1) := by decide +kernel
theorem dJ1_charAt_3b067_2 : decode cJ1_charAt_3b067 2 = .ok (.arraylength, 1) := by decide +kernel
theorem dJ1_charAt_3b067_3 : decode cJ1_charAt_3b067 3 = .ok (.invokestatic 9, 3) := by decide +kernel
theorem dJ1_charAt_3b067_6 : decode cJ1_charAt_3b067 6 = .ok (.aload_n 0, 1) := by decide +kernel
theorem dJ1_charAt_3b067_7 : decode cJ1_charAt_3b067 7 = .ok (.iload_n 1, 1) := by decide +kernel
theorem dJ1_charAt_3b067_8 : decode cJ1_charAt_3b067 8 = .ok (.baload, 1) := by decide +kernel
theorem dJ1_charAt_3b067_9 : decode cJ1_charAt_3b067 9 = .ok (.sipush 255, 3) := by decide +kernel
theorem dJ1_charAt_3b067_12 : decode cJ1_charAt_3b067 12 = .ok (.iand, 1) := by decide +kernel
theorem dJ1_charAt_3b067_13 : decode cJ1_charAt_3b067 13 = .ok (.i2c, 1) := by decide +kernel
theorem dJ1_charAt_3b067_14 : decode cJ1_charAt_3b067 14 = .ok (.ireturn, 1) := by decide +kernel
theorem dJ3_checkIndex_8e157_0 : decode cJ3_checkIndex_8e157 0 = .ok (.iload_n 0, 1) := by decide +kernel
theorem dJ3_checkIndex_8e157_1 : decode cJ3_checkIndex_8e157 1 = .ok (.ifCond .lt 8, 3) := by decide +kernel
theorem dJ3_checkIndex_8e157_4 : decode cJ3_checkIndex_8e157 4 = .ok (.iload_n 0, 1) := by decide +kernel
theorem dJ3_checkIndex_8e157_5 : decode cJ3_checkIndex_8e157 5 = .ok (.iload_n 1, 1) := by decide +kernel
theorem dJ3_checkIndex_8e157_6 : decode cJ3_checkIndex_8e157 6 = .ok (.if_icmp .lt 10, 3) := by decide +kernel
theorem dJ3_checkIndex_8e157_9 : decode cJ3_checkIndex_8e157 9 = .ok (.aload_n 2, 1) := by decide +kernel
theorem dJ3_checkIndex_8e157_10 : decode cJ3_checkIndex_8e157 10 = .ok (.iload_n 0, 1) := by decide +kernel
theorem dJ3_checkIndex_8e157_11 : decode cJ3_checkIndex_8e157 11 = .ok (.iload_n 1, 1) := by decide +kernel
theorem dJ3_checkIndex_8e157_12 : decode cJ3_checkIndex_8e157 12 = .ok (.invokestatic 95, 3) := by decide +kernel
theorem dJ3_checkIndex_8e157_15 : decode cJ3_checkIndex_8e157 15 = .ok (.athrow, 1) := by decide +kernel
theorem dJ3_checkIndex_8e157_16 : decode cJ3_checkIndex_8e157 16 = .ok (.iload_n 0, 1) := by decide +kernel
theorem dJ3_checkIndex_8e157_17 : decode cJ3_checkIndex_8e157 17 = .ok (.ireturn, 1) := by decide +kernel
def x_wn : List String := ["OTHER", "FROM", "GO", "STAY", "BEHIND", "HIM", "HER", "MARK", "HOLE", "LAG", "WRIST", "EYE", "RING", "SHOWS", "HAND", "OR", "AND", "NOT", "INCH", "OFF", "SEEN", "WAS", "TENTH"]
def x_sm : List Int32 := [0, 0, 1, 2, 6, 3, 4, 5, 7, 8, 9, 10, 11, 12, 13, 0, 0, 0, 15, 14, 16, 17, 18]
def x_ln : List Nat := [0, 4, 2, 4, 6, 3, 3, 4, 4, 3, 5, 3, 4, 5, 4, 2, 3, 3, 4, 3, 4, 3, 5]
def x_by : List (List Int32) := [[], [102, 114, 111, 109], [103, 111], [115, 116, 97, 121], [98, 101, 104, 105, 110, 100], [104, 105, 109], [104, 101, 114], [109, 97, 114, 107], [104, 111, 108, 101], [108, 97, 103], [119, 114, 105, 115, 116], [101, 121, 101], [114, 105, 110, 103], [115, 104, 111, 119, 115], [104, 97, 110, 100], [111, 114], [97, 110, 100], [110, 111, 116], [105, 110, 99, 104], [111, 102, 102], [115, 101, 101, 110], [119, 97, 115], [116, 101, 110, 116, 104]]
/-- what the cells from the start hold: the constants at 1000 + i, WORDS at 1100, the switch's table at 1101, the texts at 1200 + i, their bytes at 1300 + i -/
def x_Sw (s0 : State) (sp : Nat → Nat) : Prop :=
  va_En "RingHand$Word" "LRingHand$Word;" x_wn [("java/lang/Enum", "ordinal", "I", [0, 1, 2, 3, 4, 5, 6, 7, 8, 9, 10, 11, 12, 13, 14, 15, 16, 17, 18, 19, 20, 21, 22])] (fun i => sp (1000 + i)) (fun q => s0.heap.size ≤ q) s0 s0.heap ∧
  va_Z "RingHand" "WORDS" "[LRingHand$Word;" (.ref (sp 1100)) (fun q => s0.heap.size ≤ q) s0 s0.heap ∧ va_T (.object "RingHand$Word") (sp 1100) 23 (fun i => .ref (sp (1000 + i))) (fun q => s0.heap.size ≤ q) s0 s0.heap ∧
  va_Z "RingHand$1" "$SwitchMap$RingHand$Word" "[I" (.ref (sp 1101)) (fun q => s0.heap.size ≤ q) s0 s0.heap ∧ va_T .int (sp 1101) 23 (fun i => .int (x_sm.getD i 0)) (fun q => s0.heap.size ≤ q) s0 s0.heap ∧
  (∀ i, i < 23 → va_OF "RingHand$Word" "letters" "Ljava/lang/String;" (.ref (sp (1200 + i))) (sp (1000 + i)) (fun q => s0.heap.size ≤ q) s0 s0.heap) ∧
  (∀ i, i < 23 → va_O "java/lang/String" (sp (1200 + i)) (fun q => s0.heap.size ≤ q) s0 s0.heap ∧ va_OF "java/lang/String" "coder" "B" (.int 0) (sp (1200 + i)) (fun q => s0.heap.size ≤ q) s0 s0.heap ∧ va_OF "java/lang/String" "value" "[B" (.ref (sp (1300 + i))) (sp (1200 + i)) (fun q => s0.heap.size ≤ q) s0 s0.heap ∧ va_T .byte (sp (1300 + i)) (x_ln.getD i 0) (fun j => .int ((x_by.getD i []).getD j 0)) (fun q => s0.heap.size ≤ q) s0 s0.heap) ∧
  va_Z "java/lang/String" "COMPACT_STRINGS" "Z" (.int 1) (fun q => s0.heap.size ≤ q) s0 s0.heap ∧
  (∃ v : Value, (v = .null ∨ v = .ref 1400) ∧ va_Z "jdk/internal/util/Preconditions" "SIOOBE_FORMATTER" "Ljava/util/function/BiFunction;" (x_tr sp v) (fun q => s0.heap.size ≤ q) s0 s0.heap)
def x_hi (v : Value) : Prop := ∀ q, v = .ref q → 1000 ≤ q
section XW
variable {cl : List vw_C} {fk : Nat → Nat → Nat} {l : Launch} {s0 : State} {a0 : Array Value} {D : va_G} {cA : Nat → ClassId} {sp : Nat → Nat} {QQ : List Frame → Array Value → State → (Nat → Nat) → State → Prop} {R : Room} {gr : Bool} {M : xM} {bc bs : Nat} {sh : xH} {rf : xR} {pc : Nat} {ls : List (Option Value)} {st : List Value} {σ : xS}
theorem x_tr_hi {ad : Nat → Nat} (h : ∀ p : Nat, 1000 ≤ p → ad p = sp p) {v : Value} (hv : x_hi v) : x_tr ad v = x_tr sp v := by
  cases v with
  | ref q => show Value.ref (ad q) = .ref (sp q); rw [h q (hv q rfl)]
  | _ => rfl
theorem x_keep {s : State} (h : ∀ q : Nat, q < s0.heap.size → s.heap[q]? = s0.heap[q]?) : ∀ a : Nat, a < s0.heap.size → ¬ (fun q => s0.heap.size ≤ q) a → s.heap[a]? = s0.heap[a]? := fun a ha _ => h a ha
/-- a static field -/
theorem x_gst (E : x_En cl l s0 a0 D cA sp) {C n d : String} {k : Nat} {v : Value} (hZ : va_Z C n d (x_tr sp v) (fun q => s0.heap.size ≤ q) s0 s0.heap) (hv : x_hi v) (hd : decode M.2.1 pc = .ok (.getstatic k, 3)) (hw : Cond.fieldLink M.1.cls k C n d ∈ lw_tbl) (pc' : Nat) (hpc : pc + 3 = pc') (kk : x_W cl fk l s0 D cA sp QQ R gr M bc bs sh (rf) pc' ls (v :: st) (σ)) : x_W cl fk l s0 D cA sp QQ R gr M bc bs sh (rf) pc ls (st) (σ) := by
  subst hpc
  intro p e s m args below meth c ad mls H locs cells slots hM hR hS hl hc hs
  have hZ' := (hZ.moved hM.2.1.alike).kept (x_keep hM.2.2.2)
  rw [← x_tr_hi hR.2.2.2.2.2.2 hv] at hZ'
  exact va_gets hM.1.1 hM.1.2.1 hZ' hS hM.1.2.2.2.1 (x_word E hM.2.1 hw rfl args) (fun _ h => h) hd (kk p e s m args below meth c ad mls H locs cells slots hM hR hS hl hc hs)
theorem x_gstN (E : x_En cl l s0 a0 D cA sp) {C n d host : String} {k : Nat} {v : Value} (hZ : va_Z C n d (x_tr sp v) (fun q => s0.heap.size ≤ q) s0 s0.heap) (hv : x_hi v) (hd : decode M.2.1 pc = .ok (.getstatic k, 3)) (hw : Cond.fieldLinkNest M.1.cls k C n d host ∈ lw_tbl) (pc' : Nat) (hpc : pc + 3 = pc') (kk : x_W cl fk l s0 D cA sp QQ R gr M bc bs sh (rf) pc' ls (v :: st) (σ)) : x_W cl fk l s0 D cA sp QQ R gr M bc bs sh (rf) pc ls (st) (σ) := by
  subst hpc
  intro p e s m args below meth c ad mls H locs cells slots hM hR hS hl hc hs
  have hZ' := (hZ.moved hM.2.1.alike).kept (x_keep hM.2.2.2)
  rw [← x_tr_hi hR.2.2.2.2.2.2 hv] at hZ'
  exact va_getsN hM.1.1 hM.1.2.1 hZ' hS hM.1.2.2.2.1 (va_Nw.use rfl (va_Nw.warmF hM.2.1 (va_Nw.of rfl (E.2.1 _ hw)))) (fun _ h => h) hd (kk p e s m args below meth c ad mls H locs cells slots hM hR hS hl hc hs)
/-- a field of an object from the start -/
theorem x_gof (E : x_En cl l s0 a0 D cA sp) {o n d : String} {k q : Nat} {v : Value} (hF : va_OF o n d (x_tr sp v) (sp q) (fun q => s0.heap.size ≤ q) s0 s0.heap) (hq : 1000 ≤ q) (hv : x_hi v) (hd : decode M.2.1 pc = .ok (.getfield k, 3)) (hw : Cond.fieldLink M.1.cls k o n d ∈ lw_tbl) (pc' : Nat) (hpc : pc + 3 = pc') (kk : x_W cl fk l s0 D cA sp QQ R gr M bc bs sh (rf) pc' ls (v :: st) (σ)) : x_W cl fk l s0 D cA sp QQ R gr M bc bs sh (rf) pc ls (.ref q :: st) (σ) := by
  subst hpc
  intro p e s m args below meth c ad mls H locs cells slots hM hR hS hl hc hs
  have hF' := (hF.moved hM.2.1.alike).kept (x_keep hM.2.2.2)
  rw [← x_tr_hi hR.2.2.2.2.2.2 hv, ← hR.2.2.2.2.2.2 q hq] at hF'
  exact vk_getf hM.1.1 hM.1.2.1 hF' hS hM.1.2.2.2.1 (x_word E hM.2.1 hw rfl args) (fun _ h => h) hd (kk p e s m args below meth c ad mls H locs cells slots hM hR hS hl hc hs)
/-- tables from the start -/
theorem x_tbi {q n : Nat} {f : Nat → Int32} {i : Int32} (hT : va_T .int (sp q) n (fun j => .int (f j)) (fun q => s0.heap.size ≤ q) s0 s0.heap) (hq : 1000 ≤ q) (hd : decode M.2.1 pc = .ok (.iaload, 1)) (j : Nat) (hj : i.toNatClampNeg = j) (hin : ¬ (i < 0 ∨ n ≤ j)) (pc' : Nat) (hpc : pc + 1 = pc') (kk : x_W cl fk l s0 D cA sp QQ R gr M bc bs sh (rf) pc' ls (.int (f j) :: st) (σ)) : x_W cl fk l s0 D cA sp QQ R gr M bc bs sh (rf) pc ls (.int i :: .ref q :: st) (σ) := by
  subst hpc
  subst hj
  intro p e s m args below meth c ad mls H locs cells slots hM hR hS hl hc hs
  have hT' := (hT.moved hM.2.1.alike).kept (x_keep hM.2.2.2)
  rw [← hR.2.2.2.2.2.2 q hq] at hT'
  exact va_ti hM.1.1 hM.1.2.1 hT' hS hin rfl hd (kk p e s m args below meth c ad mls H locs cells slots hM hR hS hl hc hs)
theorem x_tbb {q n : Nat} {f : Nat → Int32} {i : Int32} (hT : va_T .byte (sp q) n (fun j => .int (f j)) (fun q => s0.heap.size ≤ q) s0 s0.heap) (hq : 1000 ≤ q) (hd : decode M.2.1 pc = .ok (.baload, 1)) (j : Nat) (hj : i.toNatClampNeg = j) (hin : ¬ (i < 0 ∨ n ≤ j)) (pc' : Nat) (hpc : pc + 1 = pc') (kk : x_W cl fk l s0 D cA sp QQ R gr M bc bs sh (rf) pc' ls (.int (f j) :: st) (σ)) : x_W cl fk l s0 D cA sp QQ R gr M bc bs sh (rf) pc ls (.int i :: .ref q :: st) (σ) := by
  subst hpc
  subst hj
  intro p e s m args below meth c ad mls H locs cells slots hM hR hS hl hc hs
  have hT' := (hT.moved hM.2.1.alike).kept (x_keep hM.2.2.2)
  rw [← hR.2.2.2.2.2.2 q hq] at hT'
  exact va_tb hM.1.1 hM.1.2.1 hT' hS hin rfl hd (kk p e s m args below meth c ad mls H locs cells slots hM hR hS hl hc hs)
theorem x_tbr {C : String} {q n : Nat} {f : Nat → Nat} {i : Int32} (hT : va_T (.object C) (sp q) n (fun j => .ref (sp (f j))) (fun q => s0.heap.size ≤ q) s0 s0.heap) (hq : 1000 ≤ q) (hf : ∀ j, 1000 ≤ f j) (hd : decode M.2.1 pc = .ok (.aaload, 1)) (j : Nat) (hj : i.toNatClampNeg = j) (hin : ¬ (i < 0 ∨ n ≤ j)) (pc' : Nat) (hpc : pc + 1 = pc') (kk : x_W cl fk l s0 D cA sp QQ R gr M bc bs sh (rf) pc' ls (.ref (f j) :: st) (σ)) : x_W cl fk l s0 D cA sp QQ R gr M bc bs sh (rf) pc ls (.int i :: .ref q :: st) (σ) := by
  subst hpc
  subst hj
  intro p e s m args below meth c ad mls H locs cells slots hM hR hS hl hc hs
  have hT' := (hT.moved hM.2.1.alike).kept (x_keep hM.2.2.2)
  rw [← hR.2.2.2.2.2.2 q hq] at hT'
  exact vb_tq hM.1.1 hM.1.2.1 hT' hS hin (by rw [← hR.2.2.2.2.2.2 _ (hf _)]; rfl) hd (kk p e s m args below meth c ad mls H locs cells slots hM hR hS hl hc hs)
theorem x_tln {ty : FieldType} {q n : Nat} {f : Nat → Value} (hT : va_T ty (sp q) n f (fun q => s0.heap.size ≤ q) s0 s0.heap) (hq : 1000 ≤ q) (hd : decode M.2.1 pc = .ok (.arraylength, 1)) (pc' : Nat) (hpc : pc + 1 = pc') (kk : x_W cl fk l s0 D cA sp QQ R gr M bc bs sh (rf) pc' ls (.int (Int32.ofNat n) :: st) (σ)) : x_W cl fk l s0 D cA sp QQ R gr M bc bs sh (rf) pc ls (.ref q :: st) (σ) := by
  subst hpc
  intro p e s m args below meth c ad mls H locs cells slots hM hR hS hl hc hs
  have hT' := (hT.moved hM.2.1.alike).kept (x_keep hM.2.2.2)
  rw [← hR.2.2.2.2.2.2 q hq] at hT'
  exact va_tlen hM.1.1 hM.1.2.1 hT' hS rfl hd (kk p e s m args below meth c ad mls H locs cells slots hM hR hS hl hc hs)
theorem x_acne {x y : Nat} {off : Int} (tgt : Nat) (S : x_Sw s0 sp) (hx : 1000 ≤ x ∧ x < 1023) (hy : 1000 ≤ y ∧ y < 1023) (hd : decode M.2.1 pc = .ok (.if_acmp .ne off, 3)) (ht : (pc : Int) + off = (tgt : Int)) (kt : ¬ x = y → x_W cl fk l s0 D cA sp QQ R gr M bc bs sh (rf) tgt ls (st) (σ)) (kk : x = y → x_W cl fk l s0 D cA sp QQ R gr M bc bs sh (rf) (pc + 3) ls (st) (σ)) : x_W cl fk l s0 D cA sp QQ R gr M bc bs sh (rf) pc ls (.ref y :: .ref x :: st) (σ) := by
  intro p e s m args below meth c ad mls H locs cells slots hM hR hS hl hc hs
  have e1 := hR.2.2.2.2.2.2 x hx.1
  have e2 := hR.2.2.2.2.2.2 y hy.1
  refine lv_acmp_ne (rx := some (ad x)) (ry := some (ad y)) hM.1.1 hM.1.2.1 hd ht (fun h => kt (fun e => h (by rw [e])) p e s m args below meth c ad mls H locs cells slots hM hR hS hl hc hs) (fun h => kk ?_ p e s m args below meth c ad mls H locs cells slots hM hR hS hl hc hs)
  have h' : sp x = sp y := by rw [← e1, ← e2]; exact Option.some.inj h
  have := S.1.2 (x - 1000) (y - 1000) (by show _ < 23; omega) (by show _ < 23; omega) (by show sp (1000 + (x - 1000)) = sp (1000 + (y - 1000)); rw [show 1000 + (x - 1000) = x by omega, show 1000 + (y - 1000) = y by omega]; exact h')
  omega
theorem x_i2c {x : Int32} (hd : decode M.2.1 pc = .ok (.i2c, 1)) (pc' : Nat) (hpc : pc + 1 = pc') (kk : x_W cl fk l s0 D cA sp QQ R gr M bc bs sh (rf) pc' ls (.int (x.toUInt32 % 65536).toInt32 :: st) (σ)) : x_W cl fk l s0 D cA sp QQ R gr M bc bs sh (rf) pc ls (.int x :: st) (σ) := by
  subst hpc
  intro p e s m args below meth c ad mls H locs cells slots hM hR hS hl hc hs
  exact lv_i2c hM.1.1 hM.1.2.1 hd rfl (kk p e s m args below meth c ad mls H locs cells slots hM hR hS hl hc hs)
/-- an end of any type of whole numbers -/
theorem x_tret {mc ms : Nat} {v : Int32} {ty : FieldType} (hv : narrow ty (.int v) = .int v) (hd : decode M.2.1 pc = .ok (.ireturn, 1)) (hr : M.2.2.2.1 = some ty) (h1 : R.cells = mc) (h2 : R.slots = ms) :
    x_W cl fk l s0 D cA sp (x_QQ cl fk s0 D cA sp gr mc ms (some (.int v)) sh rf σ) R gr M bc bs sh rf pc ls [.int v] σ := by
  intro p e s m args below meth c ad mls H locs cells slots hM hR hS hl hc hs
  refine W.widen (k := mc) (n := ms) (by omega) (by omega) ?_
  exact W.zret (v := v) (ty := ty) hM.1.1 hM.1.2.1 (hM.1.2.2.2.2.1.trans hr) hv (fun t ht hW => ⟨rfl, by rw [ht]; exact hR, hM.2.1.trans hW, by rw [ht]; exact hS.1⟩) hS.2.2 hd hM.1.2.2.2.2.2.1
/-- a call on an object from the start -/
theorem x_callO (E : x_En cl l s0 a0 D cA sp) {n np d mc ms q : Nat} {N : xM} {as rest : List Value} {v : Option Value} {sh1 : xH} {rf1 : xR} {σ1 : xS} (hd : decode M.2.1 pc = .ok (.invokevirtual n, 3)) (K : x_KV M.1.cls n N np) (F : x_fit d N R)
    (hO : va_O N.1.cls (sp q) (fun q => s0.heap.size ≤ q) s0 s0.heap) (hq : 1000 ≤ q) (hn : as.length = np) (hst : as.reverse ++ .ref q :: rest = st) (hw : (rest.map fun v => v.category).sum ≤ 8)
    (C : x_C cl fk l s0 D cA sp d mc ms gr N (.ref q :: as) sh rf σ v sh1 rf1 σ1) (pc' : Nat) (hpc : pc + 3 = pc') (kk : x_W cl fk l s0 D cA sp QQ R gr M bc bs sh1 rf1 pc' ls (v.toList ++ rest) σ1) : x_W cl fk l s0 D cA sp QQ R gr M (bc + mc) (bs + ms) sh rf pc ls st σ := by
  subst hpc
  intro p e s m args below meth c ad mls H locs cells slots hM hR hS hl hc hs
  subst hst
  have hO' := (hO.moved hM.2.1.alike).kept (x_keep hM.2.2.2)
  rw [← hR.2.2.2.2.2.2 q hq] at hO'
  obtain ⟨cell, q1, q2, q3, q4⟩ := hO'
  have q1' : H[ad q]? = some cell := by rw [hS.2.1 _ (Array.getElem?_eq_some_iff.mp q1).1 q4]; exact q1
  refine x_back (va_runV (Ts := []) (C := N.1.cls) (b := ad q) (As := as.map (x_tr ad)) ⟨hM.1.1, hM.1.2.1, hM.1.2.2.1, hM.1.2.2.2.1, fun _ h => by cases h⟩ (C ad) ⟨x_callB E hM.2.1 K.1 F args, x_word E hM.2.1 K.2.1 rfl args, x_word E hM.2.1 K.2.2 rfl args⟩
    ⟨x_blind, ⟨cell, q1', q2, q3⟩, fun U hU hWU => ⟨rfl, hM.2.1.trans hWU, by rw [hU]; exact hR⟩⟩ rfl (by rw [List.length_map]; exact hn) hl.1 ?_ (lv_room (by rw [x_tr_sum]; exact hw)) hd ⟨by omega, by omega⟩) hM hS hl hc hs kk
  show List.map (x_tr ad) (as.reverse ++ .ref q :: rest) = (as.map (x_tr ad)).reverse ++ .ref (ad q) :: rest.map (x_tr ad)
  rw [List.map_append, List.map_reverse]
  rfl
/-- a call of an inherited method on one -/
def x_KH (own : String) (n : Nat) (C : String) (x : MethodName) (N : xM) (np : Nat) : Prop :=
  Cond.methodLink own n x ∈ lw_tbl ∧ Cond.sameMethod x.cls N.1.cls x.name x.desc ∈ lw_tbl ∧ Cond.selects C x N.1 ∈ lw_tbl ∧ Cond.instanceMethod N.1 ∈ lw_tbl ∧ Cond.initialized N.1.cls ∈ lw_tbl ∧ Cond.code N.1 N.2.1 N.2.2.1 N.2.2.2.1 ∈ lw_tbl ∧ N.1 = ⟨N.1.cls, x.name, x.desc⟩ ∧ (N.1.cls ≠ "java/lang/invoke/MethodHandle" ∧ N.1.cls ≠ "java/lang/invoke/VarHandle") ∧ (parseMethodDescriptor x.desc).map (fun d => d.parameters.length) = some np
theorem x_callH (E : x_En cl l s0 a0 D cA sp) {n np d mc ms q : Nat} {C : String} {x : MethodName} {N : xM} {as rest : List Value} {v : Option Value} {sh1 : xH} {rf1 : xR} {σ1 : xS} (hd : decode M.2.1 pc = .ok (.invokevirtual n, 3)) (K : x_KH M.1.cls n C x N np) (F : x_fit d N R)
    (hO : va_O C (sp q) (fun q => s0.heap.size ≤ q) s0 s0.heap) (hq : 1000 ≤ q) (hn : as.length = np) (hst : as.reverse ++ .ref q :: rest = st) (hw : (rest.map fun v => v.category).sum ≤ 8)
    (CC : x_C cl fk l s0 D cA sp d mc ms gr N (.ref q :: as) sh rf σ v sh1 rf1 σ1) (pc' : Nat) (hpc : pc + 3 = pc') (kk : x_W cl fk l s0 D cA sp QQ R gr M bc bs sh1 rf1 pc' ls (v.toList ++ rest) σ1) : x_W cl fk l s0 D cA sp QQ R gr M (bc + mc) (bs + ms) sh rf pc ls st σ := by
  subst hpc
  intro p e s m args below meth c ad mls H locs cells slots hM hR hS hl hc hs
  subst hst
  obtain ⟨k1, k2, k3, k4, k5, k6, k7, k8, k9⟩ := K
  have hO' := (hO.moved hM.2.1.alike).kept (x_keep hM.2.2.2)
  rw [← hR.2.2.2.2.2.2 q hq] at hO'
  obtain ⟨cell, q1, q2, q3, q4⟩ := hO'
  have q1' : H[ad q]? = some cell := by rw [hS.2.1 _ (Array.getElem?_eq_some_iff.mp q1).1 q4]; exact q1
  have hcode : (Cond.code N.1 N.2.1 N.2.2.1 N.2.2.2.1).before args s = true := x_word E hM.2.1 k6 rfl args
  have hinst : (Cond.instanceMethod N.1).before args s = true := x_word E hM.2.1 k4 rfl args
  refine x_back (va_runU (Ts := []) (C := C) (owner := N.1.cls) (x := x) (n := np) (b := ad q) (As := as.map (x_tr ad)) ⟨hM.1.1, hM.1.2.1, hM.1.2.2.1, hM.1.2.2.2.1, fun _ h => by cases h⟩ (CC ad)
    ⟨⟨rfl, rfl, by show d + 8 + 1 ≤ _; exact F.1, F.lo, fun w hw a' U hU => (by rw [List.mem_singleton.mp hw]; exact x_word E (hM.2.1.trans hU) k6 rfl a'), List.mem_cons_self⟩, hcode, x_word E hM.2.1 k5 rfl args, k8, fun sig h => (by rw [h] at k9; exact (Option.some.inj k9).symm), x_word E hM.2.1 k1 rfl args, x_word E hM.2.1 k2 rfl args, (by rw [← k7]; exact va_Decl.of hinst hcode), x_word E hM.2.1 k3 rfl args, hinst⟩
    ⟨x_blind, ⟨cell, q1', q2, q3⟩, fun U hU hWU => ⟨rfl, hM.2.1.trans hWU, by rw [hU]; exact hR⟩⟩ rfl (by rw [List.length_map]; exact hn) hl.1 ?_ (lv_room (by rw [x_tr_sum]; exact hw)) hd ⟨by omega, by omega⟩) hM hS hl hc hs kk
  show List.map (x_tr ad) (as.reverse ++ .ref q :: rest) = (as.map (x_tr ad)).reverse ++ .ref (ad q) :: rest.map (x_tr ad)
  rw [List.map_append, List.map_reverse]
  rfl
end XW
abbrev M_ord : xM := (yJx29ce0_ordinal_8abf5, cJx29ce0_ordinal_8abf5, 1, some .int, [])
abbrev M_coder : xM := (yJ0_coder_7d493, cJ0_coder_7d493, 1, some .byte, [])
abbrev M_lat1 : xM := (yJ0_isLatin1_aae02, cJ0_isLatin1_aae02, 1, some .boolean, [])
abbrev M_slen : xM := (yJ0_length_8abf5, cJ0_length_8abf5, 1, some .int, [])
abbrev M_pre : xM := (yJ3_checkIndex_8e157, cJ3_checkIndex_8e157, 3, some .int, [])
abbrev M_chk : xM := (yJ0_checkIndex_df160, cJ0_checkIndex_df160, 2, none, [])
abbrev M_l1c : xM := (yJ1_charAt_3b067, cJ1_charAt_3b067, 2, some .char, [])
abbrev M_sch : xM := (yJ0_charAt_5068e, cJ0_charAt_5068e, 2, some .char, [])
theorem x_ord_ok : ∀ i, i < 23 → ([0, 1, 2, 3, 4, 5, 6, 7, 8, 9, 10, 11, 12, 13, 14, 15, 16, 17, 18, 19, 20, 21, 22] : List Int32).getD i 0 = Int32.ofNat i := by decide +kernel
theorem x_len_ok : ∀ i, i < 23 → (Int32.ofNat (x_ln.getD i 0)) >>> ((0 : Int32) &&& 31) = Int32.ofNat (x_ln.getD i 0) := by decide +kernel
def x_ch (k j : Nat) : Int32 := (x_by.getD k []).getD j 0
theorem x_chr_ok : ∀ k, k < 23 → ∀ j, j < x_ln.getD k 0 → ((x_ch k j &&& 255).toUInt32 % 65536).toInt32 = x_ch k j ∧ narrow .char (.int (x_ch k j)) = .int (x_ch k j) := by decide +kernel
theorem x_ln_lt : ∀ k, x_ln.getD k 0 < 7 := by
  intro k
  by_cases h : k < 23
  · revert k; decide +kernel
  · rw [List.getD_eq_getElem?_getD, List.getElem?_eq_none (by show 23 ≤ k; omega)]; decide
theorem x_hi_f {v : Value} (hv : v = .null ∨ v = .ref 1400) : x_hi v := by
  intro z h
  rcases hv with e | e
  · rw [e] at h; cases h
  · rw [e] at h
    rw [← Value.ref.inj h]
    exact (by decide : 1000 ≤ 1400)
section ZJ
variable {l : Launch} {s0 : State} {a0 : Array Value} {D : va_G} {cA : Nat → ClassId} {sp : Nat → Nat} {σ : xS}
theorem c_ord (E : x_En CL l s0 a0 D cA sp) (S : x_Sw s0 sp) {q : Nat} (h1 : 1000 ≤ q) (h2 : q < 1023) : zC l s0 D cA sp 0 M_ord [.ref q] σ (some (.int (Int32.ofNat (q - 1000)))) σ := by
  have hF := (S.1.1 (q - 1000) (by show _ < 23; omega)).2.2 _ List.mem_cons_self
  rw [x_ord_ok _ (by omega)] at hF
  dsimp only at hF
  rw [show 1000 + (q - 1000) = q by omega] at hF
  refine x_enter [some (.ref q)] rfl (Nat.le_of_ble_eq_true rfl) (by decide +kernel) rfl ?_
  refine x_aload_n 1 rfl 0 dJx29ce0_ordinal_8abf5_0 rfl rfl ?_
  refine x_gof E (v := .int (Int32.ofNat (q - 1000))) hF h1 (fun _ h => by cases h) dJx29ce0_ordinal_8abf5_1 (List.mem_append_right _ (List.mem_of_getElem? (i := 1936) (by decide +kernel))) 4 rfl ?_
  exact x_iret dJx29ce0_ordinal_8abf5_4 rfl rfl rfl
theorem c_coder (E : x_En CL l s0 a0 D cA sp) (S : x_Sw s0 sp) {q : Nat} (h1 : 1200 ≤ q) (h2 : q < 1223) : zC l s0 D cA sp 0 M_coder [.ref q] σ (some (.int 0)) σ := by
  have hF := (S.2.2.2.2.2.2.1 (q - 1200) (by omega)).2.1
  rw [show 1200 + (q - 1200) = q by omega] at hF
  refine x_enter [some (.ref q)] rfl (Nat.le_of_ble_eq_true rfl) (by decide +kernel) rfl ?_
  refine x_gst E (v := .int 1) S.2.2.2.2.2.2.2.1 (fun _ h => by cases h) dJ0_coder_7d493_0 (List.mem_append_right _ (List.mem_of_getElem? (i := 643) (by decide +kernel))) 3 rfl ?_
  refine x_if_eq 6 rfl 13 dJ0_coder_7d493_3 (by decide) (fun hc => absurd hc (by decide)) (fun hc => ?_)
  refine x_aload_n 7 rfl 0 dJ0_coder_7d493_6 rfl rfl ?_
  refine x_gof E (v := .int 0) hF (by omega) (fun _ h => by cases h) dJ0_coder_7d493_7 (List.mem_append_right _ (List.mem_of_getElem? (i := 1935) (by decide +kernel))) 10 rfl ?_
  refine x_goto 14 dJ0_coder_7d493_10 (by decide) ?_
  exact x_tret (ty := .byte) rfl dJ0_coder_7d493_14 rfl rfl rfl
theorem c_lat1 (E : x_En CL l s0 a0 D cA sp) (S : x_Sw s0 sp) {q : Nat} (h1 : 1200 ≤ q) (h2 : q < 1223) : zC l s0 D cA sp 0 M_lat1 [.ref q] σ (some (.int 1)) σ := by
  have hF := (S.2.2.2.2.2.2.1 (q - 1200) (by omega)).2.1
  rw [show 1200 + (q - 1200) = q by omega] at hF
  refine x_enter [some (.ref q)] rfl (Nat.le_of_ble_eq_true rfl) (by decide +kernel) rfl ?_
  refine x_gst E (v := .int 1) S.2.2.2.2.2.2.2.1 (fun _ h => by cases h) dJ0_isLatin1_aae02_0 (List.mem_append_right _ (List.mem_of_getElem? (i := 643) (by decide +kernel))) 3 rfl ?_
  refine x_if_eq 6 rfl 17 dJ0_isLatin1_aae02_3 (by decide) (fun hc => absurd hc (by decide)) (fun hc => ?_)
  refine x_aload_n 7 rfl 0 dJ0_isLatin1_aae02_6 rfl rfl ?_
  refine x_gof E (v := .int 0) hF (by omega) (fun _ h => by cases h) dJ0_isLatin1_aae02_7 (List.mem_append_right _ (List.mem_of_getElem? (i := 1935) (by decide +kernel))) 10 rfl ?_
  refine x_if_ne 13 rfl 17 dJ0_isLatin1_aae02_10 (by decide) (fun hc => absurd rfl hc) (fun hc => ?_)
  refine x_iconst 14 rfl (v := 1) dJ0_isLatin1_aae02_13 (by decide) ?_
  refine x_goto 18 dJ0_isLatin1_aae02_14 (by decide) ?_
  exact x_tret (ty := .boolean) rfl dJ0_isLatin1_aae02_18 rfl rfl rfl
theorem KJ_coder : x_KV RJ0 335 M_coder 0 := ⟨⟨(List.mem_append_right _ (List.mem_of_getElem? (i := 639) (by decide +kernel))), (List.mem_append_right _ (List.mem_of_getElem? (i := 642) (by decide +kernel))), (List.mem_append_right _ (List.mem_of_getElem? (i := 15) (by decide +kernel))), ⟨by decide +kernel, by decide +kernel⟩, by decide +kernel⟩, (List.mem_append_right _ (List.mem_of_getElem? (i := 640) (by decide +kernel))), (List.mem_append_right _ (List.mem_of_getElem? (i := 641) (by decide +kernel)))⟩
theorem KJ_lat1 : x_KV RJ0 492 M_lat1 0 := ⟨⟨(List.mem_append_right _ (List.mem_of_getElem? (i := 649) (by decide +kernel))), (List.mem_append_right _ (List.mem_of_getElem? (i := 652) (by decide +kernel))), (List.mem_append_right _ (List.mem_of_getElem? (i := 15) (by decide +kernel))), ⟨by decide +kernel, by decide +kernel⟩, by decide +kernel⟩, (List.mem_append_right _ (List.mem_of_getElem? (i := 650) (by decide +kernel))), (List.mem_append_right _ (List.mem_of_getElem? (i := 651) (by decide +kernel)))⟩
theorem KJ_l1c : x_KS RJ0 495 M_l1c 2 := ⟨⟨(List.mem_append_right _ (List.mem_of_getElem? (i := 653) (by decide +kernel))), (List.mem_append_right _ (List.mem_of_getElem? (i := 655) (by decide +kernel))), (List.mem_append_right _ (List.mem_of_getElem? (i := 16) (by decide +kernel))), ⟨by decide +kernel, by decide +kernel⟩, by decide +kernel⟩, (List.mem_append_right _ (List.mem_of_getElem? (i := 654) (by decide +kernel)))⟩
theorem KJ_chk : x_KS RJ1 9 M_chk 2 := ⟨⟨(List.mem_append_right _ (List.mem_of_getElem? (i := 656) (by decide +kernel))), (List.mem_append_right _ (List.mem_of_getElem? (i := 658) (by decide +kernel))), (List.mem_append_right _ (List.mem_of_getElem? (i := 15) (by decide +kernel))), ⟨by decide +kernel, by decide +kernel⟩, by decide +kernel⟩, (List.mem_append_right _ (List.mem_of_getElem? (i := 657) (by decide +kernel)))⟩
theorem KJ_pre : x_KS RJ0 1059 M_pre 3 := ⟨⟨(List.mem_append_right _ (List.mem_of_getElem? (i := 661) (by decide +kernel))), (List.mem_append_right _ (List.mem_of_getElem? (i := 663) (by decide +kernel))), (List.mem_append_right _ (List.mem_of_getElem? (i := 17) (by decide +kernel))), ⟨by decide +kernel, by decide +kernel⟩, by decide +kernel⟩, (List.mem_append_right _ (List.mem_of_getElem? (i := 662) (by decide +kernel)))⟩
theorem c_slen (E : x_En CL l s0 a0 D cA sp) (S : x_Sw s0 sp) {q : Nat} (h1 : 1200 ≤ q) (h2 : q < 1223) : zC l s0 D cA sp 1 M_slen [.ref q] σ (some (.int (Int32.ofNat (x_ln.getD (q - 1200) 0)))) σ := by
  have hA := S.2.2.2.2.2.2.1 (q - 1200) (by omega)
  rw [show 1200 + (q - 1200) = q by omega] at hA
  refine x_enter [some (.ref q)] rfl (Nat.le_of_ble_eq_true rfl) (by decide +kernel) rfl ?_
  refine x_aload_n 1 rfl 0 dJ0_length_8abf5_0 rfl rfl ?_
  refine x_gof E (v := .ref (1300 + (q - 1200))) hA.2.2.1 (by omega) (fun z h => by rw [← Value.ref.inj h]; exact Nat.le_trans (by decide : 1000 ≤ 1300) (Nat.le_add_right _ _)) dJ0_length_8abf5_1 (List.mem_append_right _ (List.mem_of_getElem? (i := 1934) (by decide +kernel))) 4 rfl ?_
  refine x_tln hA.2.2.2 (by omega) dJ0_length_8abf5_4 5 rfl ?_
  refine x_aload_n 6 rfl 0 dJ0_length_8abf5_5 rfl rfl ?_
  refine x_callO (bc := 0) (bs := 0) E (as := []) (rest := [.int _]) dJ0_length_8abf5_6 KJ_coder ⟨(Nat.le_of_ble_eq_true rfl), (Nat.le_of_ble_eq_true rfl)⟩ hA.1 (by omega) rfl rfl (Nat.le_of_ble_eq_true rfl) (c_coder E S h1 h2) 9 rfl ?_
  refine x_ishr 10 rfl dJ0_length_8abf5_9 ?_
  rw [x_len_ok _ (by omega)]
  exact x_iret dJ0_length_8abf5_10 rfl rfl rfl
theorem c_pre (E : x_En CL l s0 a0 D cA sp) {i n : Int32} {v : Value} (hv : v = .null ∨ v = .ref 1400) (h1 : ¬ i < 0) (h2 : i < n) : zC l s0 D cA sp 0 M_pre [.int i, .int n, v] σ (some (.int i)) σ := by
  have e : x_args 3 [.int i, .int n, v] = [some (.int i), some (.int n), some v] := by rcases hv with rfl | rfl <;> rfl
  refine x_enter [some (.int i), some (.int n), some v] e (by rcases hv with rfl | rfl <;> exact (Nat.le_of_ble_eq_true rfl)) (by decide +kernel) rfl ?_
  refine x_iload_n 1 rfl 0 dJ3_checkIndex_8e157_0 rfl rfl ?_
  refine x_if_lt 4 rfl 9 dJ3_checkIndex_8e157_1 (by decide) (fun hc => absurd hc h1) (fun hc => ?_)
  refine x_iload_n 5 rfl 0 dJ3_checkIndex_8e157_4 rfl rfl ?_
  refine x_iload_n 6 rfl 1 dJ3_checkIndex_8e157_5 rfl rfl ?_
  refine x_icmp_lt 9 rfl 16 dJ3_checkIndex_8e157_6 (by decide) (fun hc => ?_) (fun hc => absurd h2 hc)
  refine x_iload_n 17 rfl 0 dJ3_checkIndex_8e157_16 rfl rfl ?_
  exact x_iret dJ3_checkIndex_8e157_17 rfl rfl rfl
theorem c_chk (E : x_En CL l s0 a0 D cA sp) (S : x_Sw s0 sp) {i n : Int32} (h1 : ¬ i < 0) (h2 : i < n) : zC l s0 D cA sp 1 M_chk [.int i, .int n] σ none σ := by
  obtain ⟨v, hv, hZ⟩ := S.2.2.2.2.2.2.2.2
  refine x_enter [some (.int i), some (.int n)] rfl (Nat.le_of_ble_eq_true rfl) (by decide +kernel) rfl ?_
  refine x_iload_n 1 rfl 0 dJ0_checkIndex_df160_0 rfl rfl ?_
  refine x_iload_n 2 rfl 1 dJ0_checkIndex_df160_1 rfl rfl ?_
  refine x_gst E (v := v) hZ (x_hi_f hv) dJ0_checkIndex_df160_2 (List.mem_append_right _ (List.mem_of_getElem? (i := 659) (by decide +kernel))) 5 rfl ?_
  refine x_callS (bc := 0) (bs := 0) E (as := [.int i, .int n, v]) (rest := []) dJ0_checkIndex_df160_5 KJ_pre ⟨(Nat.le_of_ble_eq_true rfl), (Nat.le_of_ble_eq_true rfl)⟩ rfl rfl (Nat.le_of_ble_eq_true rfl) (c_pre E hv h1 h2) 8 rfl ?_
  refine x_pop (v := .int i) 9 rfl dJ0_checkIndex_df160_8 rfl ?_
  exact x_vret dJ0_checkIndex_df160_9 rfl rfl rfl
theorem c_l1c (E : x_En CL l s0 a0 D cA sp) (S : x_Sw s0 sp) {k : Nat} {i : Int32} (hk : k < 23) (h1 : ¬ i < 0) (h2 : i.toNatClampNeg < x_ln.getD k 0) (h3 : i < Int32.ofNat (x_ln.getD k 0)) : zC l s0 D cA sp 2 M_l1c [.ref (1300 + k), .int i] σ (some (.int (x_ch k i.toNatClampNeg))) σ := by
  have hA := (S.2.2.2.2.2.2.1 k hk).2.2.2
  refine x_enter [some (.ref (1300 + k)), some (.int i)] rfl (Nat.le_of_ble_eq_true rfl) (by decide +kernel) rfl ?_
  refine x_iload_n 1 rfl 1 dJ1_charAt_3b067_0 rfl rfl ?_
  refine x_aload_n 2 rfl 0 dJ1_charAt_3b067_1 rfl rfl ?_
  refine x_tln hA (by omega) dJ1_charAt_3b067_2 3 rfl ?_
  refine x_callS (bc := 0) (bs := 0) E (as := [.int i, .int _]) (rest := []) dJ1_charAt_3b067_3 KJ_chk ⟨(Nat.le_of_ble_eq_true rfl), (Nat.le_of_ble_eq_true rfl)⟩ rfl rfl (Nat.le_of_ble_eq_true rfl) (c_chk E S h1 h3) 6 rfl ?_
  refine x_aload_n 7 rfl 0 dJ1_charAt_3b067_6 rfl rfl ?_
  refine x_iload_n 8 rfl 1 dJ1_charAt_3b067_7 rfl rfl ?_
  refine x_tbb hA (by omega) dJ1_charAt_3b067_8 _ rfl (fun h => h.elim h1 (fun h => by omega)) 9 rfl ?_
  refine x_sipush 12 rfl (v := 255) dJ1_charAt_3b067_9 (by decide) ?_
  refine x_iand 13 rfl dJ1_charAt_3b067_12 ?_
  refine x_i2c dJ1_charAt_3b067_13 14 rfl ?_
  have hq := x_chr_ok k hk _ h2
  unfold x_ch at hq
  rw [hq.1]
  exact x_tret (ty := .char) hq.2 dJ1_charAt_3b067_14 rfl rfl rfl
theorem c_schar (E : x_En CL l s0 a0 D cA sp) (S : x_Sw s0 sp) {q : Nat} {i : Int32} (g1 : 1200 ≤ q) (g2 : q < 1223) (h1 : ¬ i < 0) (h2 : i.toNatClampNeg < x_ln.getD (q - 1200) 0) : zC l s0 D cA sp 3 M_sch [.ref q, .int i] σ (some (.int (x_ch (q - 1200) i.toNatClampNeg))) σ := by
  have hA := S.2.2.2.2.2.2.1 (q - 1200) (by omega)
  have h7 := x_ln_lt (q - 1200)
  have h3 : i < Int32.ofNat (x_ln.getD (q - 1200) 0) := by
    obtain ⟨j, hj, e⟩ := nI_of h1
    rw [e, nI_clamp hj] at h2
    rw [e]
    exact nI_lt h2 (by omega)
  rw [show 1200 + (q - 1200) = q by omega] at hA
  refine x_enter [some (.ref q), some (.int i)] rfl (Nat.le_of_ble_eq_true rfl) (by decide +kernel) rfl ?_
  refine x_aload_n 1 rfl 0 dJ0_charAt_5068e_0 rfl rfl ?_
  refine x_callO (bc := 0) (bs := 0) E (as := []) (rest := []) dJ0_charAt_5068e_1 KJ_lat1 ⟨(Nat.le_of_ble_eq_true rfl), (Nat.le_of_ble_eq_true rfl)⟩ hA.1 (by omega) rfl rfl (Nat.le_of_ble_eq_true rfl) (c_lat1 E S g1 g2) 4 rfl ?_
  refine x_if_eq (x := 1) 7 rfl 16 dJ0_charAt_5068e_4 (by decide) (fun hc => absurd hc (by decide)) (fun hc => ?_)
  refine x_aload_n 8 rfl 0 dJ0_charAt_5068e_7 rfl rfl ?_
  refine x_gof E (v := .ref (1300 + (q - 1200))) hA.2.2.1 (by omega) (fun z h => by rw [← Value.ref.inj h]; exact Nat.le_trans (by decide : 1000 ≤ 1300) (Nat.le_add_right _ _)) dJ0_charAt_5068e_8 (List.mem_append_right _ (List.mem_of_getElem? (i := 1934) (by decide +kernel))) 11 rfl ?_
  refine x_iload_n 12 rfl 1 dJ0_charAt_5068e_11 rfl rfl ?_
  refine x_callS (bc := 0) (bs := 0) E (as := [.ref (1300 + (q - 1200)), .int i]) (rest := []) dJ0_charAt_5068e_12 KJ_l1c ⟨(Nat.le_of_ble_eq_true rfl), (Nat.le_of_ble_eq_true rfl)⟩ rfl rfl (Nat.le_of_ble_eq_true rfl) (c_l1c E S (by omega) h1 h2 h3) 15 rfl ?_
  exact x_tret (ty := .char) (x_chr_ok _ (by omega) _ h2).2 dJ0_charAt_5068e_15 rfl rfl rfl
end ZJ
