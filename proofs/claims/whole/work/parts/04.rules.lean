/-! The rules of x_W: an instruction a rule. Written by wip/gen/rules.py. -/
section XR
variable {cl : List vw_C} {fk : Nat → Nat → Nat} {l : Launch} {s0 : State} {a0 : Array Value} {D : va_G} {cA : Nat → ClassId} {sp : Nat → Nat} {QQ : List Frame → Array Value → State → (Nat → Nat) → State → Prop} {R : Room} {gr : Bool} {M : xM} {bc bs : Nat} {sh : xH} {rf : xR} {pc : Nat} {ls : List (Option Value)} {st : List Value} {σ : xS}
theorem x_iconst (pc' : Nat) (hpc : pc + 1 = pc') {n : Int} {v : Int32} (hd : decode M.2.1 pc = .ok (.iconst n, 1)) (hv : Int32.ofInt n = v) (k : x_W cl fk l s0 D cA sp QQ R gr M bc bs sh rf pc' ls (.int v :: st) σ) : x_W cl fk l s0 D cA sp QQ R gr M bc bs sh rf pc ls st σ := by
  subst hpc
  intro p e s m args below meth c ad mls H locs cells slots hM hR hS hl hc hs
  exact lv_iconst hM.1.1 hM.1.2.1 hd hv (k p e s m args below meth c ad mls H locs cells slots hM hR hS hl hc hs)
theorem x_bipush (pc' : Nat) (hpc : pc + 2 = pc') {n : Int} {v : Int32} (hd : decode M.2.1 pc = .ok (.bipush n, 2)) (hv : (Int8.ofInt n).toInt32 = v) (k : x_W cl fk l s0 D cA sp QQ R gr M bc bs sh rf pc' ls (.int v :: st) σ) : x_W cl fk l s0 D cA sp QQ R gr M bc bs sh rf pc ls st σ := by
  subst hpc
  intro p e s m args below meth c ad mls H locs cells slots hM hR hS hl hc hs
  exact lv_bipush hM.1.1 hM.1.2.1 hd hv (k p e s m args below meth c ad mls H locs cells slots hM hR hS hl hc hs)
theorem x_sipush (pc' : Nat) (hpc : pc + 3 = pc') {n : Int} {v : Int32} (hd : decode M.2.1 pc = .ok (.sipush n, 3)) (hv : (Int16.ofInt n).toInt32 = v) (k : x_W cl fk l s0 D cA sp QQ R gr M bc bs sh rf pc' ls (.int v :: st) σ) : x_W cl fk l s0 D cA sp QQ R gr M bc bs sh rf pc ls st σ := by
  subst hpc
  intro p e s m args below meth c ad mls H locs cells slots hM hR hS hl hc hs
  exact lv_sipush hM.1.1 hM.1.2.1 hd hv (k p e s m args below meth c ad mls H locs cells slots hM hR hS hl hc hs)
theorem x_lconst (pc' : Nat) (hpc : pc + 1 = pc') {n : Fin 2} {v : Int64} (hd : decode M.2.1 pc = .ok (.lconst n, 1)) (hv : Int64.ofNat (n : Nat) = v) (k : x_W cl fk l s0 D cA sp QQ R gr M bc bs sh rf pc' ls (.long v :: st) σ) : x_W cl fk l s0 D cA sp QQ R gr M bc bs sh rf pc ls st σ := by
  subst hpc
  intro p e s m args below meth c ad mls H locs cells slots hM hR hS hl hc hs
  exact lv_lconst hM.1.1 hM.1.2.1 hd hv (k p e s m args below meth c ad mls H locs cells slots hM hR hS hl hc hs)
theorem x_ldc (pc' : Nat) (hpc : pc + 2 = pc') (E : x_En cl l s0 a0 D cA sp) {n : Nat} {v : Int32} (hd : decode M.2.1 pc = .ok (.ldc n, 2)) (hw : Cond.constant M.1.cls n v ∈ lw_tbl) (k : x_W cl fk l s0 D cA sp QQ R gr M bc bs sh rf pc' ls (.int v :: st) σ) : x_W cl fk l s0 D cA sp QQ R gr M bc bs sh rf pc ls st σ := by
  subst hpc
  intro p e s m args below meth c ad mls H locs cells slots hM hR hS hl hc hs
  exact W.ldc hM.1.1 hM.1.2.1 hM.1.2.2.2.1 (x_word E hM.2.1 hw rfl args) rfl hd (k p e s m args below meth c ad mls H locs cells slots hM hR hS hl hc hs)
theorem x_ldcw (pc' : Nat) (hpc : pc + 3 = pc') (E : x_En cl l s0 a0 D cA sp) {n : Nat} {v : Int32} (hd : decode M.2.1 pc = .ok (.ldc_w n, 3)) (hw : Cond.constant M.1.cls n v ∈ lw_tbl) (k : x_W cl fk l s0 D cA sp QQ R gr M bc bs sh rf pc' ls (.int v :: st) σ) : x_W cl fk l s0 D cA sp QQ R gr M bc bs sh rf pc ls st σ := by
  subst hpc
  intro p e s m args below meth c ad mls H locs cells slots hM hR hS hl hc hs
  exact lv_ldcw hM.1.1 hM.1.2.1 hM.1.2.2.2.1 (x_word E hM.2.1 hw rfl args) hd (k p e s m args below meth c ad mls H locs cells slots hM hR hS hl hc hs)
theorem x_ldc2 (pc' : Nat) (hpc : pc + 3 = pc') (E : x_En cl l s0 a0 D cA sp) {n : Nat} {v : Int64} (hd : decode M.2.1 pc = .ok (.ldc2_w n, 3)) (hw : Cond.constantLong M.1.cls n v ∈ lw_tbl) (k : x_W cl fk l s0 D cA sp QQ R gr M bc bs sh rf pc' ls (.long v :: st) σ) : x_W cl fk l s0 D cA sp QQ R gr M bc bs sh rf pc ls st σ := by
  subst hpc
  intro p e s m args below meth c ad mls H locs cells slots hM hR hS hl hc hs
  exact W.ldc2 hM.1.1 hM.1.2.1 hM.1.2.2.2.1 (x_word E hM.2.1 hw rfl args) rfl hd (k p e s m args below meth c ad mls H locs cells slots hM hR hS hl hc hs)
theorem x_iload_n (pc' : Nat) (hpc : pc + 1 = pc') {j : Fin 4} (i : Nat) {x : Int32} (hd : decode M.2.1 pc = .ok (.iload_n j, 1)) (hi : (j : Nat) = i) (hx : ls[i]? = some (some (.int x))) (k : x_W cl fk l s0 D cA sp QQ R gr M bc bs sh rf pc' ls (.int x :: st) σ) : x_W cl fk l s0 D cA sp QQ R gr M bc bs sh rf pc ls st σ := by
  subst hpc
  intro p e s m args below meth c ad mls H locs cells slots hM hR hS hl hc hs
  exact lv_iload_n hM.1.1 hM.1.2.1 hd hi (hl.at hx) (k p e s m args below meth c ad mls H locs cells slots hM hR hS hl hc hs)
theorem x_iload (pc' : Nat) (hpc : pc + 2 = pc') {i : Nat} {x : Int32} (hd : decode M.2.1 pc = .ok (.iload i, 2)) (hx : ls[i]? = some (some (.int x))) (k : x_W cl fk l s0 D cA sp QQ R gr M bc bs sh rf pc' ls (.int x :: st) σ) : x_W cl fk l s0 D cA sp QQ R gr M bc bs sh rf pc ls st σ := by
  subst hpc
  intro p e s m args below meth c ad mls H locs cells slots hM hR hS hl hc hs
  exact lv_iload hM.1.1 hM.1.2.1 hd (hl.at hx) (k p e s m args below meth c ad mls H locs cells slots hM hR hS hl hc hs)
theorem x_istore_n (pc' : Nat) (hpc : pc + 1 = pc') {j : Fin 4} (i : Nat) {x : Int32} (hd : decode M.2.1 pc = .ok (.istore_n j, 1)) (hi : (j : Nat) = i) (hn : i < M.2.2.1) (ls' : List (Option Value)) (hls : x_st1 ls i (.int x) = ls') (k : x_W cl fk l s0 D cA sp QQ R gr M bc bs sh rf pc' ls' st σ) : x_W cl fk l s0 D cA sp QQ R gr M bc bs sh rf pc ls (.int x :: st) σ := by
  subst hpc
  intro p e s m args below meth c ad mls H locs cells slots hM hR hS hl hc hs
  subst hls
  exact lv_istore_n hM.1.1 hM.1.2.1 hd hi hl.has hn rfl (fun mls' h' => k p e s m args below meth c ad mls' H locs cells slots hM hR hS (hl.st1 (v := .int x) h' rfl) hc hs)
theorem x_istore (pc' : Nat) (hpc : pc + 2 = pc') {i : Nat} {x : Int32} (hd : decode M.2.1 pc = .ok (.istore i, 2)) (hn : i < M.2.2.1) (ls' : List (Option Value)) (hls : x_st1 ls i (.int x) = ls') (k : x_W cl fk l s0 D cA sp QQ R gr M bc bs sh rf pc' ls' st σ) : x_W cl fk l s0 D cA sp QQ R gr M bc bs sh rf pc ls (.int x :: st) σ := by
  subst hpc
  intro p e s m args below meth c ad mls H locs cells slots hM hR hS hl hc hs
  subst hls
  exact lv_istore hM.1.1 hM.1.2.1 hd hl.has hn rfl (fun mls' h' => k p e s m args below meth c ad mls' H locs cells slots hM hR hS (hl.st1 (v := .int x) h' rfl) hc hs)
theorem x_lload_n (pc' : Nat) (hpc : pc + 1 = pc') {j : Fin 4} (i : Nat) {x : Int64} (hd : decode M.2.1 pc = .ok (.lload_n j, 1)) (hi : (j : Nat) = i) (hx : ls[i]? = some (some (.long x))) (k : x_W cl fk l s0 D cA sp QQ R gr M bc bs sh rf pc' ls (.long x :: st) σ) : x_W cl fk l s0 D cA sp QQ R gr M bc bs sh rf pc ls st σ := by
  subst hpc
  intro p e s m args below meth c ad mls H locs cells slots hM hR hS hl hc hs
  exact lv_lload_n hM.1.1 hM.1.2.1 hd hi (hl.at hx) (k p e s m args below meth c ad mls H locs cells slots hM hR hS hl hc hs)
theorem x_lload (pc' : Nat) (hpc : pc + 2 = pc') {i : Nat} {x : Int64} (hd : decode M.2.1 pc = .ok (.lload i, 2)) (hx : ls[i]? = some (some (.long x))) (k : x_W cl fk l s0 D cA sp QQ R gr M bc bs sh rf pc' ls (.long x :: st) σ) : x_W cl fk l s0 D cA sp QQ R gr M bc bs sh rf pc ls st σ := by
  subst hpc
  intro p e s m args below meth c ad mls H locs cells slots hM hR hS hl hc hs
  exact lv_lload hM.1.1 hM.1.2.1 hd (hl.at hx) (k p e s m args below meth c ad mls H locs cells slots hM hR hS hl hc hs)
theorem x_lstore_n (pc' : Nat) (hpc : pc + 1 = pc') {j : Fin 4} (i : Nat) {x : Int64} (hd : decode M.2.1 pc = .ok (.lstore_n j, 1)) (hi : (j : Nat) = i) (hn : i + 1 < M.2.2.1) (ls' : List (Option Value)) (hls : x_st2 ls i (.long x) = ls') (k : x_W cl fk l s0 D cA sp QQ R gr M bc bs sh rf pc' ls' st σ) : x_W cl fk l s0 D cA sp QQ R gr M bc bs sh rf pc ls (.long x :: st) σ := by
  subst hpc
  intro p e s m args below meth c ad mls H locs cells slots hM hR hS hl hc hs
  subst hls
  exact lv_lstore_n hM.1.1 hM.1.2.1 hd hi hl.has hn rfl (fun mls' h' => k p e s m args below meth c ad mls' H locs cells slots hM hR hS (hl.st2 (v := .long x) h' rfl) hc hs)
theorem x_lstore (pc' : Nat) (hpc : pc + 2 = pc') {i : Nat} {x : Int64} (hd : decode M.2.1 pc = .ok (.lstore i, 2)) (hn : i + 1 < M.2.2.1) (ls' : List (Option Value)) (hls : x_st2 ls i (.long x) = ls') (k : x_W cl fk l s0 D cA sp QQ R gr M bc bs sh rf pc' ls' st σ) : x_W cl fk l s0 D cA sp QQ R gr M bc bs sh rf pc ls (.long x :: st) σ := by
  subst hpc
  intro p e s m args below meth c ad mls H locs cells slots hM hR hS hl hc hs
  subst hls
  exact lv_lstore hM.1.1 hM.1.2.1 hd hl.has hn rfl (fun mls' h' => k p e s m args below meth c ad mls' H locs cells slots hM hR hS (hl.st2 (v := .long x) h' rfl) hc hs)
theorem x_aload_n (pc' : Nat) (hpc : pc + 1 = pc') {j : Fin 4} (i : Nat) {x : Nat} (hd : decode M.2.1 pc = .ok (.aload_n j, 1)) (hi : (j : Nat) = i) (hx : ls[i]? = some (some (.ref x))) (k : x_W cl fk l s0 D cA sp QQ R gr M bc bs sh rf pc' ls (.ref x :: st) σ) : x_W cl fk l s0 D cA sp QQ R gr M bc bs sh rf pc ls st σ := by
  subst hpc
  intro p e s m args below meth c ad mls H locs cells slots hM hR hS hl hc hs
  exact lv_aload_n hM.1.1 hM.1.2.1 hd hi (hl.at hx) (k p e s m args below meth c ad mls H locs cells slots hM hR hS hl hc hs)
theorem x_aload (pc' : Nat) (hpc : pc + 2 = pc') {i : Nat} {x : Nat} (hd : decode M.2.1 pc = .ok (.aload i, 2)) (hx : ls[i]? = some (some (.ref x))) (k : x_W cl fk l s0 D cA sp QQ R gr M bc bs sh rf pc' ls (.ref x :: st) σ) : x_W cl fk l s0 D cA sp QQ R gr M bc bs sh rf pc ls st σ := by
  subst hpc
  intro p e s m args below meth c ad mls H locs cells slots hM hR hS hl hc hs
  exact lv_aload hM.1.1 hM.1.2.1 hd (hl.at hx) (k p e s m args below meth c ad mls H locs cells slots hM hR hS hl hc hs)
theorem x_astore_n (pc' : Nat) (hpc : pc + 1 = pc') {j : Fin 4} (i : Nat) {x : Nat} (hd : decode M.2.1 pc = .ok (.astore_n j, 1)) (hi : (j : Nat) = i) (hn : i < M.2.2.1) (ls' : List (Option Value)) (hls : x_st1 ls i (.ref x) = ls') (k : x_W cl fk l s0 D cA sp QQ R gr M bc bs sh rf pc' ls' st σ) : x_W cl fk l s0 D cA sp QQ R gr M bc bs sh rf pc ls (.ref x :: st) σ := by
  subst hpc
  intro p e s m args below meth c ad mls H locs cells slots hM hR hS hl hc hs
  subst hls
  exact lv_astore_n hM.1.1 hM.1.2.1 hd hi hl.has hn rfl (fun mls' h' => k p e s m args below meth c ad mls' H locs cells slots hM hR hS (hl.st1 (v := .ref x) h' rfl) hc hs)
theorem x_astore (pc' : Nat) (hpc : pc + 2 = pc') {i : Nat} {x : Nat} (hd : decode M.2.1 pc = .ok (.astore i, 2)) (hn : i < M.2.2.1) (ls' : List (Option Value)) (hls : x_st1 ls i (.ref x) = ls') (k : x_W cl fk l s0 D cA sp QQ R gr M bc bs sh rf pc' ls' st σ) : x_W cl fk l s0 D cA sp QQ R gr M bc bs sh rf pc ls (.ref x :: st) σ := by
  subst hpc
  intro p e s m args below meth c ad mls H locs cells slots hM hR hS hl hc hs
  subst hls
  exact lv_astore hM.1.1 hM.1.2.1 hd hl.has hn rfl (fun mls' h' => k p e s m args below meth c ad mls' H locs cells slots hM hR hS (hl.st1 (v := .ref x) h' rfl) hc hs)
theorem x_iinc (pc' : Nat) (hpc : pc + 3 = pc') {i : Nat} {n : Int} {x : Int32} (v : Int32) (hd : decode M.2.1 pc = .ok (.iinc i n, 3)) (hx : ls[i]? = some (some (.int x))) (hv : Int32.ofInt n = v) (hn : i < M.2.2.1) (ls' : List (Option Value)) (hls : x_st1 ls i (.int (x + v)) = ls') (k : x_W cl fk l s0 D cA sp QQ R gr M bc bs sh rf pc' ls' st σ) : x_W cl fk l s0 D cA sp QQ R gr M bc bs sh rf pc ls st σ := by
  subst hpc
  intro p e s m args below meth c ad mls H locs cells slots hM hR hS hl hc hs
  subst hls
  subst hv
  obtain ⟨j, hj⟩ := List.getElem?_of_mem (x_al_mem (ad := ad).mpr ⟨_, hx, rfl⟩)
  exact lv_iinc hM.1.1 hM.1.2.1 hd hl.has hj rfl hn rfl (fun mls' h' => k p e s m args below meth c ad mls' H locs cells slots hM hR hS (hl.st1 (v := .int (x + Int32.ofInt n)) h' rfl) hc hs)
theorem x_iadd (pc' : Nat) (hpc : pc + 1 = pc') {x y : Int32} (hd : decode M.2.1 pc = .ok (.iadd, 1))  (k : x_W cl fk l s0 D cA sp QQ R gr M bc bs sh rf pc' ls (.int (x + y) :: st) σ) : x_W cl fk l s0 D cA sp QQ R gr M bc bs sh rf pc ls (.int y :: .int x :: st) σ := by
  subst hpc
  intro p e s m args below meth c ad mls H locs cells slots hM hR hS hl hc hs
  exact lv_iadd hM.1.1 hM.1.2.1 hd  (k p e s m args below meth c ad mls H locs cells slots hM hR hS hl hc hs)
theorem x_isub (pc' : Nat) (hpc : pc + 1 = pc') {x y : Int32} (hd : decode M.2.1 pc = .ok (.isub, 1))  (k : x_W cl fk l s0 D cA sp QQ R gr M bc bs sh rf pc' ls (.int (x - y) :: st) σ) : x_W cl fk l s0 D cA sp QQ R gr M bc bs sh rf pc ls (.int y :: .int x :: st) σ := by
  subst hpc
  intro p e s m args below meth c ad mls H locs cells slots hM hR hS hl hc hs
  exact lv_isub hM.1.1 hM.1.2.1 hd  (k p e s m args below meth c ad mls H locs cells slots hM hR hS hl hc hs)
theorem x_imul (pc' : Nat) (hpc : pc + 1 = pc') {x y : Int32} (hd : decode M.2.1 pc = .ok (.imul, 1))  (k : x_W cl fk l s0 D cA sp QQ R gr M bc bs sh rf pc' ls (.int (x * y) :: st) σ) : x_W cl fk l s0 D cA sp QQ R gr M bc bs sh rf pc ls (.int y :: .int x :: st) σ := by
  subst hpc
  intro p e s m args below meth c ad mls H locs cells slots hM hR hS hl hc hs
  exact lv_imul hM.1.1 hM.1.2.1 hd  (k p e s m args below meth c ad mls H locs cells slots hM hR hS hl hc hs)
theorem x_iand (pc' : Nat) (hpc : pc + 1 = pc') {x y : Int32} (hd : decode M.2.1 pc = .ok (.iand, 1))  (k : x_W cl fk l s0 D cA sp QQ R gr M bc bs sh rf pc' ls (.int (x &&& y) :: st) σ) : x_W cl fk l s0 D cA sp QQ R gr M bc bs sh rf pc ls (.int y :: .int x :: st) σ := by
  subst hpc
  intro p e s m args below meth c ad mls H locs cells slots hM hR hS hl hc hs
  exact lv_iand hM.1.1 hM.1.2.1 hd  (k p e s m args below meth c ad mls H locs cells slots hM hR hS hl hc hs)
theorem x_ior (pc' : Nat) (hpc : pc + 1 = pc') {x y : Int32} (hd : decode M.2.1 pc = .ok (.ior, 1))  (k : x_W cl fk l s0 D cA sp QQ R gr M bc bs sh rf pc' ls (.int (x ||| y) :: st) σ) : x_W cl fk l s0 D cA sp QQ R gr M bc bs sh rf pc ls (.int y :: .int x :: st) σ := by
  subst hpc
  intro p e s m args below meth c ad mls H locs cells slots hM hR hS hl hc hs
  exact lv_ior hM.1.1 hM.1.2.1 hd  (k p e s m args below meth c ad mls H locs cells slots hM hR hS hl hc hs)
theorem x_ishl (pc' : Nat) (hpc : pc + 1 = pc') {x y : Int32} (hd : decode M.2.1 pc = .ok (.ishl, 1))  (k : x_W cl fk l s0 D cA sp QQ R gr M bc bs sh rf pc' ls (.int (x <<< (y &&& 31)) :: st) σ) : x_W cl fk l s0 D cA sp QQ R gr M bc bs sh rf pc ls (.int y :: .int x :: st) σ := by
  subst hpc
  intro p e s m args below meth c ad mls H locs cells slots hM hR hS hl hc hs
  exact lv_ishl hM.1.1 hM.1.2.1 hd  (k p e s m args below meth c ad mls H locs cells slots hM hR hS hl hc hs)
theorem x_ishr (pc' : Nat) (hpc : pc + 1 = pc') {x y : Int32} (hd : decode M.2.1 pc = .ok (.ishr, 1))  (k : x_W cl fk l s0 D cA sp QQ R gr M bc bs sh rf pc' ls (.int (x >>> (y &&& 31)) :: st) σ) : x_W cl fk l s0 D cA sp QQ R gr M bc bs sh rf pc ls (.int y :: .int x :: st) σ := by
  subst hpc
  intro p e s m args below meth c ad mls H locs cells slots hM hR hS hl hc hs
  exact lv_ishr hM.1.1 hM.1.2.1 hd  (k p e s m args below meth c ad mls H locs cells slots hM hR hS hl hc hs)
theorem x_idiv (pc' : Nat) (hpc : pc + 1 = pc') {x y : Int32} (hd : decode M.2.1 pc = .ok (.idiv, 1)) (hne : ¬ y = 0) (k : x_W cl fk l s0 D cA sp QQ R gr M bc bs sh rf pc' ls (.int (x / y) :: st) σ) : x_W cl fk l s0 D cA sp QQ R gr M bc bs sh rf pc ls (.int y :: .int x :: st) σ := by
  subst hpc
  intro p e s m args below meth c ad mls H locs cells slots hM hR hS hl hc hs
  exact lv_idiv hM.1.1 hM.1.2.1 hd hne (k p e s m args below meth c ad mls H locs cells slots hM hR hS hl hc hs)
theorem x_irem (pc' : Nat) (hpc : pc + 1 = pc') {x y : Int32} (hd : decode M.2.1 pc = .ok (.irem, 1)) (hne : ¬ y = 0) (k : x_W cl fk l s0 D cA sp QQ R gr M bc bs sh rf pc' ls (.int (x - x / y * y) :: st) σ) : x_W cl fk l s0 D cA sp QQ R gr M bc bs sh rf pc ls (.int y :: .int x :: st) σ := by
  subst hpc
  intro p e s m args below meth c ad mls H locs cells slots hM hR hS hl hc hs
  exact lv_irem hM.1.1 hM.1.2.1 hd hne (k p e s m args below meth c ad mls H locs cells slots hM hR hS hl hc hs)
theorem x_ineg (pc' : Nat) (hpc : pc + 1 = pc') {x : Int32} (hd : decode M.2.1 pc = .ok (.ineg, 1))  (k : x_W cl fk l s0 D cA sp QQ R gr M bc bs sh rf pc' ls (.int (-x) :: st) σ) : x_W cl fk l s0 D cA sp QQ R gr M bc bs sh rf pc ls (.int x :: st) σ := by
  subst hpc
  intro p e s m args below meth c ad mls H locs cells slots hM hR hS hl hc hs
  exact lv_ineg hM.1.1 hM.1.2.1 hd  (k p e s m args below meth c ad mls H locs cells slots hM hR hS hl hc hs)
theorem x_iushr (pc' : Nat) (hpc : pc + 1 = pc') {x y : Int32} (hd : decode M.2.1 pc = .ok (.iushr, 1))  (k : x_W cl fk l s0 D cA sp QQ R gr M bc bs sh rf pc' ls (.int (x.toUInt32 >>> (y.toUInt32 &&& Int32.toUInt32 31)).toInt32 :: st) σ) : x_W cl fk l s0 D cA sp QQ R gr M bc bs sh rf pc ls (.int y :: .int x :: st) σ := by
  subst hpc
  intro p e s m args below meth c ad mls H locs cells slots hM hR hS hl hc hs
  exact lv_iushr hM.1.1 hM.1.2.1 hd rfl (k p e s m args below meth c ad mls H locs cells slots hM hR hS hl hc hs)
theorem x_ladd (pc' : Nat) (hpc : pc + 1 = pc') {x y : Int64} (hd : decode M.2.1 pc = .ok (.ladd, 1))  (k : x_W cl fk l s0 D cA sp QQ R gr M bc bs sh rf pc' ls (.long (x + y) :: st) σ) : x_W cl fk l s0 D cA sp QQ R gr M bc bs sh rf pc ls (.long y :: .long x :: st) σ := by
  subst hpc
  intro p e s m args below meth c ad mls H locs cells slots hM hR hS hl hc hs
  exact lv_ladd hM.1.1 hM.1.2.1 hd  (k p e s m args below meth c ad mls H locs cells slots hM hR hS hl hc hs)
theorem x_lsub (pc' : Nat) (hpc : pc + 1 = pc') {x y : Int64} (hd : decode M.2.1 pc = .ok (.lsub, 1))  (k : x_W cl fk l s0 D cA sp QQ R gr M bc bs sh rf pc' ls (.long (x - y) :: st) σ) : x_W cl fk l s0 D cA sp QQ R gr M bc bs sh rf pc ls (.long y :: .long x :: st) σ := by
  subst hpc
  intro p e s m args below meth c ad mls H locs cells slots hM hR hS hl hc hs
  exact lv_lsub hM.1.1 hM.1.2.1 hd  (k p e s m args below meth c ad mls H locs cells slots hM hR hS hl hc hs)
theorem x_lmul (pc' : Nat) (hpc : pc + 1 = pc') {x y : Int64} (hd : decode M.2.1 pc = .ok (.lmul, 1))  (k : x_W cl fk l s0 D cA sp QQ R gr M bc bs sh rf pc' ls (.long (x * y) :: st) σ) : x_W cl fk l s0 D cA sp QQ R gr M bc bs sh rf pc ls (.long y :: .long x :: st) σ := by
  subst hpc
  intro p e s m args below meth c ad mls H locs cells slots hM hR hS hl hc hs
  exact lv_lmul hM.1.1 hM.1.2.1 hd  (k p e s m args below meth c ad mls H locs cells slots hM hR hS hl hc hs)
theorem x_lor (pc' : Nat) (hpc : pc + 1 = pc') {x y : Int64} (hd : decode M.2.1 pc = .ok (.lor, 1))  (k : x_W cl fk l s0 D cA sp QQ R gr M bc bs sh rf pc' ls (.long (x ||| y) :: st) σ) : x_W cl fk l s0 D cA sp QQ R gr M bc bs sh rf pc ls (.long y :: .long x :: st) σ := by
  subst hpc
  intro p e s m args below meth c ad mls H locs cells slots hM hR hS hl hc hs
  exact lv_lor hM.1.1 hM.1.2.1 hd  (k p e s m args below meth c ad mls H locs cells slots hM hR hS hl hc hs)
theorem x_lshl (pc' : Nat) (hpc : pc + 1 = pc') {x : Int64} {y : Int32} (hd : decode M.2.1 pc = .ok (.lshl, 1))  (k : x_W cl fk l s0 D cA sp QQ R gr M bc bs sh rf pc' ls (.long (x <<< (y.toInt64 &&& 63)) :: st) σ) : x_W cl fk l s0 D cA sp QQ R gr M bc bs sh rf pc ls (.int y :: .long x :: st) σ := by
  subst hpc
  intro p e s m args below meth c ad mls H locs cells slots hM hR hS hl hc hs
  exact lv_lshl hM.1.1 hM.1.2.1 hd rfl (k p e s m args below meth c ad mls H locs cells slots hM hR hS hl hc hs)
theorem x_i2l (pc' : Nat) (hpc : pc + 1 = pc') {x : Int32} (hd : decode M.2.1 pc = .ok (.i2l, 1))  (k : x_W cl fk l s0 D cA sp QQ R gr M bc bs sh rf pc' ls (.long x.toInt64 :: st) σ) : x_W cl fk l s0 D cA sp QQ R gr M bc bs sh rf pc ls (.int x :: st) σ := by
  subst hpc
  intro p e s m args below meth c ad mls H locs cells slots hM hR hS hl hc hs
  exact lv_i2l hM.1.1 hM.1.2.1 hd rfl (k p e s m args below meth c ad mls H locs cells slots hM hR hS hl hc hs)
theorem x_lcmp (pc' : Nat) (hpc : pc + 1 = pc') {x y : Int64} (hd : decode M.2.1 pc = .ok (.lcmp, 1))  (k : x_W cl fk l s0 D cA sp QQ R gr M bc bs sh rf pc' ls (.int (lg_cmp x y) :: st) σ) : x_W cl fk l s0 D cA sp QQ R gr M bc bs sh rf pc ls (.long y :: .long x :: st) σ := by
  subst hpc
  intro p e s m args below meth c ad mls H locs cells slots hM hR hS hl hc hs
  exact W.lcmp hM.1.1 hM.1.2.1 hd  (k p e s m args below meth c ad mls H locs cells slots hM hR hS hl hc hs)
theorem x_dup (pc' : Nat) (hpc : pc + 1 = pc') {v : Value} (hd : decode M.2.1 pc = .ok (.dup, 1)) (hv : v.category = 1) (k : x_W cl fk l s0 D cA sp QQ R gr M bc bs sh rf pc' ls (v :: v :: st) σ) : x_W cl fk l s0 D cA sp QQ R gr M bc bs sh rf pc ls (v :: st) σ := by
  subst hpc
  intro p e s m args below meth c ad mls H locs cells slots hM hR hS hl hc hs
  exact lv_dup hM.1.1 hM.1.2.1 hd (by rw [x_tr_cat]; exact hv) (k p e s m args below meth c ad mls H locs cells slots hM hR hS hl hc hs)
theorem x_pop (pc' : Nat) (hpc : pc + 1 = pc') {v : Value} (hd : decode M.2.1 pc = .ok (.pop, 1)) (hv : v.category = 1) (k : x_W cl fk l s0 D cA sp QQ R gr M bc bs sh rf pc' ls st σ) : x_W cl fk l s0 D cA sp QQ R gr M bc bs sh rf pc ls (v :: st) σ := by
  subst hpc
  intro p e s m args below meth c ad mls H locs cells slots hM hR hS hl hc hs
  exact lv_pop hM.1.1 hM.1.2.1 hd (by rw [x_tr_cat]; exact hv) (k p e s m args below meth c ad mls H locs cells slots hM hR hS hl hc hs)
theorem x_dup2 (pc' : Nat) (hpc : pc + 1 = pc') {v w : Value} (hd : decode M.2.1 pc = .ok (.dup2, 1)) (hv : v.category = 1) (hw : w.category = 1) (k : x_W cl fk l s0 D cA sp QQ R gr M bc bs sh rf pc' ls (v :: w :: v :: w :: st) σ) : x_W cl fk l s0 D cA sp QQ R gr M bc bs sh rf pc ls (v :: w :: st) σ := by
  subst hpc
  intro p e s m args below meth c ad mls H locs cells slots hM hR hS hl hc hs
  exact lv_dup2_11 hM.1.1 hM.1.2.1 hd (by rw [x_tr_cat]; exact hv) (by rw [x_tr_cat]; exact hw) (k p e s m args below meth c ad mls H locs cells slots hM hR hS hl hc hs)
theorem x_if_eq (pc' : Nat) (hpc : pc + 3 = pc') {x : Int32} {off : Int} (tgt : Nat) (hd : decode M.2.1 pc = .ok (.ifCond .eq off, 3)) (ht : (pc : Int) + off = (tgt : Int)) (kt : x = 0 → x_W cl fk l s0 D cA sp QQ R gr M bc bs sh rf tgt ls st σ) (kf : ¬ x = 0 → x_W cl fk l s0 D cA sp QQ R gr M bc bs sh rf pc' ls st σ) : x_W cl fk l s0 D cA sp QQ R gr M bc bs sh rf pc ls (.int x :: st) σ := by
  subst hpc
  intro p e s m args below meth c ad mls H locs cells slots hM hR hS hl hc hs
  exact lv_if_eq hM.1.1 hM.1.2.1 hd ht (fun h => kt h p e s m args below meth c ad mls H locs cells slots hM hR hS hl hc hs) (fun h => kf h p e s m args below meth c ad mls H locs cells slots hM hR hS hl hc hs)
theorem x_if_ne (pc' : Nat) (hpc : pc + 3 = pc') {x : Int32} {off : Int} (tgt : Nat) (hd : decode M.2.1 pc = .ok (.ifCond .ne off, 3)) (ht : (pc : Int) + off = (tgt : Int)) (kt : ¬ x = 0 → x_W cl fk l s0 D cA sp QQ R gr M bc bs sh rf tgt ls st σ) (kf : x = 0 → x_W cl fk l s0 D cA sp QQ R gr M bc bs sh rf pc' ls st σ) : x_W cl fk l s0 D cA sp QQ R gr M bc bs sh rf pc ls (.int x :: st) σ := by
  subst hpc
  intro p e s m args below meth c ad mls H locs cells slots hM hR hS hl hc hs
  exact lv_if_ne hM.1.1 hM.1.2.1 hd ht (fun h => kt h p e s m args below meth c ad mls H locs cells slots hM hR hS hl hc hs) (fun h => kf h p e s m args below meth c ad mls H locs cells slots hM hR hS hl hc hs)
theorem x_if_lt (pc' : Nat) (hpc : pc + 3 = pc') {x : Int32} {off : Int} (tgt : Nat) (hd : decode M.2.1 pc = .ok (.ifCond .lt off, 3)) (ht : (pc : Int) + off = (tgt : Int)) (kt : x < 0 → x_W cl fk l s0 D cA sp QQ R gr M bc bs sh rf tgt ls st σ) (kf : ¬ x < 0 → x_W cl fk l s0 D cA sp QQ R gr M bc bs sh rf pc' ls st σ) : x_W cl fk l s0 D cA sp QQ R gr M bc bs sh rf pc ls (.int x :: st) σ := by
  subst hpc
  intro p e s m args below meth c ad mls H locs cells slots hM hR hS hl hc hs
  exact lv_if_lt hM.1.1 hM.1.2.1 hd ht (fun h => kt h p e s m args below meth c ad mls H locs cells slots hM hR hS hl hc hs) (fun h => kf h p e s m args below meth c ad mls H locs cells slots hM hR hS hl hc hs)
theorem x_if_ge (pc' : Nat) (hpc : pc + 3 = pc') {x : Int32} {off : Int} (tgt : Nat) (hd : decode M.2.1 pc = .ok (.ifCond .ge off, 3)) (ht : (pc : Int) + off = (tgt : Int)) (kt : 0 ≤ x → x_W cl fk l s0 D cA sp QQ R gr M bc bs sh rf tgt ls st σ) (kf : ¬ 0 ≤ x → x_W cl fk l s0 D cA sp QQ R gr M bc bs sh rf pc' ls st σ) : x_W cl fk l s0 D cA sp QQ R gr M bc bs sh rf pc ls (.int x :: st) σ := by
  subst hpc
  intro p e s m args below meth c ad mls H locs cells slots hM hR hS hl hc hs
  exact lv_if_ge hM.1.1 hM.1.2.1 hd ht (fun h => kt h p e s m args below meth c ad mls H locs cells slots hM hR hS hl hc hs) (fun h => kf h p e s m args below meth c ad mls H locs cells slots hM hR hS hl hc hs)
theorem x_if_gt (pc' : Nat) (hpc : pc + 3 = pc') {x : Int32} {off : Int} (tgt : Nat) (hd : decode M.2.1 pc = .ok (.ifCond .gt off, 3)) (ht : (pc : Int) + off = (tgt : Int)) (kt : 0 < x → x_W cl fk l s0 D cA sp QQ R gr M bc bs sh rf tgt ls st σ) (kf : ¬ 0 < x → x_W cl fk l s0 D cA sp QQ R gr M bc bs sh rf pc' ls st σ) : x_W cl fk l s0 D cA sp QQ R gr M bc bs sh rf pc ls (.int x :: st) σ := by
  subst hpc
  intro p e s m args below meth c ad mls H locs cells slots hM hR hS hl hc hs
  exact lv_if_gt hM.1.1 hM.1.2.1 hd ht (fun h => kt h p e s m args below meth c ad mls H locs cells slots hM hR hS hl hc hs) (fun h => kf h p e s m args below meth c ad mls H locs cells slots hM hR hS hl hc hs)
theorem x_if_le (pc' : Nat) (hpc : pc + 3 = pc') {x : Int32} {off : Int} (tgt : Nat) (hd : decode M.2.1 pc = .ok (.ifCond .le off, 3)) (ht : (pc : Int) + off = (tgt : Int)) (kt : x ≤ 0 → x_W cl fk l s0 D cA sp QQ R gr M bc bs sh rf tgt ls st σ) (kf : ¬ x ≤ 0 → x_W cl fk l s0 D cA sp QQ R gr M bc bs sh rf pc' ls st σ) : x_W cl fk l s0 D cA sp QQ R gr M bc bs sh rf pc ls (.int x :: st) σ := by
  subst hpc
  intro p e s m args below meth c ad mls H locs cells slots hM hR hS hl hc hs
  exact lv_if_le hM.1.1 hM.1.2.1 hd ht (fun h => kt h p e s m args below meth c ad mls H locs cells slots hM hR hS hl hc hs) (fun h => kf h p e s m args below meth c ad mls H locs cells slots hM hR hS hl hc hs)
theorem x_icmp_eq (pc' : Nat) (hpc : pc + 3 = pc') {x y : Int32} {off : Int} (tgt : Nat) (hd : decode M.2.1 pc = .ok (.if_icmp .eq off, 3)) (ht : (pc : Int) + off = (tgt : Int)) (kt : x = y → x_W cl fk l s0 D cA sp QQ R gr M bc bs sh rf tgt ls st σ) (kf : ¬ x = y → x_W cl fk l s0 D cA sp QQ R gr M bc bs sh rf pc' ls st σ) : x_W cl fk l s0 D cA sp QQ R gr M bc bs sh rf pc ls (.int y :: .int x :: st) σ := by
  subst hpc
  intro p e s m args below meth c ad mls H locs cells slots hM hR hS hl hc hs
  exact lv_icmp_eq hM.1.1 hM.1.2.1 hd ht (fun h => kt h p e s m args below meth c ad mls H locs cells slots hM hR hS hl hc hs) (fun h => kf h p e s m args below meth c ad mls H locs cells slots hM hR hS hl hc hs)
theorem x_icmp_ne (pc' : Nat) (hpc : pc + 3 = pc') {x y : Int32} {off : Int} (tgt : Nat) (hd : decode M.2.1 pc = .ok (.if_icmp .ne off, 3)) (ht : (pc : Int) + off = (tgt : Int)) (kt : ¬ x = y → x_W cl fk l s0 D cA sp QQ R gr M bc bs sh rf tgt ls st σ) (kf : x = y → x_W cl fk l s0 D cA sp QQ R gr M bc bs sh rf pc' ls st σ) : x_W cl fk l s0 D cA sp QQ R gr M bc bs sh rf pc ls (.int y :: .int x :: st) σ := by
  subst hpc
  intro p e s m args below meth c ad mls H locs cells slots hM hR hS hl hc hs
  exact lv_icmp_ne hM.1.1 hM.1.2.1 hd ht (fun h => kt h p e s m args below meth c ad mls H locs cells slots hM hR hS hl hc hs) (fun h => kf h p e s m args below meth c ad mls H locs cells slots hM hR hS hl hc hs)
theorem x_icmp_lt (pc' : Nat) (hpc : pc + 3 = pc') {x y : Int32} {off : Int} (tgt : Nat) (hd : decode M.2.1 pc = .ok (.if_icmp .lt off, 3)) (ht : (pc : Int) + off = (tgt : Int)) (kt : x < y → x_W cl fk l s0 D cA sp QQ R gr M bc bs sh rf tgt ls st σ) (kf : ¬ x < y → x_W cl fk l s0 D cA sp QQ R gr M bc bs sh rf pc' ls st σ) : x_W cl fk l s0 D cA sp QQ R gr M bc bs sh rf pc ls (.int y :: .int x :: st) σ := by
  subst hpc
  intro p e s m args below meth c ad mls H locs cells slots hM hR hS hl hc hs
  exact lv_icmp_lt hM.1.1 hM.1.2.1 hd ht (fun h => kt h p e s m args below meth c ad mls H locs cells slots hM hR hS hl hc hs) (fun h => kf h p e s m args below meth c ad mls H locs cells slots hM hR hS hl hc hs)
theorem x_icmp_ge (pc' : Nat) (hpc : pc + 3 = pc') {x y : Int32} {off : Int} (tgt : Nat) (hd : decode M.2.1 pc = .ok (.if_icmp .ge off, 3)) (ht : (pc : Int) + off = (tgt : Int)) (kt : y ≤ x → x_W cl fk l s0 D cA sp QQ R gr M bc bs sh rf tgt ls st σ) (kf : ¬ y ≤ x → x_W cl fk l s0 D cA sp QQ R gr M bc bs sh rf pc' ls st σ) : x_W cl fk l s0 D cA sp QQ R gr M bc bs sh rf pc ls (.int y :: .int x :: st) σ := by
  subst hpc
  intro p e s m args below meth c ad mls H locs cells slots hM hR hS hl hc hs
  exact lv_icmp_ge hM.1.1 hM.1.2.1 hd ht (fun h => kt h p e s m args below meth c ad mls H locs cells slots hM hR hS hl hc hs) (fun h => kf h p e s m args below meth c ad mls H locs cells slots hM hR hS hl hc hs)
theorem x_icmp_gt (pc' : Nat) (hpc : pc + 3 = pc') {x y : Int32} {off : Int} (tgt : Nat) (hd : decode M.2.1 pc = .ok (.if_icmp .gt off, 3)) (ht : (pc : Int) + off = (tgt : Int)) (kt : y < x → x_W cl fk l s0 D cA sp QQ R gr M bc bs sh rf tgt ls st σ) (kf : ¬ y < x → x_W cl fk l s0 D cA sp QQ R gr M bc bs sh rf pc' ls st σ) : x_W cl fk l s0 D cA sp QQ R gr M bc bs sh rf pc ls (.int y :: .int x :: st) σ := by
  subst hpc
  intro p e s m args below meth c ad mls H locs cells slots hM hR hS hl hc hs
  exact lv_icmp_gt hM.1.1 hM.1.2.1 hd ht (fun h => kt h p e s m args below meth c ad mls H locs cells slots hM hR hS hl hc hs) (fun h => kf h p e s m args below meth c ad mls H locs cells slots hM hR hS hl hc hs)
theorem x_icmp_le (pc' : Nat) (hpc : pc + 3 = pc') {x y : Int32} {off : Int} (tgt : Nat) (hd : decode M.2.1 pc = .ok (.if_icmp .le off, 3)) (ht : (pc : Int) + off = (tgt : Int)) (kt : x ≤ y → x_W cl fk l s0 D cA sp QQ R gr M bc bs sh rf tgt ls st σ) (kf : ¬ x ≤ y → x_W cl fk l s0 D cA sp QQ R gr M bc bs sh rf pc' ls st σ) : x_W cl fk l s0 D cA sp QQ R gr M bc bs sh rf pc ls (.int y :: .int x :: st) σ := by
  subst hpc
  intro p e s m args below meth c ad mls H locs cells slots hM hR hS hl hc hs
  exact lv_icmp_le hM.1.1 hM.1.2.1 hd ht (fun h => kt h p e s m args below meth c ad mls H locs cells slots hM hR hS hl hc hs) (fun h => kf h p e s m args below meth c ad mls H locs cells slots hM hR hS hl hc hs)
theorem x_goto {off : Int} (tgt : Nat) (hd : decode M.2.1 pc = .ok (.goto off, 3)) (ht : (pc : Int) + off = (tgt : Int)) (k : x_W cl fk l s0 D cA sp QQ R gr M bc bs sh rf tgt ls st σ) : x_W cl fk l s0 D cA sp QQ R gr M bc bs sh rf pc ls st σ := by
  intro p e s m args below meth c ad mls H locs cells slots hM hR hS hl hc hs
  exact lv_goto hM.1.1 hM.1.2.1 hd ht (k p e s m args below meth c ad mls H locs cells slots hM hR hS hl hc hs)
theorem x_tabOut {x : Int32} {dflt lo hi : Int} {offs : Array Int} {n : Nat} (tgt : Nat) (hd : decode M.2.1 pc = .ok (.tableswitch dflt lo hi offs, n)) (h : x.toInt < lo ∨ hi < x.toInt) (ht : (pc : Int) + dflt = (tgt : Int)) (k : x_W cl fk l s0 D cA sp QQ R gr M bc bs sh rf tgt ls st σ) : x_W cl fk l s0 D cA sp QQ R gr M bc bs sh rf pc ls (.int x :: st) σ := by
  intro p e s m args below meth c ad mls H locs cells slots hM hR hS hl hc hs
  exact lv_tableOut hM.1.1 hM.1.2.1 hd h ht (k p e s m args below meth c ad mls H locs cells slots hM hR hS hl hc hs)
theorem x_tabIn {x : Int32} {dflt lo hi off : Int} {offs : Array Int} {n : Nat} (tgt : Nat) (hd : decode M.2.1 pc = .ok (.tableswitch dflt lo hi offs, n)) (h1 : ¬ x.toInt < lo) (h2 : ¬ hi < x.toInt) (ho : offs[(x.toInt - lo).toNat]? = some off) (ht : (pc : Int) + off = (tgt : Int)) (k : x_W cl fk l s0 D cA sp QQ R gr M bc bs sh rf tgt ls st σ) : x_W cl fk l s0 D cA sp QQ R gr M bc bs sh rf pc ls (.int x :: st) σ := by
  intro p e s m args below meth c ad mls H locs cells slots hM hR hS hl hc hs
  exact lv_tableIn hM.1.1 hM.1.2.1 hd h1 h2 ho ht (k p e s m args below meth c ad mls H locs cells slots hM hR hS hl hc hs)
theorem x_look {x : Int32} {dflt off : Int} {ps : Array (Int × Int)} {n : Nat} (tgt : Nat) (hd : decode M.2.1 pc = .ok (.lookupswitch dflt ps, n)) (hp : (ps.toList.zip (ps.toList.drop 1)).all (fun (a, next) => a.1 < next.1) = true) (ho : Op.lookupswitch.offset ps.toList dflt x.toInt = off) (ht : (pc : Int) + off = (tgt : Int)) (k : x_W cl fk l s0 D cA sp QQ R gr M bc bs sh rf tgt ls st σ) : x_W cl fk l s0 D cA sp QQ R gr M bc bs sh rf pc ls (.int x :: st) σ := by
  intro p e s m args below meth c ad mls H locs cells slots hM hR hS hl hc hs
  exact lv_lookup hM.1.1 hM.1.2.1 hd hp ho ht (k p e s m args below meth c ad mls H locs cells slots hM hR hS hl hc hs)
theorem x_case {x : Int32} (c : Int32) (kt : x = c → x_W cl fk l s0 D cA sp QQ R gr M bc bs sh rf pc ls (.int x :: st) σ) (kf : ¬ x = c → x_W cl fk l s0 D cA sp QQ R gr M bc bs sh rf pc ls (.int x :: st) σ) : x_W cl fk l s0 D cA sp QQ R gr M bc bs sh rf pc ls (.int x :: st) σ := by
  by_cases h : x = c
  · exact kt h
  · exact kf h
def x_le : List (Option Value) → List (Option Value) → Prop
  | [], [] => True
  | none :: t, _ :: u => x_le t u
  | some v :: t, some w :: u => v = w ∧ x_le t u
  | _, _ => False
theorem x_le_0 : x_le [] [] := trivial
theorem x_le_n {t u : List (Option Value)} {w : Option Value} (h : x_le t u) : x_le (none :: t) (w :: u) := by cases w <;> exact h
theorem x_le_s {t u : List (Option Value)} {v : Value} (h : x_le t u) : x_le (some v :: t) (some v :: u) := ⟨rfl, h⟩
theorem x_le_at : ∀ {t u : List (Option Value)}, x_le t u → t.length = u.length ∧ ∀ (i : Nat) (v : Value), t[i]? = some (some v) → u[i]? = some (some v)
  | [], [], _ => ⟨rfl, fun i v h => h⟩
  | none :: t, w :: u, h => by
    have h : x_le t u := by cases w <;> exact h
    obtain ⟨h1, h2⟩ := x_le_at h
    refine ⟨by simp [h1], fun i v hi => ?_⟩
    match i, hi with
    | 0, hi => simp at hi
    | i + 1, hi => simpa using h2 i v (by simpa using hi)
  | some v :: t, some w :: u, h => by
    obtain ⟨h1, h2⟩ := x_le_at h.2
    refine ⟨by simp [h1], fun i v hi => ?_⟩
    match i, hi with
    | 0, hi => rw [← h.1]; exact hi
    | i + 1, hi => simpa using h2 i v (by simpa using hi)
theorem x_wk {ls' : List (Option Value)} (h : x_le ls' ls) (k : x_W cl fk l s0 D cA sp QQ R gr M bc bs sh rf pc ls' st σ) : x_W cl fk l s0 D cA sp QQ R gr M bc bs sh rf pc ls st σ := by
  intro p e s m args below meth c ad mls H locs cells slots hM hR hS hl hc hs
  exact k p e s m args below meth c ad mls H locs cells slots hM hR hS ⟨hl.1, hl.2.1, by rw [(x_le_at h).1]; exact hl.2.2.1, fun i v hi => hl.2.2.2 i v ((x_le_at h).2 i v hi)⟩ hc hs
end XR
