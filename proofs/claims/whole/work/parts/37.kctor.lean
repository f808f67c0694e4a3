/-! The constructor of RingHand. Written by wip/gen/kctor.py. -/
/-- the judgement and the contract over the cells 0 to 59, while the heap grows by them -/
abbrev kW (l : Launch) (s0 : State) (D : va_G) (cA : Nat → ClassId) (sp : Nat → Nat) (QQ : List Frame → Array Value → State → (Nat → Nat) → State → Prop) (R : Room) (M : xM) (bc bs pc : Nat) (ls : List (Option Value)) (st : List Value) (σ : xS) : Prop :=
  x_W CL FK l s0 D cA sp QQ R true M bc bs (SH.take 60) RF pc ls st σ
abbrev kQ (s0 : State) (D : va_G) (cA : Nat → ClassId) (sp : Nat → Nat) (v : Option Value) (σ : xS) : List Frame → Array Value → State → (Nat → Nat) → State → Prop := x_QQ CL FK s0 D cA sp true 0 0 v (SH.take 60) RF σ
abbrev kC (l : Launch) (s0 : State) (D : va_G) (cA : Nat → ClassId) (sp : Nat → Nat) (d : Nat) (M : xM) (as : List Value) (σ : xS) (v : Option Value) (σ1 : xS) : Prop :=
  x_C CL FK l s0 D cA sp d 0 0 true M as (SH.take 60) RF σ v (SH.take 60) RF σ1
section KR
variable {l : Launch} {s0 : State} {a0 : Array Value} {D : va_G} {cA : Nat → ClassId} {sp : Nat → Nat} {QQ : List Frame → Array Value → State → (Nat → Nat) → State → Prop} {R : Room} {M : xM} {bc bs : Nat} {pc : Nat} {ls : List (Option Value)} {st : List Value} {σ : xS}
theorem k_callV (E : x_En CL l s0 a0 D cA sp) {n np d q ci u : Nat} {N : xM} (as rest : List Value) {v : Option Value} {σ1 : xS} {T : u_T} {nf : Nat} (hd : decode M.2.1 pc = .ok (.invokevirtual n, 3)) (K : x_KV M.1.cls n N np) (F : x_fit d N R)
    (hp : (SH.take 60)[q]? = some (ci, u)) (h50 : ci < 50) (hcl : CL[ci]? = some (N.1.cls, T, nf)) (C : kC l s0 D cA sp d N (.ref q :: as) σ v σ1) (hn : as.length = np) (hst : as.reverse ++ .ref q :: rest = st) (hw : (rest.map fun v => v.category).sum ≤ 8)
    (pc' : Nat) (hpc : pc + 3 = pc') (st' : List Value) (hs : v.toList ++ rest = st') (kk : kW l s0 D cA sp QQ R M bc bs pc' ls st' σ1) : kW l s0 D cA sp QQ R M bc bs pc ls st σ := by
  subst hs
  exact x_callV (bc := bc) (bs := bs) (mc := 0) (ms := 0) E hd K F hp h50 hcl hn hst hw C pc' hpc kk
theorem k_callS (E : x_En CL l s0 a0 D cA sp) {n np d : Nat} {N : xM} (as rest : List Value) {v : Option Value} {σ1 : xS} (hd : decode M.2.1 pc = .ok (.invokestatic n, 3)) (K : x_KS M.1.cls n N np) (F : x_fit d N R)
    (C : kC l s0 D cA sp d N as σ v σ1) (hn : as.length = np) (hst : as.reverse ++ rest = st) (hw : (rest.map fun v => v.category).sum ≤ 8)
    (pc' : Nat) (hpc : pc + 3 = pc') (st' : List Value) (hs : v.toList ++ rest = st') (kk : kW l s0 D cA sp QQ R M bc bs pc' ls st' σ1) : kW l s0 D cA sp QQ R M bc bs pc ls st σ := by
  subst hs
  exact x_callS (bc := bc) (bs := bs) (mc := 0) (ms := 0) E hd K F hn hst hw C pc' hpc kk
theorem k_callT (E : x_En CL l s0 a0 D cA sp) {n np d : Nat} {N : xM} {host : String} (as rest : List Value) {v : Option Value} {σ1 : xS} (hd : decode M.2.1 pc = .ok (.invokestatic n, 3)) (K : x_KT M.1.cls n N np host) (F : x_fit d N R)
    (C : kC l s0 D cA sp d N as σ v σ1) (hn : as.length = np) (hst : as.reverse ++ rest = st) (hw : (rest.map fun v => v.category).sum ≤ 8)
    (pc' : Nat) (hpc : pc + 3 = pc') (st' : List Value) (hs : v.toList ++ rest = st') (kk : kW l s0 D cA sp QQ R M bc bs pc' ls st' σ1) : kW l s0 D cA sp QQ R M bc bs pc ls st σ := by
  subst hs
  exact x_callT (bc := bc) (bs := bs) (mc := 0) (ms := 0) E hd K F hn hst hw C pc' hpc kk
/-- only the references of the cells that stand matter -/
theorem x_rfs {gr : Bool} {sh : xH} {rf rf' : xR} (n : Nat) (hn : sh.length = n) (h : ∀ p, p < n → ∀ k, k < 90 → rf p k = rf' p k) (kk : x_W CL FK l s0 D cA sp QQ R gr M bc bs sh rf' pc ls st σ) : x_W CL FK l s0 D cA sp QQ R gr M bc bs sh rf pc ls st σ := by
  intro p e s m args below meth c ad mls H locs cells slots hM hR hS hl hc hs
  refine kk p e s m args below meth c ad mls H locs cells slots hM ⟨fun p t hp => ?_, hR.2⟩ hS hl hc hs
  have hlt : p < n := by rw [← hn]; exact (List.getElem?_eq_some_iff.mp hp).1
  have hc := hR.1 p t hp
  unfold x_cell at hc ⊢
  by_cases h50 : t.1 < 50
  · rw [if_pos h50] at hc ⊢
    obtain ⟨r, g1, g2⟩ := hc
    refine ⟨r, g1, g2.to (fun k hk => ?_)⟩
    unfold x_fv
    rw [h p hlt k (Nat.lt_trans hk (x_CL90 g1))]
  · rw [if_neg h50] at hc ⊢
    exact hc
end KR
theorem shk_7 : (SH.take 60)[7]? = some (3, 0) := rfl
theorem shk_8 : (SH.take 60)[8]? = some (50, 12) := rfl
theorem shk_9 : (SH.take 60)[9]? = some (50, 12) := rfl
theorem shk_12 : (SH.take 60)[12]? = some (50, 12) := rfl
theorem shk_13 : (SH.take 60)[13]? = some (2, 0) := rfl
theorem shk_14 : (SH.take 60)[14]? = some (50, 700) := rfl
theorem shk_15 : (SH.take 60)[15]? = some (50, 6) := rfl
theorem shk_16 : (SH.take 60)[16]? = some (50, 6) := rfl
theorem shk_17 : (SH.take 60)[17]? = some (50, 64) := rfl
theorem shk_18 : (SH.take 60)[18]? = some (50, 8) := rfl
theorem shk_19 : (SH.take 60)[19]? = some (50, 601) := rfl
theorem shk_20 : (SH.take 60)[20]? = some (50, 481) := rfl
theorem shk_35 : (SH.take 60)[35]? = some (4, 0) := rfl
theorem shk_36 : (SH.take 60)[36]? = some (50, 12) := rfl
def f_Ru_clear_13_L7  (a : Int32 × xS) : Option ((Int32 × xS) ⊕ (Int32 × xS)) :=
  let v1 := a.1; let σ := a.2;
  if (6 : Int32) ≤ v1 then
    some (.inl (v1, σ))
  else
    if v1 < 0 ∨ 6 ≤ v1.toNatClampNeg then none else
    let σ1 := x_pI σ 15 v1.toNatClampNeg (0 : Int32)
    if v1 < 0 ∨ 6 ≤ v1.toNatClampNeg then none else
    let σ2 := x_pI σ1 16 v1.toNatClampNeg (0 : Int32)
    let w3 := v1 + (1 : Int32)
    some (.inr (w3, σ2))
def f_Ru_clear_13  (σ : xS) : Option (Unit × xS) :=
  let σ4 := x_pI σ 13 1 (0 : Int32)
  (x_it (f_Ru_clear_13_L7 ) 10000 ((0 : Int32), σ4)).bind fun b5 =>
  some ((), b5.2)
def f_Sc_clear_7_L33  (a : Int32 × xS) : Option ((Int32 × xS) ⊕ (Int32 × xS)) :=
  let v1 := a.1; let σ := a.2;
  if (12 : Int32) ≤ v1 then
    some (.inl (v1, σ))
  else
    if v1 < 0 ∨ 12 ≤ v1.toNatClampNeg then none else
    let σ1 := x_pI σ 12 v1.toNatClampNeg (0 : Int32)
    let w2 := v1 + (1 : Int32)
    some (.inr (w2, σ1))
def f_Sc_clear_7  (σ : xS) : Option (Unit × xS) :=
  let σ3 := x_pI σ 7 0 (120 : Int32)
  let σ4 := x_pI σ3 7 1 (0 : Int32)
  let σ5 := x_pI σ4 7 4 (0 : Int32)
  let σ6 := x_pI σ5 7 5 (0 : Int32)
  let σ7 := x_pI σ6 7 8 (0 : Int32)
  let σ8 := x_pI σ7 7 9 (0 : Int32)
  (x_it (f_Sc_clear_7_L33 ) 10000 ((0 : Int32), σ8)).bind fun b9 =>
  let σ10 := x_pI b9.2 12 0 (3 : Int32)
  let σ11 := x_pI σ10 12 1 (2 : Int32)
  let σ12 := x_pI σ11 12 2 (20 : Int32)
  let σ13 := x_pI σ12 12 4 (-1 : Int32)
  (f_Ru_clear_13  σ13).bind fun q14 =>
  some ((), q14.2)
set_option maxHeartbeats 4000000 in
set_option maxRecDepth 100000 in
theorem bk_Ru_clear_13_L7 {l : Launch} {s0 : State} {a0 : Array Value} {D : va_G} {cA : Nat → ClassId} {sp : Nat → Nat} (E : x_En CL l s0 a0 D cA sp)  {r : Unit} {σ1 : xS} (a : Int32 × xS) (o : (Int32 × xS) ⊕ (Int32 × xS)) (h : f_Ru_clear_13_L7  a = some o) (hK : ∀ b, o = .inl b → kW l s0 D cA sp (kQ s0 D cA sp none σ1) (x_rm 0 0 0) M_Ru_clear 0 0 33 [none, none] [] b.2) (hG : ∀ a', o = .inr a' → kW l s0 D cA sp (kQ s0 D cA sp none σ1) (x_rm 0 0 0) M_Ru_clear 0 0 7 [some (.ref 13), some (.int a'.1)] [] a'.2) : kW l s0 D cA sp (kQ s0 D cA sp none σ1) (x_rm 0 0 0) M_Ru_clear 0 0 7 [some (.ref 13), some (.int a.1)] [] a.2 := by
  obtain ⟨v1, σ⟩ := a
  unfold f_Ru_clear_13_L7 at h
  try dsimp only at h ⊢
  refine x_iload_n 8 rfl 1 dX3_clear_7 rfl rfl ?_
  refine x_bipush 10 rfl (v := 6) dX3_clear_8 (by decide) ?_
  refine x_icmp_ge 13 rfl 33 dX3_clear_10 (by decide) (fun hc => ?_) (fun hc => ?_)
  · replace h := x_ifT hc h
    cases h
    exact x_wk (x_le_n (x_le_n x_le_0)) (hK (_, _) rfl)
  · replace h := x_ifF hc h
    refine x_aload_n 14 rfl 0 dX3_clear_13 rfl rfl ?_
    refine x_getR E dX3_clear_14 F_RX3_19 shk_13 rf_13_2 17 rfl ?_
    refine x_iload_n 18 rfl 1 dX3_clear_17 rfl rfl ?_
    refine x_iconst 19 rfl (v := 0) dX3_clear_18 (by decide) ?_
    obtain ⟨hz, h⟩ := x_ifn h
    refine x_iast E dX3_clear_19 shk_15 _ rfl hz 20 rfl ?_
    refine x_aload_n 21 rfl 0 dX3_clear_20 rfl rfl ?_
    refine x_getR E dX3_clear_21 F_RX3_22 shk_13 rf_13_3 24 rfl ?_
    refine x_iload_n 25 rfl 1 dX3_clear_24 rfl rfl ?_
    refine x_iconst 26 rfl (v := 0) dX3_clear_25 (by decide) ?_
    obtain ⟨hz, h⟩ := x_ifn h
    refine x_iast E dX3_clear_26 shk_16 _ rfl hz 27 rfl ?_
    refine x_iinc 30 rfl (1) dX3_clear_27 rfl (by decide) (by decide) [some (.ref 13), some (.int _)] rfl ?_
    refine x_goto 7 dX3_clear_30 (by decide) ?_
    cases h
    exact x_wk (x_le_s (x_le_s x_le_0)) (hG (_, _) rfl)
set_option maxHeartbeats 4000000 in
set_option maxRecDepth 100000 in
theorem ck_Ru_clear_13 {l : Launch} {s0 : State} {a0 : Array Value} {D : va_G} {cA : Nat → ClassId} {sp : Nat → Nat} (E : x_En CL l s0 a0 D cA sp)  {σ : xS} {r : Unit} {σ1 : xS} (h : f_Ru_clear_13  σ = some (r, σ1)) : kC l s0 D cA sp 0 M_Ru_clear [.ref 13] σ none σ1 := by
  unfold f_Ru_clear_13 at h
  try dsimp only at h
  refine x_enter [some (.ref 13), none] rfl (Nat.le_of_ble_eq_true rfl) (by decide +kernel) rfl ?_
  refine x_aload_n 1 rfl 0 dX3_clear_0 rfl rfl ?_
  refine x_iconst 2 rfl (v := 0) dX3_clear_1 (by decide) ?_
  refine x_putI E dX3_clear_2 F_RX3_15 shk_13 5 rfl ?_
  refine x_iconst 6 rfl (v := 0) dX3_clear_5 (by decide) ?_
  refine x_istore_n 7 rfl 1 dX3_clear_6 rfl (by decide) [some (.ref 13), some (.int _)] rfl ?_
  obtain ⟨b5, b5h, h⟩ := x_bind h
  try dsimp only at h
  refine x_wk (x_le_s (x_le_s x_le_0)) (x_loop (fun a o h hK hG => bk_Ru_clear_13_L7 (r := r) (σ1 := σ1) E  a o h hK hG) _ _ _ b5h ?_)
  cases h
  exact x_vret dX3_clear_33 rfl rfl rfl
set_option maxHeartbeats 4000000 in
set_option maxRecDepth 100000 in
theorem bk_Sc_clear_7_L33 {l : Launch} {s0 : State} {a0 : Array Value} {D : va_G} {cA : Nat → ClassId} {sp : Nat → Nat} (E : x_En CL l s0 a0 D cA sp)  {r : Unit} {σ1 : xS} (a : Int32 × xS) (o : (Int32 × xS) ⊕ (Int32 × xS)) (h : f_Sc_clear_7_L33  a = some o) (hK : ∀ b, o = .inl b → kW l s0 D cA sp (kQ s0 D cA sp none σ1) (x_rm 1 0 0) M_Sc_clear 0 0 52 [some (.ref 7), none] [] b.2) (hG : ∀ a', o = .inr a' → kW l s0 D cA sp (kQ s0 D cA sp none σ1) (x_rm 1 0 0) M_Sc_clear 0 0 33 [some (.ref 7), some (.int a'.1)] [] a'.2) : kW l s0 D cA sp (kQ s0 D cA sp none σ1) (x_rm 1 0 0) M_Sc_clear 0 0 33 [some (.ref 7), some (.int a.1)] [] a.2 := by
  obtain ⟨v1, σ⟩ := a
  unfold f_Sc_clear_7_L33 at h
  try dsimp only at h ⊢
  refine x_iload_n 34 rfl 1 dX4_clear_33 rfl rfl ?_
  refine x_bipush 36 rfl (v := 12) dX4_clear_34 (by decide) ?_
  refine x_icmp_ge 39 rfl 52 dX4_clear_36 (by decide) (fun hc => ?_) (fun hc => ?_)
  · replace h := x_ifT hc h
    cases h
    exact x_wk (x_le_s (x_le_n x_le_0)) (hK (_, _) rfl)
  · replace h := x_ifF hc h
    refine x_aload_n 40 rfl 0 dX4_clear_39 rfl rfl ?_
    refine x_getR E dX4_clear_40 F_RX4_24 shk_7 rf_7_10 43 rfl ?_
    refine x_iload_n 44 rfl 1 dX4_clear_43 rfl rfl ?_
    refine x_iconst 45 rfl (v := 0) dX4_clear_44 (by decide) ?_
    obtain ⟨hz, h⟩ := x_ifn h
    refine x_iast E dX4_clear_45 shk_12 _ rfl hz 46 rfl ?_
    refine x_iinc 49 rfl (1) dX4_clear_46 rfl (by decide) (by decide) [some (.ref 7), some (.int _)] rfl ?_
    refine x_goto 33 dX4_clear_49 (by decide) ?_
    cases h
    exact x_wk (x_le_s (x_le_s x_le_0)) (hG (_, _) rfl)
set_option maxHeartbeats 4000000 in
set_option maxRecDepth 100000 in
theorem ck_Sc_clear_7 {l : Launch} {s0 : State} {a0 : Array Value} {D : va_G} {cA : Nat → ClassId} {sp : Nat → Nat} (E : x_En CL l s0 a0 D cA sp)  {σ : xS} {r : Unit} {σ1 : xS} (h : f_Sc_clear_7  σ = some (r, σ1)) : kC l s0 D cA sp 1 M_Sc_clear [.ref 7] σ none σ1 := by
  unfold f_Sc_clear_7 at h
  try dsimp only at h
  refine x_enter [some (.ref 7), none] rfl (Nat.le_of_ble_eq_true rfl) (by decide +kernel) rfl ?_
  refine x_aload_n 1 rfl 0 dX4_clear_0 rfl rfl ?_
  refine x_bipush 3 rfl (v := 120) dX4_clear_1 (by decide) ?_
  refine x_putI E dX4_clear_3 F_RX4_40 shk_7 6 rfl ?_
  refine x_aload_n 7 rfl 0 dX4_clear_6 rfl rfl ?_
  refine x_iconst 8 rfl (v := 0) dX4_clear_7 (by decide) ?_
  refine x_putI E dX4_clear_8 F_RX4_44 shk_7 11 rfl ?_
  refine x_aload_n 12 rfl 0 dX4_clear_11 rfl rfl ?_
  refine x_iconst 13 rfl (v := 0) dX4_clear_12 (by decide) ?_
  refine x_putI E dX4_clear_13 F_RX4_47 shk_7 16 rfl ?_
  refine x_aload_n 17 rfl 0 dX4_clear_16 rfl rfl ?_
  refine x_iconst 18 rfl (v := 0) dX4_clear_17 (by decide) ?_
  refine x_putI E dX4_clear_18 F_RX4_50 shk_7 21 rfl ?_
  refine x_aload_n 22 rfl 0 dX4_clear_21 rfl rfl ?_
  refine x_iconst 23 rfl (v := 0) dX4_clear_22 (by decide) ?_
  refine x_putI E dX4_clear_23 F_RX4_53 shk_7 26 rfl ?_
  refine x_aload_n 27 rfl 0 dX4_clear_26 rfl rfl ?_
  refine x_iconst 28 rfl (v := 0) dX4_clear_27 (by decide) ?_
  refine x_putI E dX4_clear_28 F_RX4_56 shk_7 31 rfl ?_
  refine x_iconst 32 rfl (v := 0) dX4_clear_31 (by decide) ?_
  refine x_istore_n 33 rfl 1 dX4_clear_32 rfl (by decide) [some (.ref 7), some (.int _)] rfl ?_
  obtain ⟨b9, b9h, h⟩ := x_bind h
  try dsimp only at h
  refine x_wk (x_le_s (x_le_s x_le_0)) (x_loop (fun a o h hK hG => bk_Sc_clear_7_L33 (r := r) (σ1 := σ1) E  a o h hK hG) _ _ _ b9h ?_)
  refine x_aload_n 53 rfl 0 dX4_clear_52 rfl rfl ?_
  refine x_getR E dX4_clear_53 F_RX4_24 shk_7 rf_7_10 56 rfl ?_
  refine x_iconst 57 rfl (v := 0) dX4_clear_56 (by decide) ?_
  refine x_iconst 58 rfl (v := 3) dX4_clear_57 (by decide) ?_
  refine x_iast E dX4_clear_58 shk_12 0 (by decide) (by decide) 59 rfl ?_
  refine x_aload_n 60 rfl 0 dX4_clear_59 rfl rfl ?_
  refine x_getR E dX4_clear_60 F_RX4_24 shk_7 rf_7_10 63 rfl ?_
  refine x_iconst 64 rfl (v := 1) dX4_clear_63 (by decide) ?_
  refine x_iconst 65 rfl (v := 2) dX4_clear_64 (by decide) ?_
  refine x_iast E dX4_clear_65 shk_12 1 (by decide) (by decide) 66 rfl ?_
  refine x_aload_n 67 rfl 0 dX4_clear_66 rfl rfl ?_
  refine x_getR E dX4_clear_67 F_RX4_24 shk_7 rf_7_10 70 rfl ?_
  refine x_iconst 71 rfl (v := 2) dX4_clear_70 (by decide) ?_
  refine x_bipush 73 rfl (v := 20) dX4_clear_71 (by decide) ?_
  refine x_iast E dX4_clear_73 shk_12 2 (by decide) (by decide) 74 rfl ?_
  refine x_aload_n 75 rfl 0 dX4_clear_74 rfl rfl ?_
  refine x_getR E dX4_clear_75 F_RX4_24 shk_7 rf_7_10 78 rfl ?_
  refine x_iconst 79 rfl (v := 4) dX4_clear_78 (by decide) ?_
  refine x_iconst 80 rfl (v := -1) dX4_clear_79 (by decide) ?_
  refine x_iast E dX4_clear_80 shk_12 4 (by decide) (by decide) 81 rfl ?_
  refine x_aload_n 82 rfl 0 dX4_clear_81 rfl rfl ?_
  refine x_getR E dX4_clear_82 F_RX4_30 shk_7 rf_7_11 85 rfl ?_
  obtain ⟨⟨q14r, q14s⟩, q14h, h⟩ := x_bind h
  try dsimp only at h
  refine k_callV E [] [] dX4_clear_85 K_RX4_59 ⟨Nat.le_of_ble_eq_true rfl, Nat.le_of_ble_eq_true rfl⟩ shk_13 (by decide) rfl (ck_Ru_clear_13 E  q14h) rfl rfl (Nat.le_of_ble_eq_true rfl) 88 rfl [] rfl ?_
  cases h
  exact x_vret dX4_clear_88 rfl rfl rfl
set_option maxHeartbeats 4000000 in
set_option maxRecDepth 100000 in
theorem ck_RH_within {l : Launch} {s0 : State} {a0 : Array Value} {D : va_G} {cA : Nat → ClassId} {sp : Nat → Nat} (E : x_En CL l s0 a0 D cA sp) (v0 : Int32) (v1 : Int32) (v2 : Int32) {σ : xS} {r : Int32} {σ1 : xS} (h : f_RH_within v0 v1 v2 σ = some (r, σ1)) : kC l s0 D cA sp 0 M_RH_within [.int v0, .int v1, .int v2] σ (some (.int r)) σ1 := by
  unfold f_RH_within at h
  try dsimp only at h
  refine x_enter [some (.int v0), some (.int v1), some (.int v2)] rfl (Nat.le_of_ble_eq_true rfl) (by decide +kernel) rfl ?_
  refine x_iload_n 1 rfl 0 dX8_within_0 rfl rfl ?_
  refine x_iload_n 2 rfl 1 dX8_within_1 rfl rfl ?_
  refine x_icmp_ge 5 rfl 9 dX8_within_2 (by decide) (fun hc => ?_) (fun hc => ?_)
  · replace h := x_ifT hc h
    refine x_iload_n 10 rfl 0 dX8_within_9 rfl rfl ?_
    refine x_iload_n 11 rfl 2 dX8_within_10 rfl rfl ?_
    refine x_icmp_le 14 rfl 18 dX8_within_11 (by decide) (fun hc => ?_) (fun hc => ?_)
    · replace h := x_ifT hc h
      refine x_iload_n 19 rfl 0 dX8_within_18 rfl rfl ?_
      cases h
      exact x_iret dX8_within_19 rfl rfl rfl
    · replace h := x_ifF hc h
      refine x_iload_n 15 rfl 2 dX8_within_14 rfl rfl ?_
      refine x_goto 19 dX8_within_15 (by decide) ?_
      cases h
      exact x_iret dX8_within_19 rfl rfl rfl
  · replace h := x_ifF hc h
    refine x_iload_n 6 rfl 1 dX8_within_5 rfl rfl ?_
    refine x_goto 19 dX8_within_6 (by decide) ?_
    cases h
    exact x_iret dX8_within_19 rfl rfl rfl
set_option maxHeartbeats 4000000 in
set_option maxRecDepth 100000 in
theorem ck_Ru_has_13 {l : Launch} {s0 : State} {a0 : Array Value} {D : va_G} {cA : Nat → ClassId} {sp : Nat → Nat} (E : x_En CL l s0 a0 D cA sp) (v1 : Int32) {σ : xS} {r : Int32} {σ1 : xS} (h : f_Ru_has_13 v1 σ = some (r, σ1)) : kC l s0 D cA sp 0 M_Ru_has [.ref 13, .int v1] σ (some (.int r)) σ1 := by
  unfold f_Ru_has_13 at h
  try dsimp only at h
  refine x_enter [some (.ref 13), some (.int v1)] rfl (Nat.le_of_ble_eq_true rfl) (by decide +kernel) rfl ?_
  refine x_iload_n 1 rfl 1 dX3_has_0 rfl rfl ?_
  refine x_if_lt 4 rfl 29 dX3_has_1 (by decide) (fun hc => ?_) (fun hc => ?_)
  · replace h := x_ifT hc h
    refine x_iconst 30 rfl (v := 0) dX3_has_29 (by decide) ?_
    cases h
    exact x_zret (Or.inl rfl) dX3_has_30 rfl rfl rfl
  · replace h := x_ifF hc h
    refine x_iload_n 5 rfl 1 dX3_has_4 rfl rfl ?_
    refine x_bipush 7 rfl (v := 6) dX3_has_5 (by decide) ?_
    refine x_icmp_ge 10 rfl 29 dX3_has_7 (by decide) (fun hc => ?_) (fun hc => ?_)
    · replace h := x_ifT hc h
      refine x_iconst 30 rfl (v := 0) dX3_has_29 (by decide) ?_
      cases h
      exact x_zret (Or.inl rfl) dX3_has_30 rfl rfl rfl
    · replace h := x_ifF hc h
      refine x_aload_n 11 rfl 0 dX3_has_10 rfl rfl ?_
      refine x_getR E dX3_has_11 F_RX3_22 shk_13 rf_13_3 14 rfl ?_
      refine x_iload_n 15 rfl 1 dX3_has_14 rfl rfl ?_
      obtain ⟨hz, h⟩ := x_ifn h
      refine x_iald E dX3_has_15 shk_16 _ rfl hz 16 rfl ?_
      refine x_aload_n 17 rfl 0 dX3_has_16 rfl rfl ?_
      refine x_getR E dX3_has_17 F_RX3_19 shk_13 rf_13_2 20 rfl ?_
      refine x_iload_n 21 rfl 1 dX3_has_20 rfl rfl ?_
      obtain ⟨hz, h⟩ := x_ifn h
      refine x_iald E dX3_has_21 shk_15 _ rfl hz 22 rfl ?_
      refine x_icmp_le 25 rfl 29 dX3_has_22 (by decide) (fun hc => ?_) (fun hc => ?_)
      · replace h := x_ifT hc h
        refine x_iconst 30 rfl (v := 0) dX3_has_29 (by decide) ?_
        cases h
        exact x_zret (Or.inl rfl) dX3_has_30 rfl rfl rfl
      · replace h := x_ifF hc h
        refine x_iconst 26 rfl (v := 1) dX3_has_25 (by decide) ?_
        refine x_goto 30 dX3_has_26 (by decide) ?_
        cases h
        exact x_zret (Or.inr rfl) dX3_has_30 rfl rfl rfl
set_option maxHeartbeats 4000000 in
set_option maxRecDepth 100000 in
theorem ck_Ru_join {l : Launch} {s0 : State} {a0 : Array Value} {D : va_G} {cA : Nat → ClassId} {sp : Nat → Nat} (E : x_En CL l s0 a0 D cA sp) (v0 : Int32) (v1 : Int32) (v2 : Int32) {σ : xS} {r : Int32} {σ1 : xS} (h : f_Ru_join v0 v1 v2 σ = some (r, σ1)) : kC l s0 D cA sp 0 M_Ru_join [.int v0, .int v1, .int v2] σ (some (.int r)) σ1 := by
  unfold f_Ru_join at h
  try dsimp only at h
  refine x_enter [some (.int v0), some (.int v1), some (.int v2)] rfl (Nat.le_of_ble_eq_true rfl) (by decide +kernel) rfl ?_
  refine x_iload_n 1 rfl 0 dX3_join_0 rfl rfl ?_
  refine x_case (-8) (fun hc0 => ?_) (fun hc0 => ?_)
  · replace h := x_ifT hc0 h
    refine x_tabIn (off := 93) 94 dX3_join_1 (by rw [hc0]; decide) (by rw [hc0]; decide) (by rw [hc0]; rfl) (by decide) ?_
    refine x_iload_n 95 rfl 1 dX3_join_94 rfl rfl ?_
    refine x_if_eq 98 rfl 106 dX3_join_95 (by decide) (fun hc => ?_) (fun hc => ?_)
    · replace h := x_ifT hc h
      refine x_iconst 107 rfl (v := 0) dX3_join_106 (by decide) ?_
      cases h
      exact x_iret dX3_join_107 rfl rfl rfl
    · replace h := x_ifF hc h
      refine x_iload_n 99 rfl 2 dX3_join_98 rfl rfl ?_
      refine x_if_eq 102 rfl 106 dX3_join_99 (by decide) (fun hc => ?_) (fun hc => ?_)
      · replace h := x_ifT hc h
        refine x_iconst 107 rfl (v := 0) dX3_join_106 (by decide) ?_
        cases h
        exact x_iret dX3_join_107 rfl rfl rfl
      · replace h := x_ifF hc h
        refine x_iconst 103 rfl (v := 1) dX3_join_102 (by decide) ?_
        refine x_goto 107 dX3_join_103 (by decide) ?_
        cases h
        exact x_iret dX3_join_107 rfl rfl rfl
  replace h := x_ifF hc0 h
  refine x_case (-7) (fun hc1 => ?_) (fun hc1 => ?_)
  · replace h := x_ifT hc1 h
    refine x_tabIn (off := 107) 108 dX3_join_1 (by rw [hc1]; decide) (by rw [hc1]; decide) (by rw [hc1]; rfl) (by decide) ?_
    refine x_iload_n 109 rfl 1 dX3_join_108 rfl rfl ?_
    refine x_if_ne 112 rfl 116 dX3_join_109 (by decide) (fun hc => ?_) (fun hc => ?_)
    · replace h := x_ifF hc h
      refine x_iconst 117 rfl (v := 1) dX3_join_116 (by decide) ?_
      refine x_goto 121 dX3_join_117 (by decide) ?_
      cases h
      exact x_iret dX3_join_121 rfl rfl rfl
    · replace h := x_ifT hc h
      refine x_iload_n 113 rfl 2 dX3_join_112 rfl rfl ?_
      refine x_if_eq 116 rfl 120 dX3_join_113 (by decide) (fun hc => ?_) (fun hc => ?_)
      · replace h := x_ifT hc h
        refine x_iconst 121 rfl (v := 0) dX3_join_120 (by decide) ?_
        cases h
        exact x_iret dX3_join_121 rfl rfl rfl
      · replace h := x_ifF hc h
        refine x_iconst 117 rfl (v := 1) dX3_join_116 (by decide) ?_
        refine x_goto 121 dX3_join_117 (by decide) ?_
        cases h
        exact x_iret dX3_join_121 rfl rfl rfl
  replace h := x_ifF hc1 h
  refine x_case (-6) (fun hc2 => ?_) (fun hc2 => ?_)
  · replace h := x_ifT hc2 h
    refine x_tabIn (off := 82) 83 dX3_join_1 (by rw [hc2]; decide) (by rw [hc2]; decide) (by rw [hc2]; rfl) (by decide) ?_
    refine x_iload_n 84 rfl 1 dX3_join_83 rfl rfl ?_
    refine x_iload_n 85 rfl 2 dX3_join_84 rfl rfl ?_
    refine x_icmp_ne 88 rfl 92 dX3_join_85 (by decide) (fun hc => ?_) (fun hc => ?_)
    · replace h := x_ifF hc h
      refine x_iconst 93 rfl (v := 0) dX3_join_92 (by decide) ?_
      cases h
      exact x_iret dX3_join_93 rfl rfl rfl
    · replace h := x_ifT hc h
      refine x_iconst 89 rfl (v := 1) dX3_join_88 (by decide) ?_
      refine x_goto 93 dX3_join_89 (by decide) ?_
      cases h
      exact x_iret dX3_join_93 rfl rfl rfl
  replace h := x_ifF hc2 h
  refine x_case (-5) (fun hc3 => ?_) (fun hc3 => ?_)
  · replace h := x_ifT hc3 h
    refine x_tabIn (off := 71) 72 dX3_join_1 (by rw [hc3]; decide) (by rw [hc3]; decide) (by rw [hc3]; rfl) (by decide) ?_
    refine x_iload_n 73 rfl 1 dX3_join_72 rfl rfl ?_
    refine x_iload_n 74 rfl 2 dX3_join_73 rfl rfl ?_
    refine x_icmp_ge 77 rfl 81 dX3_join_74 (by decide) (fun hc => ?_) (fun hc => ?_)
    · replace h := x_ifT hc h
      refine x_iconst 82 rfl (v := 0) dX3_join_81 (by decide) ?_
      cases h
      exact x_iret dX3_join_82 rfl rfl rfl
    · replace h := x_ifF hc h
      refine x_iconst 78 rfl (v := 1) dX3_join_77 (by decide) ?_
      refine x_goto 82 dX3_join_78 (by decide) ?_
      cases h
      exact x_iret dX3_join_82 rfl rfl rfl
  replace h := x_ifF hc3 h
  refine x_case (-4) (fun hc4 => ?_) (fun hc4 => ?_)
  · replace h := x_ifT hc4 h
    refine x_tabIn (off := 59) 60 dX3_join_1 (by rw [hc4]; decide) (by rw [hc4]; decide) (by rw [hc4]; rfl) (by decide) ?_
    refine x_iload_n 61 rfl 2 dX3_join_60 rfl rfl ?_
    refine x_if_ne 64 rfl 68 dX3_join_61 (by decide) (fun hc => ?_) (fun hc => ?_)
    · replace h := x_ifF hc h
      refine x_iload_n 69 rfl 1 dX3_join_68 rfl rfl ?_
      refine x_iload_n 70 rfl 2 dX3_join_69 rfl rfl ?_
      obtain ⟨hz, h⟩ := x_ifn h
      refine x_idiv 71 rfl dX3_join_70 hz ?_
      cases h
      exact x_iret dX3_join_71 rfl rfl rfl
    · replace h := x_ifT hc h
      refine x_iconst 65 rfl (v := 0) dX3_join_64 (by decide) ?_
      refine x_goto 71 dX3_join_65 (by decide) ?_
      cases h
      exact x_iret dX3_join_71 rfl rfl rfl
  replace h := x_ifF hc4 h
  refine x_case (-3) (fun hc5 => ?_) (fun hc5 => ?_)
  · replace h := x_ifT hc5 h
    refine x_tabIn (off := 55) 56 dX3_join_1 (by rw [hc5]; decide) (by rw [hc5]; decide) (by rw [hc5]; rfl) (by decide) ?_
    refine x_iload_n 57 rfl 1 dX3_join_56 rfl rfl ?_
    refine x_iload_n 58 rfl 2 dX3_join_57 rfl rfl ?_
    refine x_imul 59 rfl dX3_join_58 ?_
    cases h
    exact x_iret dX3_join_59 rfl rfl rfl
  replace h := x_ifF hc5 h
  refine x_case (-2) (fun hc6 => ?_) (fun hc6 => ?_)
  · replace h := x_ifT hc6 h
    refine x_tabIn (off := 51) 52 dX3_join_1 (by rw [hc6]; decide) (by rw [hc6]; decide) (by rw [hc6]; rfl) (by decide) ?_
    refine x_iload_n 53 rfl 1 dX3_join_52 rfl rfl ?_
    refine x_iload_n 54 rfl 2 dX3_join_53 rfl rfl ?_
    refine x_isub 55 rfl dX3_join_54 ?_
    cases h
    exact x_iret dX3_join_55 rfl rfl rfl
  replace h := x_ifF hc6 h
  refine x_case (-1) (fun hc7 => ?_) (fun hc7 => ?_)
  · replace h := x_ifT hc7 h
    refine x_tabIn (off := 47) 48 dX3_join_1 (by rw [hc7]; decide) (by rw [hc7]; decide) (by rw [hc7]; rfl) (by decide) ?_
    refine x_iload_n 49 rfl 1 dX3_join_48 rfl rfl ?_
    refine x_iload_n 50 rfl 2 dX3_join_49 rfl rfl ?_
    refine x_iadd 51 rfl dX3_join_50 ?_
    cases h
    exact x_iret dX3_join_51 rfl rfl rfl
  replace h := x_ifF hc7 h
  refine x_tabOut 108 dX3_join_1 (by have g0 := x_toNe hc0 (k := -8) (by decide); have g1 := x_toNe hc1 (k := -7) (by decide); have g2 := x_toNe hc2 (k := -6) (by decide); have g3 := x_toNe hc3 (k := -5) (by decide); have g4 := x_toNe hc4 (k := -4) (by decide); have g5 := x_toNe hc5 (k := -3) (by decide); have g6 := x_toNe hc6 (k := -2) (by decide); have g7 := x_toNe hc7 (k := -1) (by decide); omega) (by decide) ?_
  refine x_iload_n 109 rfl 1 dX3_join_108 rfl rfl ?_
  refine x_if_ne 112 rfl 116 dX3_join_109 (by decide) (fun hc => ?_) (fun hc => ?_)
  · replace h := x_ifF hc h
    refine x_iconst 117 rfl (v := 1) dX3_join_116 (by decide) ?_
    refine x_goto 121 dX3_join_117 (by decide) ?_
    cases h
    exact x_iret dX3_join_121 rfl rfl rfl
  · replace h := x_ifT hc h
    refine x_iload_n 113 rfl 2 dX3_join_112 rfl rfl ?_
    refine x_if_eq 116 rfl 120 dX3_join_113 (by decide) (fun hc => ?_) (fun hc => ?_)
    · replace h := x_ifT hc h
      refine x_iconst 121 rfl (v := 0) dX3_join_120 (by decide) ?_
      cases h
      exact x_iret dX3_join_121 rfl rfl rfl
    · replace h := x_ifF hc h
      refine x_iconst 117 rfl (v := 1) dX3_join_116 (by decide) ?_
      refine x_goto 121 dX3_join_117 (by decide) ?_
      cases h
      exact x_iret dX3_join_121 rfl rfl rfl
set_option maxHeartbeats 4000000 in
set_option maxRecDepth 100000 in
theorem ck_Ru_valueBy_13 {l : Launch} {s0 : State} {a0 : Array Value} {D : va_G} {cA : Nat → ClassId} {sp : Nat → Nat} (E : x_En CL l s0 a0 D cA sp) (v1 : Int32) {σ : xS} {r : Int32} {σ1 : xS} (h : f_Ru_valueBy_13 v1 σ = some (r, σ1)) : kC l s0 D cA sp 0 M_Ru_valueBy [.ref 13, .int v1] σ (some (.int r)) σ1 := by
  unfold f_Ru_valueBy_13 at h
  try dsimp only at h
  refine x_enter [some (.ref 13), some (.int v1), none] rfl (Nat.le_of_ble_eq_true rfl) (by decide +kernel) rfl ?_
  refine x_bipush 2 rfl (v := -10) dX3_valueBy_0 (by decide) ?_
  refine x_iload_n 3 rfl 1 dX3_valueBy_2 rfl rfl ?_
  refine x_isub 4 rfl dX3_valueBy_3 ?_
  refine x_istore_n 5 rfl 2 dX3_valueBy_4 rfl (by decide) [some (.ref 13), some (.int _), some (.int _)] rfl ?_
  refine x_iload_n 6 rfl 2 dX3_valueBy_5 rfl rfl ?_
  refine x_if_lt 9 rfl 24 dX3_valueBy_6 (by decide) (fun hc => ?_) (fun hc => ?_)
  · replace h := x_ifT hc h
    refine x_iconst 25 rfl (v := 0) dX3_valueBy_24 (by decide) ?_
    cases h
    exact x_iret dX3_valueBy_25 rfl rfl rfl
  · replace h := x_ifF hc h
    refine x_iload_n 10 rfl 2 dX3_valueBy_9 rfl rfl ?_
    refine x_bipush 12 rfl (v := 8) dX3_valueBy_10 (by decide) ?_
    refine x_icmp_ge 15 rfl 24 dX3_valueBy_12 (by decide) (fun hc => ?_) (fun hc => ?_)
    · replace h := x_ifT hc h
      refine x_iconst 25 rfl (v := 0) dX3_valueBy_24 (by decide) ?_
      cases h
      exact x_iret dX3_valueBy_25 rfl rfl rfl
    · replace h := x_ifF hc h
      refine x_aload_n 16 rfl 0 dX3_valueBy_15 rfl rfl ?_
      refine x_getR E dX3_valueBy_16 F_RX3_28 shk_13 rf_13_5 19 rfl ?_
      refine x_iload_n 20 rfl 2 dX3_valueBy_19 rfl rfl ?_
      obtain ⟨hz, h⟩ := x_ifn h
      refine x_iald E dX3_valueBy_20 shk_18 _ rfl hz 21 rfl ?_
      refine x_goto 25 dX3_valueBy_21 (by decide) ?_
      cases h
      exact x_iret dX3_valueBy_25 rfl rfl rfl
set_option maxHeartbeats 4000000 in
set_option maxRecDepth 100000 in
theorem jk_Ru_worth_13_J58 {l : Launch} {s0 : State} {a0 : Array Value} {D : va_G} {cA : Nat → ClassId} {sp : Nat → Nat} (E : x_En CL l s0 a0 D cA sp) (v1 : Int32) (v2 : Int32) (v3 : Int32) (v4 : Int32)  (σ : xS) {r : Int32} {σ1 : xS} (o : (Int32 × Int32 × xS) ⊕ (Int32 × Int32 × xS)) (h : f_Ru_worth_13_J58 v1 v2 v3 v4 σ = some o) (hK : ∀ b, o = .inl b → kW l s0 D cA sp (kQ s0 D cA sp (some (.int r)) σ1) (x_rm 1 0 0) M_Ru_worth 0 0 172 [some (.ref 13), none, some (.int b.1), none, none] [] b.2.2) (hG : ∀ a', o = .inr a' → kW l s0 D cA sp (kQ s0 D cA sp (some (.int r)) σ1) (x_rm 1 0 0) M_Ru_worth 0 0 19 [some (.ref 13), some (.int v1), some (.int a'.1), some (.int a'.2.1), none] [] a'.2.2) : kW l s0 D cA sp (kQ s0 D cA sp (some (.int r)) σ1) (x_rm 1 0 0) M_Ru_worth 0 0 58 [some (.ref 13), some (.int v1), some (.int v2), some (.int v3), some (.int v4)] [] σ := by
  unfold f_Ru_worth_13_J58 at h
  try dsimp only at h
  refine x_iload_n 59 rfl 2 dX3_worth_58 rfl rfl ?_
  refine x_bipush 61 rfl (v := 64) dX3_worth_59 (by decide) ?_
  refine x_icmp_ge 64 rfl 166 dX3_worth_61 (by decide) (fun hc => ?_) (fun hc => ?_)
  · replace h := x_ifT hc h
    refine x_iinc 169 rfl (1) dX3_worth_166 rfl (by decide) (by decide) [some (.ref 13), some (.int _), some (.int _), some (.int _), some (.int _)] rfl ?_
    refine x_goto 19 dX3_worth_169 (by decide) ?_
    cases h
    exact x_wk (x_le_s (x_le_s (x_le_s (x_le_s (x_le_n x_le_0))))) (hG (_, _, _) rfl)
  · replace h := x_ifF hc h
    refine x_aload_n 65 rfl 0 dX3_worth_64 rfl rfl ?_
    refine x_getR E dX3_worth_65 F_RX3_25 shk_13 rf_13_4 68 rfl ?_
    refine x_iload_n 69 rfl 2 dX3_worth_68 rfl rfl ?_
    refine x_iload 71 rfl dX3_worth_69 rfl ?_
    refine x_if_lt 74 rfl 79 dX3_worth_71 (by decide) (fun hc => ?_) (fun hc => ?_)
    · replace h := x_ifT hc h
      refine x_aload_n 80 rfl 0 dX3_worth_79 rfl rfl ?_
      refine x_iload 82 rfl dX3_worth_80 rfl ?_
      obtain ⟨⟨q2r, q2s⟩, q2h, h⟩ := x_bind h
      try dsimp only at h
      refine k_callV E [.int _] [.int _, .ref 17] dX3_worth_82 K_RX3_35 ⟨Nat.le_of_ble_eq_true rfl, Nat.le_of_ble_eq_true rfl⟩ shk_13 (by decide) rfl (ck_Ru_valueBy_13 E _ q2h) rfl rfl (Nat.le_of_ble_eq_true rfl) 85 rfl [.int _, .int _, .ref 17] rfl ?_
      obtain ⟨hz, h⟩ := x_ifn h
      refine x_iast E dX3_worth_85 shk_17 _ rfl hz 86 rfl ?_
      refine x_iinc 89 rfl (1) dX3_worth_86 rfl (by decide) (by decide) [some (.ref 13), some (.int _), some (.int _), some (.int _), some (.int _)] rfl ?_
      refine x_goto 166 dX3_worth_89 (by decide) ?_
      refine x_iinc 169 rfl (1) dX3_worth_166 rfl (by decide) (by decide) [some (.ref 13), some (.int _), some (.int _), some (.int _), some (.int _)] rfl ?_
      refine x_goto 19 dX3_worth_169 (by decide) ?_
      cases h
      exact x_wk (x_le_s (x_le_s (x_le_s (x_le_s (x_le_n x_le_0))))) (hG (_, _, _) rfl)
    · replace h := x_ifF hc h
      refine x_iload 76 rfl dX3_worth_74 rfl ?_
      refine x_goto 85 dX3_worth_76 (by decide) ?_
      obtain ⟨hz, h⟩ := x_ifn h
      refine x_iast E dX3_worth_85 shk_17 _ rfl hz 86 rfl ?_
      refine x_iinc 89 rfl (1) dX3_worth_86 rfl (by decide) (by decide) [some (.ref 13), some (.int _), some (.int _), some (.int _), some (.int _)] rfl ?_
      refine x_goto 166 dX3_worth_89 (by decide) ?_
      refine x_iinc 169 rfl (1) dX3_worth_166 rfl (by decide) (by decide) [some (.ref 13), some (.int _), some (.int _), some (.int _), some (.int _)] rfl ?_
      refine x_goto 19 dX3_worth_169 (by decide) ?_
      cases h
      exact x_wk (x_le_s (x_le_s (x_le_s (x_le_s (x_le_n x_le_0))))) (hG (_, _, _) rfl)
set_option maxHeartbeats 4000000 in
set_option maxRecDepth 100000 in
theorem bk_Ru_worth_13_L19 {l : Launch} {s0 : State} {a0 : Array Value} {D : va_G} {cA : Nat → ClassId} {sp : Nat → Nat} (E : x_En CL l s0 a0 D cA sp) (v1 : Int32) {r : Int32} {σ1 : xS} (a : Int32 × Int32 × xS) (o : (Int32 × Int32 × xS) ⊕ (Int32 × Int32 × xS)) (h : f_Ru_worth_13_L19 v1 a = some o) (hK : ∀ b, o = .inl b → kW l s0 D cA sp (kQ s0 D cA sp (some (.int r)) σ1) (x_rm 1 0 0) M_Ru_worth 0 0 172 [some (.ref 13), none, some (.int b.1), none, none] [] b.2.2) (hG : ∀ a', o = .inr a' → kW l s0 D cA sp (kQ s0 D cA sp (some (.int r)) σ1) (x_rm 1 0 0) M_Ru_worth 0 0 19 [some (.ref 13), some (.int v1), some (.int a'.1), some (.int a'.2.1), none] [] a'.2.2) : kW l s0 D cA sp (kQ s0 D cA sp (some (.int r)) σ1) (x_rm 1 0 0) M_Ru_worth 0 0 19 [some (.ref 13), some (.int v1), some (.int a.1), some (.int a.2.1), none] [] a.2.2 := by
  obtain ⟨v2, v3, σ⟩ := a
  unfold f_Ru_worth_13_L19 at h
  try dsimp only at h ⊢
  refine x_iload_n 20 rfl 3 dX3_worth_19 rfl rfl ?_
  refine x_aload_n 21 rfl 0 dX3_worth_20 rfl rfl ?_
  refine x_getR E dX3_worth_21 F_RX3_22 shk_13 rf_13_3 24 rfl ?_
  refine x_iload_n 25 rfl 1 dX3_worth_24 rfl rfl ?_
  obtain ⟨hz, h⟩ := x_ifn h
  refine x_iald E dX3_worth_25 shk_16 _ rfl hz 26 rfl ?_
  refine x_icmp_ge 29 rfl 172 dX3_worth_26 (by decide) (fun hc => ?_) (fun hc => ?_)
  · replace h := x_ifT hc h
    cases h
    exact x_wk (x_le_s (x_le_n (x_le_s (x_le_n (x_le_n x_le_0))))) (hK (_, _, _) rfl)
  · replace h := x_ifF hc h
    refine x_iload_n 30 rfl 3 dX3_worth_29 rfl rfl ?_
    refine x_aload_n 31 rfl 0 dX3_worth_30 rfl rfl ?_
    refine x_getR E dX3_worth_31 F_RX3_9 shk_13 rf_13_0 34 rfl ?_
    refine x_alen E dX3_worth_34 shk_14 35 rfl ?_
    refine x_icmp_ge 38 rfl 172 dX3_worth_35 (by decide) (fun hc => ?_) (fun hc => ?_)
    · replace h := x_ifT hc h
      cases h
      exact x_wk (x_le_s (x_le_n (x_le_s (x_le_n (x_le_n x_le_0))))) (hK (_, _, _) rfl)
    · replace h := x_ifF hc h
      refine x_aload_n 39 rfl 0 dX3_worth_38 rfl rfl ?_
      refine x_getR E dX3_worth_39 F_RX3_9 shk_13 rf_13_0 42 rfl ?_
      refine x_iload_n 43 rfl 3 dX3_worth_42 rfl rfl ?_
      obtain ⟨hz, h⟩ := x_ifn h
      refine x_iald E dX3_worth_43 shk_14 _ rfl hz 44 rfl ?_
      refine x_istore 46 rfl dX3_worth_44 (by decide) [some (.ref 13), some (.int _), some (.int _), some (.int _), some (.int _)] rfl ?_
      refine x_iload 48 rfl dX3_worth_46 rfl ?_
      refine x_if_ge 51 rfl 58 dX3_worth_48 (by decide) (fun hc => ?_) (fun hc => ?_)
      · replace h := x_ifT hc h
        exact x_wk (x_le_s (x_le_s (x_le_s (x_le_s (x_le_s x_le_0))))) (jk_Ru_worth_13_J58 (r := r) (σ1 := σ1) E _ _ _ _  _ _ h hK hG)
      · replace h := x_ifF hc h
        refine x_iload 53 rfl dX3_worth_51 rfl ?_
        refine x_bipush 55 rfl (v := -10) dX3_worth_53 (by decide) ?_
        refine x_icmp_gt 58 rfl 92 dX3_worth_55 (by decide) (fun hc => ?_) (fun hc => ?_)
        · replace h := x_ifT hc h
          refine x_iload 94 rfl dX3_worth_92 rfl ?_
          refine x_bipush 96 rfl (v := -7) dX3_worth_94 (by decide) ?_
          refine x_icmp_ne 99 rfl 131 dX3_worth_96 (by decide) (fun hc => ?_) (fun hc => ?_)
          · replace h := x_ifF hc h
            refine x_iload_n 132 rfl 2 dX3_worth_131 rfl rfl ?_
            refine x_iconst 133 rfl (v := 2) dX3_worth_132 (by decide) ?_
            refine x_icmp_lt 136 rfl 166 dX3_worth_133 (by decide) (fun hc => ?_) (fun hc => ?_)
            · replace h := x_ifT hc h
              refine x_iinc 169 rfl (1) dX3_worth_166 rfl (by decide) (by decide) [some (.ref 13), some (.int _), some (.int _), some (.int _), some (.int _)] rfl ?_
              refine x_goto 19 dX3_worth_169 (by decide) ?_
              cases h
              exact x_wk (x_le_s (x_le_s (x_le_s (x_le_s (x_le_n x_le_0))))) (hG (_, _, _) rfl)
            · replace h := x_ifF hc h
              refine x_iinc 139 rfl (-1) dX3_worth_136 rfl (by decide) (by decide) [some (.ref 13), some (.int _), some (.int _), some (.int _), some (.int _)] rfl ?_
              refine x_aload_n 140 rfl 0 dX3_worth_139 rfl rfl ?_
              refine x_getR E dX3_worth_140 F_RX3_25 shk_13 rf_13_4 143 rfl ?_
              refine x_iload_n 144 rfl 2 dX3_worth_143 rfl rfl ?_
              refine x_iconst 145 rfl (v := 1) dX3_worth_144 (by decide) ?_
              refine x_isub 146 rfl dX3_worth_145 ?_
              refine x_iload 148 rfl dX3_worth_146 rfl ?_
              refine x_aload_n 149 rfl 0 dX3_worth_148 rfl rfl ?_
              refine x_getR E dX3_worth_149 F_RX3_25 shk_13 rf_13_4 152 rfl ?_
              refine x_iload_n 153 rfl 2 dX3_worth_152 rfl rfl ?_
              refine x_iconst 154 rfl (v := 1) dX3_worth_153 (by decide) ?_
              refine x_isub 155 rfl dX3_worth_154 ?_
              obtain ⟨hz, h⟩ := x_ifn h
              refine x_iald E dX3_worth_155 shk_17 _ rfl hz 156 rfl ?_
              refine x_aload_n 157 rfl 0 dX3_worth_156 rfl rfl ?_
              refine x_getR E dX3_worth_157 F_RX3_25 shk_13 rf_13_4 160 rfl ?_
              refine x_iload_n 161 rfl 2 dX3_worth_160 rfl rfl ?_
              obtain ⟨hz, h⟩ := x_ifn h
              refine x_iald E dX3_worth_161 shk_17 _ rfl hz 162 rfl ?_
              obtain ⟨⟨q12r, q12s⟩, q12h, h⟩ := x_bind h
              try dsimp only at h
              refine k_callS E [.int _, .int _, .int _] [.int _, .ref 17] dX3_worth_162 K_RX3_39 ⟨Nat.le_of_ble_eq_true rfl, Nat.le_of_ble_eq_true rfl⟩ (ck_Ru_join E _ _ _ q12h) rfl rfl (Nat.le_of_ble_eq_true rfl) 165 rfl [.int _, .int _, .ref 17] rfl ?_
              obtain ⟨hz, h⟩ := x_ifn h
              refine x_iast E dX3_worth_165 shk_17 _ rfl hz 166 rfl ?_
              refine x_iinc 169 rfl (1) dX3_worth_166 rfl (by decide) (by decide) [some (.ref 13), some (.int _), some (.int _), some (.int _), some (.int _)] rfl ?_
              refine x_goto 19 dX3_worth_169 (by decide) ?_
              cases h
              exact x_wk (x_le_s (x_le_s (x_le_s (x_le_s (x_le_n x_le_0))))) (hG (_, _, _) rfl)
          · replace h := x_ifT hc h
            refine x_iload_n 100 rfl 2 dX3_worth_99 rfl rfl ?_
            refine x_iconst 101 rfl (v := 1) dX3_worth_100 (by decide) ?_
            refine x_icmp_lt 104 rfl 166 dX3_worth_101 (by decide) (fun hc => ?_) (fun hc => ?_)
            · replace h := x_ifT hc h
              refine x_iinc 169 rfl (1) dX3_worth_166 rfl (by decide) (by decide) [some (.ref 13), some (.int _), some (.int _), some (.int _), some (.int _)] rfl ?_
              refine x_goto 19 dX3_worth_169 (by decide) ?_
              cases h
              exact x_wk (x_le_s (x_le_s (x_le_s (x_le_s (x_le_n x_le_0))))) (hG (_, _, _) rfl)
            · replace h := x_ifF hc h
              refine x_aload_n 105 rfl 0 dX3_worth_104 rfl rfl ?_
              refine x_getR E dX3_worth_105 F_RX3_25 shk_13 rf_13_4 108 rfl ?_
              refine x_iload_n 109 rfl 2 dX3_worth_108 rfl rfl ?_
              refine x_iconst 110 rfl (v := 1) dX3_worth_109 (by decide) ?_
              refine x_isub 111 rfl dX3_worth_110 ?_
              refine x_aload_n 112 rfl 0 dX3_worth_111 rfl rfl ?_
              refine x_getR E dX3_worth_112 F_RX3_25 shk_13 rf_13_4 115 rfl ?_
              refine x_iload_n 116 rfl 2 dX3_worth_115 rfl rfl ?_
              refine x_iconst 117 rfl (v := 1) dX3_worth_116 (by decide) ?_
              refine x_isub 118 rfl dX3_worth_117 ?_
              obtain ⟨hz, h⟩ := x_ifn h
              refine x_iald E dX3_worth_118 shk_17 _ rfl hz 119 rfl ?_
              refine x_if_ne 122 rfl 126 dX3_worth_119 (by decide) (fun hc => ?_) (fun hc => ?_)
              · replace h := x_ifF hc h
                refine x_iconst 127 rfl (v := 0) dX3_worth_126 (by decide) ?_
                obtain ⟨hz, h⟩ := x_ifn h
                refine x_iast E dX3_worth_127 shk_17 _ rfl hz 128 rfl ?_
                refine x_goto 166 dX3_worth_128 (by decide) ?_
                refine x_iinc 169 rfl (1) dX3_worth_166 rfl (by decide) (by decide) [some (.ref 13), some (.int _), some (.int _), some (.int _), some (.int _)] rfl ?_
                refine x_goto 19 dX3_worth_169 (by decide) ?_
                cases h
                exact x_wk (x_le_s (x_le_s (x_le_s (x_le_s (x_le_n x_le_0))))) (hG (_, _, _) rfl)
              · replace h := x_ifT hc h
                refine x_iconst 123 rfl (v := 1) dX3_worth_122 (by decide) ?_
                refine x_goto 127 dX3_worth_123 (by decide) ?_
                obtain ⟨hz, h⟩ := x_ifn h
                refine x_iast E dX3_worth_127 shk_17 _ rfl hz 128 rfl ?_
                refine x_goto 166 dX3_worth_128 (by decide) ?_
                refine x_iinc 169 rfl (1) dX3_worth_166 rfl (by decide) (by decide) [some (.ref 13), some (.int _), some (.int _), some (.int _), some (.int _)] rfl ?_
                refine x_goto 19 dX3_worth_169 (by decide) ?_
                cases h
                exact x_wk (x_le_s (x_le_s (x_le_s (x_le_s (x_le_n x_le_0))))) (hG (_, _, _) rfl)
        · replace h := x_ifF hc h
          exact x_wk (x_le_s (x_le_s (x_le_s (x_le_s (x_le_s x_le_0))))) (jk_Ru_worth_13_J58 (r := r) (σ1 := σ1) E _ _ _ _  _ _ h hK hG)
set_option maxHeartbeats 4000000 in
set_option maxRecDepth 100000 in
theorem jk_Ru_worth_13_J172 {l : Launch} {s0 : State} {a0 : Array Value} {D : va_G} {cA : Nat → ClassId} {sp : Nat → Nat} (E : x_En CL l s0 a0 D cA sp) (v2 : Int32) (σ : xS) {r : Int32} {σ1 : xS} (h : f_Ru_worth_13_J172 v2 σ = some (r, σ1)) : kW l s0 D cA sp (kQ s0 D cA sp (some (.int r)) σ1) (x_rm 1 0 0) M_Ru_worth 0 0 172 [some (.ref 13), none, some (.int v2), none, none] [] σ := by
  unfold f_Ru_worth_13_J172 at h
  try dsimp only at h
  refine x_iload_n 173 rfl 2 dX3_worth_172 rfl rfl ?_
  refine x_iconst 174 rfl (v := 1) dX3_worth_173 (by decide) ?_
  refine x_icmp_ne 177 rfl 186 dX3_worth_174 (by decide) (fun hc => ?_) (fun hc => ?_)
  · replace h := x_ifF hc h
    refine x_iconst 187 rfl (v := 0) dX3_worth_186 (by decide) ?_
    cases h
    exact x_iret dX3_worth_187 rfl rfl rfl
  · replace h := x_ifT hc h
    refine x_aload_n 178 rfl 0 dX3_worth_177 rfl rfl ?_
    refine x_getR E dX3_worth_178 F_RX3_25 shk_13 rf_13_4 181 rfl ?_
    refine x_iconst 182 rfl (v := 0) dX3_worth_181 (by decide) ?_
    refine x_iald E dX3_worth_182 shk_17 0 (by decide) (by decide) 183 rfl ?_
    refine x_goto 187 dX3_worth_183 (by decide) ?_
    cases h
    exact x_iret dX3_worth_187 rfl rfl rfl
set_option maxHeartbeats 4000000 in
set_option maxRecDepth 100000 in
theorem ck_Ru_worth_13 {l : Launch} {s0 : State} {a0 : Array Value} {D : va_G} {cA : Nat → ClassId} {sp : Nat → Nat} (E : x_En CL l s0 a0 D cA sp) (v1 : Int32) {σ : xS} {r : Int32} {σ1 : xS} (h : f_Ru_worth_13 v1 σ = some (r, σ1)) : kC l s0 D cA sp 1 M_Ru_worth [.ref 13, .int v1] σ (some (.int r)) σ1 := by
  unfold f_Ru_worth_13 at h
  try dsimp only at h
  refine x_enter [some (.ref 13), some (.int v1), none, none, none] rfl (Nat.le_of_ble_eq_true rfl) (by decide +kernel) rfl ?_
  refine x_aload_n 1 rfl 0 dX3_worth_0 rfl rfl ?_
  refine x_iload_n 2 rfl 1 dX3_worth_1 rfl rfl ?_
  obtain ⟨⟨q20r, q20s⟩, q20h, h⟩ := x_bind h
  try dsimp only at h
  refine k_callV E [.int _] [] dX3_worth_2 K_RX3_31 ⟨Nat.le_of_ble_eq_true rfl, Nat.le_of_ble_eq_true rfl⟩ shk_13 (by decide) rfl (ck_Ru_has_13 E _ q20h) rfl rfl (Nat.le_of_ble_eq_true rfl) 5 rfl [.int _] rfl ?_
  refine x_if_ne 8 rfl 10 dX3_worth_5 (by decide) (fun hc => ?_) (fun hc => ?_)
  · replace h := x_ifF hc h
    refine x_iconst 11 rfl (v := 0) dX3_worth_10 (by decide) ?_
    refine x_istore_n 12 rfl 2 dX3_worth_11 rfl (by decide) [some (.ref 13), some (.int _), some (.int _), none, none] rfl ?_
    refine x_aload_n 13 rfl 0 dX3_worth_12 rfl rfl ?_
    refine x_getR E dX3_worth_13 F_RX3_19 shk_13 rf_13_2 16 rfl ?_
    refine x_iload_n 17 rfl 1 dX3_worth_16 rfl rfl ?_
    obtain ⟨hz, h⟩ := x_ifn h
    refine x_iald E dX3_worth_17 shk_15 _ rfl hz 18 rfl ?_
    refine x_istore_n 19 rfl 3 dX3_worth_18 rfl (by decide) [some (.ref 13), some (.int _), some (.int _), some (.int _), none] rfl ?_
    obtain ⟨b22, b22h, h⟩ := x_bind h
    try dsimp only at h
    refine x_wk (x_le_s (x_le_s (x_le_s (x_le_s (x_le_n x_le_0))))) (x_loop (fun a o h hK hG => bk_Ru_worth_13_L19 (r := r) (σ1 := σ1) E _ a o h hK hG) _ _ _ b22h ?_)
    exact x_wk (x_le_s (x_le_n (x_le_s (x_le_n (x_le_n x_le_0))))) (jk_Ru_worth_13_J172 E _ _ h)
  · replace h := x_ifT hc h
    refine x_iconst 9 rfl (v := 0) dX3_worth_8 (by decide) ?_
    cases h
    exact x_iret dX3_worth_9 rfl rfl rfl
set_option maxHeartbeats 4000000 in
set_option maxRecDepth 100000 in
theorem ck_Sc_ruledTurn_7 {l : Launch} {s0 : State} {a0 : Array Value} {D : va_G} {cA : Nat → ClassId} {sp : Nat → Nat} (E : x_En CL l s0 a0 D cA sp) (v1 : Int32) {σ : xS} {r : Int32} {σ1 : xS} (h : f_Sc_ruledTurn_7 v1 σ = some (r, σ1)) : kC l s0 D cA sp 2 M_Sc_ruledTurn [.ref 7, .int v1] σ (some (.int r)) σ1 := by
  unfold f_Sc_ruledTurn_7 at h
  try dsimp only at h
  refine x_enter [some (.ref 7), some (.int v1)] rfl (Nat.le_of_ble_eq_true rfl) (by decide +kernel) rfl ?_
  refine x_aload_n 1 rfl 0 dX4_ruledTurn_0 rfl rfl ?_
  refine x_getR E dX4_ruledTurn_1 F_RX4_30 shk_7 rf_7_11 4 rfl ?_
  refine x_iconst 5 rfl (v := 0) dX4_ruledTurn_4 (by decide) ?_
  obtain ⟨⟨q1r, q1s⟩, q1h, h⟩ := x_bind h
  try dsimp only at h
  refine k_callV E [.int _] [] dX4_ruledTurn_5 K_RX4_66 ⟨Nat.le_of_ble_eq_true rfl, Nat.le_of_ble_eq_true rfl⟩ shk_13 (by decide) rfl (ck_Ru_has_13 E _ q1h) rfl rfl (Nat.le_of_ble_eq_true rfl) 8 rfl [.int _] rfl ?_
  refine x_if_ne 11 rfl 26 dX4_ruledTurn_8 (by decide) (fun hc => ?_) (fun hc => ?_)
  · replace h := x_ifF hc h
    refine x_aload_n 27 rfl 0 dX4_ruledTurn_26 rfl rfl ?_
    refine x_getR E dX4_ruledTurn_27 F_RX4_30 shk_7 rf_7_11 30 rfl ?_
    refine x_getR E dX4_ruledTurn_30 F_RX4_70 shk_13 rf_13_5 33 rfl ?_
    refine x_iconst 34 rfl (v := 0) dX4_ruledTurn_33 (by decide) ?_
    refine x_iload_n 35 rfl 1 dX4_ruledTurn_34 rfl rfl ?_
    refine x_iast E dX4_ruledTurn_35 shk_18 0 (by decide) (by decide) 36 rfl ?_
    refine x_aload_n 37 rfl 0 dX4_ruledTurn_36 rfl rfl ?_
    refine x_getR E dX4_ruledTurn_37 F_RX4_30 shk_7 rf_7_11 40 rfl ?_
    refine x_iconst 41 rfl (v := 0) dX4_ruledTurn_40 (by decide) ?_
    obtain ⟨⟨q3r, q3s⟩, q3h, h⟩ := x_bind h
    try dsimp only at h
    refine k_callV E [.int _] [] dX4_ruledTurn_41 K_RX4_73 ⟨Nat.le_of_ble_eq_true rfl, Nat.le_of_ble_eq_true rfl⟩ shk_13 (by decide) rfl (ck_Ru_worth_13 E _ q3h) rfl rfl (Nat.le_of_ble_eq_true rfl) 44 rfl [.int _] rfl ?_
    refine x_iconst 45 rfl (v := 0) dX4_ruledTurn_44 (by decide) ?_
    refine x_sipush 48 rfl (v := 999) dX4_ruledTurn_45 (by decide) ?_
    obtain ⟨⟨q4r, q4s⟩, q4h, h⟩ := x_bind h
    try dsimp only at h
    refine k_callT E [.int _, .int _, .int _] [] dX4_ruledTurn_48 K_RX4_76 ⟨Nat.le_of_ble_eq_true rfl, Nat.le_of_ble_eq_true rfl⟩ (ck_RH_within E _ _ _ q4h) rfl rfl (Nat.le_of_ble_eq_true rfl) 51 rfl [.int _] rfl ?_
    cases h
    exact x_iret dX4_ruledTurn_51 rfl rfl rfl
  · replace h := x_ifT hc h
    refine x_iload_n 12 rfl 1 dX4_ruledTurn_11 rfl rfl ?_
    refine x_iconst 13 rfl (v := 1) dX4_ruledTurn_12 (by decide) ?_
    refine x_icmp_ge 16 rfl 20 dX4_ruledTurn_13 (by decide) (fun hc => ?_) (fun hc => ?_)
    · replace h := x_ifT hc h
      refine x_sipush 23 rfl (v := 4320) dX4_ruledTurn_20 (by decide) ?_
      refine x_iload_n 24 rfl 1 dX4_ruledTurn_23 rfl rfl ?_
      obtain ⟨hz, h⟩ := x_ifn h
      refine x_idiv 25 rfl dX4_ruledTurn_24 hz ?_
      cases h
      exact x_iret dX4_ruledTurn_25 rfl rfl rfl
    · replace h := x_ifF hc h
      refine x_iconst 17 rfl (v := 0) dX4_ruledTurn_16 (by decide) ?_
      refine x_goto 25 dX4_ruledTurn_17 (by decide) ?_
      cases h
      exact x_iret dX4_ruledTurn_25 rfl rfl rfl
set_option maxHeartbeats 4000000 in
set_option maxRecDepth 100000 in
theorem bk_Sc_finish_7_L123 {l : Launch} {s0 : State} {a0 : Array Value} {D : va_G} {cA : Nat → ClassId} {sp : Nat → Nat} (E : x_En CL l s0 a0 D cA sp)  {r : Unit} {σ1 : xS} (a : Int32 × xS) (o : (Int32 × xS) ⊕ (Int32 × xS)) (h : f_Sc_finish_7_L123  a = some o) (hK : ∀ b, o = .inl b → kW l s0 D cA sp (kQ s0 D cA sp none σ1) (x_rm 3 0 0) M_Sc_finish 0 0 147 [none, none, none, none, none, none] [] b.2) (hG : ∀ a', o = .inr a' → kW l s0 D cA sp (kQ s0 D cA sp none σ1) (x_rm 3 0 0) M_Sc_finish 0 0 123 [some (.ref 7), none, none, some (.int a'.1), none, none] [] a'.2) : kW l s0 D cA sp (kQ s0 D cA sp none σ1) (x_rm 3 0 0) M_Sc_finish 0 0 123 [some (.ref 7), none, none, some (.int a.1), none, none] [] a.2 := by
  obtain ⟨v3, σ⟩ := a
  unfold f_Sc_finish_7_L123 at h
  try dsimp only at h ⊢
  refine x_iload_n 124 rfl 3 dX4_finish_123 rfl rfl ?_
  refine x_sipush 127 rfl (v := 480) dX4_finish_124 (by decide) ?_
  refine x_icmp_gt 130 rfl 147 dX4_finish_127 (by decide) (fun hc => ?_) (fun hc => ?_)
  · replace h := x_ifT hc h
    cases h
    exact x_wk (x_le_n (x_le_n (x_le_n (x_le_n (x_le_n (x_le_n x_le_0)))))) (hK (_, _) rfl)
  · replace h := x_ifF hc h
    refine x_aload_n 131 rfl 0 dX4_finish_130 rfl rfl ?_
    refine x_getR E dX4_finish_131 F_RX4_37 shk_7 rf_7_13 134 rfl ?_
    refine x_iload_n 135 rfl 3 dX4_finish_134 rfl rfl ?_
    refine x_aload_n 136 rfl 0 dX4_finish_135 rfl rfl ?_
    refine x_iload_n 137 rfl 3 dX4_finish_136 rfl rfl ?_
    obtain ⟨⟨q1r, q1s⟩, q1h, h⟩ := x_bind h
    try dsimp only at h
    refine k_callV E [.int _] [.int _, .ref 20] dX4_finish_137 K_RX4_62 ⟨Nat.le_of_ble_eq_true rfl, Nat.le_of_ble_eq_true rfl⟩ shk_7 (by decide) rfl (ck_Sc_ruledTurn_7 E _ q1h) rfl rfl (Nat.le_of_ble_eq_true rfl) 140 rfl [.int _, .int _, .ref 20] rfl ?_
    obtain ⟨hz, h⟩ := x_ifn h
    refine x_iast E dX4_finish_140 shk_20 _ rfl hz 141 rfl ?_
    refine x_iinc 144 rfl (1) dX4_finish_141 rfl (by decide) (by decide) [some (.ref 7), none, none, some (.int _), none, none] rfl ?_
    refine x_goto 123 dX4_finish_144 (by decide) ?_
    cases h
    exact x_wk (x_le_s (x_le_n (x_le_n (x_le_s (x_le_n (x_le_n x_le_0)))))) (hG (_, _) rfl)
set_option maxHeartbeats 4000000 in
set_option maxRecDepth 100000 in
theorem bk_Sc_finish_7_L62 {l : Launch} {s0 : State} {a0 : Array Value} {D : va_G} {cA : Nat → ClassId} {sp : Nat → Nat} (E : x_En CL l s0 a0 D cA sp) (v1 : Int32) (v3 : Int32) (v4 : Int32) {r : Unit} {σ1 : xS} (a : Int32 × Int32 × xS) (o : (Int32 × Int32 × xS) ⊕ (Int32 × Int32 × xS)) (h : f_Sc_finish_7_L62 v1 v3 v4 a = some o) (hK : ∀ b, o = .inl b → kW l s0 D cA sp (kQ s0 D cA sp none σ1) (x_rm 3 0 0) M_Sc_finish 0 0 107 [some (.ref 7), none, some (.int b.1), some (.int v3), none, none] [] b.2.2) (hG : ∀ a', o = .inr a' → kW l s0 D cA sp (kQ s0 D cA sp none σ1) (x_rm 3 0 0) M_Sc_finish 0 0 62 [some (.ref 7), some (.int v1), some (.int a'.1), some (.int v3), some (.int v4), some (.int a'.2.1)] [] a'.2.2) : kW l s0 D cA sp (kQ s0 D cA sp none σ1) (x_rm 3 0 0) M_Sc_finish 0 0 62 [some (.ref 7), some (.int v1), some (.int a.1), some (.int v3), some (.int v4), some (.int a.2.1)] [] a.2.2 := by
  obtain ⟨v2, v5, σ⟩ := a
  unfold f_Sc_finish_7_L62 at h
  try dsimp only at h ⊢
  refine x_iload 64 rfl dX4_finish_62 rfl ?_
  refine x_iload 66 rfl dX4_finish_64 rfl ?_
  refine x_icmp_gt 69 rfl 107 dX4_finish_66 (by decide) (fun hc => ?_) (fun hc => ?_)
  · replace h := x_ifT hc h
    cases h
    exact x_wk (x_le_s (x_le_n (x_le_s (x_le_s (x_le_n (x_le_n x_le_0)))))) (hK (_, _, _) rfl)
  · replace h := x_ifF hc h
    refine x_iload_n 70 rfl 2 dX4_finish_69 rfl rfl ?_
    refine x_sipush 73 rfl (v := 600) dX4_finish_70 (by decide) ?_
    refine x_icmp_ge 76 rfl 107 dX4_finish_73 (by decide) (fun hc => ?_) (fun hc => ?_)
    · replace h := x_ifT hc h
      cases h
      exact x_wk (x_le_s (x_le_n (x_le_s (x_le_s (x_le_n (x_le_n x_le_0)))))) (hK (_, _, _) rfl)
    · replace h := x_ifF hc h
      refine x_iinc 79 rfl (1) dX4_finish_76 rfl (by decide) (by decide) [some (.ref 7), some (.int _), some (.int _), some (.int _), some (.int _), some (.int _)] rfl ?_
      refine x_aload_n 80 rfl 0 dX4_finish_79 rfl rfl ?_
      refine x_getR E dX4_finish_80 F_RX4_34 shk_7 rf_7_12 83 rfl ?_
      refine x_iload_n 84 rfl 2 dX4_finish_83 rfl rfl ?_
      refine x_iload_n 85 rfl 1 dX4_finish_84 rfl rfl ?_
      refine x_aload_n 86 rfl 0 dX4_finish_85 rfl rfl ?_
      refine x_getR E dX4_finish_86 F_RX4_9 shk_7 rf_7_2 89 rfl ?_
      refine x_iload_n 90 rfl 3 dX4_finish_89 rfl rfl ?_
      obtain ⟨hz, h⟩ := x_ifn h
      refine x_iald E dX4_finish_90 shk_8 _ rfl hz 91 rfl ?_
      refine x_iload_n 92 rfl 1 dX4_finish_91 rfl rfl ?_
      refine x_isub 93 rfl dX4_finish_92 ?_
      refine x_iload 95 rfl dX4_finish_93 rfl ?_
      refine x_imul 96 rfl dX4_finish_95 ?_
      refine x_iload 98 rfl dX4_finish_96 rfl ?_
      obtain ⟨hz, h⟩ := x_ifn h
      refine x_idiv 99 rfl dX4_finish_98 hz ?_
      refine x_iadd 100 rfl dX4_finish_99 ?_
      obtain ⟨hz, h⟩ := x_ifn h
      refine x_iast E dX4_finish_100 shk_19 _ rfl hz 101 rfl ?_
      refine x_iinc 104 rfl (1) dX4_finish_101 rfl (by decide) (by decide) [some (.ref 7), some (.int _), some (.int _), some (.int _), some (.int _), some (.int _)] rfl ?_
      refine x_goto 62 dX4_finish_104 (by decide) ?_
      cases h
      exact x_wk (x_le_s (x_le_s (x_le_s (x_le_s (x_le_s (x_le_s x_le_0)))))) (hG (_, _, _) rfl)
set_option maxHeartbeats 4000000 in
set_option maxRecDepth 100000 in
theorem bk_Sc_finish_7_L37 {l : Launch} {s0 : State} {a0 : Array Value} {D : va_G} {cA : Nat → ClassId} {sp : Nat → Nat} (E : x_En CL l s0 a0 D cA sp)  {r : Unit} {σ1 : xS} (a : Int32 × Int32 × Int32 × xS) (o : (Int32 × Int32 × Int32 × xS) ⊕ (Int32 × Int32 × Int32 × xS)) (h : f_Sc_finish_7_L37  a = some o) (hK : ∀ b, o = .inl b → kW l s0 D cA sp (kQ s0 D cA sp none σ1) (x_rm 3 0 0) M_Sc_finish 0 0 120 [some (.ref 7), none, none, none, none, none] [] b.2.2.2) (hG : ∀ a', o = .inr a' → kW l s0 D cA sp (kQ s0 D cA sp none σ1) (x_rm 3 0 0) M_Sc_finish 0 0 37 [some (.ref 7), some (.int a'.1), some (.int a'.2.1), some (.int a'.2.2.1), none, none] [] a'.2.2.2) : kW l s0 D cA sp (kQ s0 D cA sp none σ1) (x_rm 3 0 0) M_Sc_finish 0 0 37 [some (.ref 7), some (.int a.1), some (.int a.2.1), some (.int a.2.2.1), none, none] [] a.2.2.2 := by
  obtain ⟨v1, v2, v3, σ⟩ := a
  unfold f_Sc_finish_7_L37 at h
  try dsimp only at h ⊢
  refine x_iload_n 38 rfl 3 dX4_finish_37 rfl rfl ?_
  refine x_aload_n 39 rfl 0 dX4_finish_38 rfl rfl ?_
  refine x_getI E dX4_finish_39 F_RX4_44 shk_7 42 rfl ?_
  refine x_icmp_ge 45 rfl 120 dX4_finish_42 (by decide) (fun hc => ?_) (fun hc => ?_)
  · replace h := x_ifT hc h
    cases h
    exact x_wk (x_le_s (x_le_n (x_le_n (x_le_n (x_le_n (x_le_n x_le_0)))))) (hK (_, _, _, _) rfl)
  · replace h := x_ifF hc h
    refine x_iload_n 46 rfl 3 dX4_finish_45 rfl rfl ?_
    refine x_bipush 48 rfl (v := 12) dX4_finish_46 (by decide) ?_
    refine x_icmp_ge 51 rfl 120 dX4_finish_48 (by decide) (fun hc => ?_) (fun hc => ?_)
    · replace h := x_ifT hc h
      cases h
      exact x_wk (x_le_s (x_le_n (x_le_n (x_le_n (x_le_n (x_le_n x_le_0)))))) (hK (_, _, _, _) rfl)
    · replace h := x_ifF hc h
      refine x_aload_n 52 rfl 0 dX4_finish_51 rfl rfl ?_
      refine x_getR E dX4_finish_52 F_RX4_15 shk_7 rf_7_3 55 rfl ?_
      refine x_iload_n 56 rfl 3 dX4_finish_55 rfl rfl ?_
      obtain ⟨hz, h⟩ := x_ifn h
      refine x_iald E dX4_finish_56 shk_9 _ rfl hz 57 rfl ?_
      refine x_istore 59 rfl dX4_finish_57 (by decide) [some (.ref 7), some (.int _), some (.int _), some (.int _), some (.int _), none] rfl ?_
      refine x_iconst 60 rfl (v := 1) dX4_finish_59 (by decide) ?_
      refine x_istore 62 rfl dX4_finish_60 (by decide) [some (.ref 7), some (.int _), some (.int _), some (.int _), some (.int _), some (.int _)] rfl ?_
      obtain ⟨b8, b8h, h⟩ := x_bind h
      try dsimp only at h
      refine x_wk (x_le_s (x_le_s (x_le_s (x_le_s (x_le_s (x_le_s x_le_0)))))) (x_loop (fun a o h hK hG => bk_Sc_finish_7_L62 (r := r) (σ1 := σ1) E _ _ _ a o h hK hG) _ _ _ b8h ?_)
      refine x_aload_n 108 rfl 0 dX4_finish_107 rfl rfl ?_
      refine x_getR E dX4_finish_108 F_RX4_9 shk_7 rf_7_2 111 rfl ?_
      refine x_iload_n 112 rfl 3 dX4_finish_111 rfl rfl ?_
      obtain ⟨hz, h⟩ := x_ifn h
      refine x_iald E dX4_finish_112 shk_8 _ rfl hz 113 rfl ?_
      refine x_istore_n 114 rfl 1 dX4_finish_113 rfl (by decide) [some (.ref 7), some (.int _), some (.int _), some (.int _), none, none] rfl ?_
      refine x_iinc 117 rfl (1) dX4_finish_114 rfl (by decide) (by decide) [some (.ref 7), some (.int _), some (.int _), some (.int _), none, none] rfl ?_
      refine x_goto 37 dX4_finish_117 (by decide) ?_
      cases h
      exact x_wk (x_le_s (x_le_s (x_le_s (x_le_s (x_le_n (x_le_n x_le_0)))))) (hG (_, _, _, _) rfl)
set_option maxHeartbeats 4000000 in
set_option maxRecDepth 100000 in
theorem jk_Sc_finish_7_J120 {l : Launch} {s0 : State} {a0 : Array Value} {D : va_G} {cA : Nat → ClassId} {sp : Nat → Nat} (E : x_En CL l s0 a0 D cA sp)  (σ : xS) {r : Unit} {σ1 : xS} (h : f_Sc_finish_7_J120  σ = some (r, σ1)) : kW l s0 D cA sp (kQ s0 D cA sp none σ1) (x_rm 3 0 0) M_Sc_finish 0 0 120 [some (.ref 7), none, none, none, none, none] [] σ := by
  unfold f_Sc_finish_7_J120 at h
  try dsimp only at h
  refine x_bipush 122 rfl (v := 12) dX4_finish_120 (by decide) ?_
  refine x_istore_n 123 rfl 3 dX4_finish_122 rfl (by decide) [some (.ref 7), none, none, some (.int _), none, none] rfl ?_
  obtain ⟨b11, b11h, h⟩ := x_bind h
  try dsimp only at h
  refine x_wk (x_le_s (x_le_n (x_le_n (x_le_s (x_le_n (x_le_n x_le_0)))))) (x_loop (fun a o h hK hG => bk_Sc_finish_7_L123 (r := r) (σ1 := σ1) E  a o h hK hG) _ _ _ b11h ?_)
  cases h
  exact x_vret dX4_finish_147 rfl rfl rfl
set_option maxHeartbeats 4000000 in
set_option maxRecDepth 100000 in
theorem jk_Sc_finish_7_J17 {l : Launch} {s0 : State} {a0 : Array Value} {D : va_G} {cA : Nat → ClassId} {sp : Nat → Nat} (E : x_En CL l s0 a0 D cA sp) (y1 : Int32) (y2 : Int32) (σ : xS) {r : Unit} {σ1 : xS} (h : f_Sc_finish_7_J17 y1 y2 σ = some (r, σ1)) : kW l s0 D cA sp (kQ s0 D cA sp none σ1) (x_rm 3 0 0) M_Sc_finish 0 0 17 [some (.ref 7), none, none, none, none, none] [.int y2, .int y1, .ref 12] σ := by
  unfold f_Sc_finish_7_J17 at h
  try dsimp only at h
  obtain ⟨hz, h⟩ := x_ifn h
  refine x_iast E dX4_finish_17 shk_12 _ rfl hz 18 rfl ?_
  refine x_aload_n 19 rfl 0 dX4_finish_18 rfl rfl ?_
  refine x_getR E dX4_finish_19 F_RX4_34 shk_7 rf_7_12 22 rfl ?_
  refine x_iconst 23 rfl (v := 0) dX4_finish_22 (by decide) ?_
  refine x_aload_n 24 rfl 0 dX4_finish_23 rfl rfl ?_
  refine x_getI E dX4_finish_24 F_RX4_40 shk_7 27 rfl ?_
  refine x_iast E dX4_finish_27 shk_19 0 (by decide) (by decide) 28 rfl ?_
  refine x_aload_n 29 rfl 0 dX4_finish_28 rfl rfl ?_
  refine x_getI E dX4_finish_29 F_RX4_40 shk_7 32 rfl ?_
  refine x_istore_n 33 rfl 1 dX4_finish_32 rfl (by decide) [some (.ref 7), some (.int _), none, none, none, none] rfl ?_
  refine x_iconst 34 rfl (v := 0) dX4_finish_33 (by decide) ?_
  refine x_istore_n 35 rfl 2 dX4_finish_34 rfl (by decide) [some (.ref 7), some (.int _), some (.int _), none, none, none] rfl ?_
  refine x_iconst 36 rfl (v := 0) dX4_finish_35 (by decide) ?_
  refine x_istore_n 37 rfl 3 dX4_finish_36 rfl (by decide) [some (.ref 7), some (.int _), some (.int _), some (.int _), none, none] rfl ?_
  obtain ⟨b15, b15h, h⟩ := x_bind h
  try dsimp only at h
  refine x_wk (x_le_s (x_le_s (x_le_s (x_le_s (x_le_n (x_le_n x_le_0)))))) (x_loop (fun a o h hK hG => bk_Sc_finish_7_L37 (r := r) (σ1 := σ1) E  a o h hK hG) _ _ _ b15h ?_)
  exact x_wk (x_le_s (x_le_n (x_le_n (x_le_n (x_le_n (x_le_n x_le_0)))))) (jk_Sc_finish_7_J120 E  _ h)
set_option maxHeartbeats 4000000 in
set_option maxRecDepth 100000 in
theorem ck_Sc_finish_7 {l : Launch} {s0 : State} {a0 : Array Value} {D : va_G} {cA : Nat → ClassId} {sp : Nat → Nat} (E : x_En CL l s0 a0 D cA sp)  {σ : xS} {r : Unit} {σ1 : xS} (h : f_Sc_finish_7  σ = some (r, σ1)) : kC l s0 D cA sp 3 M_Sc_finish [.ref 7] σ none σ1 := by
  unfold f_Sc_finish_7 at h
  try dsimp only at h
  refine x_enter [some (.ref 7), none, none, none, none, none] rfl (Nat.le_of_ble_eq_true rfl) (by decide +kernel) rfl ?_
  refine x_aload_n 1 rfl 0 dX4_finish_0 rfl rfl ?_
  refine x_getR E dX4_finish_1 F_RX4_24 shk_7 rf_7_10 4 rfl ?_
  refine x_iconst 5 rfl (v := 4) dX4_finish_4 (by decide) ?_
  refine x_aload_n 6 rfl 0 dX4_finish_5 rfl rfl ?_
  refine x_getI E dX4_finish_6 F_RX4_56 shk_7 9 rfl ?_
  refine x_if_le 12 rfl 16 dX4_finish_9 (by decide) (fun hc => ?_) (fun hc => ?_)
  · replace h := x_ifT hc h
    refine x_iconst 17 rfl (v := -1) dX4_finish_16 (by decide) ?_
    exact x_wk (x_le_s (x_le_n (x_le_n (x_le_n (x_le_n (x_le_n x_le_0)))))) (jk_Sc_finish_7_J17 E _ _ _ h)
  · replace h := x_ifF hc h
    refine x_iconst 13 rfl (v := 0) dX4_finish_12 (by decide) ?_
    refine x_goto 17 dX4_finish_13 (by decide) ?_
    exact x_wk (x_le_s (x_le_n (x_le_n (x_le_n (x_le_n (x_le_n x_le_0)))))) (jk_Sc_finish_7_J17 E _ _ _ h)
set_option maxHeartbeats 4000000 in
set_option maxRecDepth 100000 in
theorem ck_Se_begin_35_7 {l : Launch} {s0 : State} {a0 : Array Value} {D : va_G} {cA : Nat → ClassId} {sp : Nat → Nat} (E : x_En CL l s0 a0 D cA sp)  {σ : xS} {r : Unit} {σ1 : xS} (h : f_Se_begin_35_7  σ = some (r, σ1)) : kC l s0 D cA sp 0 M_Se_begin [.ref 35, .ref 7] σ none σ1 := by
  unfold f_Se_begin_35_7 at h
  try dsimp only at h
  refine x_enter [some (.ref 35), some (.ref 7)] rfl (Nat.le_of_ble_eq_true rfl) (by decide +kernel) rfl ?_
  refine x_aload_n 1 rfl 1 dX5_begin_0 rfl rfl ?_
  refine x_getR E dX5_begin_1 F_RX5_40 shk_7 rf_7_10 4 rfl ?_
  refine x_iconst 5 rfl (v := 0) dX5_begin_4 (by decide) ?_
  refine x_aload_n 6 rfl 0 dX5_begin_5 rfl rfl ?_
  refine x_getR E dX5_begin_6 F_RX5_9 shk_35 rf_35_0 9 rfl ?_
  refine x_iconst 10 rfl (v := 0) dX5_begin_9 (by decide) ?_
  refine x_bipush 12 rfl (v := 12) dX5_begin_10 (by decide) ?_
  refine x_copy E dX5_begin_12 K_RX5_43 shk_12 shk_36 12 (by decide) (by decide) (by decide) (by decide) (Nat.le_of_ble_eq_true rfl) (Nat.le_of_ble_eq_true rfl) 15 rfl ?_
  refine x_aload_n 16 rfl 0 dX5_begin_15 rfl rfl ?_
  refine x_iconst 17 rfl (v := 0) dX5_begin_16 (by decide) ?_
  refine x_putI E dX5_begin_17 F_RX5_21 shk_35 20 rfl ?_
  refine x_aload_n 21 rfl 0 dX5_begin_20 rfl rfl ?_
  refine x_iconst 22 rfl (v := 0) dX5_begin_21 (by decide) ?_
  refine x_putI E dX5_begin_22 F_RX5_31 shk_35 25 rfl ?_
  refine x_aload_n 26 rfl 0 dX5_begin_25 rfl rfl ?_
  refine x_iconst 27 rfl (v := 0) dX5_begin_26 (by decide) ?_
  refine x_putI E dX5_begin_27 F_RX5_37 shk_35 30 rfl ?_
  cases h
  exact x_vret dX5_begin_30 rfl rfl rfl
theorem dX8_init_0 : decode cX8_init 0 = .ok (.aload_n 0, 1) := by decide +kernel
theorem dX8_init_1 : decode cX8_init 1 = .ok (.invokespecial 3, 3) := by decide +kernel
theorem dX8_init_4 : decode cX8_init 4 = .ok (.aload_n 0, 1) := by decide +kernel
theorem dX8_init_5 : decode cX8_init 5 = .ok (.sipush 700, 3) := by decide +kernel
theorem dX8_init_8 : decode cX8_init 8 = .ok (.newarray .int, 2) := by decide +kernel
theorem dX8_init_10 : decode cX8_init 10 = .ok (.putfield 9, 3) := by decide +kernel
theorem dX8_init_13 : decode cX8_init 13 = .ok (.aload_n 0, 1) := by decide +kernel
theorem dX8_init_14 : decode cX8_init 14 = .ok (.iconst 0, 1) := by decide +kernel
theorem dX8_init_15 : decode cX8_init 15 = .ok (.putfield 13, 3) := by decide +kernel
theorem dX8_init_18 : decode cX8_init 18 = .ok (.aload_n 0, 1) := by decide +kernel
theorem dX8_init_19 : decode cX8_init 19 = .ok (.new 17, 3) := by decide +kernel
theorem dX8_init_22 : decode cX8_init 22 = .ok (.dup, 1) := by decide +kernel
theorem dX8_init_23 : decode cX8_init 23 = .ok (.invokespecial 19, 3) := by decide +kernel
theorem dX8_init_26 : decode cX8_init 26 = .ok (.putfield 20, 3) := by decide +kernel
theorem dX8_init_29 : decode cX8_init 29 = .ok (.aload_n 0, 1) := by decide +kernel
theorem dX8_init_30 : decode cX8_init 30 = .ok (.new 24, 3) := by decide +kernel
theorem dX8_init_33 : decode cX8_init 33 = .ok (.dup, 1) := by decide +kernel
theorem dX8_init_34 : decode cX8_init 34 = .ok (.invokespecial 26, 3) := by decide +kernel
theorem dX8_init_37 : decode cX8_init 37 = .ok (.putfield 27, 3) := by decide +kernel
theorem dX8_init_40 : decode cX8_init 40 = .ok (.aload_n 0, 1) := by decide +kernel
theorem dX8_init_41 : decode cX8_init 41 = .ok (.new 24, 3) := by decide +kernel
theorem dX8_init_44 : decode cX8_init 44 = .ok (.dup, 1) := by decide +kernel
theorem dX8_init_45 : decode cX8_init 45 = .ok (.invokespecial 26, 3) := by decide +kernel
theorem dX8_init_48 : decode cX8_init 48 = .ok (.putfield 31, 3) := by decide +kernel
theorem dX8_init_51 : decode cX8_init 51 = .ok (.aload_n 0, 1) := by decide +kernel
theorem dX8_init_52 : decode cX8_init 52 = .ok (.new 34, 3) := by decide +kernel
theorem dX8_init_55 : decode cX8_init 55 = .ok (.dup, 1) := by decide +kernel
theorem dX8_init_56 : decode cX8_init 56 = .ok (.invokespecial 36, 3) := by decide +kernel
theorem dX8_init_59 : decode cX8_init 59 = .ok (.putfield 37, 3) := by decide +kernel
theorem dX8_init_62 : decode cX8_init 62 = .ok (.aload_n 0, 1) := by decide +kernel
theorem dX8_init_63 : decode cX8_init 63 = .ok (.new 34, 3) := by decide +kernel
theorem dX8_init_66 : decode cX8_init 66 = .ok (.dup, 1) := by decide +kernel
theorem dX8_init_67 : decode cX8_init 67 = .ok (.invokespecial 36, 3) := by decide +kernel
theorem dX8_init_70 : decode cX8_init 70 = .ok (.putfield 41, 3) := by decide +kernel
theorem dX8_init_73 : decode cX8_init 73 = .ok (.aload_n 0, 1) := by decide +kernel
theorem dX8_init_74 : decode cX8_init 74 = .ok (.iconst 0, 1) := by decide +kernel
theorem dX8_init_75 : decode cX8_init 75 = .ok (.putfield 44, 3) := by decide +kernel
theorem dX8_init_78 : decode cX8_init 78 = .ok (.aload_n 0, 1) := by decide +kernel
theorem dX8_init_79 : decode cX8_init 79 = .ok (.new 48, 3) := by decide +kernel
theorem dX8_init_82 : decode cX8_init 82 = .ok (.dup, 1) := by decide +kernel
theorem dX8_init_83 : decode cX8_init 83 = .ok (.invokespecial 50, 3) := by decide +kernel
theorem dX8_init_86 : decode cX8_init 86 = .ok (.putfield 51, 3) := by decide +kernel
theorem dX8_init_89 : decode cX8_init 89 = .ok (.aload_n 0, 1) := by decide +kernel
theorem dX8_init_90 : decode cX8_init 90 = .ok (.iconst 0, 1) := by decide +kernel
theorem dX8_init_91 : decode cX8_init 91 = .ok (.putfield 55, 3) := by decide +kernel
theorem dX8_init_94 : decode cX8_init 94 = .ok (.aload_n 0, 1) := by decide +kernel
theorem dX8_init_95 : decode cX8_init 95 = .ok (.new 58, 3) := by decide +kernel
theorem dX8_init_98 : decode cX8_init 98 = .ok (.dup, 1) := by decide +kernel
theorem dX8_init_99 : decode cX8_init 99 = .ok (.invokespecial 60, 3) := by decide +kernel
theorem dX8_init_102 : decode cX8_init 102 = .ok (.putfield 61, 3) := by decide +kernel
theorem dX8_init_105 : decode cX8_init 105 = .ok (.aload_n 0, 1) := by decide +kernel
theorem dX8_init_106 : decode cX8_init 106 = .ok (.iconst (-1), 1) := by decide +kernel
theorem dX8_init_107 : decode cX8_init 107 = .ok (.putfield 65, 3) := by decide +kernel
theorem dX8_init_110 : decode cX8_init 110 = .ok (.aload_n 0, 1) := by decide +kernel
theorem dX8_init_111 : decode cX8_init 111 = .ok (.iconst 3, 1) := by decide +kernel
theorem dX8_init_112 : decode cX8_init 112 = .ok (.newarray .int, 2) := by decide +kernel
theorem dX8_init_114 : decode cX8_init 114 = .ok (.putfield 68, 3) := by decide +kernel
theorem dX8_init_117 : decode cX8_init 117 = .ok (.aload_n 0, 1) := by decide +kernel
theorem dX8_init_118 : decode cX8_init 118 = .ok (.getfield 27, 3) := by decide +kernel
theorem dX8_init_121 : decode cX8_init 121 = .ok (.invokevirtual 71, 3) := by decide +kernel
theorem dX8_init_124 : decode cX8_init 124 = .ok (.aload_n 0, 1) := by decide +kernel
theorem dX8_init_125 : decode cX8_init 125 = .ok (.getfield 27, 3) := by decide +kernel
theorem dX8_init_128 : decode cX8_init 128 = .ok (.invokevirtual 74, 3) := by decide +kernel
theorem dX8_init_131 : decode cX8_init 131 = .ok (.aload_n 0, 1) := by decide +kernel
theorem dX8_init_132 : decode cX8_init 132 = .ok (.getfield 37, 3) := by decide +kernel
theorem dX8_init_135 : decode cX8_init 135 = .ok (.aload_n 0, 1) := by decide +kernel
theorem dX8_init_136 : decode cX8_init 136 = .ok (.getfield 27, 3) := by decide +kernel
theorem dX8_init_139 : decode cX8_init 139 = .ok (.invokevirtual 77, 3) := by decide +kernel
theorem dX8_init_142 : decode cX8_init 142 = .ok (.return_, 1) := by decide +kernel
abbrev M_RH_init : xM := (yX8_init, cX8_init, 1, none, [])
theorem KW_RX8_17 : x_KW CL FK RX8 17 1 8 := ⟨RX2, TX2, tyX2, rfl, by decide, (List.mem_append_right _ (List.mem_of_getElem? (i := 31) (by decide +kernel))), (List.mem_append_right _ (List.mem_of_getElem? (i := 32) (by decide +kernel))), (List.mem_append_right _ (List.mem_of_getElem? (i := 2) (by decide +kernel))), inW2, tyX2_ok, by decide +kernel⟩
theorem KI_RX8_19 : x_KN RX8 19 M_Re_init 0 RX8 := ⟨⟨(List.mem_append_right _ (List.mem_of_getElem? (i := 33) (by decide +kernel))), (List.mem_append_right _ (List.mem_of_getElem? (i := 35) (by decide +kernel))), (List.mem_append_right _ (List.mem_of_getElem? (i := 2) (by decide +kernel))), ⟨by decide +kernel, by decide +kernel⟩, by decide +kernel⟩, (List.mem_append_right _ (List.mem_of_getElem? (i := 34) (by decide +kernel))), rfl⟩
theorem KW_RX8_24 : x_KW CL FK RX8 24 3 14 := ⟨RX4, TX4, tyX4, rfl, by decide, (List.mem_append_right _ (List.mem_of_getElem? (i := 66) (by decide +kernel))), (List.mem_append_right _ (List.mem_of_getElem? (i := 67) (by decide +kernel))), (List.mem_append_right _ (List.mem_of_getElem? (i := 3) (by decide +kernel))), inW4, tyX4_ok, by decide +kernel⟩
theorem KI_RX8_26 : x_KN RX8 26 M_Sc_init 0 RX8 := ⟨⟨(List.mem_append_right _ (List.mem_of_getElem? (i := 68) (by decide +kernel))), (List.mem_append_right _ (List.mem_of_getElem? (i := 70) (by decide +kernel))), (List.mem_append_right _ (List.mem_of_getElem? (i := 3) (by decide +kernel))), ⟨by decide +kernel, by decide +kernel⟩, by decide +kernel⟩, (List.mem_append_right _ (List.mem_of_getElem? (i := 69) (by decide +kernel))), rfl⟩
theorem KW_RX8_34 : x_KW CL FK RX8 34 4 9 := ⟨RX5, TX5, tyX5, rfl, by decide, (List.mem_append_right _ (List.mem_of_getElem? (i := 161) (by decide +kernel))), (List.mem_append_right _ (List.mem_of_getElem? (i := 162) (by decide +kernel))), (List.mem_append_right _ (List.mem_of_getElem? (i := 5) (by decide +kernel))), inW5, tyX5_ok, by decide +kernel⟩
theorem KI_RX8_36 : x_KN RX8 36 M_Se_init 0 RX8 := ⟨⟨(List.mem_append_right _ (List.mem_of_getElem? (i := 163) (by decide +kernel))), (List.mem_append_right _ (List.mem_of_getElem? (i := 165) (by decide +kernel))), (List.mem_append_right _ (List.mem_of_getElem? (i := 5) (by decide +kernel))), ⟨by decide +kernel, by decide +kernel⟩, by decide +kernel⟩, (List.mem_append_right _ (List.mem_of_getElem? (i := 164) (by decide +kernel))), rfl⟩
theorem KW_RX8_48 : x_KW CL FK RX8 48 5 10 := ⟨RX6, TX6, tyX6, rfl, by decide, (List.mem_append_right _ (List.mem_of_getElem? (i := 199) (by decide +kernel))), (List.mem_append_right _ (List.mem_of_getElem? (i := 200) (by decide +kernel))), (List.mem_append_right _ (List.mem_of_getElem? (i := 6) (by decide +kernel))), inW6, tyX6_ok, by decide +kernel⟩
theorem KI_RX8_50 : x_KN RX8 50 M_Tr_init 0 RX8 := ⟨⟨(List.mem_append_right _ (List.mem_of_getElem? (i := 201) (by decide +kernel))), (List.mem_append_right _ (List.mem_of_getElem? (i := 203) (by decide +kernel))), (List.mem_append_right _ (List.mem_of_getElem? (i := 6) (by decide +kernel))), ⟨by decide +kernel, by decide +kernel⟩, by decide +kernel⟩, (List.mem_append_right _ (List.mem_of_getElem? (i := 202) (by decide +kernel))), rfl⟩
theorem KW_RX8_58 : x_KW CL FK RX8 58 0 5 := ⟨RX1, TX1, tyX1, rfl, by decide, (List.mem_append_right _ (List.mem_of_getElem? (i := 245) (by decide +kernel))), (List.mem_append_right _ (List.mem_of_getElem? (i := 246) (by decide +kernel))), (List.mem_append_right _ (List.mem_of_getElem? (i := 7) (by decide +kernel))), inW1, tyX1_ok, by decide +kernel⟩
theorem KI_RX8_60 : x_KN RX8 60 M_Ch_init 0 RX8 := ⟨⟨(List.mem_append_right _ (List.mem_of_getElem? (i := 247) (by decide +kernel))), (List.mem_append_right _ (List.mem_of_getElem? (i := 249) (by decide +kernel))), (List.mem_append_right _ (List.mem_of_getElem? (i := 7) (by decide +kernel))), ⟨by decide +kernel, by decide +kernel⟩, by decide +kernel⟩, (List.mem_append_right _ (List.mem_of_getElem? (i := 248) (by decide +kernel))), rfl⟩
theorem K_RX8_71 : x_KV RX8 71 M_Sc_clear 0 := ⟨⟨(List.mem_append_right _ (List.mem_of_getElem? (i := 269) (by decide +kernel))), (List.mem_append_right _ (List.mem_of_getElem? (i := 272) (by decide +kernel))), (List.mem_append_right _ (List.mem_of_getElem? (i := 3) (by decide +kernel))), ⟨by decide +kernel, by decide +kernel⟩, by decide +kernel⟩, (List.mem_append_right _ (List.mem_of_getElem? (i := 270) (by decide +kernel))), (List.mem_append_right _ (List.mem_of_getElem? (i := 271) (by decide +kernel)))⟩
def f_RH_init (σ : xS) : Option (Unit × xS) :=
  let σA := (x_n0 (x_pI (sI_Ch_init_55 (x_n0 (x_pI (sI_Tr_init_49 (x_n0 (x_pI (sI_Se_init_42 (x_n0 (sI_Se_init_35 (x_n0 (sI_Sc_init_21 (x_n0 (sI_Sc_init_7 (x_n0 (sI_Re_init_2 (x_n0 (x_pI (x_n0 σ 1) 0 1 (0 : Int32)) 2)) 7)) 21)) 35)) 42)) 0 7 (0 : Int32)) 49)) 0 9 (0 : Int32)) 55)) 0 11 (-1 : Int32)) 59)
  (f_Sc_clear_7 σA).bind fun q121 =>
  (f_Sc_finish_7 q121.2).bind fun q128 =>
  (f_Se_begin_35_7 q128.2).bind fun q139 =>
  some ((), q139.2)
set_option maxHeartbeats 4000000 in
set_option maxRecDepth 100000 in
theorem k_RH_init {l : Launch} {s0 : State} {a0 : Array Value} {D : va_G} {cA : Nat → ClassId} {sp : Nat → Nat} (E : x_En CL l s0 a0 D cA sp) (A : x_Ar s0 cA) {σ : xS} {r : Unit} {σ1 : xS} (h : f_RH_init σ = some (r, σ1)) : x_C CL FK l s0 D cA sp 4 59 9410 true M_RH_init [.ref 0] (SH.take 1) (fun _ _ => none) σ none (SH.take 60) RF σ1 := by
  unfold f_RH_init at h
  try dsimp only at h
  refine x_enter [some (.ref 0)] rfl (Nat.le_of_ble_eq_true rfl) (by decide +kernel) rfl ?_
  refine x_aload_n 1 rfl 0 dX8_init_0 rfl rfl ?_
  refine x_obj E dX8_init_1 (List.mem_append_right _ (List.mem_of_getElem? (i := 28) (by decide +kernel))) KOB1 KOB2 (Nat.le_of_ble_eq_true rfl) (Nat.le_of_ble_eq_true rfl) 4 rfl ?_
  refine x_aload_n 5 rfl 0 dX8_init_4 rfl rfl ?_
  refine x_sipush 8 rfl (v := 700) dX8_init_5 (by decide) ?_
  refine x_newA (bc := 58) (bs := 8710) E (q := 1) (t := 50) (N := 700) dX8_init_8 rfl (Or.inl ⟨rfl, rfl⟩) KA_50 A.1 (by decide) (by decide) (by decide) (by decide) (by decide) (SH.take 2) (by decide) 10 rfl ?_
  refine x_putR E (fun _ => rfl) (Or.inr ⟨_, rfl⟩) dX8_init_10 F_RX8_9 (by decide : (SH.take 2)[0]? = some (6, 0)) 13 rfl ?_
  refine x_aload_n 14 rfl 0 dX8_init_13 rfl rfl ?_
  refine x_iconst 15 rfl (v := 0) dX8_init_14 (by decide) ?_
  refine x_putI E dX8_init_15 F_RX8_13 (by decide : (SH.take 2)[0]? = some (6, 0)) 18 rfl ?_
  refine x_aload_n 19 rfl 0 dX8_init_18 rfl rfl ?_
  refine x_new (bc := 57) (bs := 8702) (N := 8) E (q := 2) dX8_init_19 KW_RX8_17 (by decide) (by decide) (SH.take 3) (by decide) 22 rfl ?_
  refine x_dup 23 rfl dX8_init_22 rfl ?_
  refine x_callN (bc := 53) (bs := 6587) E (as := []) (rest := [.ref 2, .ref 0]) dX8_init_23 KI_RX8_19 rfl ⟨(Nat.le_of_ble_eq_true rfl), (Nat.le_of_ble_eq_true rfl)⟩ rfl rfl (Nat.le_of_ble_eq_true rfl) (k_Re_init_2 E A _ _) 26 rfl ?_
  refine x_putR E (fun _ => rfl) (Or.inl ⟨_, rfl⟩) dX8_init_26 F_RX8_20 (by decide : (SH.take 7)[0]? = some (6, 0)) 29 rfl ?_
  refine x_aload_n 30 rfl 0 dX8_init_29 rfl rfl ?_
  refine x_new (bc := 52) (bs := 6573) (N := 14) E (q := 7) dX8_init_30 KW_RX8_24 (by decide) (by decide) (SH.take 8) (by decide) 33 rfl ?_
  refine x_dup 34 rfl dX8_init_33 rfl ?_
  refine x_callN (bc := 39) (bs := 4653) E (as := []) (rest := [.ref 7, .ref 0]) dX8_init_34 KI_RX8_26 rfl ⟨(Nat.le_of_ble_eq_true rfl), (Nat.le_of_ble_eq_true rfl)⟩ rfl rfl (Nat.le_of_ble_eq_true rfl) (k_Sc_init_7 E A _ _) 37 rfl ?_
  refine x_putR E (fun h => by cases h) (Or.inl ⟨_, rfl⟩) dX8_init_37 F_RX8_27 (by decide : (SH.take 21)[0]? = some (6, 0)) 40 rfl ?_
  refine x_aload_n 41 rfl 0 dX8_init_40 rfl rfl ?_
  refine x_new (bc := 38) (bs := 4639) (N := 14) E (q := 21) dX8_init_41 KW_RX8_24 (by decide) (by decide) (SH.take 22) (by decide) 44 rfl ?_
  refine x_dup 45 rfl dX8_init_44 rfl ?_
  refine x_callN (bc := 25) (bs := 2719) E (as := []) (rest := [.ref 21, .ref 0]) dX8_init_45 KI_RX8_26 rfl ⟨(Nat.le_of_ble_eq_true rfl), (Nat.le_of_ble_eq_true rfl)⟩ rfl rfl (Nat.le_of_ble_eq_true rfl) (k_Sc_init_21 E A _ _) 48 rfl ?_
  refine x_putR E (fun h => by cases h) (Or.inl ⟨_, rfl⟩) dX8_init_48 F_RX8_31 (by decide : (SH.take 35)[0]? = some (6, 0)) 51 rfl ?_
  refine x_aload_n 52 rfl 0 dX8_init_51 rfl rfl ?_
  refine x_new (bc := 24) (bs := 2710) (N := 9) E (q := 35) dX8_init_52 KW_RX8_34 (by decide) (by decide) (SH.take 36) (by decide) 55 rfl ?_
  refine x_dup 56 rfl dX8_init_55 rfl ?_
  refine x_callN (bc := 18) (bs := 2586) E (as := []) (rest := [.ref 35, .ref 0]) dX8_init_56 KI_RX8_36 rfl ⟨(Nat.le_of_ble_eq_true rfl), (Nat.le_of_ble_eq_true rfl)⟩ rfl rfl (Nat.le_of_ble_eq_true rfl) (k_Se_init_35 E A _ _) 59 rfl ?_
  refine x_putR E (fun _ => rfl) (Or.inl ⟨_, rfl⟩) dX8_init_59 F_RX8_37 (by decide : (SH.take 42)[0]? = some (6, 0)) 62 rfl ?_
  refine x_aload_n 63 rfl 0 dX8_init_62 rfl rfl ?_
  refine x_new (bc := 17) (bs := 2577) (N := 9) E (q := 42) dX8_init_63 KW_RX8_34 (by decide) (by decide) (SH.take 43) (by decide) 66 rfl ?_
  refine x_dup 67 rfl dX8_init_66 rfl ?_
  refine x_callN (bc := 11) (bs := 2453) E (as := []) (rest := [.ref 42, .ref 0]) dX8_init_67 KI_RX8_36 rfl ⟨(Nat.le_of_ble_eq_true rfl), (Nat.le_of_ble_eq_true rfl)⟩ rfl rfl (Nat.le_of_ble_eq_true rfl) (k_Se_init_42 E A _ _) 70 rfl ?_
  refine x_putR E (fun _ => rfl) (Or.inl ⟨_, rfl⟩) dX8_init_70 F_RX8_41 (by decide : (SH.take 49)[0]? = some (6, 0)) 73 rfl ?_
  refine x_aload_n 74 rfl 0 dX8_init_73 rfl rfl ?_
  refine x_iconst 75 rfl (v := 0) dX8_init_74 (by decide) ?_
  refine x_putZ E (Or.inl rfl) dX8_init_75 F_RX8_44 (by decide : (SH.take 49)[0]? = some (6, 0)) 78 rfl ?_
  refine x_aload_n 79 rfl 0 dX8_init_78 rfl rfl ?_
  refine x_new (bc := 10) (bs := 2443) (N := 10) E (q := 49) dX8_init_79 KW_RX8_48 (by decide) (by decide) (SH.take 50) (by decide) 82 rfl ?_
  refine x_dup 83 rfl dX8_init_82 rfl ?_
  refine x_callN (bc := 5) (bs := 27) E (as := []) (rest := [.ref 49, .ref 0]) dX8_init_83 KI_RX8_50 rfl ⟨(Nat.le_of_ble_eq_true rfl), (Nat.le_of_ble_eq_true rfl)⟩ rfl rfl (Nat.le_of_ble_eq_true rfl) (k_Tr_init_49 E A _ _) 86 rfl ?_
  refine x_putR E (fun _ => rfl) (Or.inl ⟨_, rfl⟩) dX8_init_86 F_RX8_51 (by decide : (SH.take 55)[0]? = some (6, 0)) 89 rfl ?_
  refine x_aload_n 90 rfl 0 dX8_init_89 rfl rfl ?_
  refine x_iconst 91 rfl (v := 0) dX8_init_90 (by decide) ?_
  refine x_putZ E (Or.inl rfl) dX8_init_91 F_RX8_55 (by decide : (SH.take 55)[0]? = some (6, 0)) 94 rfl ?_
  refine x_aload_n 95 rfl 0 dX8_init_94 rfl rfl ?_
  refine x_new (bc := 4) (bs := 22) (N := 5) E (q := 55) dX8_init_95 KW_RX8_58 (by decide) (by decide) (SH.take 56) (by decide) 98 rfl ?_
  refine x_dup 99 rfl dX8_init_98 rfl ?_
  refine x_callN (bc := 1) (bs := 3) E (as := []) (rest := [.ref 55, .ref 0]) dX8_init_99 KI_RX8_60 rfl ⟨(Nat.le_of_ble_eq_true rfl), (Nat.le_of_ble_eq_true rfl)⟩ rfl rfl (Nat.le_of_ble_eq_true rfl) (k_Ch_init_55 E A _ _) 102 rfl ?_
  refine x_putR E (fun _ => rfl) (Or.inl ⟨_, rfl⟩) dX8_init_102 F_RX8_61 (by decide : (SH.take 59)[0]? = some (6, 0)) 105 rfl ?_
  refine x_aload_n 106 rfl 0 dX8_init_105 rfl rfl ?_
  refine x_iconst 107 rfl (v := -1) dX8_init_106 (by decide) ?_
  refine x_putI E dX8_init_107 F_RX8_65 (by decide : (SH.take 59)[0]? = some (6, 0)) 110 rfl ?_
  refine x_aload_n 111 rfl 0 dX8_init_110 rfl rfl ?_
  refine x_iconst 112 rfl (v := 3) dX8_init_111 (by decide) ?_
  refine x_newA (bc := 0) (bs := 0) E (q := 59) (t := 50) (N := 3) dX8_init_112 rfl (Or.inl ⟨rfl, rfl⟩) KA_50 A.1 (by decide) (by decide) (by decide) (by decide) (by decide) (SH.take 60) (by decide) 114 rfl ?_
  refine x_putR E (fun _ => rfl) (Or.inr ⟨_, rfl⟩) dX8_init_114 F_RX8_68 (by decide : (SH.take 60)[0]? = some (6, 0)) 117 rfl ?_
  refine x_aload_n 118 rfl 0 dX8_init_117 rfl rfl ?_
  refine x_rfs (rf' := RF) 60 rfl (by decide +kernel) ?_
  refine x_getR E dX8_init_118 F_RX8_27 (by decide : (SH.take 60)[0]? = some (6, 0)) rf_0_3 121 rfl ?_
  obtain ⟨⟨q121r, q121s⟩, q121h, h⟩ := x_bind h
  try dsimp only at h
  refine k_callV E [] [] dX8_init_121 K_RX8_71 ⟨(Nat.le_of_ble_eq_true rfl), (Nat.le_of_ble_eq_true rfl)⟩ shk_7 (by decide) rfl (ck_Sc_clear_7 E  q121h) rfl rfl (Nat.le_of_ble_eq_true rfl) 124 rfl [] rfl ?_
  refine x_aload_n 125 rfl 0 dX8_init_124 rfl rfl ?_
  refine x_getR E dX8_init_125 F_RX8_27 (by decide : (SH.take 60)[0]? = some (6, 0)) rf_0_3 128 rfl ?_
  obtain ⟨⟨q128r, q128s⟩, q128h, h⟩ := x_bind h
  try dsimp only at h
  refine k_callV E [] [] dX8_init_128 K_RX8_74 ⟨(Nat.le_of_ble_eq_true rfl), (Nat.le_of_ble_eq_true rfl)⟩ shk_7 (by decide) rfl (ck_Sc_finish_7 E  q128h) rfl rfl (Nat.le_of_ble_eq_true rfl) 131 rfl [] rfl ?_
  refine x_aload_n 132 rfl 0 dX8_init_131 rfl rfl ?_
  refine x_getR E dX8_init_132 F_RX8_37 (by decide : (SH.take 60)[0]? = some (6, 0)) rf_0_5 135 rfl ?_
  refine x_aload_n 136 rfl 0 dX8_init_135 rfl rfl ?_
  refine x_getR E dX8_init_136 F_RX8_27 (by decide : (SH.take 60)[0]? = some (6, 0)) rf_0_3 139 rfl ?_
  obtain ⟨⟨q139r, q139s⟩, q139h, h⟩ := x_bind h
  try dsimp only at h
  refine k_callV E [.ref 7] [] dX8_init_139 K_RX8_77 ⟨(Nat.le_of_ble_eq_true rfl), (Nat.le_of_ble_eq_true rfl)⟩ shk_35 (by decide) rfl (ck_Se_begin_35_7 E  q139h) rfl rfl (Nat.le_of_ble_eq_true rfl) 142 rfl [] rfl ?_
  cases h
  exact x_vret dX8_init_142 rfl rfl rfl
