/-! The class's methods: functions and contracts. Written by wip/gen/emit.py. -/
theorem K_RX6_84 : x_KV RX6 84 M_Tr_rightIn 2 := ⟨⟨(List.mem_append_right _ (List.mem_of_getElem? (i := 496) (by decide +kernel))), (List.mem_append_right _ (List.mem_of_getElem? (i := 499) (by decide +kernel))), (List.mem_append_right _ (List.mem_of_getElem? (i := 6) (by decide +kernel))), ⟨by decide +kernel, by decide +kernel⟩, by decide +kernel⟩, (List.mem_append_right _ (List.mem_of_getElem? (i := 497) (by decide +kernel))), (List.mem_append_right _ (List.mem_of_getElem? (i := 498) (by decide +kernel)))⟩
theorem K_RX6_88 : x_KV RX6 88 M_Tr_aim 2 := ⟨⟨(List.mem_append_right _ (List.mem_of_getElem? (i := 500) (by decide +kernel))), (List.mem_append_right _ (List.mem_of_getElem? (i := 503) (by decide +kernel))), (List.mem_append_right _ (List.mem_of_getElem? (i := 6) (by decide +kernel))), ⟨by decide +kernel, by decide +kernel⟩, by decide +kernel⟩, (List.mem_append_right _ (List.mem_of_getElem? (i := 502) (by decide +kernel))), (List.mem_append_left _ (List.mem_of_getElem? (i := 9) (by decide +kernel)))⟩
abbrev M_Tr_follow : xM := (yX6_follow, cX6_follow, 4, none, [])
theorem dX6_follow_0 : decode cX6_follow 0 = .ok (.aload_n 0, 1) := by decide +kernel
theorem dX6_follow_1 : decode cX6_follow 1 = .ok (.getfield 38, 3) := by decide +kernel
theorem dX6_follow_4 : decode cX6_follow 4 = .ok (.iconst 0, 1) := by decide +kernel
theorem dX6_follow_5 : decode cX6_follow 5 = .ok (.aload_n 0, 1) := by decide +kernel
theorem dX6_follow_6 : decode cX6_follow 6 = .ok (.aload_n 1, 1) := by decide +kernel
theorem dX6_follow_7 : decode cX6_follow 7 = .ok (.iconst 0, 1) := by decide +kernel
theorem dX6_follow_8 : decode cX6_follow 8 = .ok (.invokevirtual 84, 3) := by decide +kernel
theorem dX6_follow_11 : decode cX6_follow 11 = .ok (.iastore, 1) := by decide +kernel
theorem dX6_follow_12 : decode cX6_follow 12 = .ok (.aload_n 0, 1) := by decide +kernel
theorem dX6_follow_13 : decode cX6_follow 13 = .ok (.getfield 41, 3) := by decide +kernel
theorem dX6_follow_16 : decode cX6_follow 16 = .ok (.iconst 0, 1) := by decide +kernel
theorem dX6_follow_17 : decode cX6_follow 17 = .ok (.iconst 0, 1) := by decide +kernel
theorem dX6_follow_18 : decode cX6_follow 18 = .ok (.iastore, 1) := by decide +kernel
theorem dX6_follow_19 : decode cX6_follow 19 = .ok (.iconst 1, 1) := by decide +kernel
theorem dX6_follow_20 : decode cX6_follow 20 = .ok (.istore_n 2, 1) := by decide +kernel
theorem dX6_follow_21 : decode cX6_follow 21 = .ok (.iload_n 2, 1) := by decide +kernel
theorem dX6_follow_22 : decode cX6_follow 22 = .ok (.aload_n 0, 1) := by decide +kernel
theorem dX6_follow_23 : decode cX6_follow 23 = .ok (.getfield 28, 3) := by decide +kernel
theorem dX6_follow_26 : decode cX6_follow 26 = .ok (.if_icmp .gt 76, 3) := by decide +kernel
theorem dX6_follow_29 : decode cX6_follow 29 = .ok (.aload_n 0, 1) := by decide +kernel
theorem dX6_follow_30 : decode cX6_follow 30 = .ok (.aload_n 1, 1) := by decide +kernel
theorem dX6_follow_31 : decode cX6_follow 31 = .ok (.iload_n 2, 1) := by decide +kernel
theorem dX6_follow_32 : decode cX6_follow 32 = .ok (.invokevirtual 88, 3) := by decide +kernel
theorem dX6_follow_35 : decode cX6_follow 35 = .ok (.aload_n 0, 1) := by decide +kernel
theorem dX6_follow_36 : decode cX6_follow 36 = .ok (.getfield 38, 3) := by decide +kernel
theorem dX6_follow_39 : decode cX6_follow 39 = .ok (.iload_n 2, 1) := by decide +kernel
theorem dX6_follow_40 : decode cX6_follow 40 = .ok (.iconst 1, 1) := by decide +kernel
theorem dX6_follow_41 : decode cX6_follow 41 = .ok (.isub, 1) := by decide +kernel
theorem dX6_follow_42 : decode cX6_follow 42 = .ok (.iaload, 1) := by decide +kernel
theorem dX6_follow_43 : decode cX6_follow 43 = .ok (.isub, 1) := by decide +kernel
theorem dX6_follow_44 : decode cX6_follow 44 = .ok (.istore_n 3, 1) := by decide +kernel
theorem dX6_follow_45 : decode cX6_follow 45 = .ok (.aload_n 0, 1) := by decide +kernel
theorem dX6_follow_46 : decode cX6_follow 46 = .ok (.getfield 38, 3) := by decide +kernel
theorem dX6_follow_49 : decode cX6_follow 49 = .ok (.iload_n 2, 1) := by decide +kernel
theorem dX6_follow_50 : decode cX6_follow 50 = .ok (.aload_n 0, 1) := by decide +kernel
theorem dX6_follow_51 : decode cX6_follow 51 = .ok (.getfield 38, 3) := by decide +kernel
theorem dX6_follow_54 : decode cX6_follow 54 = .ok (.iload_n 2, 1) := by decide +kernel
theorem dX6_follow_55 : decode cX6_follow 55 = .ok (.iconst 1, 1) := by decide +kernel
theorem dX6_follow_56 : decode cX6_follow 56 = .ok (.isub, 1) := by decide +kernel
theorem dX6_follow_57 : decode cX6_follow 57 = .ok (.iaload, 1) := by decide +kernel
theorem dX6_follow_58 : decode cX6_follow 58 = .ok (.iload_n 3, 1) := by decide +kernel
theorem dX6_follow_59 : decode cX6_follow 59 = .ok (.aload_n 0, 1) := by decide +kernel
theorem dX6_follow_60 : decode cX6_follow 60 = .ok (.getfield 9, 3) := by decide +kernel
theorem dX6_follow_63 : decode cX6_follow 63 = .ok (.iconst 2, 1) := by decide +kernel
theorem dX6_follow_64 : decode cX6_follow 64 = .ok (.iaload, 1) := by decide +kernel
theorem dX6_follow_65 : decode cX6_follow 65 = .ok (.ineg, 1) := by decide +kernel
theorem dX6_follow_66 : decode cX6_follow 66 = .ok (.aload_n 0, 1) := by decide +kernel
theorem dX6_follow_67 : decode cX6_follow 67 = .ok (.getfield 9, 3) := by decide +kernel
theorem dX6_follow_70 : decode cX6_follow 70 = .ok (.iconst 2, 1) := by decide +kernel
theorem dX6_follow_71 : decode cX6_follow 71 = .ok (.iaload, 1) := by decide +kernel
theorem dX6_follow_72 : decode cX6_follow 72 = .ok (.invokestatic 91, 3) := by decide +kernel
theorem dX6_follow_75 : decode cX6_follow 75 = .ok (.iadd, 1) := by decide +kernel
theorem dX6_follow_76 : decode cX6_follow 76 = .ok (.iastore, 1) := by decide +kernel
theorem dX6_follow_77 : decode cX6_follow 77 = .ok (.aload_n 0, 1) := by decide +kernel
theorem dX6_follow_78 : decode cX6_follow 78 = .ok (.getfield 41, 3) := by decide +kernel
theorem dX6_follow_81 : decode cX6_follow 81 = .ok (.iload_n 2, 1) := by decide +kernel
theorem dX6_follow_82 : decode cX6_follow 82 = .ok (.aload_n 0, 1) := by decide +kernel
theorem dX6_follow_83 : decode cX6_follow 83 = .ok (.aload_n 1, 1) := by decide +kernel
theorem dX6_follow_84 : decode cX6_follow 84 = .ok (.iload_n 2, 1) := by decide +kernel
theorem dX6_follow_85 : decode cX6_follow 85 = .ok (.invokevirtual 84, 3) := by decide +kernel
theorem dX6_follow_88 : decode cX6_follow 88 = .ok (.aload_n 0, 1) := by decide +kernel
theorem dX6_follow_89 : decode cX6_follow 89 = .ok (.getfield 38, 3) := by decide +kernel
theorem dX6_follow_92 : decode cX6_follow 92 = .ok (.iload_n 2, 1) := by decide +kernel
theorem dX6_follow_93 : decode cX6_follow 93 = .ok (.iaload, 1) := by decide +kernel
theorem dX6_follow_94 : decode cX6_follow 94 = .ok (.isub, 1) := by decide +kernel
theorem dX6_follow_95 : decode cX6_follow 95 = .ok (.iastore, 1) := by decide +kernel
theorem dX6_follow_96 : decode cX6_follow 96 = .ok (.iinc 2 1, 3) := by decide +kernel
theorem dX6_follow_99 : decode cX6_follow 99 = .ok (.goto (-78), 3) := by decide +kernel
theorem dX6_follow_102 : decode cX6_follow 102 = .ok (.return_, 1) := by decide +kernel
def f_Tr_follow_49_7_L21  (a : Int32 × xS) : Option ((Int32 × xS) ⊕ (Int32 × xS)) :=
  let v2 := a.1; let σ := a.2;
  if σ.1 49 5 < v2 then
    some (.inl (v2, σ))
  else
    (f_Tr_aim_49_7 v2 σ).bind fun q1 =>
    if (v2 - (1 : Int32)) < 0 ∨ 601 ≤ (v2 - (1 : Int32)).toNatClampNeg then none else
    let w2 := (q1.1 - q1.2.1 53 (v2 - (1 : Int32)).toNatClampNeg)
    if (v2 - (1 : Int32)) < 0 ∨ 601 ≤ (v2 - (1 : Int32)).toNatClampNeg then none else
    (f_RH_within w2 (-(q1.2.1 50 2)) (q1.2.1 50 2) q1.2).bind fun q3 =>
    if v2 < 0 ∨ 601 ≤ v2.toNatClampNeg then none else
    let σ4 := x_pI q3.2 53 v2.toNatClampNeg (q1.2.1 53 (v2 - (1 : Int32)).toNatClampNeg + q3.1)
    (f_Tr_rightIn_49_7 v2 σ4).bind fun q5 =>
    if v2 < 0 ∨ 601 ≤ v2.toNatClampNeg then none else
    if v2 < 0 ∨ 601 ≤ v2.toNatClampNeg then none else
    let σ6 := x_pI q5.2 54 v2.toNatClampNeg (q5.1 - q5.2.1 53 v2.toNatClampNeg)
    let w7 := v2 + (1 : Int32)
    some (.inr (w7, σ6))
def f_Tr_follow_49_7  (σ : xS) : Option (Unit × xS) :=
  (f_Tr_rightIn_49_7 (0 : Int32) σ).bind fun q8 =>
  let σ9 := x_pI q8.2 53 0 q8.1
  let σ10 := x_pI σ9 54 0 (0 : Int32)
  (x_it (f_Tr_follow_49_7_L21 ) 10000 ((1 : Int32), σ10)).bind fun b11 =>
  some ((), b11.2)
set_option maxHeartbeats 4000000 in
set_option maxRecDepth 100000 in
theorem b_Tr_follow_49_7_L21 {l : Launch} {s0 : State} {a0 : Array Value} {D : va_G} {cA : Nat → ClassId} {sp : Nat → Nat} (E : x_En CL l s0 a0 D cA sp)  {r : Unit} {σ1 : xS} (a : Int32 × xS) (o : (Int32 × xS) ⊕ (Int32 × xS)) (h : f_Tr_follow_49_7_L21  a = some o) (hK : ∀ b, o = .inl b → zW l s0 D cA sp (zQ s0 D cA sp none σ1) (x_rm 4 0 0) M_Tr_follow 0 0 102 [none, none, none, none] [] b.2) (hG : ∀ a', o = .inr a' → zW l s0 D cA sp (zQ s0 D cA sp none σ1) (x_rm 4 0 0) M_Tr_follow 0 0 21 [some (.ref 49), some (.ref 7), some (.int a'.1), none] [] a'.2) : zW l s0 D cA sp (zQ s0 D cA sp none σ1) (x_rm 4 0 0) M_Tr_follow 0 0 21 [some (.ref 49), some (.ref 7), some (.int a.1), none] [] a.2 := by
  obtain ⟨v2, σ⟩ := a
  unfold f_Tr_follow_49_7_L21 at h
  try dsimp only at h ⊢
  refine x_iload_n 22 rfl 2 dX6_follow_21 rfl rfl ?_
  refine x_aload_n 23 rfl 0 dX6_follow_22 rfl rfl ?_
  refine x_getI E dX6_follow_23 F_RX6_28 sh_49 26 rfl ?_
  refine x_icmp_gt 29 rfl 102 dX6_follow_26 (by decide) (fun hc => ?_) (fun hc => ?_)
  · replace h := x_ifT hc h
    cases h
    exact x_wk (x_le_n (x_le_n (x_le_n (x_le_n x_le_0)))) (hK (_, _) rfl)
  · replace h := x_ifF hc h
    refine x_aload_n 30 rfl 0 dX6_follow_29 rfl rfl ?_
    refine x_aload_n 31 rfl 1 dX6_follow_30 rfl rfl ?_
    refine x_iload_n 32 rfl 2 dX6_follow_31 rfl rfl ?_
    obtain ⟨⟨q1r, q1s⟩, q1h, h⟩ := x_bind h
    try dsimp only at h
    refine z_callV E [.ref 7, .int _] [] dX6_follow_32 K_RX6_88 ⟨Nat.le_of_ble_eq_true rfl, Nat.le_of_ble_eq_true rfl⟩ sh_49 (by decide) rfl (c_Tr_aim_49_7 E _ q1h) rfl rfl (Nat.le_of_ble_eq_true rfl) 35 rfl [.int _] rfl ?_
    refine x_aload_n 36 rfl 0 dX6_follow_35 rfl rfl ?_
    refine x_getR E dX6_follow_36 F_RX6_38 sh_49 rf_49_8 39 rfl ?_
    refine x_iload_n 40 rfl 2 dX6_follow_39 rfl rfl ?_
    refine x_iconst 41 rfl (v := 1) dX6_follow_40 (by decide) ?_
    refine x_isub 42 rfl dX6_follow_41 ?_
    obtain ⟨hz, h⟩ := x_ifn h
    refine x_iald E dX6_follow_42 sh_53 _ rfl hz 43 rfl ?_
    refine x_isub 44 rfl dX6_follow_43 ?_
    refine x_istore_n 45 rfl 3 dX6_follow_44 rfl (by decide) [some (.ref 49), some (.ref 7), some (.int _), some (.int _)] rfl ?_
    refine x_aload_n 46 rfl 0 dX6_follow_45 rfl rfl ?_
    refine x_getR E dX6_follow_46 F_RX6_38 sh_49 rf_49_8 49 rfl ?_
    refine x_iload_n 50 rfl 2 dX6_follow_49 rfl rfl ?_
    refine x_aload_n 51 rfl 0 dX6_follow_50 rfl rfl ?_
    refine x_getR E dX6_follow_51 F_RX6_38 sh_49 rf_49_8 54 rfl ?_
    refine x_iload_n 55 rfl 2 dX6_follow_54 rfl rfl ?_
    refine x_iconst 56 rfl (v := 1) dX6_follow_55 (by decide) ?_
    refine x_isub 57 rfl dX6_follow_56 ?_
    obtain ⟨hz, h⟩ := x_ifn h
    refine x_iald E dX6_follow_57 sh_53 _ rfl hz 58 rfl ?_
    refine x_iload_n 59 rfl 3 dX6_follow_58 rfl rfl ?_
    refine x_aload_n 60 rfl 0 dX6_follow_59 rfl rfl ?_
    refine x_getR E dX6_follow_60 F_RX6_9 sh_49 rf_49_0 63 rfl ?_
    refine x_iconst 64 rfl (v := 2) dX6_follow_63 (by decide) ?_
    refine x_iald E dX6_follow_64 sh_50 2 (by decide) (by decide) 65 rfl ?_
    refine x_ineg 66 rfl dX6_follow_65 ?_
    refine x_aload_n 67 rfl 0 dX6_follow_66 rfl rfl ?_
    refine x_getR E dX6_follow_67 F_RX6_9 sh_49 rf_49_0 70 rfl ?_
    refine x_iconst 71 rfl (v := 2) dX6_follow_70 (by decide) ?_
    refine x_iald E dX6_follow_71 sh_50 2 (by decide) (by decide) 72 rfl ?_
    obtain ⟨⟨q3r, q3s⟩, q3h, h⟩ := x_bind h
    try dsimp only at h
    refine z_callT E [.int _, .int _, .int _] [.int _, .int _, .ref 53] dX6_follow_72 K_RX6_91 ⟨Nat.le_of_ble_eq_true rfl, Nat.le_of_ble_eq_true rfl⟩ (c_RH_within E _ _ _ q3h) rfl rfl (Nat.le_of_ble_eq_true rfl) 75 rfl [.int _, .int _, .int _, .ref 53] rfl ?_
    refine x_iadd 76 rfl dX6_follow_75 ?_
    obtain ⟨hz, h⟩ := x_ifn h
    refine x_iast E dX6_follow_76 sh_53 _ rfl hz 77 rfl ?_
    refine x_aload_n 78 rfl 0 dX6_follow_77 rfl rfl ?_
    refine x_getR E dX6_follow_78 F_RX6_41 sh_49 rf_49_9 81 rfl ?_
    refine x_iload_n 82 rfl 2 dX6_follow_81 rfl rfl ?_
    refine x_aload_n 83 rfl 0 dX6_follow_82 rfl rfl ?_
    refine x_aload_n 84 rfl 1 dX6_follow_83 rfl rfl ?_
    refine x_iload_n 85 rfl 2 dX6_follow_84 rfl rfl ?_
    obtain ⟨⟨q5r, q5s⟩, q5h, h⟩ := x_bind h
    try dsimp only at h
    refine z_callV E [.ref 7, .int _] [.int _, .ref 54] dX6_follow_85 K_RX6_84 ⟨Nat.le_of_ble_eq_true rfl, Nat.le_of_ble_eq_true rfl⟩ sh_49 (by decide) rfl (c_Tr_rightIn_49_7 E _ q5h) rfl rfl (Nat.le_of_ble_eq_true rfl) 88 rfl [.int _, .int _, .ref 54] rfl ?_
    refine x_aload_n 89 rfl 0 dX6_follow_88 rfl rfl ?_
    refine x_getR E dX6_follow_89 F_RX6_38 sh_49 rf_49_8 92 rfl ?_
    refine x_iload_n 93 rfl 2 dX6_follow_92 rfl rfl ?_
    obtain ⟨hz, h⟩ := x_ifn h
    refine x_iald E dX6_follow_93 sh_53 _ rfl hz 94 rfl ?_
    refine x_isub 95 rfl dX6_follow_94 ?_
    obtain ⟨hz, h⟩ := x_ifn h
    refine x_iast E dX6_follow_95 sh_54 _ rfl hz 96 rfl ?_
    refine x_iinc 99 rfl (1) dX6_follow_96 rfl (by decide) (by decide) [some (.ref 49), some (.ref 7), some (.int _), some (.int _)] rfl ?_
    refine x_goto 21 dX6_follow_99 (by decide) ?_
    cases h
    exact x_wk (x_le_s (x_le_s (x_le_s (x_le_n x_le_0)))) (hG (_, _) rfl)
set_option maxHeartbeats 4000000 in
set_option maxRecDepth 100000 in
theorem c_Tr_follow_49_7 {l : Launch} {s0 : State} {a0 : Array Value} {D : va_G} {cA : Nat → ClassId} {sp : Nat → Nat} (E : x_En CL l s0 a0 D cA sp)  {σ : xS} {r : Unit} {σ1 : xS} (h : f_Tr_follow_49_7  σ = some (r, σ1)) : zC l s0 D cA sp 4 M_Tr_follow [.ref 49, .ref 7] σ none σ1 := by
  unfold f_Tr_follow_49_7 at h
  try dsimp only at h
  refine x_enter [some (.ref 49), some (.ref 7), none, none] rfl (Nat.le_of_ble_eq_true rfl) (by decide +kernel) rfl ?_
  refine x_aload_n 1 rfl 0 dX6_follow_0 rfl rfl ?_
  refine x_getR E dX6_follow_1 F_RX6_38 sh_49 rf_49_8 4 rfl ?_
  refine x_iconst 5 rfl (v := 0) dX6_follow_4 (by decide) ?_
  refine x_aload_n 6 rfl 0 dX6_follow_5 rfl rfl ?_
  refine x_aload_n 7 rfl 1 dX6_follow_6 rfl rfl ?_
  refine x_iconst 8 rfl (v := 0) dX6_follow_7 (by decide) ?_
  obtain ⟨⟨q8r, q8s⟩, q8h, h⟩ := x_bind h
  try dsimp only at h
  refine z_callV E [.ref 7, .int _] [.int _, .ref 53] dX6_follow_8 K_RX6_84 ⟨Nat.le_of_ble_eq_true rfl, Nat.le_of_ble_eq_true rfl⟩ sh_49 (by decide) rfl (c_Tr_rightIn_49_7 E _ q8h) rfl rfl (Nat.le_of_ble_eq_true rfl) 11 rfl [.int _, .int _, .ref 53] rfl ?_
  refine x_iast E dX6_follow_11 sh_53 0 (by decide) (by decide) 12 rfl ?_
  refine x_aload_n 13 rfl 0 dX6_follow_12 rfl rfl ?_
  refine x_getR E dX6_follow_13 F_RX6_41 sh_49 rf_49_9 16 rfl ?_
  refine x_iconst 17 rfl (v := 0) dX6_follow_16 (by decide) ?_
  refine x_iconst 18 rfl (v := 0) dX6_follow_17 (by decide) ?_
  refine x_iast E dX6_follow_18 sh_54 0 (by decide) (by decide) 19 rfl ?_
  refine x_iconst 20 rfl (v := 1) dX6_follow_19 (by decide) ?_
  refine x_istore_n 21 rfl 2 dX6_follow_20 rfl (by decide) [some (.ref 49), some (.ref 7), some (.int _), none] rfl ?_
  obtain ⟨b11, b11h, h⟩ := x_bind h
  try dsimp only at h
  refine x_wk (x_le_s (x_le_s (x_le_s (x_le_n x_le_0)))) (x_loop (fun a o h hK hG => b_Tr_follow_49_7_L21 (r := r) (σ1 := σ1) E  a o h hK hG) _ _ _ b11h ?_)
  cases h
  exact x_vret dX6_follow_102 rfl rfl rfl
theorem K_RX6_56 : x_KV RX6 56 M_Tr_look 1 := ⟨⟨(List.mem_append_right _ (List.mem_of_getElem? (i := 468) (by decide +kernel))), (List.mem_append_right _ (List.mem_of_getElem? (i := 471) (by decide +kernel))), (List.mem_append_right _ (List.mem_of_getElem? (i := 6) (by decide +kernel))), ⟨by decide +kernel, by decide +kernel⟩, by decide +kernel⟩, (List.mem_append_right _ (List.mem_of_getElem? (i := 469) (by decide +kernel))), (List.mem_append_right _ (List.mem_of_getElem? (i := 470) (by decide +kernel)))⟩
theorem K_RX6_60 : x_KV RX6 60 M_Tr_follow 1 := ⟨⟨(List.mem_append_right _ (List.mem_of_getElem? (i := 492) (by decide +kernel))), (List.mem_append_right _ (List.mem_of_getElem? (i := 495) (by decide +kernel))), (List.mem_append_right _ (List.mem_of_getElem? (i := 6) (by decide +kernel))), ⟨by decide +kernel, by decide +kernel⟩, by decide +kernel⟩, (List.mem_append_right _ (List.mem_of_getElem? (i := 493) (by decide +kernel))), (List.mem_append_right _ (List.mem_of_getElem? (i := 494) (by decide +kernel)))⟩
abbrev M_Tr_walk : xM := (yX6_walk, cX6_walk, 2, none, [])
theorem dX6_walk_0 : decode cX6_walk 0 = .ok (.aload_n 0, 1) := by decide +kernel
theorem dX6_walk_1 : decode cX6_walk 1 = .ok (.aload_n 1, 1) := by decide +kernel
theorem dX6_walk_2 : decode cX6_walk 2 = .ok (.invokevirtual 56, 3) := by decide +kernel
theorem dX6_walk_5 : decode cX6_walk 5 = .ok (.aload_n 0, 1) := by decide +kernel
theorem dX6_walk_6 : decode cX6_walk 6 = .ok (.aload_n 1, 1) := by decide +kernel
theorem dX6_walk_7 : decode cX6_walk 7 = .ok (.invokevirtual 60, 3) := by decide +kernel
theorem dX6_walk_10 : decode cX6_walk 10 = .ok (.return_, 1) := by decide +kernel
def f_Tr_walk_49_7  (σ : xS) : Option (Unit × xS) :=
  (f_Tr_look_49_7  σ).bind fun q1 =>
  (f_Tr_follow_49_7  q1.2).bind fun q2 =>
  some ((), q2.2)
set_option maxHeartbeats 4000000 in
set_option maxRecDepth 100000 in
theorem c_Tr_walk_49_7 {l : Launch} {s0 : State} {a0 : Array Value} {D : va_G} {cA : Nat → ClassId} {sp : Nat → Nat} (E : x_En CL l s0 a0 D cA sp)  {σ : xS} {r : Unit} {σ1 : xS} (h : f_Tr_walk_49_7  σ = some (r, σ1)) : zC l s0 D cA sp 5 M_Tr_walk [.ref 49, .ref 7] σ none σ1 := by
  unfold f_Tr_walk_49_7 at h
  try dsimp only at h
  refine x_enter [some (.ref 49), some (.ref 7)] rfl (Nat.le_of_ble_eq_true rfl) (by decide +kernel) rfl ?_
  refine x_aload_n 1 rfl 0 dX6_walk_0 rfl rfl ?_
  refine x_aload_n 2 rfl 1 dX6_walk_1 rfl rfl ?_
  obtain ⟨⟨q1r, q1s⟩, q1h, h⟩ := x_bind h
  try dsimp only at h
  refine z_callV E [.ref 7] [] dX6_walk_2 K_RX6_56 ⟨Nat.le_of_ble_eq_true rfl, Nat.le_of_ble_eq_true rfl⟩ sh_49 (by decide) rfl (c_Tr_look_49_7 E  q1h) rfl rfl (Nat.le_of_ble_eq_true rfl) 5 rfl [] rfl ?_
  refine x_aload_n 6 rfl 0 dX6_walk_5 rfl rfl ?_
  refine x_aload_n 7 rfl 1 dX6_walk_6 rfl rfl ?_
  obtain ⟨⟨q2r, q2s⟩, q2h, h⟩ := x_bind h
  try dsimp only at h
  refine z_callV E [.ref 7] [] dX6_walk_7 K_RX6_60 ⟨Nat.le_of_ble_eq_true rfl, Nat.le_of_ble_eq_true rfl⟩ sh_49 (by decide) rfl (c_Tr_follow_49_7 E  q2h) rfl rfl (Nat.le_of_ble_eq_true rfl) 10 rfl [] rfl ?_
  cases h
  exact x_vret dX6_walk_10 rfl rfl rfl
theorem K_RX8_187 : x_KV RX8 187 M_RH_takeSettings 0 := ⟨⟨(List.mem_append_right _ (List.mem_of_getElem? (i := 452) (by decide +kernel))), (List.mem_append_right _ (List.mem_of_getElem? (i := 455) (by decide +kernel))), (List.mem_append_right _ (List.mem_of_getElem? (i := 1) (by decide +kernel))), ⟨by decide +kernel, by decide +kernel⟩, by decide +kernel⟩, (List.mem_append_right _ (List.mem_of_getElem? (i := 454) (by decide +kernel))), (List.mem_append_left _ (List.mem_of_getElem? (i := 6) (by decide +kernel)))⟩
theorem K_RX8_190 : x_KV RX8 190 M_Tr_walk 1 := ⟨⟨(List.mem_append_right _ (List.mem_of_getElem? (i := 464) (by decide +kernel))), (List.mem_append_right _ (List.mem_of_getElem? (i := 467) (by decide +kernel))), (List.mem_append_right _ (List.mem_of_getElem? (i := 6) (by decide +kernel))), ⟨by decide +kernel, by decide +kernel⟩, by decide +kernel⟩, (List.mem_append_right _ (List.mem_of_getElem? (i := 465) (by decide +kernel))), (List.mem_append_right _ (List.mem_of_getElem? (i := 466) (by decide +kernel)))⟩
abbrev M_RH_walkAsSet : xM := (yX8_walkAsSet, cX8_walkAsSet, 1, none, [])
theorem dX8_walkAsSet_0 : decode cX8_walkAsSet 0 = .ok (.aload_n 0, 1) := by decide +kernel
theorem dX8_walkAsSet_1 : decode cX8_walkAsSet 1 = .ok (.getfield 55, 3) := by decide +kernel
theorem dX8_walkAsSet_4 : decode cX8_walkAsSet 4 = .ok (.ifCond .ne 23, 3) := by decide +kernel
theorem dX8_walkAsSet_7 : decode cX8_walkAsSet 7 = .ok (.aload_n 0, 1) := by decide +kernel
theorem dX8_walkAsSet_8 : decode cX8_walkAsSet 8 = .ok (.invokevirtual 187, 3) := by decide +kernel
theorem dX8_walkAsSet_11 : decode cX8_walkAsSet 11 = .ok (.aload_n 0, 1) := by decide +kernel
theorem dX8_walkAsSet_12 : decode cX8_walkAsSet 12 = .ok (.getfield 51, 3) := by decide +kernel
theorem dX8_walkAsSet_15 : decode cX8_walkAsSet 15 = .ok (.aload_n 0, 1) := by decide +kernel
theorem dX8_walkAsSet_16 : decode cX8_walkAsSet 16 = .ok (.getfield 27, 3) := by decide +kernel
theorem dX8_walkAsSet_19 : decode cX8_walkAsSet 19 = .ok (.invokevirtual 190, 3) := by decide +kernel
theorem dX8_walkAsSet_22 : decode cX8_walkAsSet 22 = .ok (.aload_n 0, 1) := by decide +kernel
theorem dX8_walkAsSet_23 : decode cX8_walkAsSet 23 = .ok (.iconst 1, 1) := by decide +kernel
theorem dX8_walkAsSet_24 : decode cX8_walkAsSet 24 = .ok (.putfield 55, 3) := by decide +kernel
theorem dX8_walkAsSet_27 : decode cX8_walkAsSet 27 = .ok (.return_, 1) := by decide +kernel
def f_RH_walkAsSet_0  (σ : xS) : Option (Unit × xS) :=
  if σ.1 0 9 = 0 then
    (f_RH_takeSettings_0  σ).bind fun q1 =>
    (f_Tr_walk_49_7  q1.2).bind fun q2 =>
    let σ3 := x_pI q2.2 0 9 (1 : Int32)
    some ((), σ3)
  else
    some ((), σ)
set_option maxHeartbeats 4000000 in
set_option maxRecDepth 100000 in
theorem c_RH_walkAsSet_0 {l : Launch} {s0 : State} {a0 : Array Value} {D : va_G} {cA : Nat → ClassId} {sp : Nat → Nat} (E : x_En CL l s0 a0 D cA sp)  {σ : xS} {r : Unit} {σ1 : xS} (h : f_RH_walkAsSet_0  σ = some (r, σ1)) : zC l s0 D cA sp 6 M_RH_walkAsSet [.ref 0] σ none σ1 := by
  unfold f_RH_walkAsSet_0 at h
  try dsimp only at h
  refine x_enter [some (.ref 0)] rfl (Nat.le_of_ble_eq_true rfl) (by decide +kernel) rfl ?_
  refine x_aload_n 1 rfl 0 dX8_walkAsSet_0 rfl rfl ?_
  refine x_getI E dX8_walkAsSet_1 F_RX8_55 sh_0 4 rfl ?_
  refine x_if_ne 7 rfl 27 dX8_walkAsSet_4 (by decide) (fun hc => ?_) (fun hc => ?_)
  · replace h := x_ifF hc h
    cases h
    exact x_vret dX8_walkAsSet_27 rfl rfl rfl
  · replace h := x_ifT hc h
    refine x_aload_n 8 rfl 0 dX8_walkAsSet_7 rfl rfl ?_
    obtain ⟨⟨q1r, q1s⟩, q1h, h⟩ := x_bind h
    try dsimp only at h
    refine z_callV E [] [] dX8_walkAsSet_8 K_RX8_187 ⟨Nat.le_of_ble_eq_true rfl, Nat.le_of_ble_eq_true rfl⟩ sh_0 (by decide) rfl (c_RH_takeSettings_0 E  q1h) rfl rfl (Nat.le_of_ble_eq_true rfl) 11 rfl [] rfl ?_
    refine x_aload_n 12 rfl 0 dX8_walkAsSet_11 rfl rfl ?_
    refine x_getR E dX8_walkAsSet_12 F_RX8_51 sh_0 rf_0_8 15 rfl ?_
    refine x_aload_n 16 rfl 0 dX8_walkAsSet_15 rfl rfl ?_
    refine x_getR E dX8_walkAsSet_16 F_RX8_27 sh_0 rf_0_3 19 rfl ?_
    obtain ⟨⟨q2r, q2s⟩, q2h, h⟩ := x_bind h
    try dsimp only at h
    refine z_callV E [.ref 7] [] dX8_walkAsSet_19 K_RX8_190 ⟨Nat.le_of_ble_eq_true rfl, Nat.le_of_ble_eq_true rfl⟩ sh_49 (by decide) rfl (c_Tr_walk_49_7 E  q2h) rfl rfl (Nat.le_of_ble_eq_true rfl) 22 rfl [] rfl ?_
    refine x_aload_n 23 rfl 0 dX8_walkAsSet_22 rfl rfl ?_
    refine x_iconst 24 rfl (v := 1) dX8_walkAsSet_23 (by decide) ?_
    refine x_putZ E (Or.inr rfl) dX8_walkAsSet_24 F_RX8_55 sh_0 27 rfl ?_
    cases h
    exact x_vret dX8_walkAsSet_27 rfl rfl rfl
theorem K_RX6_116 : x_KM RX6 116 Lib.Math.abs.name Lib.Math.abs.code 1 := ⟨(List.mem_append_right _ (List.mem_of_getElem? (i := 509) (by decide +kernel))), (List.mem_append_right _ (List.mem_of_getElem? (i := 424) (by decide +kernel))), (List.mem_append_right _ (List.mem_of_getElem? (i := 14) (by decide +kernel))), (List.mem_append_right _ (List.mem_of_getElem? (i := 425) (by decide +kernel)))⟩
abbrev M_Tr_isSharp : xM := (yX6_isSharp, cX6_isSharp, 2, some .boolean, [])
theorem dX6_isSharp_0 : decode cX6_isSharp 0 = .ok (.iload_n 1, 1) := by decide +kernel
theorem dX6_isSharp_1 : decode cX6_isSharp 1 = .ok (.ifCond .lt 32, 3) := by decide +kernel
theorem dX6_isSharp_4 : decode cX6_isSharp 4 = .ok (.iload_n 1, 1) := by decide +kernel
theorem dX6_isSharp_5 : decode cX6_isSharp 5 = .ok (.sipush 600, 3) := by decide +kernel
theorem dX6_isSharp_8 : decode cX6_isSharp 8 = .ok (.if_icmp .gt 25, 3) := by decide +kernel
theorem dX6_isSharp_11 : decode cX6_isSharp 11 = .ok (.aload_n 0, 1) := by decide +kernel
theorem dX6_isSharp_12 : decode cX6_isSharp 12 = .ok (.getfield 41, 3) := by decide +kernel
theorem dX6_isSharp_15 : decode cX6_isSharp 15 = .ok (.iload_n 1, 1) := by decide +kernel
theorem dX6_isSharp_16 : decode cX6_isSharp 16 = .ok (.iaload, 1) := by decide +kernel
theorem dX6_isSharp_17 : decode cX6_isSharp 17 = .ok (.invokestatic 116, 3) := by decide +kernel
theorem dX6_isSharp_20 : decode cX6_isSharp 20 = .ok (.aload_n 0, 1) := by decide +kernel
theorem dX6_isSharp_21 : decode cX6_isSharp 21 = .ok (.getfield 9, 3) := by decide +kernel
theorem dX6_isSharp_24 : decode cX6_isSharp 24 = .ok (.iconst 0, 1) := by decide +kernel
theorem dX6_isSharp_25 : decode cX6_isSharp 25 = .ok (.iaload, 1) := by decide +kernel
theorem dX6_isSharp_26 : decode cX6_isSharp 26 = .ok (.if_icmp .gt 7, 3) := by decide +kernel
theorem dX6_isSharp_29 : decode cX6_isSharp 29 = .ok (.iconst 1, 1) := by decide +kernel
theorem dX6_isSharp_30 : decode cX6_isSharp 30 = .ok (.goto 4, 3) := by decide +kernel
theorem dX6_isSharp_33 : decode cX6_isSharp 33 = .ok (.iconst 0, 1) := by decide +kernel
theorem dX6_isSharp_34 : decode cX6_isSharp 34 = .ok (.ireturn, 1) := by decide +kernel
def f_Tr_isSharp_49 (v1 : Int32) (σ : xS) : Option (Int32 × xS) :=
  if v1 < 0 then
    some ((0 : Int32), σ)
  else
    if (600 : Int32) < v1 then
      some ((0 : Int32), σ)
    else
      if v1 < 0 ∨ 601 ≤ v1.toNatClampNeg then none else
      if σ.1 50 0 < (if 0 ≤ σ.1 54 v1.toNatClampNeg then σ.1 54 v1.toNatClampNeg else 0 - σ.1 54 v1.toNatClampNeg) then
        some ((0 : Int32), σ)
      else
        some ((1 : Int32), σ)
set_option maxHeartbeats 4000000 in
set_option maxRecDepth 100000 in
theorem c_Tr_isSharp_49 {l : Launch} {s0 : State} {a0 : Array Value} {D : va_G} {cA : Nat → ClassId} {sp : Nat → Nat} (E : x_En CL l s0 a0 D cA sp) (v1 : Int32) {σ : xS} {r : Int32} {σ1 : xS} (h : f_Tr_isSharp_49 v1 σ = some (r, σ1)) : zC l s0 D cA sp 0 M_Tr_isSharp [.ref 49, .int v1] σ (some (.int r)) σ1 := by
  unfold f_Tr_isSharp_49 at h
  try dsimp only at h
  refine x_enter [some (.ref 49), some (.int v1)] rfl (Nat.le_of_ble_eq_true rfl) (by decide +kernel) rfl ?_
  refine x_iload_n 1 rfl 1 dX6_isSharp_0 rfl rfl ?_
  refine x_if_lt 4 rfl 33 dX6_isSharp_1 (by decide) (fun hc => ?_) (fun hc => ?_)
  · replace h := x_ifT hc h
    refine x_iconst 34 rfl (v := 0) dX6_isSharp_33 (by decide) ?_
    cases h
    exact x_zret (Or.inl rfl) dX6_isSharp_34 rfl rfl rfl
  · replace h := x_ifF hc h
    refine x_iload_n 5 rfl 1 dX6_isSharp_4 rfl rfl ?_
    refine x_sipush 8 rfl (v := 600) dX6_isSharp_5 (by decide) ?_
    refine x_icmp_gt 11 rfl 33 dX6_isSharp_8 (by decide) (fun hc => ?_) (fun hc => ?_)
    · replace h := x_ifT hc h
      refine x_iconst 34 rfl (v := 0) dX6_isSharp_33 (by decide) ?_
      cases h
      exact x_zret (Or.inl rfl) dX6_isSharp_34 rfl rfl rfl
    · replace h := x_ifF hc h
      refine x_aload_n 12 rfl 0 dX6_isSharp_11 rfl rfl ?_
      refine x_getR E dX6_isSharp_12 F_RX6_41 sh_49 rf_49_9 15 rfl ?_
      refine x_iload_n 16 rfl 1 dX6_isSharp_15 rfl rfl ?_
      obtain ⟨hz, h⟩ := x_ifn h
      refine x_iald E dX6_isSharp_16 sh_54 _ rfl hz 17 rfl ?_
      refine x_mabs E dX6_isSharp_17 K_RX6_116 (Nat.le_of_ble_eq_true rfl) (Nat.le_of_ble_eq_true rfl) 20 rfl ?_
      refine x_aload_n 21 rfl 0 dX6_isSharp_20 rfl rfl ?_
      refine x_getR E dX6_isSharp_21 F_RX6_9 sh_49 rf_49_0 24 rfl ?_
      refine x_iconst 25 rfl (v := 0) dX6_isSharp_24 (by decide) ?_
      refine x_iald E dX6_isSharp_25 sh_50 0 (by decide) (by decide) 26 rfl ?_
      refine x_icmp_gt 29 rfl 33 dX6_isSharp_26 (by decide) (fun hc => ?_) (fun hc => ?_)
      · replace h := x_ifT hc h
        refine x_iconst 34 rfl (v := 0) dX6_isSharp_33 (by decide) ?_
        cases h
        exact x_zret (Or.inl rfl) dX6_isSharp_34 rfl rfl rfl
      · replace h := x_ifF hc h
        refine x_iconst 30 rfl (v := 1) dX6_isSharp_29 (by decide) ?_
        refine x_goto 34 dX6_isSharp_30 (by decide) ?_
        cases h
        exact x_zret (Or.inr rfl) dX6_isSharp_34 rfl rfl rfl
theorem K_RX6_119 : x_KV RX6 119 M_Tr_isSharp 1 := ⟨⟨(List.mem_append_right _ (List.mem_of_getElem? (i := 946) (by decide +kernel))), (List.mem_append_right _ (List.mem_of_getElem? (i := 941) (by decide +kernel))), (List.mem_append_right _ (List.mem_of_getElem? (i := 6) (by decide +kernel))), ⟨by decide +kernel, by decide +kernel⟩, by decide +kernel⟩, (List.mem_append_right _ (List.mem_of_getElem? (i := 939) (by decide +kernel))), (List.mem_append_right _ (List.mem_of_getElem? (i := 940) (by decide +kernel)))⟩
theorem K_RX6_123 : x_KV RX6 123 M_Ru_has 1 := ⟨⟨(List.mem_append_right _ (List.mem_of_getElem? (i := 947) (by decide +kernel))), (List.mem_append_right _ (List.mem_of_getElem? (i := 288) (by decide +kernel))), (List.mem_append_right _ (List.mem_of_getElem? (i := 4) (by decide +kernel))), ⟨by decide +kernel, by decide +kernel⟩, by decide +kernel⟩, (List.mem_append_right _ (List.mem_of_getElem? (i := 286) (by decide +kernel))), (List.mem_append_right _ (List.mem_of_getElem? (i := 287) (by decide +kernel)))⟩
abbrev M_Tr_isShown : xM := (yX6_isShown, cX6_isShown, 4, some .boolean, [])
theorem dX6_isShown_0 : decode cX6_isShown 0 = .ok (.iload_n 2, 1) := by decide +kernel
theorem dX6_isShown_1 : decode cX6_isShown 1 = .ok (.ifCond .lt 18, 3) := by decide +kernel
theorem dX6_isShown_4 : decode cX6_isShown 4 = .ok (.iload_n 2, 1) := by decide +kernel
theorem dX6_isShown_5 : decode cX6_isShown 5 = .ok (.sipush 600, 3) := by decide +kernel
theorem dX6_isShown_8 : decode cX6_isShown 8 = .ok (.if_icmp .gt 11, 3) := by decide +kernel
theorem dX6_isShown_11 : decode cX6_isShown 11 = .ok (.aload_n 0, 1) := by decide +kernel
theorem dX6_isShown_12 : decode cX6_isShown 12 = .ok (.iload_n 2, 1) := by decide +kernel
theorem dX6_isShown_13 : decode cX6_isShown 13 = .ok (.invokevirtual 119, 3) := by decide +kernel
theorem dX6_isShown_16 : decode cX6_isShown 16 = .ok (.ifCond .eq 5, 3) := by decide +kernel
theorem dX6_isShown_19 : decode cX6_isShown 19 = .ok (.iconst 0, 1) := by decide +kernel
theorem dX6_isShown_20 : decode cX6_isShown 20 = .ok (.ireturn, 1) := by decide +kernel
theorem dX6_isShown_21 : decode cX6_isShown 21 = .ok (.aload_n 1, 1) := by decide +kernel
theorem dX6_isShown_22 : decode cX6_isShown 22 = .ok (.getfield 95, 3) := by decide +kernel
theorem dX6_isShown_25 : decode cX6_isShown 25 = .ok (.iconst 1, 1) := by decide +kernel
theorem dX6_isShown_26 : decode cX6_isShown 26 = .ok (.invokevirtual 123, 3) := by decide +kernel
theorem dX6_isShown_29 : decode cX6_isShown 29 = .ok (.ifCond .ne 5, 3) := by decide +kernel
theorem dX6_isShown_32 : decode cX6_isShown 32 = .ok (.iconst 1, 1) := by decide +kernel
theorem dX6_isShown_33 : decode cX6_isShown 33 = .ok (.ireturn, 1) := by decide +kernel
theorem dX6_isShown_34 : decode cX6_isShown 34 = .ok (.aload_n 1, 1) := by decide +kernel
theorem dX6_isShown_35 : decode cX6_isShown 35 = .ok (.getfield 95, 3) := by decide +kernel
theorem dX6_isShown_38 : decode cX6_isShown 38 = .ok (.getfield 99, 3) := by decide +kernel
theorem dX6_isShown_41 : decode cX6_isShown 41 = .ok (.astore_n 3, 1) := by decide +kernel
theorem dX6_isShown_42 : decode cX6_isShown 42 = .ok (.aload_n 3, 1) := by decide +kernel
theorem dX6_isShown_43 : decode cX6_isShown 43 = .ok (.iconst 1, 1) := by decide +kernel
theorem dX6_isShown_44 : decode cX6_isShown 44 = .ok (.aload_n 0, 1) := by decide +kernel
theorem dX6_isShown_45 : decode cX6_isShown 45 = .ok (.getfield 41, 3) := by decide +kernel
theorem dX6_isShown_48 : decode cX6_isShown 48 = .ok (.iload_n 2, 1) := by decide +kernel
theorem dX6_isShown_49 : decode cX6_isShown 49 = .ok (.iaload, 1) := by decide +kernel
theorem dX6_isShown_50 : decode cX6_isShown 50 = .ok (.invokestatic 116, 3) := by decide +kernel
theorem dX6_isShown_53 : decode cX6_isShown 53 = .ok (.iastore, 1) := by decide +kernel
theorem dX6_isShown_54 : decode cX6_isShown 54 = .ok (.aload_n 3, 1) := by decide +kernel
theorem dX6_isShown_55 : decode cX6_isShown 55 = .ok (.iconst 2, 1) := by decide +kernel
theorem dX6_isShown_56 : decode cX6_isShown 56 = .ok (.aload_n 0, 1) := by decide +kernel
theorem dX6_isShown_57 : decode cX6_isShown 57 = .ok (.getfield 9, 3) := by decide +kernel
theorem dX6_isShown_60 : decode cX6_isShown 60 = .ok (.iconst 0, 1) := by decide +kernel
theorem dX6_isShown_61 : decode cX6_isShown 61 = .ok (.iaload, 1) := by decide +kernel
theorem dX6_isShown_62 : decode cX6_isShown 62 = .ok (.iastore, 1) := by decide +kernel
theorem dX6_isShown_63 : decode cX6_isShown 63 = .ok (.aload_n 3, 1) := by decide +kernel
theorem dX6_isShown_64 : decode cX6_isShown 64 = .ok (.iconst 0, 1) := by decide +kernel
theorem dX6_isShown_65 : decode cX6_isShown 65 = .ok (.aload_n 0, 1) := by decide +kernel
theorem dX6_isShown_66 : decode cX6_isShown 66 = .ok (.aload_n 1, 1) := by decide +kernel
theorem dX6_isShown_67 : decode cX6_isShown 67 = .ok (.iload_n 2, 1) := by decide +kernel
theorem dX6_isShown_68 : decode cX6_isShown 68 = .ok (.aload_n 1, 1) := by decide +kernel
theorem dX6_isShown_69 : decode cX6_isShown 69 = .ok (.iload_n 2, 1) := by decide +kernel
theorem dX6_isShown_70 : decode cX6_isShown 70 = .ok (.iconst 0, 1) := by decide +kernel
theorem dX6_isShown_71 : decode cX6_isShown 71 = .ok (.invokevirtual 66, 3) := by decide +kernel
theorem dX6_isShown_74 : decode cX6_isShown 74 = .ok (.invokevirtual 69, 3) := by decide +kernel
theorem dX6_isShown_77 : decode cX6_isShown 77 = .ok (.iastore, 1) := by decide +kernel
theorem dX6_isShown_78 : decode cX6_isShown 78 = .ok (.aload_n 1, 1) := by decide +kernel
theorem dX6_isShown_79 : decode cX6_isShown 79 = .ok (.getfield 95, 3) := by decide +kernel
theorem dX6_isShown_82 : decode cX6_isShown 82 = .ok (.iconst 1, 1) := by decide +kernel
theorem dX6_isShown_83 : decode cX6_isShown 83 = .ok (.invokevirtual 104, 3) := by decide +kernel
theorem dX6_isShown_86 : decode cX6_isShown 86 = .ok (.ifCond .le 7, 3) := by decide +kernel
theorem dX6_isShown_89 : decode cX6_isShown 89 = .ok (.iconst 1, 1) := by decide +kernel
theorem dX6_isShown_90 : decode cX6_isShown 90 = .ok (.goto 4, 3) := by decide +kernel
theorem dX6_isShown_93 : decode cX6_isShown 93 = .ok (.iconst 0, 1) := by decide +kernel
theorem dX6_isShown_94 : decode cX6_isShown 94 = .ok (.ireturn, 1) := by decide +kernel
def f_Tr_isShown_49_7 (v2 : Int32) (σ : xS) : Option (Int32 × xS) :=
  if v2 < 0 then
    some ((0 : Int32), σ)
  else
    if (600 : Int32) < v2 then
      some ((0 : Int32), σ)
    else
      (f_Tr_isSharp_49 v2 σ).bind fun q1 =>
      if q1.1 = 0 then
        (f_Ru_has_13 (1 : Int32) q1.2).bind fun q2 =>
        if q2.1 = 0 then
          some ((1 : Int32), q2.2)
        else
          if v2 < 0 ∨ 601 ≤ v2.toNatClampNeg then none else
          let σ3 := x_pI q2.2 18 1 (if 0 ≤ q2.2.1 54 v2.toNatClampNeg then q2.2.1 54 v2.toNatClampNeg else 0 - q2.2.1 54 v2.toNatClampNeg)
          let σ4 := x_pI σ3 18 2 (σ3.1 50 0)
          (f_Sc_faceIn_7 v2 (0 : Int32) σ4).bind fun q5 =>
          (f_Tr_placeIn_49_7 v2 q5.1 q5.2).bind fun q6 =>
          let σ7 := x_pI q6.2 18 0 q6.1
          (f_Ru_worth_13 (1 : Int32) σ7).bind fun q8 =>
          if q8.1 ≤ 0 then
            some ((0 : Int32), q8.2)
          else
            some ((1 : Int32), q8.2)
      else
        some ((0 : Int32), q1.2)
set_option maxHeartbeats 4000000 in
set_option maxRecDepth 100000 in
theorem c_Tr_isShown_49_7 {l : Launch} {s0 : State} {a0 : Array Value} {D : va_G} {cA : Nat → ClassId} {sp : Nat → Nat} (E : x_En CL l s0 a0 D cA sp) (v2 : Int32) {σ : xS} {r : Int32} {σ1 : xS} (h : f_Tr_isShown_49_7 v2 σ = some (r, σ1)) : zC l s0 D cA sp 3 M_Tr_isShown [.ref 49, .ref 7, .int v2] σ (some (.int r)) σ1 := by
  unfold f_Tr_isShown_49_7 at h
  try dsimp only at h
  refine x_enter [some (.ref 49), some (.ref 7), some (.int v2), none] rfl (Nat.le_of_ble_eq_true rfl) (by decide +kernel) rfl ?_
  refine x_iload_n 1 rfl 2 dX6_isShown_0 rfl rfl ?_
  refine x_if_lt 4 rfl 19 dX6_isShown_1 (by decide) (fun hc => ?_) (fun hc => ?_)
  · replace h := x_ifT hc h
    refine x_iconst 20 rfl (v := 0) dX6_isShown_19 (by decide) ?_
    cases h
    exact x_zret (Or.inl rfl) dX6_isShown_20 rfl rfl rfl
  · replace h := x_ifF hc h
    refine x_iload_n 5 rfl 2 dX6_isShown_4 rfl rfl ?_
    refine x_sipush 8 rfl (v := 600) dX6_isShown_5 (by decide) ?_
    refine x_icmp_gt 11 rfl 19 dX6_isShown_8 (by decide) (fun hc => ?_) (fun hc => ?_)
    · replace h := x_ifT hc h
      refine x_iconst 20 rfl (v := 0) dX6_isShown_19 (by decide) ?_
      cases h
      exact x_zret (Or.inl rfl) dX6_isShown_20 rfl rfl rfl
    · replace h := x_ifF hc h
      refine x_aload_n 12 rfl 0 dX6_isShown_11 rfl rfl ?_
      refine x_iload_n 13 rfl 2 dX6_isShown_12 rfl rfl ?_
      obtain ⟨⟨q1r, q1s⟩, q1h, h⟩ := x_bind h
      try dsimp only at h
      refine z_callV E [.int _] [] dX6_isShown_13 K_RX6_119 ⟨Nat.le_of_ble_eq_true rfl, Nat.le_of_ble_eq_true rfl⟩ sh_49 (by decide) rfl (c_Tr_isSharp_49 E _ q1h) rfl rfl (Nat.le_of_ble_eq_true rfl) 16 rfl [.int _] rfl ?_
      refine x_if_eq 19 rfl 21 dX6_isShown_16 (by decide) (fun hc => ?_) (fun hc => ?_)
      · replace h := x_ifT hc h
        refine x_aload_n 22 rfl 1 dX6_isShown_21 rfl rfl ?_
        refine x_getR E dX6_isShown_22 F_RX6_95 sh_7 rf_7_11 25 rfl ?_
        refine x_iconst 26 rfl (v := 1) dX6_isShown_25 (by decide) ?_
        obtain ⟨⟨q2r, q2s⟩, q2h, h⟩ := x_bind h
        try dsimp only at h
        refine z_callV E [.int _] [] dX6_isShown_26 K_RX6_123 ⟨Nat.le_of_ble_eq_true rfl, Nat.le_of_ble_eq_true rfl⟩ sh_13 (by decide) rfl (c_Ru_has_13 E _ q2h) rfl rfl (Nat.le_of_ble_eq_true rfl) 29 rfl [.int _] rfl ?_
        refine x_if_ne 32 rfl 34 dX6_isShown_29 (by decide) (fun hc => ?_) (fun hc => ?_)
        · replace h := x_ifF hc h
          refine x_aload_n 35 rfl 1 dX6_isShown_34 rfl rfl ?_
          refine x_getR E dX6_isShown_35 F_RX6_95 sh_7 rf_7_11 38 rfl ?_
          refine x_getR E dX6_isShown_38 F_RX6_99 sh_13 rf_13_5 41 rfl ?_
          refine x_astore_n 42 rfl 3 dX6_isShown_41 rfl (by decide) [some (.ref 49), some (.ref 7), some (.int _), some (.ref 18)] rfl ?_
          refine x_aload_n 43 rfl 3 dX6_isShown_42 rfl rfl ?_
          refine x_iconst 44 rfl (v := 1) dX6_isShown_43 (by decide) ?_
          refine x_aload_n 45 rfl 0 dX6_isShown_44 rfl rfl ?_
          refine x_getR E dX6_isShown_45 F_RX6_41 sh_49 rf_49_9 48 rfl ?_
          refine x_iload_n 49 rfl 2 dX6_isShown_48 rfl rfl ?_
          obtain ⟨hz, h⟩ := x_ifn h
          refine x_iald E dX6_isShown_49 sh_54 _ rfl hz 50 rfl ?_
          refine x_mabs E dX6_isShown_50 K_RX6_116 (Nat.le_of_ble_eq_true rfl) (Nat.le_of_ble_eq_true rfl) 53 rfl ?_
          refine x_iast E dX6_isShown_53 sh_18 1 (by decide) (by decide) 54 rfl ?_
          refine x_aload_n 55 rfl 3 dX6_isShown_54 rfl rfl ?_
          refine x_iconst 56 rfl (v := 2) dX6_isShown_55 (by decide) ?_
          refine x_aload_n 57 rfl 0 dX6_isShown_56 rfl rfl ?_
          refine x_getR E dX6_isShown_57 F_RX6_9 sh_49 rf_49_0 60 rfl ?_
          refine x_iconst 61 rfl (v := 0) dX6_isShown_60 (by decide) ?_
          refine x_iald E dX6_isShown_61 sh_50 0 (by decide) (by decide) 62 rfl ?_
          refine x_iast E dX6_isShown_62 sh_18 2 (by decide) (by decide) 63 rfl ?_
          refine x_aload_n 64 rfl 3 dX6_isShown_63 rfl rfl ?_
          refine x_iconst 65 rfl (v := 0) dX6_isShown_64 (by decide) ?_
          refine x_aload_n 66 rfl 0 dX6_isShown_65 rfl rfl ?_
          refine x_aload_n 67 rfl 1 dX6_isShown_66 rfl rfl ?_
          refine x_iload_n 68 rfl 2 dX6_isShown_67 rfl rfl ?_
          refine x_aload_n 69 rfl 1 dX6_isShown_68 rfl rfl ?_
          refine x_iload_n 70 rfl 2 dX6_isShown_69 rfl rfl ?_
          refine x_iconst 71 rfl (v := 0) dX6_isShown_70 (by decide) ?_
          obtain ⟨⟨q5r, q5s⟩, q5h, h⟩ := x_bind h
          try dsimp only at h
          refine z_callV E [.int _, .int _] [.int _, .ref 7, .ref 49, .int _, .ref 18] dX6_isShown_71 K_RX6_66 ⟨Nat.le_of_ble_eq_true rfl, Nat.le_of_ble_eq_true rfl⟩ sh_7 (by decide) rfl (c_Sc_faceIn_7 E _ _ q5h) rfl rfl (Nat.le_of_ble_eq_true rfl) 74 rfl [.int _, .int _, .ref 7, .ref 49, .int _, .ref 18] rfl ?_
          obtain ⟨⟨q6r, q6s⟩, q6h, h⟩ := x_bind h
          try dsimp only at h
          refine z_callV E [.ref 7, .int _, .int _] [.int _, .ref 18] dX6_isShown_74 K_RX6_69 ⟨Nat.le_of_ble_eq_true rfl, Nat.le_of_ble_eq_true rfl⟩ sh_49 (by decide) rfl (c_Tr_placeIn_49_7 E _ _ q6h) rfl rfl (Nat.le_of_ble_eq_true rfl) 77 rfl [.int _, .int _, .ref 18] rfl ?_
          refine x_iast E dX6_isShown_77 sh_18 0 (by decide) (by decide) 78 rfl ?_
          refine x_aload_n 79 rfl 1 dX6_isShown_78 rfl rfl ?_
          refine x_getR E dX6_isShown_79 F_RX6_95 sh_7 rf_7_11 82 rfl ?_
          refine x_iconst 83 rfl (v := 1) dX6_isShown_82 (by decide) ?_
          obtain ⟨⟨q8r, q8s⟩, q8h, h⟩ := x_bind h
          try dsimp only at h
          refine z_callV E [.int _] [] dX6_isShown_83 K_RX6_104 ⟨Nat.le_of_ble_eq_true rfl, Nat.le_of_ble_eq_true rfl⟩ sh_13 (by decide) rfl (c_Ru_worth_13 E _ q8h) rfl rfl (Nat.le_of_ble_eq_true rfl) 86 rfl [.int _] rfl ?_
          refine x_if_le 89 rfl 93 dX6_isShown_86 (by decide) (fun hc => ?_) (fun hc => ?_)
          · replace h := x_ifT hc h
            refine x_iconst 94 rfl (v := 0) dX6_isShown_93 (by decide) ?_
            cases h
            exact x_zret (Or.inl rfl) dX6_isShown_94 rfl rfl rfl
          · replace h := x_ifF hc h
            refine x_iconst 90 rfl (v := 1) dX6_isShown_89 (by decide) ?_
            refine x_goto 94 dX6_isShown_90 (by decide) ?_
            cases h
            exact x_zret (Or.inr rfl) dX6_isShown_94 rfl rfl rfl
        · replace h := x_ifT hc h
          refine x_iconst 33 rfl (v := 1) dX6_isShown_32 (by decide) ?_
          cases h
          exact x_zret (Or.inr rfl) dX6_isShown_33 rfl rfl rfl
      · replace h := x_ifF hc h
        refine x_iconst 20 rfl (v := 0) dX6_isShown_19 (by decide) ?_
        cases h
        exact x_zret (Or.inl rfl) dX6_isShown_20 rfl rfl rfl
theorem KX_RX8_162 : x_KN2 RX8 130 162 134 (x_Xn 2) "no such tenth, or nothing such of it" := ⟨by decide +kernel, (List.mem_append_right _ (List.mem_of_getElem? (i := 881) (by decide +kernel))), (List.mem_append_right _ (List.mem_of_getElem? (i := 22) (by decide +kernel))), (List.mem_append_right _ (List.mem_of_getElem? (i := 936) (by decide +kernel))), (List.mem_of_getElem? (i := 516) (by decide +kernel)), AX_134, AO_130_134⟩
theorem K_RX8_164 : x_KV RX8 164 M_RH_walkAsSet 0 := ⟨⟨(List.mem_append_right _ (List.mem_of_getElem? (i := 448) (by decide +kernel))), (List.mem_append_right _ (List.mem_of_getElem? (i := 451) (by decide +kernel))), (List.mem_append_right _ (List.mem_of_getElem? (i := 1) (by decide +kernel))), ⟨by decide +kernel, by decide +kernel⟩, by decide +kernel⟩, (List.mem_append_right _ (List.mem_of_getElem? (i := 450) (by decide +kernel))), (List.mem_append_left _ (List.mem_of_getElem? (i := 5) (by decide +kernel)))⟩
theorem K_RX8_167 : x_KV RX8 167 M_Sc_faceIn 2 := ⟨⟨(List.mem_append_right _ (List.mem_of_getElem? (i := 937) (by decide +kernel))), (List.mem_append_right _ (List.mem_of_getElem? (i := 475) (by decide +kernel))), (List.mem_append_right _ (List.mem_of_getElem? (i := 3) (by decide +kernel))), ⟨by decide +kernel, by decide +kernel⟩, by decide +kernel⟩, (List.mem_append_right _ (List.mem_of_getElem? (i := 473) (by decide +kernel))), (List.mem_append_right _ (List.mem_of_getElem? (i := 474) (by decide +kernel)))⟩
theorem K_RX8_180 : x_KV RX8 180 M_Tr_isSharp 1 := ⟨⟨(List.mem_append_right _ (List.mem_of_getElem? (i := 938) (by decide +kernel))), (List.mem_append_right _ (List.mem_of_getElem? (i := 941) (by decide +kernel))), (List.mem_append_right _ (List.mem_of_getElem? (i := 6) (by decide +kernel))), ⟨by decide +kernel, by decide +kernel⟩, by decide +kernel⟩, (List.mem_append_right _ (List.mem_of_getElem? (i := 939) (by decide +kernel))), (List.mem_append_right _ (List.mem_of_getElem? (i := 940) (by decide +kernel)))⟩
theorem K_RX8_183 : x_KV RX8 183 M_Tr_isShown 2 := ⟨⟨(List.mem_append_right _ (List.mem_of_getElem? (i := 942) (by decide +kernel))), (List.mem_append_right _ (List.mem_of_getElem? (i := 945) (by decide +kernel))), (List.mem_append_right _ (List.mem_of_getElem? (i := 6) (by decide +kernel))), ⟨by decide +kernel, by decide +kernel⟩, by decide +kernel⟩, (List.mem_append_right _ (List.mem_of_getElem? (i := 943) (by decide +kernel))), (List.mem_append_right _ (List.mem_of_getElem? (i := 944) (by decide +kernel)))⟩
abbrev M_RH_tenth : xM := (yX8_tenth, cX8_tenth, 3, some .int, [])
theorem dX8_tenth_0 : decode cX8_tenth 0 = .ok (.aload_n 0, 1) := by decide +kernel
theorem dX8_tenth_1 : decode cX8_tenth 1 = .ok (.iload_n 1, 1) := by decide +kernel
theorem dX8_tenth_2 : decode cX8_tenth 2 = .ok (.invokevirtual 141, 3) := by decide +kernel
theorem dX8_tenth_5 : decode cX8_tenth 5 = .ok (.ifCond .eq 12, 3) := by decide +kernel
theorem dX8_tenth_8 : decode cX8_tenth 8 = .ok (.iload_n 2, 1) := by decide +kernel
theorem dX8_tenth_9 : decode cX8_tenth 9 = .ok (.ifCond .lt 8, 3) := by decide +kernel
theorem dX8_tenth_12 : decode cX8_tenth 12 = .ok (.iload_n 2, 1) := by decide +kernel
theorem dX8_tenth_13 : decode cX8_tenth 13 = .ok (.iconst 5, 1) := by decide +kernel
theorem dX8_tenth_14 : decode cX8_tenth 14 = .ok (.if_icmp .le 13, 3) := by decide +kernel
theorem dX8_tenth_17 : decode cX8_tenth 17 = .ok (.new 130, 3) := by decide +kernel
theorem dX8_tenth_20 : decode cX8_tenth 20 = .ok (.dup, 1) := by decide +kernel
theorem dX8_tenth_21 : decode cX8_tenth 21 = .ok (.ldc 162, 2) := by decide +kernel
theorem dX8_tenth_23 : decode cX8_tenth 23 = .ok (.invokespecial 134, 3) := by decide +kernel
theorem dX8_tenth_26 : decode cX8_tenth 26 = .ok (.athrow, 1) := by decide +kernel
theorem dX8_tenth_27 : decode cX8_tenth 27 = .ok (.aload_n 0, 1) := by decide +kernel
theorem dX8_tenth_28 : decode cX8_tenth 28 = .ok (.invokevirtual 164, 3) := by decide +kernel
theorem dX8_tenth_31 : decode cX8_tenth 31 = .ok (.iload_n 2, 1) := by decide +kernel
theorem dX8_tenth_32 : decode cX8_tenth 32 = .ok (.tableswitch 93 0 4 #[36, 46, 56, 66, 76], 36) := by decide +kernel
theorem dX8_tenth_68 : decode cX8_tenth 68 = .ok (.aload_n 0, 1) := by decide +kernel
theorem dX8_tenth_69 : decode cX8_tenth 69 = .ok (.getfield 27, 3) := by decide +kernel
theorem dX8_tenth_72 : decode cX8_tenth 72 = .ok (.iload_n 1, 1) := by decide +kernel
theorem dX8_tenth_73 : decode cX8_tenth 73 = .ok (.iconst 0, 1) := by decide +kernel
theorem dX8_tenth_74 : decode cX8_tenth 74 = .ok (.invokevirtual 167, 3) := by decide +kernel
theorem dX8_tenth_77 : decode cX8_tenth 77 = .ok (.ireturn, 1) := by decide +kernel
theorem dX8_tenth_78 : decode cX8_tenth 78 = .ok (.aload_n 0, 1) := by decide +kernel
theorem dX8_tenth_79 : decode cX8_tenth 79 = .ok (.getfield 51, 3) := by decide +kernel
theorem dX8_tenth_82 : decode cX8_tenth 82 = .ok (.getfield 171, 3) := by decide +kernel
theorem dX8_tenth_85 : decode cX8_tenth 85 = .ok (.iload_n 1, 1) := by decide +kernel
theorem dX8_tenth_86 : decode cX8_tenth 86 = .ok (.iaload, 1) := by decide +kernel
theorem dX8_tenth_87 : decode cX8_tenth 87 = .ok (.ireturn, 1) := by decide +kernel
theorem dX8_tenth_88 : decode cX8_tenth 88 = .ok (.aload_n 0, 1) := by decide +kernel
theorem dX8_tenth_89 : decode cX8_tenth 89 = .ok (.getfield 51, 3) := by decide +kernel
theorem dX8_tenth_92 : decode cX8_tenth 92 = .ok (.getfield 174, 3) := by decide +kernel
theorem dX8_tenth_95 : decode cX8_tenth 95 = .ok (.iload_n 1, 1) := by decide +kernel
theorem dX8_tenth_96 : decode cX8_tenth 96 = .ok (.iaload, 1) := by decide +kernel
theorem dX8_tenth_97 : decode cX8_tenth 97 = .ok (.ireturn, 1) := by decide +kernel
theorem dX8_tenth_98 : decode cX8_tenth 98 = .ok (.aload_n 0, 1) := by decide +kernel
theorem dX8_tenth_99 : decode cX8_tenth 99 = .ok (.getfield 51, 3) := by decide +kernel
theorem dX8_tenth_102 : decode cX8_tenth 102 = .ok (.getfield 177, 3) := by decide +kernel
theorem dX8_tenth_105 : decode cX8_tenth 105 = .ok (.iload_n 1, 1) := by decide +kernel
theorem dX8_tenth_106 : decode cX8_tenth 106 = .ok (.iaload, 1) := by decide +kernel
theorem dX8_tenth_107 : decode cX8_tenth 107 = .ok (.ireturn, 1) := by decide +kernel
theorem dX8_tenth_108 : decode cX8_tenth 108 = .ok (.aload_n 0, 1) := by decide +kernel
theorem dX8_tenth_109 : decode cX8_tenth 109 = .ok (.getfield 51, 3) := by decide +kernel
theorem dX8_tenth_112 : decode cX8_tenth 112 = .ok (.iload_n 1, 1) := by decide +kernel
theorem dX8_tenth_113 : decode cX8_tenth 113 = .ok (.invokevirtual 180, 3) := by decide +kernel
theorem dX8_tenth_116 : decode cX8_tenth 116 = .ok (.ifCond .eq 7, 3) := by decide +kernel
theorem dX8_tenth_119 : decode cX8_tenth 119 = .ok (.iconst 1, 1) := by decide +kernel
theorem dX8_tenth_120 : decode cX8_tenth 120 = .ok (.goto 4, 3) := by decide +kernel
theorem dX8_tenth_123 : decode cX8_tenth 123 = .ok (.iconst 0, 1) := by decide +kernel
theorem dX8_tenth_124 : decode cX8_tenth 124 = .ok (.ireturn, 1) := by decide +kernel
theorem dX8_tenth_125 : decode cX8_tenth 125 = .ok (.aload_n 0, 1) := by decide +kernel
theorem dX8_tenth_126 : decode cX8_tenth 126 = .ok (.getfield 51, 3) := by decide +kernel
theorem dX8_tenth_129 : decode cX8_tenth 129 = .ok (.aload_n 0, 1) := by decide +kernel
theorem dX8_tenth_130 : decode cX8_tenth 130 = .ok (.getfield 27, 3) := by decide +kernel
theorem dX8_tenth_133 : decode cX8_tenth 133 = .ok (.iload_n 1, 1) := by decide +kernel
theorem dX8_tenth_134 : decode cX8_tenth 134 = .ok (.invokevirtual 183, 3) := by decide +kernel
theorem dX8_tenth_137 : decode cX8_tenth 137 = .ok (.ifCond .eq 7, 3) := by decide +kernel
theorem dX8_tenth_140 : decode cX8_tenth 140 = .ok (.iconst 1, 1) := by decide +kernel
theorem dX8_tenth_141 : decode cX8_tenth 141 = .ok (.goto 4, 3) := by decide +kernel
theorem dX8_tenth_144 : decode cX8_tenth 144 = .ok (.iconst 0, 1) := by decide +kernel
theorem dX8_tenth_145 : decode cX8_tenth 145 = .ok (.ireturn, 1) := by decide +kernel
def f_RH_tenth_0 (v1 : Int32) (v2 : Int32) (σ : xS) : Option ((Int32 ⊕ Nat) × xS) :=
  (f_RH_isTenth_0 v1 σ).bind fun q1 =>
  if q1.1 = 0 then
    some (.inr 2, q1.2)
  else
    if v2 < 0 then
      some (.inr 2, q1.2)
    else
      if v2 ≤ (5 : Int32) then
        (f_RH_walkAsSet_0  q1.2).bind fun q2 =>
        if v2 = (0 : Int32) then
          (f_Sc_faceIn_7 v1 (0 : Int32) q2.2).bind fun q3 =>
          some (.inl q3.1, q3.2)
        else if v2 = (1 : Int32) then
          if v1 < 0 ∨ 601 ≤ v1.toNatClampNeg then none else
          some (.inl (q2.2.1 51 v1.toNatClampNeg), q2.2)
        else if v2 = (2 : Int32) then
          if v1 < 0 ∨ 601 ≤ v1.toNatClampNeg then none else
          some (.inl (q2.2.1 53 v1.toNatClampNeg), q2.2)
        else if v2 = (3 : Int32) then
          if v1 < 0 ∨ 601 ≤ v1.toNatClampNeg then none else
          some (.inl (q2.2.1 54 v1.toNatClampNeg), q2.2)
        else if v2 = (4 : Int32) then
          (f_Tr_isSharp_49 v1 q2.2).bind fun q4 =>
          if q4.1 = 0 then
            some (.inl (0 : Int32), q4.2)
          else
            some (.inl (1 : Int32), q4.2)
        else 
          (f_Tr_isShown_49_7 v1 q2.2).bind fun q5 =>
          if q5.1 = 0 then
            some (.inl (0 : Int32), q5.2)
          else
            some (.inl (1 : Int32), q5.2)
      else
        some (.inr 2, q1.2)
set_option maxHeartbeats 4000000 in
set_option maxRecDepth 100000 in
theorem c_RH_tenth_0 {l : Launch} {s0 : State} {a0 : Array Value} {D : va_G} {cA : Nat → ClassId} {sp : Nat → Nat} (E : x_En CL l s0 a0 D cA sp) (v1 : Int32) (v2 : Int32) {σ : xS} {r : Int32 ⊕ Nat} {σ1 : xS} (h : f_RH_tenth_0 v1 v2 σ = some (r, σ1)) : oC l s0 D cA sp 7 M_RH_tenth [.ref 0, .int v1, .int v2] σ (x_oi r) σ1 := by
  unfold f_RH_tenth_0 at h
  try dsimp only at h
  refine x_enterO [some (.ref 0), some (.int v1), some (.int v2)] rfl (Nat.le_of_ble_eq_true rfl) (by decide +kernel) rfl ?_
  refine x_aload_n 1 rfl 0 dX8_tenth_0 rfl rfl ?_
  refine x_iload_n 2 rfl 1 dX8_tenth_1 rfl rfl ?_
  obtain ⟨⟨q1r, q1s⟩, q1h, h⟩ := x_bind h
  try dsimp only at h
  refine z_callV E [.int _] [] dX8_tenth_2 K_RX8_141 ⟨Nat.le_of_ble_eq_true rfl, Nat.le_of_ble_eq_true rfl⟩ sh_0 (by decide) rfl (c_RH_isTenth_0 E _ q1h) rfl rfl (Nat.le_of_ble_eq_true rfl) 5 rfl [.int _] rfl ?_
  refine x_if_eq 8 rfl 17 dX8_tenth_5 (by decide) (fun hc => ?_) (fun hc => ?_)
  · replace h := x_ifT hc h
    cases h
    exact x_throwN E KU_ (k := 2) KX_RX8_162 rfl dX8_tenth_17 dX8_tenth_20 dX8_tenth_21 dX8_tenth_23 dX8_tenth_26 (Nat.le_of_ble_eq_true rfl)
  · replace h := x_ifF hc h
    refine x_iload_n 9 rfl 2 dX8_tenth_8 rfl rfl ?_
    refine x_if_lt 12 rfl 17 dX8_tenth_9 (by decide) (fun hc => ?_) (fun hc => ?_)
    · replace h := x_ifT hc h
      cases h
      exact x_throwN E KU_ (k := 2) KX_RX8_162 rfl dX8_tenth_17 dX8_tenth_20 dX8_tenth_21 dX8_tenth_23 dX8_tenth_26 (Nat.le_of_ble_eq_true rfl)
    · replace h := x_ifF hc h
      refine x_iload_n 13 rfl 2 dX8_tenth_12 rfl rfl ?_
      refine x_iconst 14 rfl (v := 5) dX8_tenth_13 (by decide) ?_
      refine x_icmp_le 17 rfl 27 dX8_tenth_14 (by decide) (fun hc => ?_) (fun hc => ?_)
      · replace h := x_ifT hc h
        refine x_aload_n 28 rfl 0 dX8_tenth_27 rfl rfl ?_
        obtain ⟨⟨q2r, q2s⟩, q2h, h⟩ := x_bind h
        try dsimp only at h
        refine z_callV E [] [] dX8_tenth_28 K_RX8_164 ⟨Nat.le_of_ble_eq_true rfl, Nat.le_of_ble_eq_true rfl⟩ sh_0 (by decide) rfl (c_RH_walkAsSet_0 E  q2h) rfl rfl (Nat.le_of_ble_eq_true rfl) 31 rfl [] rfl ?_
        refine x_iload_n 32 rfl 2 dX8_tenth_31 rfl rfl ?_
        refine x_case (0) (fun hc0 => ?_) (fun hc0 => ?_)
        · replace h := x_ifT hc0 h
          refine x_tabIn (off := 36) 68 dX8_tenth_32 (by rw [hc0]; decide) (by rw [hc0]; decide) (by rw [hc0]; rfl) (by decide) ?_
          refine x_aload_n 69 rfl 0 dX8_tenth_68 rfl rfl ?_
          refine x_getR E dX8_tenth_69 F_RX8_27 sh_0 rf_0_3 72 rfl ?_
          refine x_iload_n 73 rfl 1 dX8_tenth_72 rfl rfl ?_
          refine x_iconst 74 rfl (v := 0) dX8_tenth_73 (by decide) ?_
          obtain ⟨⟨q3r, q3s⟩, q3h, h⟩ := x_bind h
          try dsimp only at h
          refine z_callV E [.int _, .int _] [] dX8_tenth_74 K_RX8_167 ⟨Nat.le_of_ble_eq_true rfl, Nat.le_of_ble_eq_true rfl⟩ sh_7 (by decide) rfl (c_Sc_faceIn_7 E _ _ q3h) rfl rfl (Nat.le_of_ble_eq_true rfl) 77 rfl [.int _] rfl ?_
          cases h
          exact x_Oret (x_iret dX8_tenth_77 rfl rfl rfl)
        replace h := x_ifF hc0 h
        refine x_case (1) (fun hc1 => ?_) (fun hc1 => ?_)
        · replace h := x_ifT hc1 h
          refine x_tabIn (off := 46) 78 dX8_tenth_32 (by rw [hc1]; decide) (by rw [hc1]; decide) (by rw [hc1]; rfl) (by decide) ?_
          refine x_aload_n 79 rfl 0 dX8_tenth_78 rfl rfl ?_
          refine x_getR E dX8_tenth_79 F_RX8_51 sh_0 rf_0_8 82 rfl ?_
          refine x_getR E dX8_tenth_82 F_RX8_171 sh_49 rf_49_6 85 rfl ?_
          refine x_iload_n 86 rfl 1 dX8_tenth_85 rfl rfl ?_
          obtain ⟨hz, h⟩ := x_ifn h
          refine x_iald E dX8_tenth_86 sh_51 _ rfl hz 87 rfl ?_
          cases h
          exact x_Oret (x_iret dX8_tenth_87 rfl rfl rfl)
        replace h := x_ifF hc1 h
        refine x_case (2) (fun hc2 => ?_) (fun hc2 => ?_)
        · replace h := x_ifT hc2 h
          refine x_tabIn (off := 56) 88 dX8_tenth_32 (by rw [hc2]; decide) (by rw [hc2]; decide) (by rw [hc2]; rfl) (by decide) ?_
          refine x_aload_n 89 rfl 0 dX8_tenth_88 rfl rfl ?_
          refine x_getR E dX8_tenth_89 F_RX8_51 sh_0 rf_0_8 92 rfl ?_
          refine x_getR E dX8_tenth_92 F_RX8_174 sh_49 rf_49_8 95 rfl ?_
          refine x_iload_n 96 rfl 1 dX8_tenth_95 rfl rfl ?_
          obtain ⟨hz, h⟩ := x_ifn h
          refine x_iald E dX8_tenth_96 sh_53 _ rfl hz 97 rfl ?_
          cases h
          exact x_Oret (x_iret dX8_tenth_97 rfl rfl rfl)
        replace h := x_ifF hc2 h
        refine x_case (3) (fun hc3 => ?_) (fun hc3 => ?_)
        · replace h := x_ifT hc3 h
          refine x_tabIn (off := 66) 98 dX8_tenth_32 (by rw [hc3]; decide) (by rw [hc3]; decide) (by rw [hc3]; rfl) (by decide) ?_
          refine x_aload_n 99 rfl 0 dX8_tenth_98 rfl rfl ?_
          refine x_getR E dX8_tenth_99 F_RX8_51 sh_0 rf_0_8 102 rfl ?_
          refine x_getR E dX8_tenth_102 F_RX8_177 sh_49 rf_49_9 105 rfl ?_
          refine x_iload_n 106 rfl 1 dX8_tenth_105 rfl rfl ?_
          obtain ⟨hz, h⟩ := x_ifn h
          refine x_iald E dX8_tenth_106 sh_54 _ rfl hz 107 rfl ?_
          cases h
          exact x_Oret (x_iret dX8_tenth_107 rfl rfl rfl)
        replace h := x_ifF hc3 h
        refine x_case (4) (fun hc4 => ?_) (fun hc4 => ?_)
        · replace h := x_ifT hc4 h
          refine x_tabIn (off := 76) 108 dX8_tenth_32 (by rw [hc4]; decide) (by rw [hc4]; decide) (by rw [hc4]; rfl) (by decide) ?_
          refine x_aload_n 109 rfl 0 dX8_tenth_108 rfl rfl ?_
          refine x_getR E dX8_tenth_109 F_RX8_51 sh_0 rf_0_8 112 rfl ?_
          refine x_iload_n 113 rfl 1 dX8_tenth_112 rfl rfl ?_
          obtain ⟨⟨q4r, q4s⟩, q4h, h⟩ := x_bind h
          try dsimp only at h
          refine z_callV E [.int _] [] dX8_tenth_113 K_RX8_180 ⟨Nat.le_of_ble_eq_true rfl, Nat.le_of_ble_eq_true rfl⟩ sh_49 (by decide) rfl (c_Tr_isSharp_49 E _ q4h) rfl rfl (Nat.le_of_ble_eq_true rfl) 116 rfl [.int _] rfl ?_
          refine x_if_eq 119 rfl 123 dX8_tenth_116 (by decide) (fun hc => ?_) (fun hc => ?_)
          · replace h := x_ifT hc h
            refine x_iconst 124 rfl (v := 0) dX8_tenth_123 (by decide) ?_
            cases h
            exact x_Oret (x_iret dX8_tenth_124 rfl rfl rfl)
          · replace h := x_ifF hc h
            refine x_iconst 120 rfl (v := 1) dX8_tenth_119 (by decide) ?_
            refine x_goto 124 dX8_tenth_120 (by decide) ?_
            cases h
            exact x_Oret (x_iret dX8_tenth_124 rfl rfl rfl)
        replace h := x_ifF hc4 h
        refine x_tabOut 125 dX8_tenth_32 (by have g0 := x_toNe hc0 (k := 0) (by decide); have g1 := x_toNe hc1 (k := 1) (by decide); have g2 := x_toNe hc2 (k := 2) (by decide); have g3 := x_toNe hc3 (k := 3) (by decide); have g4 := x_toNe hc4 (k := 4) (by decide); omega) (by decide) ?_
        refine x_aload_n 126 rfl 0 dX8_tenth_125 rfl rfl ?_
        refine x_getR E dX8_tenth_126 F_RX8_51 sh_0 rf_0_8 129 rfl ?_
        refine x_aload_n 130 rfl 0 dX8_tenth_129 rfl rfl ?_
        refine x_getR E dX8_tenth_130 F_RX8_27 sh_0 rf_0_3 133 rfl ?_
        refine x_iload_n 134 rfl 1 dX8_tenth_133 rfl rfl ?_
        obtain ⟨⟨q5r, q5s⟩, q5h, h⟩ := x_bind h
        try dsimp only at h
        refine z_callV E [.ref 7, .int _] [] dX8_tenth_134 K_RX8_183 ⟨Nat.le_of_ble_eq_true rfl, Nat.le_of_ble_eq_true rfl⟩ sh_49 (by decide) rfl (c_Tr_isShown_49_7 E _ q5h) rfl rfl (Nat.le_of_ble_eq_true rfl) 137 rfl [.int _] rfl ?_
        refine x_if_eq 140 rfl 144 dX8_tenth_137 (by decide) (fun hc => ?_) (fun hc => ?_)
        · replace h := x_ifT hc h
          refine x_iconst 145 rfl (v := 0) dX8_tenth_144 (by decide) ?_
          cases h
          exact x_Oret (x_iret dX8_tenth_145 rfl rfl rfl)
        · replace h := x_ifF hc h
          refine x_iconst 141 rfl (v := 1) dX8_tenth_140 (by decide) ?_
          refine x_goto 145 dX8_tenth_141 (by decide) ?_
          cases h
          exact x_Oret (x_iret dX8_tenth_145 rfl rfl rfl)
      · replace h := x_ifF hc h
        cases h
        exact x_throwN E KU_ (k := 2) KX_RX8_162 rfl dX8_tenth_17 dX8_tenth_20 dX8_tenth_21 dX8_tenth_23 dX8_tenth_26 (Nat.le_of_ble_eq_true rfl)
abbrev M_Tr_sharpBy : xM := (yX6_sharpBy, cX6_sharpBy, 4, some .int, [])
theorem dX6_sharpBy_0 : decode cX6_sharpBy 0 = .ok (.iconst 0, 1) := by decide +kernel
theorem dX6_sharpBy_1 : decode cX6_sharpBy 1 = .ok (.istore_n 2, 1) := by decide +kernel
theorem dX6_sharpBy_2 : decode cX6_sharpBy 2 = .ok (.iconst 0, 1) := by decide +kernel
theorem dX6_sharpBy_3 : decode cX6_sharpBy 3 = .ok (.istore_n 3, 1) := by decide +kernel
theorem dX6_sharpBy_4 : decode cX6_sharpBy 4 = .ok (.iload_n 3, 1) := by decide +kernel
theorem dX6_sharpBy_5 : decode cX6_sharpBy 5 = .ok (.aload_n 0, 1) := by decide +kernel
theorem dX6_sharpBy_6 : decode cX6_sharpBy 6 = .ok (.getfield 28, 3) := by decide +kernel
theorem dX6_sharpBy_9 : decode cX6_sharpBy 9 = .ok (.if_icmp .gt 30, 3) := by decide +kernel
theorem dX6_sharpBy_12 : decode cX6_sharpBy 12 = .ok (.iload_n 2, 1) := by decide +kernel
theorem dX6_sharpBy_13 : decode cX6_sharpBy 13 = .ok (.aload_n 0, 1) := by decide +kernel
theorem dX6_sharpBy_14 : decode cX6_sharpBy 14 = .ok (.getfield 41, 3) := by decide +kernel
theorem dX6_sharpBy_17 : decode cX6_sharpBy 17 = .ok (.iload_n 3, 1) := by decide +kernel
theorem dX6_sharpBy_18 : decode cX6_sharpBy 18 = .ok (.iaload, 1) := by decide +kernel
theorem dX6_sharpBy_19 : decode cX6_sharpBy 19 = .ok (.invokestatic 116, 3) := by decide +kernel
theorem dX6_sharpBy_22 : decode cX6_sharpBy 22 = .ok (.iload_n 1, 1) := by decide +kernel
theorem dX6_sharpBy_23 : decode cX6_sharpBy 23 = .ok (.if_icmp .gt 7, 3) := by decide +kernel
theorem dX6_sharpBy_26 : decode cX6_sharpBy 26 = .ok (.iconst 1, 1) := by decide +kernel
theorem dX6_sharpBy_27 : decode cX6_sharpBy 27 = .ok (.goto 4, 3) := by decide +kernel
theorem dX6_sharpBy_30 : decode cX6_sharpBy 30 = .ok (.iconst 0, 1) := by decide +kernel
theorem dX6_sharpBy_31 : decode cX6_sharpBy 31 = .ok (.iadd, 1) := by decide +kernel
theorem dX6_sharpBy_32 : decode cX6_sharpBy 32 = .ok (.istore_n 2, 1) := by decide +kernel
theorem dX6_sharpBy_33 : decode cX6_sharpBy 33 = .ok (.iinc 3 1, 3) := by decide +kernel
theorem dX6_sharpBy_36 : decode cX6_sharpBy 36 = .ok (.goto (-32), 3) := by decide +kernel
theorem dX6_sharpBy_39 : decode cX6_sharpBy 39 = .ok (.iload_n 2, 1) := by decide +kernel
theorem dX6_sharpBy_40 : decode cX6_sharpBy 40 = .ok (.ireturn, 1) := by decide +kernel
def f_Tr_sharpBy_49_L4 (v1 : Int32) (a : Int32 × Int32 × xS) : Option ((Int32 × Int32 × xS) ⊕ (Int32 × Int32 × xS)) :=
  let v2 := a.1; let v3 := a.2.1; let σ := a.2.2;
  if σ.1 49 5 < v3 then
    some (.inl (v2, v3, σ))
  else
    if v3 < 0 ∨ 601 ≤ v3.toNatClampNeg then none else
    if v1 < (if 0 ≤ σ.1 54 v3.toNatClampNeg then σ.1 54 v3.toNatClampNeg else 0 - σ.1 54 v3.toNatClampNeg) then
      let w1 := (v2 + (0 : Int32))
      let w2 := v3 + (1 : Int32)
      some (.inr (w1, w2, σ))
    else
      let w3 := (v2 + (1 : Int32))
      let w4 := v3 + (1 : Int32)
      some (.inr (w3, w4, σ))
def f_Tr_sharpBy_49 (v1 : Int32) (σ : xS) : Option (Int32 × xS) :=
  (x_it (f_Tr_sharpBy_49_L4 v1) 10000 ((0 : Int32), (0 : Int32), σ)).bind fun b5 =>
  some (b5.1, b5.2.2)
set_option maxHeartbeats 4000000 in
set_option maxRecDepth 100000 in
theorem b_Tr_sharpBy_49_L4 {l : Launch} {s0 : State} {a0 : Array Value} {D : va_G} {cA : Nat → ClassId} {sp : Nat → Nat} (E : x_En CL l s0 a0 D cA sp) (v1 : Int32) {r : Int32} {σ1 : xS} (a : Int32 × Int32 × xS) (o : (Int32 × Int32 × xS) ⊕ (Int32 × Int32 × xS)) (h : f_Tr_sharpBy_49_L4 v1 a = some o) (hK : ∀ b, o = .inl b → zW l s0 D cA sp (zQ s0 D cA sp (some (.int r)) σ1) (x_rm 0 0 0) M_Tr_sharpBy 0 0 39 [none, none, some (.int b.1), none] [] b.2.2) (hG : ∀ a', o = .inr a' → zW l s0 D cA sp (zQ s0 D cA sp (some (.int r)) σ1) (x_rm 0 0 0) M_Tr_sharpBy 0 0 4 [some (.ref 49), some (.int v1), some (.int a'.1), some (.int a'.2.1)] [] a'.2.2) : zW l s0 D cA sp (zQ s0 D cA sp (some (.int r)) σ1) (x_rm 0 0 0) M_Tr_sharpBy 0 0 4 [some (.ref 49), some (.int v1), some (.int a.1), some (.int a.2.1)] [] a.2.2 := by
  obtain ⟨v2, v3, σ⟩ := a
  unfold f_Tr_sharpBy_49_L4 at h
  try dsimp only at h ⊢
  refine x_iload_n 5 rfl 3 dX6_sharpBy_4 rfl rfl ?_
  refine x_aload_n 6 rfl 0 dX6_sharpBy_5 rfl rfl ?_
  refine x_getI E dX6_sharpBy_6 F_RX6_28 sh_49 9 rfl ?_
  refine x_icmp_gt 12 rfl 39 dX6_sharpBy_9 (by decide) (fun hc => ?_) (fun hc => ?_)
  · replace h := x_ifT hc h
    cases h
    exact x_wk (x_le_n (x_le_n (x_le_s (x_le_n x_le_0)))) (hK (_, _, _) rfl)
  · replace h := x_ifF hc h
    refine x_iload_n 13 rfl 2 dX6_sharpBy_12 rfl rfl ?_
    refine x_aload_n 14 rfl 0 dX6_sharpBy_13 rfl rfl ?_
    refine x_getR E dX6_sharpBy_14 F_RX6_41 sh_49 rf_49_9 17 rfl ?_
    refine x_iload_n 18 rfl 3 dX6_sharpBy_17 rfl rfl ?_
    obtain ⟨hz, h⟩ := x_ifn h
    refine x_iald E dX6_sharpBy_18 sh_54 _ rfl hz 19 rfl ?_
    refine x_mabs E dX6_sharpBy_19 K_RX6_116 (Nat.le_of_ble_eq_true rfl) (Nat.le_of_ble_eq_true rfl) 22 rfl ?_
    refine x_iload_n 23 rfl 1 dX6_sharpBy_22 rfl rfl ?_
    refine x_icmp_gt 26 rfl 30 dX6_sharpBy_23 (by decide) (fun hc => ?_) (fun hc => ?_)
    · replace h := x_ifT hc h
      refine x_iconst 31 rfl (v := 0) dX6_sharpBy_30 (by decide) ?_
      refine x_iadd 32 rfl dX6_sharpBy_31 ?_
      refine x_istore_n 33 rfl 2 dX6_sharpBy_32 rfl (by decide) [some (.ref 49), some (.int _), some (.int _), some (.int _)] rfl ?_
      refine x_iinc 36 rfl (1) dX6_sharpBy_33 rfl (by decide) (by decide) [some (.ref 49), some (.int _), some (.int _), some (.int _)] rfl ?_
      refine x_goto 4 dX6_sharpBy_36 (by decide) ?_
      cases h
      exact x_wk (x_le_s (x_le_s (x_le_s (x_le_s x_le_0)))) (hG (_, _, _) rfl)
    · replace h := x_ifF hc h
      refine x_iconst 27 rfl (v := 1) dX6_sharpBy_26 (by decide) ?_
      refine x_goto 31 dX6_sharpBy_27 (by decide) ?_
      refine x_iadd 32 rfl dX6_sharpBy_31 ?_
      refine x_istore_n 33 rfl 2 dX6_sharpBy_32 rfl (by decide) [some (.ref 49), some (.int _), some (.int _), some (.int _)] rfl ?_
      refine x_iinc 36 rfl (1) dX6_sharpBy_33 rfl (by decide) (by decide) [some (.ref 49), some (.int _), some (.int _), some (.int _)] rfl ?_
      refine x_goto 4 dX6_sharpBy_36 (by decide) ?_
      cases h
      exact x_wk (x_le_s (x_le_s (x_le_s (x_le_s x_le_0)))) (hG (_, _, _) rfl)
set_option maxHeartbeats 4000000 in
set_option maxRecDepth 100000 in
theorem c_Tr_sharpBy_49 {l : Launch} {s0 : State} {a0 : Array Value} {D : va_G} {cA : Nat → ClassId} {sp : Nat → Nat} (E : x_En CL l s0 a0 D cA sp) (v1 : Int32) {σ : xS} {r : Int32} {σ1 : xS} (h : f_Tr_sharpBy_49 v1 σ = some (r, σ1)) : zC l s0 D cA sp 0 M_Tr_sharpBy [.ref 49, .int v1] σ (some (.int r)) σ1 := by
  unfold f_Tr_sharpBy_49 at h
  try dsimp only at h
  refine x_enter [some (.ref 49), some (.int v1), none, none] rfl (Nat.le_of_ble_eq_true rfl) (by decide +kernel) rfl ?_
  refine x_iconst 1 rfl (v := 0) dX6_sharpBy_0 (by decide) ?_
  refine x_istore_n 2 rfl 2 dX6_sharpBy_1 rfl (by decide) [some (.ref 49), some (.int _), some (.int _), none] rfl ?_
  refine x_iconst 3 rfl (v := 0) dX6_sharpBy_2 (by decide) ?_
  refine x_istore_n 4 rfl 3 dX6_sharpBy_3 rfl (by decide) [some (.ref 49), some (.int _), some (.int _), some (.int _)] rfl ?_
  obtain ⟨b5, b5h, h⟩ := x_bind h
  try dsimp only at h
  refine x_wk (x_le_s (x_le_s (x_le_s (x_le_s x_le_0)))) (x_loop (fun a o h hK hG => b_Tr_sharpBy_49_L4 (r := r) (σ1 := σ1) E _ a o h hK hG) _ _ _ b5h ?_)
  refine x_iload_n 40 rfl 2 dX6_sharpBy_39 rfl rfl ?_
  cases h
  exact x_iret dX6_sharpBy_40 rfl rfl rfl
theorem K_RX8_197 : x_KV RX8 197 M_Tr_sharpBy 1 := ⟨⟨(List.mem_append_right _ (List.mem_of_getElem? (i := 505) (by decide +kernel))), (List.mem_append_right _ (List.mem_of_getElem? (i := 508) (by decide +kernel))), (List.mem_append_right _ (List.mem_of_getElem? (i := 6) (by decide +kernel))), ⟨by decide +kernel, by decide +kernel⟩, by decide +kernel⟩, (List.mem_append_right _ (List.mem_of_getElem? (i := 506) (by decide +kernel))), (List.mem_append_right _ (List.mem_of_getElem? (i := 507) (by decide +kernel)))⟩
abbrev M_RH_sharpAsTried : xM := (yX8_sharpAsTried, cX8_sharpAsTried, 1, some .int, [])
theorem dX8_sharpAsTried_0 : decode cX8_sharpAsTried 0 = .ok (.aload_n 0, 1) := by decide +kernel
theorem dX8_sharpAsTried_1 : decode cX8_sharpAsTried 1 = .ok (.getfield 51, 3) := by decide +kernel
theorem dX8_sharpAsTried_4 : decode cX8_sharpAsTried 4 = .ok (.aload_n 0, 1) := by decide +kernel
theorem dX8_sharpAsTried_5 : decode cX8_sharpAsTried 5 = .ok (.getfield 27, 3) := by decide +kernel
theorem dX8_sharpAsTried_8 : decode cX8_sharpAsTried 8 = .ok (.invokevirtual 190, 3) := by decide +kernel
theorem dX8_sharpAsTried_11 : decode cX8_sharpAsTried 11 = .ok (.aload_n 0, 1) := by decide +kernel
theorem dX8_sharpAsTried_12 : decode cX8_sharpAsTried 12 = .ok (.getfield 51, 3) := by decide +kernel
theorem dX8_sharpAsTried_15 : decode cX8_sharpAsTried 15 = .ok (.aload_n 0, 1) := by decide +kernel
theorem dX8_sharpAsTried_16 : decode cX8_sharpAsTried 16 = .ok (.getfield 51, 3) := by decide +kernel
theorem dX8_sharpAsTried_19 : decode cX8_sharpAsTried 19 = .ok (.getfield 196, 3) := by decide +kernel
theorem dX8_sharpAsTried_22 : decode cX8_sharpAsTried 22 = .ok (.iconst 0, 1) := by decide +kernel
theorem dX8_sharpAsTried_23 : decode cX8_sharpAsTried 23 = .ok (.iaload, 1) := by decide +kernel
theorem dX8_sharpAsTried_24 : decode cX8_sharpAsTried 24 = .ok (.invokevirtual 197, 3) := by decide +kernel
theorem dX8_sharpAsTried_27 : decode cX8_sharpAsTried 27 = .ok (.ireturn, 1) := by decide +kernel
def f_RH_sharpAsTried_0  (σ : xS) : Option (Int32 × xS) :=
  (f_Tr_walk_49_7  σ).bind fun q1 =>
  (f_Tr_sharpBy_49 (q1.2.1 50 0) q1.2).bind fun q2 =>
  some (q2.1, q2.2)
set_option maxHeartbeats 4000000 in
set_option maxRecDepth 100000 in
theorem c_RH_sharpAsTried_0 {l : Launch} {s0 : State} {a0 : Array Value} {D : va_G} {cA : Nat → ClassId} {sp : Nat → Nat} (E : x_En CL l s0 a0 D cA sp)  {σ : xS} {r : Int32} {σ1 : xS} (h : f_RH_sharpAsTried_0  σ = some (r, σ1)) : zC l s0 D cA sp 6 M_RH_sharpAsTried [.ref 0] σ (some (.int r)) σ1 := by
  unfold f_RH_sharpAsTried_0 at h
  try dsimp only at h
  refine x_enter [some (.ref 0)] rfl (Nat.le_of_ble_eq_true rfl) (by decide +kernel) rfl ?_
  refine x_aload_n 1 rfl 0 dX8_sharpAsTried_0 rfl rfl ?_
  refine x_getR E dX8_sharpAsTried_1 F_RX8_51 sh_0 rf_0_8 4 rfl ?_
  refine x_aload_n 5 rfl 0 dX8_sharpAsTried_4 rfl rfl ?_
  refine x_getR E dX8_sharpAsTried_5 F_RX8_27 sh_0 rf_0_3 8 rfl ?_
  obtain ⟨⟨q1r, q1s⟩, q1h, h⟩ := x_bind h
  try dsimp only at h
  refine z_callV E [.ref 7] [] dX8_sharpAsTried_8 K_RX8_190 ⟨Nat.le_of_ble_eq_true rfl, Nat.le_of_ble_eq_true rfl⟩ sh_49 (by decide) rfl (c_Tr_walk_49_7 E  q1h) rfl rfl (Nat.le_of_ble_eq_true rfl) 11 rfl [] rfl ?_
  refine x_aload_n 12 rfl 0 dX8_sharpAsTried_11 rfl rfl ?_
  refine x_getR E dX8_sharpAsTried_12 F_RX8_51 sh_0 rf_0_8 15 rfl ?_
  refine x_aload_n 16 rfl 0 dX8_sharpAsTried_15 rfl rfl ?_
  refine x_getR E dX8_sharpAsTried_16 F_RX8_51 sh_0 rf_0_8 19 rfl ?_
  refine x_getR E dX8_sharpAsTried_19 F_RX8_196 sh_49 rf_49_0 22 rfl ?_
  refine x_iconst 23 rfl (v := 0) dX8_sharpAsTried_22 (by decide) ?_
  refine x_iald E dX8_sharpAsTried_23 sh_50 0 (by decide) (by decide) 24 rfl ?_
  obtain ⟨⟨q2r, q2s⟩, q2h, h⟩ := x_bind h
  try dsimp only at h
  refine z_callV E [.int _] [] dX8_sharpAsTried_24 K_RX8_197 ⟨Nat.le_of_ble_eq_true rfl, Nat.le_of_ble_eq_true rfl⟩ sh_49 (by decide) rfl (c_Tr_sharpBy_49 E _ q2h) rfl rfl (Nat.le_of_ble_eq_true rfl) 27 rfl [.int _] rfl ?_
  cases h
  exact x_iret dX8_sharpAsTried_27 rfl rfl rfl
abbrev M_Tr_mostOff : xM := (yX6_mostOff, cX6_mostOff, 3, some .int, [])
theorem dX6_mostOff_0 : decode cX6_mostOff 0 = .ok (.iconst 0, 1) := by decide +kernel
theorem dX6_mostOff_1 : decode cX6_mostOff 1 = .ok (.istore_n 1, 1) := by decide +kernel
theorem dX6_mostOff_2 : decode cX6_mostOff 2 = .ok (.iconst 0, 1) := by decide +kernel
theorem dX6_mostOff_3 : decode cX6_mostOff 3 = .ok (.istore_n 2, 1) := by decide +kernel
theorem dX6_mostOff_4 : decode cX6_mostOff 4 = .ok (.iload_n 2, 1) := by decide +kernel
theorem dX6_mostOff_5 : decode cX6_mostOff 5 = .ok (.aload_n 0, 1) := by decide +kernel
theorem dX6_mostOff_6 : decode cX6_mostOff 6 = .ok (.getfield 28, 3) := by decide +kernel
theorem dX6_mostOff_9 : decode cX6_mostOff 9 = .ok (.if_icmp .gt 23, 3) := by decide +kernel
theorem dX6_mostOff_12 : decode cX6_mostOff 12 = .ok (.iload_n 1, 1) := by decide +kernel
theorem dX6_mostOff_13 : decode cX6_mostOff 13 = .ok (.aload_n 0, 1) := by decide +kernel
theorem dX6_mostOff_14 : decode cX6_mostOff 14 = .ok (.getfield 41, 3) := by decide +kernel
theorem dX6_mostOff_17 : decode cX6_mostOff 17 = .ok (.iload_n 2, 1) := by decide +kernel
theorem dX6_mostOff_18 : decode cX6_mostOff 18 = .ok (.iaload, 1) := by decide +kernel
theorem dX6_mostOff_19 : decode cX6_mostOff 19 = .ok (.invokestatic 116, 3) := by decide +kernel
theorem dX6_mostOff_22 : decode cX6_mostOff 22 = .ok (.invokestatic 107, 3) := by decide +kernel
theorem dX6_mostOff_25 : decode cX6_mostOff 25 = .ok (.istore_n 1, 1) := by decide +kernel
theorem dX6_mostOff_26 : decode cX6_mostOff 26 = .ok (.iinc 2 1, 3) := by decide +kernel
theorem dX6_mostOff_29 : decode cX6_mostOff 29 = .ok (.goto (-25), 3) := by decide +kernel
theorem dX6_mostOff_32 : decode cX6_mostOff 32 = .ok (.iload_n 1, 1) := by decide +kernel
theorem dX6_mostOff_33 : decode cX6_mostOff 33 = .ok (.ireturn, 1) := by decide +kernel
def f_Tr_mostOff_49_L4  (a : Int32 × Int32 × xS) : Option ((Int32 × Int32 × xS) ⊕ (Int32 × Int32 × xS)) :=
  let v1 := a.1; let v2 := a.2.1; let σ := a.2.2;
  if σ.1 49 5 < v2 then
    some (.inl (v1, v2, σ))
  else
    if v2 < 0 ∨ 601 ≤ v2.toNatClampNeg then none else
    let w1 := (if v1 < (if 0 ≤ σ.1 54 v2.toNatClampNeg then σ.1 54 v2.toNatClampNeg else 0 - σ.1 54 v2.toNatClampNeg) then (if 0 ≤ σ.1 54 v2.toNatClampNeg then σ.1 54 v2.toNatClampNeg else 0 - σ.1 54 v2.toNatClampNeg) else v1)
    let w2 := v2 + (1 : Int32)
    some (.inr (w1, w2, σ))
def f_Tr_mostOff_49  (σ : xS) : Option (Int32 × xS) :=
  (x_it (f_Tr_mostOff_49_L4 ) 10000 ((0 : Int32), (0 : Int32), σ)).bind fun b3 =>
  some (b3.1, b3.2.2)
set_option maxHeartbeats 4000000 in
set_option maxRecDepth 100000 in
theorem b_Tr_mostOff_49_L4 {l : Launch} {s0 : State} {a0 : Array Value} {D : va_G} {cA : Nat → ClassId} {sp : Nat → Nat} (E : x_En CL l s0 a0 D cA sp)  {r : Int32} {σ1 : xS} (a : Int32 × Int32 × xS) (o : (Int32 × Int32 × xS) ⊕ (Int32 × Int32 × xS)) (h : f_Tr_mostOff_49_L4  a = some o) (hK : ∀ b, o = .inl b → zW l s0 D cA sp (zQ s0 D cA sp (some (.int r)) σ1) (x_rm 0 0 0) M_Tr_mostOff 0 0 32 [none, some (.int b.1), none] [] b.2.2) (hG : ∀ a', o = .inr a' → zW l s0 D cA sp (zQ s0 D cA sp (some (.int r)) σ1) (x_rm 0 0 0) M_Tr_mostOff 0 0 4 [some (.ref 49), some (.int a'.1), some (.int a'.2.1)] [] a'.2.2) : zW l s0 D cA sp (zQ s0 D cA sp (some (.int r)) σ1) (x_rm 0 0 0) M_Tr_mostOff 0 0 4 [some (.ref 49), some (.int a.1), some (.int a.2.1)] [] a.2.2 := by
  obtain ⟨v1, v2, σ⟩ := a
  unfold f_Tr_mostOff_49_L4 at h
  try dsimp only at h ⊢
  refine x_iload_n 5 rfl 2 dX6_mostOff_4 rfl rfl ?_
  refine x_aload_n 6 rfl 0 dX6_mostOff_5 rfl rfl ?_
  refine x_getI E dX6_mostOff_6 F_RX6_28 sh_49 9 rfl ?_
  refine x_icmp_gt 12 rfl 32 dX6_mostOff_9 (by decide) (fun hc => ?_) (fun hc => ?_)
  · replace h := x_ifT hc h
    cases h
    exact x_wk (x_le_n (x_le_s (x_le_n x_le_0))) (hK (_, _, _) rfl)
  · replace h := x_ifF hc h
    refine x_iload_n 13 rfl 1 dX6_mostOff_12 rfl rfl ?_
    refine x_aload_n 14 rfl 0 dX6_mostOff_13 rfl rfl ?_
    refine x_getR E dX6_mostOff_14 F_RX6_41 sh_49 rf_49_9 17 rfl ?_
    refine x_iload_n 18 rfl 2 dX6_mostOff_17 rfl rfl ?_
    obtain ⟨hz, h⟩ := x_ifn h
    refine x_iald E dX6_mostOff_18 sh_54 _ rfl hz 19 rfl ?_
    refine x_mabs E dX6_mostOff_19 K_RX6_116 (Nat.le_of_ble_eq_true rfl) (Nat.le_of_ble_eq_true rfl) 22 rfl ?_
    refine x_mmax E dX6_mostOff_22 K_RX6_107 (Nat.le_of_ble_eq_true rfl) (Nat.le_of_ble_eq_true rfl) 25 rfl ?_
    refine x_istore_n 26 rfl 1 dX6_mostOff_25 rfl (by decide) [some (.ref 49), some (.int _), some (.int _)] rfl ?_
    refine x_iinc 29 rfl (1) dX6_mostOff_26 rfl (by decide) (by decide) [some (.ref 49), some (.int _), some (.int _)] rfl ?_
    refine x_goto 4 dX6_mostOff_29 (by decide) ?_
    cases h
    exact x_wk (x_le_s (x_le_s (x_le_s x_le_0))) (hG (_, _, _) rfl)
set_option maxHeartbeats 4000000 in
set_option maxRecDepth 100000 in
theorem c_Tr_mostOff_49 {l : Launch} {s0 : State} {a0 : Array Value} {D : va_G} {cA : Nat → ClassId} {sp : Nat → Nat} (E : x_En CL l s0 a0 D cA sp)  {σ : xS} {r : Int32} {σ1 : xS} (h : f_Tr_mostOff_49  σ = some (r, σ1)) : zC l s0 D cA sp 0 M_Tr_mostOff [.ref 49] σ (some (.int r)) σ1 := by
  unfold f_Tr_mostOff_49 at h
  try dsimp only at h
  refine x_enter [some (.ref 49), none, none] rfl (Nat.le_of_ble_eq_true rfl) (by decide +kernel) rfl ?_
  refine x_iconst 1 rfl (v := 0) dX6_mostOff_0 (by decide) ?_
  refine x_istore_n 2 rfl 1 dX6_mostOff_1 rfl (by decide) [some (.ref 49), some (.int _), none] rfl ?_
  refine x_iconst 3 rfl (v := 0) dX6_mostOff_2 (by decide) ?_
  refine x_istore_n 4 rfl 2 dX6_mostOff_3 rfl (by decide) [some (.ref 49), some (.int _), some (.int _)] rfl ?_
  obtain ⟨b3, b3h, h⟩ := x_bind h
  try dsimp only at h
  refine x_wk (x_le_s (x_le_s (x_le_s x_le_0))) (x_loop (fun a o h hK hG => b_Tr_mostOff_49_L4 (r := r) (σ1 := σ1) E  a o h hK hG) _ _ _ b3h ?_)
  refine x_iload_n 33 rfl 1 dX6_mostOff_32 rfl rfl ?_
  cases h
  exact x_iret dX6_mostOff_33 rfl rfl rfl
abbrev M_Tr_longestSoft : xM := (yX6_longestSoft, cX6_longestSoft, 4, some .int, [])
theorem dX6_longestSoft_0 : decode cX6_longestSoft 0 = .ok (.iconst 0, 1) := by decide +kernel
theorem dX6_longestSoft_1 : decode cX6_longestSoft 1 = .ok (.istore_n 1, 1) := by decide +kernel
theorem dX6_longestSoft_2 : decode cX6_longestSoft 2 = .ok (.iconst 0, 1) := by decide +kernel
theorem dX6_longestSoft_3 : decode cX6_longestSoft 3 = .ok (.istore_n 2, 1) := by decide +kernel
theorem dX6_longestSoft_4 : decode cX6_longestSoft 4 = .ok (.iconst 0, 1) := by decide +kernel
theorem dX6_longestSoft_5 : decode cX6_longestSoft 5 = .ok (.istore_n 3, 1) := by decide +kernel
theorem dX6_longestSoft_6 : decode cX6_longestSoft 6 = .ok (.iload_n 3, 1) := by decide +kernel
theorem dX6_longestSoft_7 : decode cX6_longestSoft 7 = .ok (.aload_n 0, 1) := by decide +kernel
theorem dX6_longestSoft_8 : decode cX6_longestSoft 8 = .ok (.getfield 28, 3) := by decide +kernel
theorem dX6_longestSoft_11 : decode cX6_longestSoft 11 = .ok (.if_icmp .gt 31, 3) := by decide +kernel
theorem dX6_longestSoft_14 : decode cX6_longestSoft 14 = .ok (.aload_n 0, 1) := by decide +kernel
theorem dX6_longestSoft_15 : decode cX6_longestSoft 15 = .ok (.iload_n 3, 1) := by decide +kernel
theorem dX6_longestSoft_16 : decode cX6_longestSoft 16 = .ok (.invokevirtual 119, 3) := by decide +kernel
theorem dX6_longestSoft_19 : decode cX6_longestSoft 19 = .ok (.ifCond .eq 7, 3) := by decide +kernel
theorem dX6_longestSoft_22 : decode cX6_longestSoft 22 = .ok (.iconst 0, 1) := by decide +kernel
theorem dX6_longestSoft_23 : decode cX6_longestSoft 23 = .ok (.goto 6, 3) := by decide +kernel
theorem dX6_longestSoft_26 : decode cX6_longestSoft 26 = .ok (.iload_n 2, 1) := by decide +kernel
theorem dX6_longestSoft_27 : decode cX6_longestSoft 27 = .ok (.iconst 1, 1) := by decide +kernel
theorem dX6_longestSoft_28 : decode cX6_longestSoft 28 = .ok (.iadd, 1) := by decide +kernel
theorem dX6_longestSoft_29 : decode cX6_longestSoft 29 = .ok (.istore_n 2, 1) := by decide +kernel
theorem dX6_longestSoft_30 : decode cX6_longestSoft 30 = .ok (.iload_n 1, 1) := by decide +kernel
theorem dX6_longestSoft_31 : decode cX6_longestSoft 31 = .ok (.iload_n 2, 1) := by decide +kernel
theorem dX6_longestSoft_32 : decode cX6_longestSoft 32 = .ok (.invokestatic 107, 3) := by decide +kernel
theorem dX6_longestSoft_35 : decode cX6_longestSoft 35 = .ok (.istore_n 1, 1) := by decide +kernel
theorem dX6_longestSoft_36 : decode cX6_longestSoft 36 = .ok (.iinc 3 1, 3) := by decide +kernel
theorem dX6_longestSoft_39 : decode cX6_longestSoft 39 = .ok (.goto (-33), 3) := by decide +kernel
theorem dX6_longestSoft_42 : decode cX6_longestSoft 42 = .ok (.iload_n 1, 1) := by decide +kernel
theorem dX6_longestSoft_43 : decode cX6_longestSoft 43 = .ok (.ireturn, 1) := by decide +kernel
def f_Tr_longestSoft_49_L6  (a : Int32 × Int32 × Int32 × xS) : Option ((Int32 × Int32 × Int32 × xS) ⊕ (Int32 × Int32 × Int32 × xS)) :=
  let v1 := a.1; let v2 := a.2.1; let v3 := a.2.2.1; let σ := a.2.2.2;
  if σ.1 49 5 < v3 then
    some (.inl (v1, v2, v3, σ))
  else
    (f_Tr_isSharp_49 v3 σ).bind fun q1 =>
    if q1.1 = 0 then
      let w2 := (v2 + (1 : Int32))
      let w3 := (if v1 < w2 then w2 else v1)
      let w4 := v3 + (1 : Int32)
      some (.inr (w3, w2, w4, q1.2))
    else
      let w5 := (if v1 < (0 : Int32) then (0 : Int32) else v1)
      let w6 := v3 + (1 : Int32)
      some (.inr (w5, (0 : Int32), w6, q1.2))
def f_Tr_longestSoft_49  (σ : xS) : Option (Int32 × xS) :=
  (x_it (f_Tr_longestSoft_49_L6 ) 10000 ((0 : Int32), (0 : Int32), (0 : Int32), σ)).bind fun b7 =>
  some (b7.1, b7.2.2.2)
set_option maxHeartbeats 4000000 in
set_option maxRecDepth 100000 in
theorem b_Tr_longestSoft_49_L6 {l : Launch} {s0 : State} {a0 : Array Value} {D : va_G} {cA : Nat → ClassId} {sp : Nat → Nat} (E : x_En CL l s0 a0 D cA sp)  {r : Int32} {σ1 : xS} (a : Int32 × Int32 × Int32 × xS) (o : (Int32 × Int32 × Int32 × xS) ⊕ (Int32 × Int32 × Int32 × xS)) (h : f_Tr_longestSoft_49_L6  a = some o) (hK : ∀ b, o = .inl b → zW l s0 D cA sp (zQ s0 D cA sp (some (.int r)) σ1) (x_rm 1 0 0) M_Tr_longestSoft 0 0 42 [none, some (.int b.1), none, none] [] b.2.2.2) (hG : ∀ a', o = .inr a' → zW l s0 D cA sp (zQ s0 D cA sp (some (.int r)) σ1) (x_rm 1 0 0) M_Tr_longestSoft 0 0 6 [some (.ref 49), some (.int a'.1), some (.int a'.2.1), some (.int a'.2.2.1)] [] a'.2.2.2) : zW l s0 D cA sp (zQ s0 D cA sp (some (.int r)) σ1) (x_rm 1 0 0) M_Tr_longestSoft 0 0 6 [some (.ref 49), some (.int a.1), some (.int a.2.1), some (.int a.2.2.1)] [] a.2.2.2 := by
  obtain ⟨v1, v2, v3, σ⟩ := a
  unfold f_Tr_longestSoft_49_L6 at h
  try dsimp only at h ⊢
  refine x_iload_n 7 rfl 3 dX6_longestSoft_6 rfl rfl ?_
  refine x_aload_n 8 rfl 0 dX6_longestSoft_7 rfl rfl ?_
  refine x_getI E dX6_longestSoft_8 F_RX6_28 sh_49 11 rfl ?_
  refine x_icmp_gt 14 rfl 42 dX6_longestSoft_11 (by decide) (fun hc => ?_) (fun hc => ?_)
  · replace h := x_ifT hc h
    cases h
    exact x_wk (x_le_n (x_le_s (x_le_n (x_le_n x_le_0)))) (hK (_, _, _, _) rfl)
  · replace h := x_ifF hc h
    refine x_aload_n 15 rfl 0 dX6_longestSoft_14 rfl rfl ?_
    refine x_iload_n 16 rfl 3 dX6_longestSoft_15 rfl rfl ?_
    obtain ⟨⟨q1r, q1s⟩, q1h, h⟩ := x_bind h
    try dsimp only at h
    refine z_callV E [.int _] [] dX6_longestSoft_16 K_RX6_119 ⟨Nat.le_of_ble_eq_true rfl, Nat.le_of_ble_eq_true rfl⟩ sh_49 (by decide) rfl (c_Tr_isSharp_49 E _ q1h) rfl rfl (Nat.le_of_ble_eq_true rfl) 19 rfl [.int _] rfl ?_
    refine x_if_eq 22 rfl 26 dX6_longestSoft_19 (by decide) (fun hc => ?_) (fun hc => ?_)
    · replace h := x_ifT hc h
      refine x_iload_n 27 rfl 2 dX6_longestSoft_26 rfl rfl ?_
      refine x_iconst 28 rfl (v := 1) dX6_longestSoft_27 (by decide) ?_
      refine x_iadd 29 rfl dX6_longestSoft_28 ?_
      refine x_istore_n 30 rfl 2 dX6_longestSoft_29 rfl (by decide) [some (.ref 49), some (.int _), some (.int _), some (.int _)] rfl ?_
      refine x_iload_n 31 rfl 1 dX6_longestSoft_30 rfl rfl ?_
      refine x_iload_n 32 rfl 2 dX6_longestSoft_31 rfl rfl ?_
      refine x_mmax E dX6_longestSoft_32 K_RX6_107 (Nat.le_of_ble_eq_true rfl) (Nat.le_of_ble_eq_true rfl) 35 rfl ?_
      refine x_istore_n 36 rfl 1 dX6_longestSoft_35 rfl (by decide) [some (.ref 49), some (.int _), some (.int _), some (.int _)] rfl ?_
      refine x_iinc 39 rfl (1) dX6_longestSoft_36 rfl (by decide) (by decide) [some (.ref 49), some (.int _), some (.int _), some (.int _)] rfl ?_
      refine x_goto 6 dX6_longestSoft_39 (by decide) ?_
      cases h
      exact x_wk (x_le_s (x_le_s (x_le_s (x_le_s x_le_0)))) (hG (_, _, _, _) rfl)
    · replace h := x_ifF hc h
      refine x_iconst 23 rfl (v := 0) dX6_longestSoft_22 (by decide) ?_
      refine x_goto 29 dX6_longestSoft_23 (by decide) ?_
      refine x_istore_n 30 rfl 2 dX6_longestSoft_29 rfl (by decide) [some (.ref 49), some (.int _), some (.int _), some (.int _)] rfl ?_
      refine x_iload_n 31 rfl 1 dX6_longestSoft_30 rfl rfl ?_
      refine x_iload_n 32 rfl 2 dX6_longestSoft_31 rfl rfl ?_
      refine x_mmax E dX6_longestSoft_32 K_RX6_107 (Nat.le_of_ble_eq_true rfl) (Nat.le_of_ble_eq_true rfl) 35 rfl ?_
      refine x_istore_n 36 rfl 1 dX6_longestSoft_35 rfl (by decide) [some (.ref 49), some (.int _), some (.int _), some (.int _)] rfl ?_
      refine x_iinc 39 rfl (1) dX6_longestSoft_36 rfl (by decide) (by decide) [some (.ref 49), some (.int _), some (.int _), some (.int _)] rfl ?_
      refine x_goto 6 dX6_longestSoft_39 (by decide) ?_
      cases h
      exact x_wk (x_le_s (x_le_s (x_le_s (x_le_s x_le_0)))) (hG (_, _, _, _) rfl)
set_option maxHeartbeats 4000000 in
set_option maxRecDepth 100000 in
theorem c_Tr_longestSoft_49 {l : Launch} {s0 : State} {a0 : Array Value} {D : va_G} {cA : Nat → ClassId} {sp : Nat → Nat} (E : x_En CL l s0 a0 D cA sp)  {σ : xS} {r : Int32} {σ1 : xS} (h : f_Tr_longestSoft_49  σ = some (r, σ1)) : zC l s0 D cA sp 1 M_Tr_longestSoft [.ref 49] σ (some (.int r)) σ1 := by
  unfold f_Tr_longestSoft_49 at h
  try dsimp only at h
  refine x_enter [some (.ref 49), none, none, none] rfl (Nat.le_of_ble_eq_true rfl) (by decide +kernel) rfl ?_
  refine x_iconst 1 rfl (v := 0) dX6_longestSoft_0 (by decide) ?_
  refine x_istore_n 2 rfl 1 dX6_longestSoft_1 rfl (by decide) [some (.ref 49), some (.int _), none, none] rfl ?_
  refine x_iconst 3 rfl (v := 0) dX6_longestSoft_2 (by decide) ?_
  refine x_istore_n 4 rfl 2 dX6_longestSoft_3 rfl (by decide) [some (.ref 49), some (.int _), some (.int _), none] rfl ?_
  refine x_iconst 5 rfl (v := 0) dX6_longestSoft_4 (by decide) ?_
  refine x_istore_n 6 rfl 3 dX6_longestSoft_5 rfl (by decide) [some (.ref 49), some (.int _), some (.int _), some (.int _)] rfl ?_
  obtain ⟨b7, b7h, h⟩ := x_bind h
  try dsimp only at h
  refine x_wk (x_le_s (x_le_s (x_le_s (x_le_s x_le_0)))) (x_loop (fun a o h hK hG => b_Tr_longestSoft_49_L6 (r := r) (σ1 := σ1) E  a o h hK hG) _ _ _ b7h ?_)
  refine x_iload_n 43 rfl 1 dX6_longestSoft_42 rfl rfl ?_
  cases h
  exact x_iret dX6_longestSoft_43 rfl rfl rfl
abbrev M_Tr_firstSoft : xM := (yX6_firstSoft, cX6_firstSoft, 2, some .int, [])
theorem dX6_firstSoft_0 : decode cX6_firstSoft 0 = .ok (.iconst 0, 1) := by decide +kernel
theorem dX6_firstSoft_1 : decode cX6_firstSoft 1 = .ok (.istore_n 1, 1) := by decide +kernel
theorem dX6_firstSoft_2 : decode cX6_firstSoft 2 = .ok (.iload_n 1, 1) := by decide +kernel
theorem dX6_firstSoft_3 : decode cX6_firstSoft 3 = .ok (.aload_n 0, 1) := by decide +kernel
theorem dX6_firstSoft_4 : decode cX6_firstSoft 4 = .ok (.getfield 28, 3) := by decide +kernel
theorem dX6_firstSoft_7 : decode cX6_firstSoft 7 = .ok (.if_icmp .gt 19, 3) := by decide +kernel
theorem dX6_firstSoft_10 : decode cX6_firstSoft 10 = .ok (.aload_n 0, 1) := by decide +kernel
theorem dX6_firstSoft_11 : decode cX6_firstSoft 11 = .ok (.iload_n 1, 1) := by decide +kernel
theorem dX6_firstSoft_12 : decode cX6_firstSoft 12 = .ok (.invokevirtual 119, 3) := by decide +kernel
theorem dX6_firstSoft_15 : decode cX6_firstSoft 15 = .ok (.ifCond .ne 5, 3) := by decide +kernel
theorem dX6_firstSoft_18 : decode cX6_firstSoft 18 = .ok (.iload_n 1, 1) := by decide +kernel
theorem dX6_firstSoft_19 : decode cX6_firstSoft 19 = .ok (.ireturn, 1) := by decide +kernel
theorem dX6_firstSoft_20 : decode cX6_firstSoft 20 = .ok (.iinc 1 1, 3) := by decide +kernel
theorem dX6_firstSoft_23 : decode cX6_firstSoft 23 = .ok (.goto (-21), 3) := by decide +kernel
theorem dX6_firstSoft_26 : decode cX6_firstSoft 26 = .ok (.iconst (-1), 1) := by decide +kernel
theorem dX6_firstSoft_27 : decode cX6_firstSoft 27 = .ok (.ireturn, 1) := by decide +kernel
def f_Tr_firstSoft_49_L2  (a : Int32 × xS) : Option (((Int32 × xS) ⊕ (Int32 × xS)) ⊕ (Int32 × xS)) :=
  let v1 := a.1; let σ := a.2;
  if σ.1 49 5 < v1 then
    some (.inl (.inr (v1, σ)))
  else
    (f_Tr_isSharp_49 v1 σ).bind fun q1 =>
    if q1.1 = 0 then
      some (.inl (.inl (v1, q1.2)))
    else
      let w2 := v1 + (1 : Int32)
      some (.inr (w2, q1.2))
def f_Tr_firstSoft_49  (σ : xS) : Option (Int32 × xS) :=
  (x_it (f_Tr_firstSoft_49_L2 ) 10000 ((0 : Int32), σ)).bind fun b3 =>
  match b3 with
  | .inl b3r => some b3r
  | .inr b3e =>
    some ((-1 : Int32), b3e.2)
set_option maxHeartbeats 4000000 in
set_option maxRecDepth 100000 in
theorem b_Tr_firstSoft_49_L2 {l : Launch} {s0 : State} {a0 : Array Value} {D : va_G} {cA : Nat → ClassId} {sp : Nat → Nat} (E : x_En CL l s0 a0 D cA sp)  {r : Int32} {σ1 : xS} (a : Int32 × xS) (o : ((Int32 × xS) ⊕ (Int32 × xS)) ⊕ (Int32 × xS)) (h : f_Tr_firstSoft_49_L2  a = some o) (hK : ∀ b, o = .inl b → (∀ q, b = .inl q → q = (r, σ1)) ∧ ∀ e, b = .inr e → zW l s0 D cA sp (zQ s0 D cA sp (some (.int r)) σ1) (x_rm 1 0 0) M_Tr_firstSoft 0 0 26 [none, none] [] e.2) (hG : ∀ a', o = .inr a' → zW l s0 D cA sp (zQ s0 D cA sp (some (.int r)) σ1) (x_rm 1 0 0) M_Tr_firstSoft 0 0 2 [some (.ref 49), some (.int a'.1)] [] a'.2) : zW l s0 D cA sp (zQ s0 D cA sp (some (.int r)) σ1) (x_rm 1 0 0) M_Tr_firstSoft 0 0 2 [some (.ref 49), some (.int a.1)] [] a.2 := by
  obtain ⟨v1, σ⟩ := a
  unfold f_Tr_firstSoft_49_L2 at h
  try dsimp only at h ⊢
  refine x_iload_n 3 rfl 1 dX6_firstSoft_2 rfl rfl ?_
  refine x_aload_n 4 rfl 0 dX6_firstSoft_3 rfl rfl ?_
  refine x_getI E dX6_firstSoft_4 F_RX6_28 sh_49 7 rfl ?_
  refine x_icmp_gt 10 rfl 26 dX6_firstSoft_7 (by decide) (fun hc => ?_) (fun hc => ?_)
  · replace h := x_ifT hc h
    cases h
    exact x_wk (x_le_n (x_le_n x_le_0)) ((hK (.inr (_, _)) rfl).2 (_, _) rfl)
  · replace h := x_ifF hc h
    refine x_aload_n 11 rfl 0 dX6_firstSoft_10 rfl rfl ?_
    refine x_iload_n 12 rfl 1 dX6_firstSoft_11 rfl rfl ?_
    obtain ⟨⟨q1r, q1s⟩, q1h, h⟩ := x_bind h
    try dsimp only at h
    refine z_callV E [.int _] [] dX6_firstSoft_12 K_RX6_119 ⟨Nat.le_of_ble_eq_true rfl, Nat.le_of_ble_eq_true rfl⟩ sh_49 (by decide) rfl (c_Tr_isSharp_49 E _ q1h) rfl rfl (Nat.le_of_ble_eq_true rfl) 15 rfl [.int _] rfl ?_
    refine x_if_ne 18 rfl 20 dX6_firstSoft_15 (by decide) (fun hc => ?_) (fun hc => ?_)
    · replace h := x_ifF hc h
      refine x_iinc 23 rfl (1) dX6_firstSoft_20 rfl (by decide) (by decide) [some (.ref 49), some (.int _)] rfl ?_
      refine x_goto 2 dX6_firstSoft_23 (by decide) ?_
      cases h
      exact x_wk (x_le_s (x_le_s x_le_0)) (hG (_, _) rfl)
    · replace h := x_ifT hc h
      refine x_iload_n 19 rfl 1 dX6_firstSoft_18 rfl rfl ?_
      cases h
      cases (hK (.inl (_, _)) rfl).1 (_, _) rfl
      exact x_iret dX6_firstSoft_19 rfl rfl rfl
set_option maxHeartbeats 4000000 in
set_option maxRecDepth 100000 in
theorem c_Tr_firstSoft_49 {l : Launch} {s0 : State} {a0 : Array Value} {D : va_G} {cA : Nat → ClassId} {sp : Nat → Nat} (E : x_En CL l s0 a0 D cA sp)  {σ : xS} {r : Int32} {σ1 : xS} (h : f_Tr_firstSoft_49  σ = some (r, σ1)) : zC l s0 D cA sp 1 M_Tr_firstSoft [.ref 49] σ (some (.int r)) σ1 := by
  unfold f_Tr_firstSoft_49 at h
  try dsimp only at h
  refine x_enter [some (.ref 49), none] rfl (Nat.le_of_ble_eq_true rfl) (by decide +kernel) rfl ?_
  refine x_iconst 1 rfl (v := 0) dX6_firstSoft_0 (by decide) ?_
  refine x_istore_n 2 rfl 1 dX6_firstSoft_1 rfl (by decide) [some (.ref 49), some (.int _)] rfl ?_
  obtain ⟨b3, b3h, h⟩ := x_bind h
  try dsimp only at h
  refine x_wk (x_le_s (x_le_s x_le_0)) (x_loop (fun a o h hK hG => b_Tr_firstSoft_49_L2 (r := r) (σ1 := σ1) E  a o h hK hG) _ _ _ b3h ?_)
  cases b3 with
  | inl b3r =>
    try dsimp only at h
    cases h
    exact ⟨fun q e => (by cases e; rfl), fun e he => (by cases he)⟩
  | inr b3e =>
    try dsimp only at h
    refine ⟨fun q e => (by cases e), fun e he => ?_⟩
    cases he
    refine x_iconst 27 rfl (v := -1) dX6_firstSoft_26 (by decide) ?_
    cases h
    exact x_iret dX6_firstSoft_27 rfl rfl rfl
abbrev M_Tr_swings : xM := (yX6_swings, cX6_swings, 4, some .int, [])
theorem dX6_swings_0 : decode cX6_swings 0 = .ok (.iconst 0, 1) := by decide +kernel
theorem dX6_swings_1 : decode cX6_swings 1 = .ok (.istore_n 1, 1) := by decide +kernel
theorem dX6_swings_2 : decode cX6_swings 2 = .ok (.iconst 0, 1) := by decide +kernel
theorem dX6_swings_3 : decode cX6_swings 3 = .ok (.istore_n 2, 1) := by decide +kernel
theorem dX6_swings_4 : decode cX6_swings 4 = .ok (.iconst 0, 1) := by decide +kernel
theorem dX6_swings_5 : decode cX6_swings 5 = .ok (.istore_n 3, 1) := by decide +kernel
theorem dX6_swings_6 : decode cX6_swings 6 = .ok (.iload_n 3, 1) := by decide +kernel
theorem dX6_swings_7 : decode cX6_swings 7 = .ok (.aload_n 0, 1) := by decide +kernel
theorem dX6_swings_8 : decode cX6_swings 8 = .ok (.getfield 28, 3) := by decide +kernel
theorem dX6_swings_11 : decode cX6_swings 11 = .ok (.if_icmp .gt 63, 3) := by decide +kernel
theorem dX6_swings_14 : decode cX6_swings 14 = .ok (.iload_n 1, 1) := by decide +kernel
theorem dX6_swings_15 : decode cX6_swings 15 = .ok (.aload_n 0, 1) := by decide +kernel
theorem dX6_swings_16 : decode cX6_swings 16 = .ok (.getfield 41, 3) := by decide +kernel
theorem dX6_swings_19 : decode cX6_swings 19 = .ok (.iload_n 3, 1) := by decide +kernel
theorem dX6_swings_20 : decode cX6_swings 20 = .ok (.iaload, 1) := by decide +kernel
theorem dX6_swings_21 : decode cX6_swings 21 = .ok (.ifCond .le 7, 3) := by decide +kernel
theorem dX6_swings_24 : decode cX6_swings 24 = .ok (.iload_n 2, 1) := by decide +kernel
theorem dX6_swings_25 : decode cX6_swings 25 = .ok (.ifCond .lt 16, 3) := by decide +kernel
theorem dX6_swings_28 : decode cX6_swings 28 = .ok (.aload_n 0, 1) := by decide +kernel
theorem dX6_swings_29 : decode cX6_swings 29 = .ok (.getfield 41, 3) := by decide +kernel
theorem dX6_swings_32 : decode cX6_swings 32 = .ok (.iload_n 3, 1) := by decide +kernel
theorem dX6_swings_33 : decode cX6_swings 33 = .ok (.iaload, 1) := by decide +kernel
theorem dX6_swings_34 : decode cX6_swings 34 = .ok (.ifCond .ge 11, 3) := by decide +kernel
theorem dX6_swings_37 : decode cX6_swings 37 = .ok (.iload_n 2, 1) := by decide +kernel
theorem dX6_swings_38 : decode cX6_swings 38 = .ok (.ifCond .le 7, 3) := by decide +kernel
theorem dX6_swings_41 : decode cX6_swings 41 = .ok (.iconst 1, 1) := by decide +kernel
theorem dX6_swings_42 : decode cX6_swings 42 = .ok (.goto 4, 3) := by decide +kernel
theorem dX6_swings_45 : decode cX6_swings 45 = .ok (.iconst 0, 1) := by decide +kernel
theorem dX6_swings_46 : decode cX6_swings 46 = .ok (.iadd, 1) := by decide +kernel
theorem dX6_swings_47 : decode cX6_swings 47 = .ok (.istore_n 1, 1) := by decide +kernel
theorem dX6_swings_48 : decode cX6_swings 48 = .ok (.aload_n 0, 1) := by decide +kernel
theorem dX6_swings_49 : decode cX6_swings 49 = .ok (.getfield 41, 3) := by decide +kernel
theorem dX6_swings_52 : decode cX6_swings 52 = .ok (.iload_n 3, 1) := by decide +kernel
theorem dX6_swings_53 : decode cX6_swings 53 = .ok (.iaload, 1) := by decide +kernel
theorem dX6_swings_54 : decode cX6_swings 54 = .ok (.ifCond .ne 7, 3) := by decide +kernel
theorem dX6_swings_57 : decode cX6_swings 57 = .ok (.iload_n 2, 1) := by decide +kernel
theorem dX6_swings_58 : decode cX6_swings 58 = .ok (.goto 9, 3) := by decide +kernel
theorem dX6_swings_61 : decode cX6_swings 61 = .ok (.aload_n 0, 1) := by decide +kernel
theorem dX6_swings_62 : decode cX6_swings 62 = .ok (.getfield 41, 3) := by decide +kernel
theorem dX6_swings_65 : decode cX6_swings 65 = .ok (.iload_n 3, 1) := by decide +kernel
theorem dX6_swings_66 : decode cX6_swings 66 = .ok (.iaload, 1) := by decide +kernel
theorem dX6_swings_67 : decode cX6_swings 67 = .ok (.istore_n 2, 1) := by decide +kernel
theorem dX6_swings_68 : decode cX6_swings 68 = .ok (.iinc 3 1, 3) := by decide +kernel
theorem dX6_swings_71 : decode cX6_swings 71 = .ok (.goto (-65), 3) := by decide +kernel
theorem dX6_swings_74 : decode cX6_swings 74 = .ok (.iload_n 1, 1) := by decide +kernel
theorem dX6_swings_75 : decode cX6_swings 75 = .ok (.ireturn, 1) := by decide +kernel
def f_Tr_swings_49_J46 (v2 : Int32) (v3 : Int32) (y0 : Int32) (y1 : Int32) (σ : xS) : Option ((Int32 × Int32 × Int32 × xS) ⊕ (Int32 × Int32 × Int32 × xS)) :=
  let w1 := (y0 + y1)
  if v3 < 0 ∨ 601 ≤ v3.toNatClampNeg then none else
  if σ.1 54 v3.toNatClampNeg = 0 then
    let w4 := v3 + (1 : Int32)
    some (.inr (w1, v2, w4, σ))
  else
    if v3 < 0 ∨ 601 ≤ v3.toNatClampNeg then none else
    let w2 := σ.1 54 v3.toNatClampNeg
    let w3 := v3 + (1 : Int32)
    some (.inr (w1, w2, w3, σ))
def f_Tr_swings_49_J45 (v2 : Int32) (v3 : Int32) (y0 : Int32) (σ : xS) : Option ((Int32 × Int32 × Int32 × xS) ⊕ (Int32 × Int32 × Int32 × xS)) :=
  f_Tr_swings_49_J46 v2 v3 y0 (0 : Int32) σ
def f_Tr_swings_49_J41 (v2 : Int32) (v3 : Int32) (y0 : Int32) (σ : xS) : Option ((Int32 × Int32 × Int32 × xS) ⊕ (Int32 × Int32 × Int32 × xS)) :=
  f_Tr_swings_49_J46 v2 v3 y0 (1 : Int32) σ
def f_Tr_swings_49_J28 (v2 : Int32) (v3 : Int32) (y0 : Int32) (σ : xS) : Option ((Int32 × Int32 × Int32 × xS) ⊕ (Int32 × Int32 × Int32 × xS)) :=
  if v3 < 0 ∨ 601 ≤ v3.toNatClampNeg then none else
  if 0 ≤ σ.1 54 v3.toNatClampNeg then
    f_Tr_swings_49_J45 v2 v3 y0 σ
  else
    if v2 ≤ 0 then
      f_Tr_swings_49_J45 v2 v3 y0 σ
    else
      f_Tr_swings_49_J41 v2 v3 y0 σ
def f_Tr_swings_49_L6  (a : Int32 × Int32 × Int32 × xS) : Option ((Int32 × Int32 × Int32 × xS) ⊕ (Int32 × Int32 × Int32 × xS)) :=
  let v1 := a.1; let v2 := a.2.1; let v3 := a.2.2.1; let σ := a.2.2.2;
  if σ.1 49 5 < v3 then
    some (.inl (v1, v2, v3, σ))
  else
    if v3 < 0 ∨ 601 ≤ v3.toNatClampNeg then none else
    if σ.1 54 v3.toNatClampNeg ≤ 0 then
      f_Tr_swings_49_J28 v2 v3 v1 σ
    else
      if v2 < 0 then
        f_Tr_swings_49_J41 v2 v3 v1 σ
      else
        f_Tr_swings_49_J28 v2 v3 v1 σ
def f_Tr_swings_49  (σ : xS) : Option (Int32 × xS) :=
  (x_it (f_Tr_swings_49_L6 ) 10000 ((0 : Int32), (0 : Int32), (0 : Int32), σ)).bind fun b5 =>
  some (b5.1, b5.2.2.2)
set_option maxHeartbeats 4000000 in
set_option maxRecDepth 100000 in
theorem j_Tr_swings_49_J46 {l : Launch} {s0 : State} {a0 : Array Value} {D : va_G} {cA : Nat → ClassId} {sp : Nat → Nat} (E : x_En CL l s0 a0 D cA sp) (v2 : Int32) (v3 : Int32) (y0 : Int32) (y1 : Int32)  (σ : xS) {r : Int32} {σ1 : xS} (o : (Int32 × Int32 × Int32 × xS) ⊕ (Int32 × Int32 × Int32 × xS)) (h : f_Tr_swings_49_J46 v2 v3 y0 y1 σ = some o) (hK : ∀ b, o = .inl b → zW l s0 D cA sp (zQ s0 D cA sp (some (.int r)) σ1) (x_rm 0 0 0) M_Tr_swings 0 0 74 [none, some (.int b.1), none, none] [] b.2.2.2) (hG : ∀ a', o = .inr a' → zW l s0 D cA sp (zQ s0 D cA sp (some (.int r)) σ1) (x_rm 0 0 0) M_Tr_swings 0 0 6 [some (.ref 49), some (.int a'.1), some (.int a'.2.1), some (.int a'.2.2.1)] [] a'.2.2.2) : zW l s0 D cA sp (zQ s0 D cA sp (some (.int r)) σ1) (x_rm 0 0 0) M_Tr_swings 0 0 46 [some (.ref 49), none, some (.int v2), some (.int v3)] [.int y1, .int y0] σ := by
  unfold f_Tr_swings_49_J46 at h
  try dsimp only at h
  refine x_iadd 47 rfl dX6_swings_46 ?_
  refine x_istore_n 48 rfl 1 dX6_swings_47 rfl (by decide) [some (.ref 49), some (.int _), some (.int _), some (.int _)] rfl ?_
  refine x_aload_n 49 rfl 0 dX6_swings_48 rfl rfl ?_
  refine x_getR E dX6_swings_49 F_RX6_41 sh_49 rf_49_9 52 rfl ?_
  refine x_iload_n 53 rfl 3 dX6_swings_52 rfl rfl ?_
  obtain ⟨hz, h⟩ := x_ifn h
  refine x_iald E dX6_swings_53 sh_54 _ rfl hz 54 rfl ?_
  refine x_if_ne 57 rfl 61 dX6_swings_54 (by decide) (fun hc => ?_) (fun hc => ?_)
  · replace h := x_ifF hc h
    refine x_aload_n 62 rfl 0 dX6_swings_61 rfl rfl ?_
    refine x_getR E dX6_swings_62 F_RX6_41 sh_49 rf_49_9 65 rfl ?_
    refine x_iload_n 66 rfl 3 dX6_swings_65 rfl rfl ?_
    obtain ⟨hz, h⟩ := x_ifn h
    refine x_iald E dX6_swings_66 sh_54 _ rfl hz 67 rfl ?_
    refine x_istore_n 68 rfl 2 dX6_swings_67 rfl (by decide) [some (.ref 49), some (.int _), some (.int _), some (.int _)] rfl ?_
    refine x_iinc 71 rfl (1) dX6_swings_68 rfl (by decide) (by decide) [some (.ref 49), some (.int _), some (.int _), some (.int _)] rfl ?_
    refine x_goto 6 dX6_swings_71 (by decide) ?_
    cases h
    exact x_wk (x_le_s (x_le_s (x_le_s (x_le_s x_le_0)))) (hG (_, _, _, _) rfl)
  · replace h := x_ifT hc h
    refine x_iload_n 58 rfl 2 dX6_swings_57 rfl rfl ?_
    refine x_goto 67 dX6_swings_58 (by decide) ?_
    refine x_istore_n 68 rfl 2 dX6_swings_67 rfl (by decide) [some (.ref 49), some (.int _), some (.int _), some (.int _)] rfl ?_
    refine x_iinc 71 rfl (1) dX6_swings_68 rfl (by decide) (by decide) [some (.ref 49), some (.int _), some (.int _), some (.int _)] rfl ?_
    refine x_goto 6 dX6_swings_71 (by decide) ?_
    cases h
    exact x_wk (x_le_s (x_le_s (x_le_s (x_le_s x_le_0)))) (hG (_, _, _, _) rfl)
set_option maxHeartbeats 4000000 in
set_option maxRecDepth 100000 in
theorem j_Tr_swings_49_J45 {l : Launch} {s0 : State} {a0 : Array Value} {D : va_G} {cA : Nat → ClassId} {sp : Nat → Nat} (E : x_En CL l s0 a0 D cA sp) (v2 : Int32) (v3 : Int32) (y0 : Int32)  (σ : xS) {r : Int32} {σ1 : xS} (o : (Int32 × Int32 × Int32 × xS) ⊕ (Int32 × Int32 × Int32 × xS)) (h : f_Tr_swings_49_J45 v2 v3 y0 σ = some o) (hK : ∀ b, o = .inl b → zW l s0 D cA sp (zQ s0 D cA sp (some (.int r)) σ1) (x_rm 0 0 0) M_Tr_swings 0 0 74 [none, some (.int b.1), none, none] [] b.2.2.2) (hG : ∀ a', o = .inr a' → zW l s0 D cA sp (zQ s0 D cA sp (some (.int r)) σ1) (x_rm 0 0 0) M_Tr_swings 0 0 6 [some (.ref 49), some (.int a'.1), some (.int a'.2.1), some (.int a'.2.2.1)] [] a'.2.2.2) : zW l s0 D cA sp (zQ s0 D cA sp (some (.int r)) σ1) (x_rm 0 0 0) M_Tr_swings 0 0 45 [some (.ref 49), none, some (.int v2), some (.int v3)] [.int y0] σ := by
  unfold f_Tr_swings_49_J45 at h
  try dsimp only at h
  refine x_iconst 46 rfl (v := 0) dX6_swings_45 (by decide) ?_
  exact x_wk (x_le_s (x_le_n (x_le_s (x_le_s x_le_0)))) (j_Tr_swings_49_J46 (r := r) (σ1 := σ1) E _ _ _ _  _ _ h hK hG)
set_option maxHeartbeats 4000000 in
set_option maxRecDepth 100000 in
theorem j_Tr_swings_49_J41 {l : Launch} {s0 : State} {a0 : Array Value} {D : va_G} {cA : Nat → ClassId} {sp : Nat → Nat} (E : x_En CL l s0 a0 D cA sp) (v2 : Int32) (v3 : Int32) (y0 : Int32)  (σ : xS) {r : Int32} {σ1 : xS} (o : (Int32 × Int32 × Int32 × xS) ⊕ (Int32 × Int32 × Int32 × xS)) (h : f_Tr_swings_49_J41 v2 v3 y0 σ = some o) (hK : ∀ b, o = .inl b → zW l s0 D cA sp (zQ s0 D cA sp (some (.int r)) σ1) (x_rm 0 0 0) M_Tr_swings 0 0 74 [none, some (.int b.1), none, none] [] b.2.2.2) (hG : ∀ a', o = .inr a' → zW l s0 D cA sp (zQ s0 D cA sp (some (.int r)) σ1) (x_rm 0 0 0) M_Tr_swings 0 0 6 [some (.ref 49), some (.int a'.1), some (.int a'.2.1), some (.int a'.2.2.1)] [] a'.2.2.2) : zW l s0 D cA sp (zQ s0 D cA sp (some (.int r)) σ1) (x_rm 0 0 0) M_Tr_swings 0 0 41 [some (.ref 49), none, some (.int v2), some (.int v3)] [.int y0] σ := by
  unfold f_Tr_swings_49_J41 at h
  try dsimp only at h
  refine x_iconst 42 rfl (v := 1) dX6_swings_41 (by decide) ?_
  refine x_goto 46 dX6_swings_42 (by decide) ?_
  exact x_wk (x_le_s (x_le_n (x_le_s (x_le_s x_le_0)))) (j_Tr_swings_49_J46 (r := r) (σ1 := σ1) E _ _ _ _  _ _ h hK hG)
set_option maxHeartbeats 4000000 in
set_option maxRecDepth 100000 in
theorem j_Tr_swings_49_J28 {l : Launch} {s0 : State} {a0 : Array Value} {D : va_G} {cA : Nat → ClassId} {sp : Nat → Nat} (E : x_En CL l s0 a0 D cA sp) (v2 : Int32) (v3 : Int32) (y0 : Int32)  (σ : xS) {r : Int32} {σ1 : xS} (o : (Int32 × Int32 × Int32 × xS) ⊕ (Int32 × Int32 × Int32 × xS)) (h : f_Tr_swings_49_J28 v2 v3 y0 σ = some o) (hK : ∀ b, o = .inl b → zW l s0 D cA sp (zQ s0 D cA sp (some (.int r)) σ1) (x_rm 0 0 0) M_Tr_swings 0 0 74 [none, some (.int b.1), none, none] [] b.2.2.2) (hG : ∀ a', o = .inr a' → zW l s0 D cA sp (zQ s0 D cA sp (some (.int r)) σ1) (x_rm 0 0 0) M_Tr_swings 0 0 6 [some (.ref 49), some (.int a'.1), some (.int a'.2.1), some (.int a'.2.2.1)] [] a'.2.2.2) : zW l s0 D cA sp (zQ s0 D cA sp (some (.int r)) σ1) (x_rm 0 0 0) M_Tr_swings 0 0 28 [some (.ref 49), none, some (.int v2), some (.int v3)] [.int y0] σ := by
  unfold f_Tr_swings_49_J28 at h
  try dsimp only at h
  refine x_aload_n 29 rfl 0 dX6_swings_28 rfl rfl ?_
  refine x_getR E dX6_swings_29 F_RX6_41 sh_49 rf_49_9 32 rfl ?_
  refine x_iload_n 33 rfl 3 dX6_swings_32 rfl rfl ?_
  obtain ⟨hz, h⟩ := x_ifn h
  refine x_iald E dX6_swings_33 sh_54 _ rfl hz 34 rfl ?_
  refine x_if_ge 37 rfl 45 dX6_swings_34 (by decide) (fun hc => ?_) (fun hc => ?_)
  · replace h := x_ifT hc h
    exact x_wk (x_le_s (x_le_n (x_le_s (x_le_s x_le_0)))) (j_Tr_swings_49_J45 (r := r) (σ1 := σ1) E _ _ _  _ _ h hK hG)
  · replace h := x_ifF hc h
    refine x_iload_n 38 rfl 2 dX6_swings_37 rfl rfl ?_
    refine x_if_le 41 rfl 45 dX6_swings_38 (by decide) (fun hc => ?_) (fun hc => ?_)
    · replace h := x_ifT hc h
      exact x_wk (x_le_s (x_le_n (x_le_s (x_le_s x_le_0)))) (j_Tr_swings_49_J45 (r := r) (σ1 := σ1) E _ _ _  _ _ h hK hG)
    · replace h := x_ifF hc h
      exact x_wk (x_le_s (x_le_n (x_le_s (x_le_s x_le_0)))) (j_Tr_swings_49_J41 (r := r) (σ1 := σ1) E _ _ _  _ _ h hK hG)
set_option maxHeartbeats 4000000 in
set_option maxRecDepth 100000 in
theorem b_Tr_swings_49_L6 {l : Launch} {s0 : State} {a0 : Array Value} {D : va_G} {cA : Nat → ClassId} {sp : Nat → Nat} (E : x_En CL l s0 a0 D cA sp)  {r : Int32} {σ1 : xS} (a : Int32 × Int32 × Int32 × xS) (o : (Int32 × Int32 × Int32 × xS) ⊕ (Int32 × Int32 × Int32 × xS)) (h : f_Tr_swings_49_L6  a = some o) (hK : ∀ b, o = .inl b → zW l s0 D cA sp (zQ s0 D cA sp (some (.int r)) σ1) (x_rm 0 0 0) M_Tr_swings 0 0 74 [none, some (.int b.1), none, none] [] b.2.2.2) (hG : ∀ a', o = .inr a' → zW l s0 D cA sp (zQ s0 D cA sp (some (.int r)) σ1) (x_rm 0 0 0) M_Tr_swings 0 0 6 [some (.ref 49), some (.int a'.1), some (.int a'.2.1), some (.int a'.2.2.1)] [] a'.2.2.2) : zW l s0 D cA sp (zQ s0 D cA sp (some (.int r)) σ1) (x_rm 0 0 0) M_Tr_swings 0 0 6 [some (.ref 49), some (.int a.1), some (.int a.2.1), some (.int a.2.2.1)] [] a.2.2.2 := by
  obtain ⟨v1, v2, v3, σ⟩ := a
  unfold f_Tr_swings_49_L6 at h
  try dsimp only at h ⊢
  refine x_iload_n 7 rfl 3 dX6_swings_6 rfl rfl ?_
  refine x_aload_n 8 rfl 0 dX6_swings_7 rfl rfl ?_
  refine x_getI E dX6_swings_8 F_RX6_28 sh_49 11 rfl ?_
  refine x_icmp_gt 14 rfl 74 dX6_swings_11 (by decide) (fun hc => ?_) (fun hc => ?_)
  · replace h := x_ifT hc h
    cases h
    exact x_wk (x_le_n (x_le_s (x_le_n (x_le_n x_le_0)))) (hK (_, _, _, _) rfl)
  · replace h := x_ifF hc h
    refine x_iload_n 15 rfl 1 dX6_swings_14 rfl rfl ?_
    refine x_aload_n 16 rfl 0 dX6_swings_15 rfl rfl ?_
    refine x_getR E dX6_swings_16 F_RX6_41 sh_49 rf_49_9 19 rfl ?_
    refine x_iload_n 20 rfl 3 dX6_swings_19 rfl rfl ?_
    obtain ⟨hz, h⟩ := x_ifn h
    refine x_iald E dX6_swings_20 sh_54 _ rfl hz 21 rfl ?_
    refine x_if_le 24 rfl 28 dX6_swings_21 (by decide) (fun hc => ?_) (fun hc => ?_)
    · replace h := x_ifT hc h
      exact x_wk (x_le_s (x_le_n (x_le_s (x_le_s x_le_0)))) (j_Tr_swings_49_J28 (r := r) (σ1 := σ1) E _ _ _  _ _ h hK hG)
    · replace h := x_ifF hc h
      refine x_iload_n 25 rfl 2 dX6_swings_24 rfl rfl ?_
      refine x_if_lt 28 rfl 41 dX6_swings_25 (by decide) (fun hc => ?_) (fun hc => ?_)
      · replace h := x_ifT hc h
        exact x_wk (x_le_s (x_le_n (x_le_s (x_le_s x_le_0)))) (j_Tr_swings_49_J41 (r := r) (σ1 := σ1) E _ _ _  _ _ h hK hG)
      · replace h := x_ifF hc h
        exact x_wk (x_le_s (x_le_n (x_le_s (x_le_s x_le_0)))) (j_Tr_swings_49_J28 (r := r) (σ1 := σ1) E _ _ _  _ _ h hK hG)
set_option maxHeartbeats 4000000 in
set_option maxRecDepth 100000 in
theorem c_Tr_swings_49 {l : Launch} {s0 : State} {a0 : Array Value} {D : va_G} {cA : Nat → ClassId} {sp : Nat → Nat} (E : x_En CL l s0 a0 D cA sp)  {σ : xS} {r : Int32} {σ1 : xS} (h : f_Tr_swings_49  σ = some (r, σ1)) : zC l s0 D cA sp 0 M_Tr_swings [.ref 49] σ (some (.int r)) σ1 := by
  unfold f_Tr_swings_49 at h
  try dsimp only at h
  refine x_enter [some (.ref 49), none, none, none] rfl (Nat.le_of_ble_eq_true rfl) (by decide +kernel) rfl ?_
  refine x_iconst 1 rfl (v := 0) dX6_swings_0 (by decide) ?_
  refine x_istore_n 2 rfl 1 dX6_swings_1 rfl (by decide) [some (.ref 49), some (.int _), none, none] rfl ?_
  refine x_iconst 3 rfl (v := 0) dX6_swings_2 (by decide) ?_
  refine x_istore_n 4 rfl 2 dX6_swings_3 rfl (by decide) [some (.ref 49), some (.int _), some (.int _), none] rfl ?_
  refine x_iconst 5 rfl (v := 0) dX6_swings_4 (by decide) ?_
  refine x_istore_n 6 rfl 3 dX6_swings_5 rfl (by decide) [some (.ref 49), some (.int _), some (.int _), some (.int _)] rfl ?_
  obtain ⟨b5, b5h, h⟩ := x_bind h
  try dsimp only at h
  refine x_wk (x_le_s (x_le_s (x_le_s (x_le_s x_le_0)))) (x_loop (fun a o h hK hG => b_Tr_swings_49_L6 (r := r) (σ1 := σ1) E  a o h hK hG) _ _ _ b5h ?_)
  refine x_iload_n 75 rfl 1 dX6_swings_74 rfl rfl ?_
  cases h
  exact x_iret dX6_swings_75 rfl rfl rfl
theorem K_RX6_126 : x_KV RX6 126 M_Tr_isShown 2 := ⟨⟨(List.mem_append_right _ (List.mem_of_getElem? (i := 976) (by decide +kernel))), (List.mem_append_right _ (List.mem_of_getElem? (i := 945) (by decide +kernel))), (List.mem_append_right _ (List.mem_of_getElem? (i := 6) (by decide +kernel))), ⟨by decide +kernel, by decide +kernel⟩, by decide +kernel⟩, (List.mem_append_right _ (List.mem_of_getElem? (i := 943) (by decide +kernel))), (List.mem_append_right _ (List.mem_of_getElem? (i := 944) (by decide +kernel)))⟩
abbrev M_Tr_shown : xM := (yX6_shown, cX6_shown, 4, some .int, [])
theorem dX6_shown_0 : decode cX6_shown 0 = .ok (.iconst 0, 1) := by decide +kernel
theorem dX6_shown_1 : decode cX6_shown 1 = .ok (.istore_n 2, 1) := by decide +kernel
theorem dX6_shown_2 : decode cX6_shown 2 = .ok (.iconst 0, 1) := by decide +kernel
theorem dX6_shown_3 : decode cX6_shown 3 = .ok (.istore_n 3, 1) := by decide +kernel
theorem dX6_shown_4 : decode cX6_shown 4 = .ok (.iload_n 3, 1) := by decide +kernel
theorem dX6_shown_5 : decode cX6_shown 5 = .ok (.aload_n 0, 1) := by decide +kernel
theorem dX6_shown_6 : decode cX6_shown 6 = .ok (.getfield 28, 3) := by decide +kernel
theorem dX6_shown_9 : decode cX6_shown 9 = .ok (.if_icmp .gt 26, 3) := by decide +kernel
theorem dX6_shown_12 : decode cX6_shown 12 = .ok (.iload_n 2, 1) := by decide +kernel
theorem dX6_shown_13 : decode cX6_shown 13 = .ok (.aload_n 0, 1) := by decide +kernel
theorem dX6_shown_14 : decode cX6_shown 14 = .ok (.aload_n 1, 1) := by decide +kernel
theorem dX6_shown_15 : decode cX6_shown 15 = .ok (.iload_n 3, 1) := by decide +kernel
theorem dX6_shown_16 : decode cX6_shown 16 = .ok (.invokevirtual 126, 3) := by decide +kernel
theorem dX6_shown_19 : decode cX6_shown 19 = .ok (.ifCond .eq 7, 3) := by decide +kernel
theorem dX6_shown_22 : decode cX6_shown 22 = .ok (.iconst 1, 1) := by decide +kernel
theorem dX6_shown_23 : decode cX6_shown 23 = .ok (.goto 4, 3) := by decide +kernel
theorem dX6_shown_26 : decode cX6_shown 26 = .ok (.iconst 0, 1) := by decide +kernel
theorem dX6_shown_27 : decode cX6_shown 27 = .ok (.iadd, 1) := by decide +kernel
theorem dX6_shown_28 : decode cX6_shown 28 = .ok (.istore_n 2, 1) := by decide +kernel
theorem dX6_shown_29 : decode cX6_shown 29 = .ok (.iinc 3 1, 3) := by decide +kernel
theorem dX6_shown_32 : decode cX6_shown 32 = .ok (.goto (-28), 3) := by decide +kernel
theorem dX6_shown_35 : decode cX6_shown 35 = .ok (.iload_n 2, 1) := by decide +kernel
theorem dX6_shown_36 : decode cX6_shown 36 = .ok (.ireturn, 1) := by decide +kernel
def f_Tr_shown_49_7_L4  (a : Int32 × Int32 × xS) : Option ((Int32 × Int32 × xS) ⊕ (Int32 × Int32 × xS)) :=
  let v2 := a.1; let v3 := a.2.1; let σ := a.2.2;
  if σ.1 49 5 < v3 then
    some (.inl (v2, v3, σ))
  else
    (f_Tr_isShown_49_7 v3 σ).bind fun q1 =>
    if q1.1 = 0 then
      let w2 := (v2 + (0 : Int32))
      let w3 := v3 + (1 : Int32)
      some (.inr (w2, w3, q1.2))
    else
      let w4 := (v2 + (1 : Int32))
      let w5 := v3 + (1 : Int32)
      some (.inr (w4, w5, q1.2))
def f_Tr_shown_49_7  (σ : xS) : Option (Int32 × xS) :=
  (x_it (f_Tr_shown_49_7_L4 ) 10000 ((0 : Int32), (0 : Int32), σ)).bind fun b6 =>
  some (b6.1, b6.2.2)
set_option maxHeartbeats 4000000 in
set_option maxRecDepth 100000 in
theorem b_Tr_shown_49_7_L4 {l : Launch} {s0 : State} {a0 : Array Value} {D : va_G} {cA : Nat → ClassId} {sp : Nat → Nat} (E : x_En CL l s0 a0 D cA sp)  {r : Int32} {σ1 : xS} (a : Int32 × Int32 × xS) (o : (Int32 × Int32 × xS) ⊕ (Int32 × Int32 × xS)) (h : f_Tr_shown_49_7_L4  a = some o) (hK : ∀ b, o = .inl b → zW l s0 D cA sp (zQ s0 D cA sp (some (.int r)) σ1) (x_rm 4 0 0) M_Tr_shown 0 0 35 [none, none, some (.int b.1), none] [] b.2.2) (hG : ∀ a', o = .inr a' → zW l s0 D cA sp (zQ s0 D cA sp (some (.int r)) σ1) (x_rm 4 0 0) M_Tr_shown 0 0 4 [some (.ref 49), some (.ref 7), some (.int a'.1), some (.int a'.2.1)] [] a'.2.2) : zW l s0 D cA sp (zQ s0 D cA sp (some (.int r)) σ1) (x_rm 4 0 0) M_Tr_shown 0 0 4 [some (.ref 49), some (.ref 7), some (.int a.1), some (.int a.2.1)] [] a.2.2 := by
  obtain ⟨v2, v3, σ⟩ := a
  unfold f_Tr_shown_49_7_L4 at h
  try dsimp only at h ⊢
  refine x_iload_n 5 rfl 3 dX6_shown_4 rfl rfl ?_
  refine x_aload_n 6 rfl 0 dX6_shown_5 rfl rfl ?_
  refine x_getI E dX6_shown_6 F_RX6_28 sh_49 9 rfl ?_
  refine x_icmp_gt 12 rfl 35 dX6_shown_9 (by decide) (fun hc => ?_) (fun hc => ?_)
  · replace h := x_ifT hc h
    cases h
    exact x_wk (x_le_n (x_le_n (x_le_s (x_le_n x_le_0)))) (hK (_, _, _) rfl)
  · replace h := x_ifF hc h
    refine x_iload_n 13 rfl 2 dX6_shown_12 rfl rfl ?_
    refine x_aload_n 14 rfl 0 dX6_shown_13 rfl rfl ?_
    refine x_aload_n 15 rfl 1 dX6_shown_14 rfl rfl ?_
    refine x_iload_n 16 rfl 3 dX6_shown_15 rfl rfl ?_
    obtain ⟨⟨q1r, q1s⟩, q1h, h⟩ := x_bind h
    try dsimp only at h
    refine z_callV E [.ref 7, .int _] [.int _] dX6_shown_16 K_RX6_126 ⟨Nat.le_of_ble_eq_true rfl, Nat.le_of_ble_eq_true rfl⟩ sh_49 (by decide) rfl (c_Tr_isShown_49_7 E _ q1h) rfl rfl (Nat.le_of_ble_eq_true rfl) 19 rfl [.int _, .int _] rfl ?_
    refine x_if_eq 22 rfl 26 dX6_shown_19 (by decide) (fun hc => ?_) (fun hc => ?_)
    · replace h := x_ifT hc h
      refine x_iconst 27 rfl (v := 0) dX6_shown_26 (by decide) ?_
      refine x_iadd 28 rfl dX6_shown_27 ?_
      refine x_istore_n 29 rfl 2 dX6_shown_28 rfl (by decide) [some (.ref 49), some (.ref 7), some (.int _), some (.int _)] rfl ?_
      refine x_iinc 32 rfl (1) dX6_shown_29 rfl (by decide) (by decide) [some (.ref 49), some (.ref 7), some (.int _), some (.int _)] rfl ?_
      refine x_goto 4 dX6_shown_32 (by decide) ?_
      cases h
      exact x_wk (x_le_s (x_le_s (x_le_s (x_le_s x_le_0)))) (hG (_, _, _) rfl)
    · replace h := x_ifF hc h
      refine x_iconst 23 rfl (v := 1) dX6_shown_22 (by decide) ?_
      refine x_goto 27 dX6_shown_23 (by decide) ?_
      refine x_iadd 28 rfl dX6_shown_27 ?_
      refine x_istore_n 29 rfl 2 dX6_shown_28 rfl (by decide) [some (.ref 49), some (.ref 7), some (.int _), some (.int _)] rfl ?_
      refine x_iinc 32 rfl (1) dX6_shown_29 rfl (by decide) (by decide) [some (.ref 49), some (.ref 7), some (.int _), some (.int _)] rfl ?_
      refine x_goto 4 dX6_shown_32 (by decide) ?_
      cases h
      exact x_wk (x_le_s (x_le_s (x_le_s (x_le_s x_le_0)))) (hG (_, _, _) rfl)
set_option maxHeartbeats 4000000 in
set_option maxRecDepth 100000 in
theorem c_Tr_shown_49_7 {l : Launch} {s0 : State} {a0 : Array Value} {D : va_G} {cA : Nat → ClassId} {sp : Nat → Nat} (E : x_En CL l s0 a0 D cA sp)  {σ : xS} {r : Int32} {σ1 : xS} (h : f_Tr_shown_49_7  σ = some (r, σ1)) : zC l s0 D cA sp 4 M_Tr_shown [.ref 49, .ref 7] σ (some (.int r)) σ1 := by
  unfold f_Tr_shown_49_7 at h
  try dsimp only at h
  refine x_enter [some (.ref 49), some (.ref 7), none, none] rfl (Nat.le_of_ble_eq_true rfl) (by decide +kernel) rfl ?_
  refine x_iconst 1 rfl (v := 0) dX6_shown_0 (by decide) ?_
  refine x_istore_n 2 rfl 2 dX6_shown_1 rfl (by decide) [some (.ref 49), some (.ref 7), some (.int _), none] rfl ?_
  refine x_iconst 3 rfl (v := 0) dX6_shown_2 (by decide) ?_
  refine x_istore_n 4 rfl 3 dX6_shown_3 rfl (by decide) [some (.ref 49), some (.ref 7), some (.int _), some (.int _)] rfl ?_
  obtain ⟨b6, b6h, h⟩ := x_bind h
  try dsimp only at h
  refine x_wk (x_le_s (x_le_s (x_le_s (x_le_s x_le_0)))) (x_loop (fun a o h hK hG => b_Tr_shown_49_7_L4 (r := r) (σ1 := σ1) E  a o h hK hG) _ _ _ b6h ?_)
  refine x_iload_n 36 rfl 2 dX6_shown_35 rfl rfl ?_
  cases h
  exact x_iret dX6_shown_36 rfl rfl rfl
