/-! The reference's methods: functions and contracts. Written by wip/gen/emit.py. -/
theorem K_RX9_390 : x_KV RX9 390 M_Mo_last 0 := ⟨⟨(List.mem_append_right _ (List.mem_of_getElem? (i := 1633) (by decide +kernel))), (List.mem_append_right _ (List.mem_of_getElem? (i := 1636) (by decide +kernel))), (List.mem_append_right _ (List.mem_of_getElem? (i := 9) (by decide +kernel))), ⟨by decide +kernel, by decide +kernel⟩, by decide +kernel⟩, (List.mem_append_right _ (List.mem_of_getElem? (i := 1635) (by decide +kernel))), (List.mem_append_left _ (List.mem_of_getElem? (i := 76) (by decide +kernel)))⟩
theorem K_RX9_393 : x_KV RX9 393 M_Mo_judged 1 := ⟨⟨(List.mem_append_right _ (List.mem_of_getElem? (i := 1695) (by decide +kernel))), (List.mem_append_right _ (List.mem_of_getElem? (i := 1698) (by decide +kernel))), (List.mem_append_right _ (List.mem_of_getElem? (i := 9) (by decide +kernel))), ⟨by decide +kernel, by decide +kernel⟩, by decide +kernel⟩, (List.mem_append_right _ (List.mem_of_getElem? (i := 1697) (by decide +kernel))), (List.mem_append_left _ (List.mem_of_getElem? (i := 86) (by decide +kernel)))⟩
theorem K_RX9_396 : x_KV RX9 396 M_Mo_turnOf 1 := ⟨⟨(List.mem_append_right _ (List.mem_of_getElem? (i := 1665) (by decide +kernel))), (List.mem_append_right _ (List.mem_of_getElem? (i := 1668) (by decide +kernel))), (List.mem_append_right _ (List.mem_of_getElem? (i := 9) (by decide +kernel))), ⟨by decide +kernel, by decide +kernel⟩, by decide +kernel⟩, (List.mem_append_right _ (List.mem_of_getElem? (i := 1667) (by decide +kernel))), (List.mem_append_left _ (List.mem_of_getElem? (i := 81) (by decide +kernel)))⟩
theorem K_RX9_399 : x_KV RX9 399 M_Mo_whoseIn 1 := ⟨⟨(List.mem_append_right _ (List.mem_of_getElem? (i := 1706) (by decide +kernel))), (List.mem_append_right _ (List.mem_of_getElem? (i := 1709) (by decide +kernel))), (List.mem_append_right _ (List.mem_of_getElem? (i := 9) (by decide +kernel))), ⟨by decide +kernel, by decide +kernel⟩, by decide +kernel⟩, (List.mem_append_right _ (List.mem_of_getElem? (i := 1708) (by decide +kernel))), (List.mem_append_left _ (List.mem_of_getElem? (i := 88) (by decide +kernel)))⟩
theorem K_RX9_402 : x_KV RX9 402 M_Mo_shouldBe 1 := ⟨⟨(List.mem_append_right _ (List.mem_of_getElem? (i := 1710) (by decide +kernel))), (List.mem_append_right _ (List.mem_of_getElem? (i := 1713) (by decide +kernel))), (List.mem_append_right _ (List.mem_of_getElem? (i := 9) (by decide +kernel))), ⟨by decide +kernel, by decide +kernel⟩, by decide +kernel⟩, (List.mem_append_right _ (List.mem_of_getElem? (i := 1712) (by decide +kernel))), (List.mem_append_left _ (List.mem_of_getElem? (i := 89) (by decide +kernel)))⟩
abbrev M_Mo_goesThrough : xM := (yX9_goesThrough, cX9_goesThrough, 6, none, [])
theorem dX9_goesThrough_0 : decode cX9_goesThrough 0 = .ok (.aload_n 0, 1) := by decide +kernel
theorem dX9_goesThrough_1 : decode cX9_goesThrough 1 = .ok (.invokevirtual 390, 3) := by decide +kernel
theorem dX9_goesThrough_4 : decode cX9_goesThrough 4 = .ok (.istore_n 1, 1) := by decide +kernel
theorem dX9_goesThrough_5 : decode cX9_goesThrough 5 = .ok (.iconst 0, 1) := by decide +kernel
theorem dX9_goesThrough_6 : decode cX9_goesThrough 6 = .ok (.istore_n 2, 1) := by decide +kernel
theorem dX9_goesThrough_7 : decode cX9_goesThrough 7 = .ok (.iload_n 2, 1) := by decide +kernel
theorem dX9_goesThrough_8 : decode cX9_goesThrough 8 = .ok (.iload_n 1, 1) := by decide +kernel
theorem dX9_goesThrough_9 : decode cX9_goesThrough 9 = .ok (.if_icmp .gt 121, 3) := by decide +kernel
theorem dX9_goesThrough_12 : decode cX9_goesThrough 12 = .ok (.aload_n 0, 1) := by decide +kernel
theorem dX9_goesThrough_13 : decode cX9_goesThrough 13 = .ok (.getfield 93, 3) := by decide +kernel
theorem dX9_goesThrough_16 : decode cX9_goesThrough 16 = .ok (.iload_n 2, 1) := by decide +kernel
theorem dX9_goesThrough_17 : decode cX9_goesThrough 17 = .ok (.aload_n 0, 1) := by decide +kernel
theorem dX9_goesThrough_18 : decode cX9_goesThrough 18 = .ok (.aload_n 0, 1) := by decide +kernel
theorem dX9_goesThrough_19 : decode cX9_goesThrough 19 = .ok (.aload_n 0, 1) := by decide +kernel
theorem dX9_goesThrough_20 : decode cX9_goesThrough 20 = .ok (.iload_n 2, 1) := by decide +kernel
theorem dX9_goesThrough_21 : decode cX9_goesThrough 21 = .ok (.invokevirtual 387, 3) := by decide +kernel
theorem dX9_goesThrough_24 : decode cX9_goesThrough 24 = .ok (.invokevirtual 393, 3) := by decide +kernel
theorem dX9_goesThrough_27 : decode cX9_goesThrough 27 = .ok (.invokevirtual 396, 3) := by decide +kernel
theorem dX9_goesThrough_30 : decode cX9_goesThrough 30 = .ok (.iastore, 1) := by decide +kernel
theorem dX9_goesThrough_31 : decode cX9_goesThrough 31 = .ok (.aload_n 0, 1) := by decide +kernel
theorem dX9_goesThrough_32 : decode cX9_goesThrough 32 = .ok (.aload_n 0, 1) := by decide +kernel
theorem dX9_goesThrough_33 : decode cX9_goesThrough 33 = .ok (.iload_n 2, 1) := by decide +kernel
theorem dX9_goesThrough_34 : decode cX9_goesThrough 34 = .ok (.aload_n 0, 1) := by decide +kernel
theorem dX9_goesThrough_35 : decode cX9_goesThrough 35 = .ok (.iload_n 2, 1) := by decide +kernel
theorem dX9_goesThrough_36 : decode cX9_goesThrough 36 = .ok (.invokevirtual 399, 3) := by decide +kernel
theorem dX9_goesThrough_39 : decode cX9_goesThrough 39 = .ok (.invokevirtual 381, 3) := by decide +kernel
theorem dX9_goesThrough_42 : decode cX9_goesThrough 42 = .ok (.invokevirtual 396, 3) := by decide +kernel
theorem dX9_goesThrough_45 : decode cX9_goesThrough 45 = .ok (.istore_n 3, 1) := by decide +kernel
theorem dX9_goesThrough_46 : decode cX9_goesThrough 46 = .ok (.iload_n 2, 1) := by decide +kernel
theorem dX9_goesThrough_47 : decode cX9_goesThrough 47 = .ok (.ifCond .ne 13, 3) := by decide +kernel
theorem dX9_goesThrough_50 : decode cX9_goesThrough 50 = .ok (.aload_n 0, 1) := by decide +kernel
theorem dX9_goesThrough_51 : decode cX9_goesThrough 51 = .ok (.getfield 96, 3) := by decide +kernel
theorem dX9_goesThrough_54 : decode cX9_goesThrough 54 = .ok (.iconst 0, 1) := by decide +kernel
theorem dX9_goesThrough_55 : decode cX9_goesThrough 55 = .ok (.iload_n 3, 1) := by decide +kernel
theorem dX9_goesThrough_56 : decode cX9_goesThrough 56 = .ok (.iastore, 1) := by decide +kernel
theorem dX9_goesThrough_57 : decode cX9_goesThrough 57 = .ok (.goto 53, 3) := by decide +kernel
theorem dX9_goesThrough_60 : decode cX9_goesThrough 60 = .ok (.aload_n 0, 1) := by decide +kernel
theorem dX9_goesThrough_61 : decode cX9_goesThrough 61 = .ok (.iload_n 2, 1) := by decide +kernel
theorem dX9_goesThrough_62 : decode cX9_goesThrough 62 = .ok (.invokevirtual 402, 3) := by decide +kernel
theorem dX9_goesThrough_65 : decode cX9_goesThrough 65 = .ok (.istore 4, 2) := by decide +kernel
theorem dX9_goesThrough_67 : decode cX9_goesThrough 67 = .ok (.aload_n 0, 1) := by decide +kernel
theorem dX9_goesThrough_68 : decode cX9_goesThrough 68 = .ok (.getfield 78, 3) := by decide +kernel
theorem dX9_goesThrough_71 : decode cX9_goesThrough 71 = .ok (.iconst 2, 1) := by decide +kernel
theorem dX9_goesThrough_72 : decode cX9_goesThrough 72 = .ok (.iaload, 1) := by decide +kernel
theorem dX9_goesThrough_73 : decode cX9_goesThrough 73 = .ok (.istore 5, 2) := by decide +kernel
theorem dX9_goesThrough_75 : decode cX9_goesThrough 75 = .ok (.aload_n 0, 1) := by decide +kernel
theorem dX9_goesThrough_76 : decode cX9_goesThrough 76 = .ok (.getfield 96, 3) := by decide +kernel
theorem dX9_goesThrough_79 : decode cX9_goesThrough 79 = .ok (.iload_n 2, 1) := by decide +kernel
theorem dX9_goesThrough_80 : decode cX9_goesThrough 80 = .ok (.aload_n 0, 1) := by decide +kernel
theorem dX9_goesThrough_81 : decode cX9_goesThrough 81 = .ok (.getfield 96, 3) := by decide +kernel
theorem dX9_goesThrough_84 : decode cX9_goesThrough 84 = .ok (.iload_n 2, 1) := by decide +kernel
theorem dX9_goesThrough_85 : decode cX9_goesThrough 85 = .ok (.iconst 1, 1) := by decide +kernel
theorem dX9_goesThrough_86 : decode cX9_goesThrough 86 = .ok (.isub, 1) := by decide +kernel
theorem dX9_goesThrough_87 : decode cX9_goesThrough 87 = .ok (.iaload, 1) := by decide +kernel
theorem dX9_goesThrough_88 : decode cX9_goesThrough 88 = .ok (.iload 4, 2) := by decide +kernel
theorem dX9_goesThrough_90 : decode cX9_goesThrough 90 = .ok (.aload_n 0, 1) := by decide +kernel
theorem dX9_goesThrough_91 : decode cX9_goesThrough 91 = .ok (.getfield 96, 3) := by decide +kernel
theorem dX9_goesThrough_94 : decode cX9_goesThrough 94 = .ok (.iload_n 2, 1) := by decide +kernel
theorem dX9_goesThrough_95 : decode cX9_goesThrough 95 = .ok (.iconst 1, 1) := by decide +kernel
theorem dX9_goesThrough_96 : decode cX9_goesThrough 96 = .ok (.isub, 1) := by decide +kernel
theorem dX9_goesThrough_97 : decode cX9_goesThrough 97 = .ok (.iaload, 1) := by decide +kernel
theorem dX9_goesThrough_98 : decode cX9_goesThrough 98 = .ok (.isub, 1) := by decide +kernel
theorem dX9_goesThrough_99 : decode cX9_goesThrough 99 = .ok (.iconst 0, 1) := by decide +kernel
theorem dX9_goesThrough_100 : decode cX9_goesThrough 100 = .ok (.iload 5, 2) := by decide +kernel
theorem dX9_goesThrough_102 : decode cX9_goesThrough 102 = .ok (.isub, 1) := by decide +kernel
theorem dX9_goesThrough_103 : decode cX9_goesThrough 103 = .ok (.iload 5, 2) := by decide +kernel
theorem dX9_goesThrough_105 : decode cX9_goesThrough 105 = .ok (.invokestatic 369, 3) := by decide +kernel
theorem dX9_goesThrough_108 : decode cX9_goesThrough 108 = .ok (.iadd, 1) := by decide +kernel
theorem dX9_goesThrough_109 : decode cX9_goesThrough 109 = .ok (.iastore, 1) := by decide +kernel
theorem dX9_goesThrough_110 : decode cX9_goesThrough 110 = .ok (.aload_n 0, 1) := by decide +kernel
theorem dX9_goesThrough_111 : decode cX9_goesThrough 111 = .ok (.getfield 99, 3) := by decide +kernel
theorem dX9_goesThrough_114 : decode cX9_goesThrough 114 = .ok (.iload_n 2, 1) := by decide +kernel
theorem dX9_goesThrough_115 : decode cX9_goesThrough 115 = .ok (.iload_n 3, 1) := by decide +kernel
theorem dX9_goesThrough_116 : decode cX9_goesThrough 116 = .ok (.aload_n 0, 1) := by decide +kernel
theorem dX9_goesThrough_117 : decode cX9_goesThrough 117 = .ok (.getfield 96, 3) := by decide +kernel
theorem dX9_goesThrough_120 : decode cX9_goesThrough 120 = .ok (.iload_n 2, 1) := by decide +kernel
theorem dX9_goesThrough_121 : decode cX9_goesThrough 121 = .ok (.iaload, 1) := by decide +kernel
theorem dX9_goesThrough_122 : decode cX9_goesThrough 122 = .ok (.isub, 1) := by decide +kernel
theorem dX9_goesThrough_123 : decode cX9_goesThrough 123 = .ok (.iastore, 1) := by decide +kernel
theorem dX9_goesThrough_124 : decode cX9_goesThrough 124 = .ok (.iinc 2 1, 3) := by decide +kernel
theorem dX9_goesThrough_127 : decode cX9_goesThrough 127 = .ok (.goto (-120), 3) := by decide +kernel
theorem dX9_goesThrough_130 : decode cX9_goesThrough 130 = .ok (.return_, 1) := by decide +kernel
def f_Mo_goesThrough_60_J110 (v1 : Int32) (v2 : Int32) (v3 : Int32) (σ : xS) : Option ((Int32 × xS) ⊕ (Int32 × xS)) :=
  if v2 < 0 ∨ 601 ≤ v2.toNatClampNeg then none else
  if v2 < 0 ∨ 601 ≤ v2.toNatClampNeg then none else
  let σ1 := x_pI σ 86 v2.toNatClampNeg (v3 - σ.1 85 v2.toNatClampNeg)
  let w2 := v2 + (1 : Int32)
  some (.inr (w2, σ1))
def f_Mo_goesThrough_60_L7 (v1 : Int32) (a : Int32 × xS) : Option ((Int32 × xS) ⊕ (Int32 × xS)) :=
  let v2 := a.1; let σ := a.2;
  if v1 < v2 then
    some (.inl (v2, σ))
  else
    (f_Mo_sawAt_60 v2 σ).bind fun q3 =>
    (f_Mo_judged_60 q3.1 q3.2).bind fun q4 =>
    (f_Mo_turnOf_60 q4.1 q4.2).bind fun q5 =>
    if v2 < 0 ∨ 601 ≤ v2.toNatClampNeg then none else
    let σ6 := x_pI q5.2 84 v2.toNatClampNeg q5.1
    (f_Mo_whoseIn_60 v2 σ6).bind fun q7 =>
    (f_Mo_inchesOf_60 v2 q7.1 q7.2).bind fun q8 =>
    (f_Mo_turnOf_60 q8.1 q8.2).bind fun q9 =>
    let w10 := q9.1
    if v2 = 0 then
      let σ16 := x_pI q9.2 85 0 w10
      f_Mo_goesThrough_60_J110 v1 v2 w10 σ16
    else
      (f_Mo_shouldBe_60 v2 q9.2).bind fun q11 =>
      let w12 := q11.1
      let w13 := q11.2.1 79 2
      if (v2 - (1 : Int32)) < 0 ∨ 601 ≤ (v2 - (1 : Int32)).toNatClampNeg then none else
      if (v2 - (1 : Int32)) < 0 ∨ 601 ≤ (v2 - (1 : Int32)).toNatClampNeg then none else
      (f_Mo_bounded (w12 - q11.2.1 85 (v2 - (1 : Int32)).toNatClampNeg) ((0 : Int32) - w13) w13 q11.2).bind fun q14 =>
      if v2 < 0 ∨ 601 ≤ v2.toNatClampNeg then none else
      let σ15 := x_pI q14.2 85 v2.toNatClampNeg (q11.2.1 85 (v2 - (1 : Int32)).toNatClampNeg + q14.1)
      f_Mo_goesThrough_60_J110 v1 v2 w10 σ15
def f_Mo_goesThrough_60  (σ : xS) : Option (Unit × xS) :=
  (f_Mo_last_60  σ).bind fun q17 =>
  let w18 := q17.1
  (x_it (f_Mo_goesThrough_60_L7 w18) 10000 ((0 : Int32), q17.2)).bind fun b19 =>
  some ((), b19.2)
set_option maxHeartbeats 4000000 in
set_option maxRecDepth 100000 in
theorem j_Mo_goesThrough_60_J110 {l : Launch} {s0 : State} {a0 : Array Value} {D : va_G} {cA : Nat → ClassId} {sp : Nat → Nat} (E : x_En CL l s0 a0 D cA sp) (v1 : Int32) (v2 : Int32) (v3 : Int32)  (σ : xS) {r : Unit} {σ1 : xS} (o : (Int32 × xS) ⊕ (Int32 × xS)) (h : f_Mo_goesThrough_60_J110 v1 v2 v3 σ = some o) (hK : ∀ b, o = .inl b → zW l s0 D cA sp (zQ s0 D cA sp none σ1) (x_rm 4 0 0) M_Mo_goesThrough 0 0 130 [none, none, none, none, none, none] [] b.2) (hG : ∀ a', o = .inr a' → zW l s0 D cA sp (zQ s0 D cA sp none σ1) (x_rm 4 0 0) M_Mo_goesThrough 0 0 7 [some (.ref 60), some (.int v1), some (.int a'.1), none, none, none] [] a'.2) : zW l s0 D cA sp (zQ s0 D cA sp none σ1) (x_rm 4 0 0) M_Mo_goesThrough 0 0 110 [some (.ref 60), some (.int v1), some (.int v2), some (.int v3), none, none] [] σ := by
  unfold f_Mo_goesThrough_60_J110 at h
  try dsimp only at h
  refine x_aload_n 111 rfl 0 dX9_goesThrough_110 rfl rfl ?_
  refine x_getR E dX9_goesThrough_111 F_RX9_99 sh_60 rf_60_63 114 rfl ?_
  refine x_iload_n 115 rfl 2 dX9_goesThrough_114 rfl rfl ?_
  refine x_iload_n 116 rfl 3 dX9_goesThrough_115 rfl rfl ?_
  refine x_aload_n 117 rfl 0 dX9_goesThrough_116 rfl rfl ?_
  refine x_getR E dX9_goesThrough_117 F_RX9_96 sh_60 rf_60_62 120 rfl ?_
  refine x_iload_n 121 rfl 2 dX9_goesThrough_120 rfl rfl ?_
  obtain ⟨hz, h⟩ := x_ifn h
  refine x_iald E dX9_goesThrough_121 sh_85 _ rfl hz 122 rfl ?_
  refine x_isub 123 rfl dX9_goesThrough_122 ?_
  obtain ⟨hz, h⟩ := x_ifn h
  refine x_iast E dX9_goesThrough_123 sh_86 _ rfl hz 124 rfl ?_
  refine x_iinc 127 rfl (1) dX9_goesThrough_124 rfl (by decide) (by decide) [some (.ref 60), some (.int _), some (.int _), some (.int _), none, none] rfl ?_
  refine x_goto 7 dX9_goesThrough_127 (by decide) ?_
  cases h
  exact x_wk (x_le_s (x_le_s (x_le_s (x_le_n (x_le_n (x_le_n x_le_0)))))) (hG (_, _) rfl)
set_option maxHeartbeats 4000000 in
set_option maxRecDepth 100000 in
theorem b_Mo_goesThrough_60_L7 {l : Launch} {s0 : State} {a0 : Array Value} {D : va_G} {cA : Nat → ClassId} {sp : Nat → Nat} (E : x_En CL l s0 a0 D cA sp) (v1 : Int32) {r : Unit} {σ1 : xS} (a : Int32 × xS) (o : (Int32 × xS) ⊕ (Int32 × xS)) (h : f_Mo_goesThrough_60_L7 v1 a = some o) (hK : ∀ b, o = .inl b → zW l s0 D cA sp (zQ s0 D cA sp none σ1) (x_rm 4 0 0) M_Mo_goesThrough 0 0 130 [none, none, none, none, none, none] [] b.2) (hG : ∀ a', o = .inr a' → zW l s0 D cA sp (zQ s0 D cA sp none σ1) (x_rm 4 0 0) M_Mo_goesThrough 0 0 7 [some (.ref 60), some (.int v1), some (.int a'.1), none, none, none] [] a'.2) : zW l s0 D cA sp (zQ s0 D cA sp none σ1) (x_rm 4 0 0) M_Mo_goesThrough 0 0 7 [some (.ref 60), some (.int v1), some (.int a.1), none, none, none] [] a.2 := by
  obtain ⟨v2, σ⟩ := a
  unfold f_Mo_goesThrough_60_L7 at h
  try dsimp only at h ⊢
  refine x_iload_n 8 rfl 2 dX9_goesThrough_7 rfl rfl ?_
  refine x_iload_n 9 rfl 1 dX9_goesThrough_8 rfl rfl ?_
  refine x_icmp_gt 12 rfl 130 dX9_goesThrough_9 (by decide) (fun hc => ?_) (fun hc => ?_)
  · replace h := x_ifT hc h
    cases h
    exact x_wk (x_le_n (x_le_n (x_le_n (x_le_n (x_le_n (x_le_n x_le_0)))))) (hK (_, _) rfl)
  · replace h := x_ifF hc h
    refine x_aload_n 13 rfl 0 dX9_goesThrough_12 rfl rfl ?_
    refine x_getR E dX9_goesThrough_13 F_RX9_93 sh_60 rf_60_61 16 rfl ?_
    refine x_iload_n 17 rfl 2 dX9_goesThrough_16 rfl rfl ?_
    refine x_aload_n 18 rfl 0 dX9_goesThrough_17 rfl rfl ?_
    refine x_aload_n 19 rfl 0 dX9_goesThrough_18 rfl rfl ?_
    refine x_aload_n 20 rfl 0 dX9_goesThrough_19 rfl rfl ?_
    refine x_iload_n 21 rfl 2 dX9_goesThrough_20 rfl rfl ?_
    obtain ⟨⟨q3r, q3s⟩, q3h, h⟩ := x_bind h
    try dsimp only at h
    refine z_callV E [.int _] [.ref 60, .ref 60, .int _, .ref 84] dX9_goesThrough_21 K_RX9_387 ⟨Nat.le_of_ble_eq_true rfl, Nat.le_of_ble_eq_true rfl⟩ sh_60 (by decide) rfl (c_Mo_sawAt_60 E _ q3h) rfl rfl (Nat.le_of_ble_eq_true rfl) 24 rfl [.int _, .ref 60, .ref 60, .int _, .ref 84] rfl ?_
    obtain ⟨⟨q4r, q4s⟩, q4h, h⟩ := x_bind h
    try dsimp only at h
    refine z_callV E [.int _] [.ref 60, .int _, .ref 84] dX9_goesThrough_24 K_RX9_393 ⟨Nat.le_of_ble_eq_true rfl, Nat.le_of_ble_eq_true rfl⟩ sh_60 (by decide) rfl (c_Mo_judged_60 E _ q4h) rfl rfl (Nat.le_of_ble_eq_true rfl) 27 rfl [.int _, .ref 60, .int _, .ref 84] rfl ?_
    obtain ⟨⟨q5r, q5s⟩, q5h, h⟩ := x_bind h
    try dsimp only at h
    refine z_callV E [.int _] [.int _, .ref 84] dX9_goesThrough_27 K_RX9_396 ⟨Nat.le_of_ble_eq_true rfl, Nat.le_of_ble_eq_true rfl⟩ sh_60 (by decide) rfl (c_Mo_turnOf_60 E _ q5h) rfl rfl (Nat.le_of_ble_eq_true rfl) 30 rfl [.int _, .int _, .ref 84] rfl ?_
    obtain ⟨hz, h⟩ := x_ifn h
    refine x_iast E dX9_goesThrough_30 sh_84 _ rfl hz 31 rfl ?_
    refine x_aload_n 32 rfl 0 dX9_goesThrough_31 rfl rfl ?_
    refine x_aload_n 33 rfl 0 dX9_goesThrough_32 rfl rfl ?_
    refine x_iload_n 34 rfl 2 dX9_goesThrough_33 rfl rfl ?_
    refine x_aload_n 35 rfl 0 dX9_goesThrough_34 rfl rfl ?_
    refine x_iload_n 36 rfl 2 dX9_goesThrough_35 rfl rfl ?_
    obtain ⟨⟨q7r, q7s⟩, q7h, h⟩ := x_bind h
    try dsimp only at h
    refine z_callV E [.int _] [.int _, .ref 60, .ref 60] dX9_goesThrough_36 K_RX9_399 ⟨Nat.le_of_ble_eq_true rfl, Nat.le_of_ble_eq_true rfl⟩ sh_60 (by decide) rfl (c_Mo_whoseIn_60 E _ q7h) rfl rfl (Nat.le_of_ble_eq_true rfl) 39 rfl [.int _, .int _, .ref 60, .ref 60] rfl ?_
    obtain ⟨⟨q8r, q8s⟩, q8h, h⟩ := x_bind h
    try dsimp only at h
    refine z_callV E [.int _, .int _] [.ref 60] dX9_goesThrough_39 K_RX9_381 ⟨Nat.le_of_ble_eq_true rfl, Nat.le_of_ble_eq_true rfl⟩ sh_60 (by decide) rfl (c_Mo_inchesOf_60 E _ _ q8h) rfl rfl (Nat.le_of_ble_eq_true rfl) 42 rfl [.int _, .ref 60] rfl ?_
    obtain ⟨⟨q9r, q9s⟩, q9h, h⟩ := x_bind h
    try dsimp only at h
    refine z_callV E [.int _] [] dX9_goesThrough_42 K_RX9_396 ⟨Nat.le_of_ble_eq_true rfl, Nat.le_of_ble_eq_true rfl⟩ sh_60 (by decide) rfl (c_Mo_turnOf_60 E _ q9h) rfl rfl (Nat.le_of_ble_eq_true rfl) 45 rfl [.int _] rfl ?_
    refine x_istore_n 46 rfl 3 dX9_goesThrough_45 rfl (by decide) [some (.ref 60), some (.int _), some (.int _), some (.int _), none, none] rfl ?_
    refine x_iload_n 47 rfl 2 dX9_goesThrough_46 rfl rfl ?_
    refine x_if_ne 50 rfl 60 dX9_goesThrough_47 (by decide) (fun hc => ?_) (fun hc => ?_)
    · replace h := x_ifF hc h
      refine x_aload_n 61 rfl 0 dX9_goesThrough_60 rfl rfl ?_
      refine x_iload_n 62 rfl 2 dX9_goesThrough_61 rfl rfl ?_
      obtain ⟨⟨q11r, q11s⟩, q11h, h⟩ := x_bind h
      try dsimp only at h
      refine z_callV E [.int _] [] dX9_goesThrough_62 K_RX9_402 ⟨Nat.le_of_ble_eq_true rfl, Nat.le_of_ble_eq_true rfl⟩ sh_60 (by decide) rfl (c_Mo_shouldBe_60 E _ q11h) rfl rfl (Nat.le_of_ble_eq_true rfl) 65 rfl [.int _] rfl ?_
      refine x_istore 67 rfl dX9_goesThrough_65 (by decide) [some (.ref 60), some (.int _), some (.int _), some (.int _), some (.int _), none] rfl ?_
      refine x_aload_n 68 rfl 0 dX9_goesThrough_67 rfl rfl ?_
      refine x_getR E dX9_goesThrough_68 F_RX9_78 sh_60 rf_60_53 71 rfl ?_
      refine x_iconst 72 rfl (v := 2) dX9_goesThrough_71 (by decide) ?_
      refine x_iald E dX9_goesThrough_72 sh_79 2 (by decide) (by decide) 73 rfl ?_
      refine x_istore 75 rfl dX9_goesThrough_73 (by decide) [some (.ref 60), some (.int _), some (.int _), some (.int _), some (.int _), some (.int _)] rfl ?_
      refine x_aload_n 76 rfl 0 dX9_goesThrough_75 rfl rfl ?_
      refine x_getR E dX9_goesThrough_76 F_RX9_96 sh_60 rf_60_62 79 rfl ?_
      refine x_iload_n 80 rfl 2 dX9_goesThrough_79 rfl rfl ?_
      refine x_aload_n 81 rfl 0 dX9_goesThrough_80 rfl rfl ?_
      refine x_getR E dX9_goesThrough_81 F_RX9_96 sh_60 rf_60_62 84 rfl ?_
      refine x_iload_n 85 rfl 2 dX9_goesThrough_84 rfl rfl ?_
      refine x_iconst 86 rfl (v := 1) dX9_goesThrough_85 (by decide) ?_
      refine x_isub 87 rfl dX9_goesThrough_86 ?_
      obtain ⟨hz, h⟩ := x_ifn h
      refine x_iald E dX9_goesThrough_87 sh_85 _ rfl hz 88 rfl ?_
      refine x_iload 90 rfl dX9_goesThrough_88 rfl ?_
      refine x_aload_n 91 rfl 0 dX9_goesThrough_90 rfl rfl ?_
      refine x_getR E dX9_goesThrough_91 F_RX9_96 sh_60 rf_60_62 94 rfl ?_
      refine x_iload_n 95 rfl 2 dX9_goesThrough_94 rfl rfl ?_
      refine x_iconst 96 rfl (v := 1) dX9_goesThrough_95 (by decide) ?_
      refine x_isub 97 rfl dX9_goesThrough_96 ?_
      obtain ⟨hz, h⟩ := x_ifn h
      refine x_iald E dX9_goesThrough_97 sh_85 _ rfl hz 98 rfl ?_
      refine x_isub 99 rfl dX9_goesThrough_98 ?_
      refine x_iconst 100 rfl (v := 0) dX9_goesThrough_99 (by decide) ?_
      refine x_iload 102 rfl dX9_goesThrough_100 rfl ?_
      refine x_isub 103 rfl dX9_goesThrough_102 ?_
      refine x_iload 105 rfl dX9_goesThrough_103 rfl ?_
      obtain ⟨⟨q14r, q14s⟩, q14h, h⟩ := x_bind h
      try dsimp only at h
      refine z_callS E [.int _, .int _, .int _] [.int _, .int _, .ref 85] dX9_goesThrough_105 K_RX9_369 ⟨Nat.le_of_ble_eq_true rfl, Nat.le_of_ble_eq_true rfl⟩ (c_Mo_bounded E _ _ _ q14h) rfl rfl (Nat.le_of_ble_eq_true rfl) 108 rfl [.int _, .int _, .int _, .ref 85] rfl ?_
      refine x_iadd 109 rfl dX9_goesThrough_108 ?_
      obtain ⟨hz, h⟩ := x_ifn h
      refine x_iast E dX9_goesThrough_109 sh_85 _ rfl hz 110 rfl ?_
      exact x_wk (x_le_s (x_le_s (x_le_s (x_le_s (x_le_n (x_le_n x_le_0)))))) (j_Mo_goesThrough_60_J110 (r := r) (σ1 := σ1) E _ _ _  _ _ h hK hG)
    · replace h := x_ifT hc h
      refine x_aload_n 51 rfl 0 dX9_goesThrough_50 rfl rfl ?_
      refine x_getR E dX9_goesThrough_51 F_RX9_96 sh_60 rf_60_62 54 rfl ?_
      refine x_iconst 55 rfl (v := 0) dX9_goesThrough_54 (by decide) ?_
      refine x_iload_n 56 rfl 3 dX9_goesThrough_55 rfl rfl ?_
      refine x_iast E dX9_goesThrough_56 sh_85 0 (by decide) (by decide) 57 rfl ?_
      refine x_goto 110 dX9_goesThrough_57 (by decide) ?_
      exact x_wk (x_le_s (x_le_s (x_le_s (x_le_s (x_le_n (x_le_n x_le_0)))))) (j_Mo_goesThrough_60_J110 (r := r) (σ1 := σ1) E _ _ _  _ _ h hK hG)
set_option maxHeartbeats 4000000 in
set_option maxRecDepth 100000 in
theorem c_Mo_goesThrough_60 {l : Launch} {s0 : State} {a0 : Array Value} {D : va_G} {cA : Nat → ClassId} {sp : Nat → Nat} (E : x_En CL l s0 a0 D cA sp)  {σ : xS} {r : Unit} {σ1 : xS} (h : f_Mo_goesThrough_60  σ = some (r, σ1)) : zC l s0 D cA sp 4 M_Mo_goesThrough [.ref 60] σ none σ1 := by
  unfold f_Mo_goesThrough_60 at h
  try dsimp only at h
  refine x_enter [some (.ref 60), none, none, none, none, none] rfl (Nat.le_of_ble_eq_true rfl) (by decide +kernel) rfl ?_
  refine x_aload_n 1 rfl 0 dX9_goesThrough_0 rfl rfl ?_
  obtain ⟨⟨q17r, q17s⟩, q17h, h⟩ := x_bind h
  try dsimp only at h
  refine z_callV E [] [] dX9_goesThrough_1 K_RX9_390 ⟨Nat.le_of_ble_eq_true rfl, Nat.le_of_ble_eq_true rfl⟩ sh_60 (by decide) rfl (c_Mo_last_60 E  q17h) rfl rfl (Nat.le_of_ble_eq_true rfl) 4 rfl [.int _] rfl ?_
  refine x_istore_n 5 rfl 1 dX9_goesThrough_4 rfl (by decide) [some (.ref 60), some (.int _), none, none, none, none] rfl ?_
  refine x_iconst 6 rfl (v := 0) dX9_goesThrough_5 (by decide) ?_
  refine x_istore_n 7 rfl 2 dX9_goesThrough_6 rfl (by decide) [some (.ref 60), some (.int _), some (.int _), none, none, none] rfl ?_
  obtain ⟨b19, b19h, h⟩ := x_bind h
  try dsimp only at h
  refine x_wk (x_le_s (x_le_s (x_le_s (x_le_n (x_le_n (x_le_n x_le_0)))))) (x_loop (fun a o h hK hG => b_Mo_goesThrough_60_L7 (r := r) (σ1 := σ1) E _ a o h hK hG) _ _ _ b19h ?_)
  cases h
  exact x_vret dX9_goesThrough_130 rfl rfl rfl
abbrev M_Mo_isSharp : xM := (yX9_isSharp, cX9_isSharp, 2, some .boolean, [])
theorem dX9_isSharp_0 : decode cX9_isSharp 0 = .ok (.aload_n 0, 1) := by decide +kernel
theorem dX9_isSharp_1 : decode cX9_isSharp 1 = .ok (.getfield 99, 3) := by decide +kernel
theorem dX9_isSharp_4 : decode cX9_isSharp 4 = .ok (.iload_n 1, 1) := by decide +kernel
theorem dX9_isSharp_5 : decode cX9_isSharp 5 = .ok (.iaload, 1) := by decide +kernel
theorem dX9_isSharp_6 : decode cX9_isSharp 6 = .ok (.iconst 0, 1) := by decide +kernel
theorem dX9_isSharp_7 : decode cX9_isSharp 7 = .ok (.invokestatic 372, 3) := by decide +kernel
theorem dX9_isSharp_10 : decode cX9_isSharp 10 = .ok (.aload_n 0, 1) := by decide +kernel
theorem dX9_isSharp_11 : decode cX9_isSharp 11 = .ok (.getfield 78, 3) := by decide +kernel
theorem dX9_isSharp_14 : decode cX9_isSharp 14 = .ok (.iconst 0, 1) := by decide +kernel
theorem dX9_isSharp_15 : decode cX9_isSharp 15 = .ok (.iaload, 1) := by decide +kernel
theorem dX9_isSharp_16 : decode cX9_isSharp 16 = .ok (.if_icmp .gt 7, 3) := by decide +kernel
theorem dX9_isSharp_19 : decode cX9_isSharp 19 = .ok (.iconst 1, 1) := by decide +kernel
theorem dX9_isSharp_20 : decode cX9_isSharp 20 = .ok (.goto 4, 3) := by decide +kernel
theorem dX9_isSharp_23 : decode cX9_isSharp 23 = .ok (.iconst 0, 1) := by decide +kernel
theorem dX9_isSharp_24 : decode cX9_isSharp 24 = .ok (.ireturn, 1) := by decide +kernel
def f_Mo_isSharp_60 (v1 : Int32) (σ : xS) : Option (Int32 × xS) :=
  if v1 < 0 ∨ 601 ≤ v1.toNatClampNeg then none else
  (f_Mo_off (σ.1 86 v1.toNatClampNeg) (0 : Int32) σ).bind fun q1 =>
  if q1.2.1 79 0 < q1.1 then
    some ((0 : Int32), q1.2)
  else
    some ((1 : Int32), q1.2)
set_option maxHeartbeats 4000000 in
set_option maxRecDepth 100000 in
theorem c_Mo_isSharp_60 {l : Launch} {s0 : State} {a0 : Array Value} {D : va_G} {cA : Nat → ClassId} {sp : Nat → Nat} (E : x_En CL l s0 a0 D cA sp) (v1 : Int32) {σ : xS} {r : Int32} {σ1 : xS} (h : f_Mo_isSharp_60 v1 σ = some (r, σ1)) : zC l s0 D cA sp 1 M_Mo_isSharp [.ref 60, .int v1] σ (some (.int r)) σ1 := by
  unfold f_Mo_isSharp_60 at h
  try dsimp only at h
  refine x_enter [some (.ref 60), some (.int v1)] rfl (Nat.le_of_ble_eq_true rfl) (by decide +kernel) rfl ?_
  refine x_aload_n 1 rfl 0 dX9_isSharp_0 rfl rfl ?_
  refine x_getR E dX9_isSharp_1 F_RX9_99 sh_60 rf_60_63 4 rfl ?_
  refine x_iload_n 5 rfl 1 dX9_isSharp_4 rfl rfl ?_
  obtain ⟨hz, h⟩ := x_ifn h
  refine x_iald E dX9_isSharp_5 sh_86 _ rfl hz 6 rfl ?_
  refine x_iconst 7 rfl (v := 0) dX9_isSharp_6 (by decide) ?_
  obtain ⟨⟨q1r, q1s⟩, q1h, h⟩ := x_bind h
  try dsimp only at h
  refine z_callS E [.int _, .int _] [] dX9_isSharp_7 K_RX9_372 ⟨Nat.le_of_ble_eq_true rfl, Nat.le_of_ble_eq_true rfl⟩ (c_Mo_off E _ _ q1h) rfl rfl (Nat.le_of_ble_eq_true rfl) 10 rfl [.int _] rfl ?_
  refine x_aload_n 11 rfl 0 dX9_isSharp_10 rfl rfl ?_
  refine x_getR E dX9_isSharp_11 F_RX9_78 sh_60 rf_60_53 14 rfl ?_
  refine x_iconst 15 rfl (v := 0) dX9_isSharp_14 (by decide) ?_
  refine x_iald E dX9_isSharp_15 sh_79 0 (by decide) (by decide) 16 rfl ?_
  refine x_icmp_gt 19 rfl 23 dX9_isSharp_16 (by decide) (fun hc => ?_) (fun hc => ?_)
  · replace h := x_ifT hc h
    refine x_iconst 24 rfl (v := 0) dX9_isSharp_23 (by decide) ?_
    cases h
    exact x_zret (Or.inl rfl) dX9_isSharp_24 rfl rfl rfl
  · replace h := x_ifF hc h
    refine x_iconst 20 rfl (v := 1) dX9_isSharp_19 (by decide) ?_
    refine x_goto 24 dX9_isSharp_20 (by decide) ?_
    cases h
    exact x_zret (Or.inr rfl) dX9_isSharp_24 rfl rfl rfl
theorem K_RX9_405 : x_KV RX9 405 M_Mo_isSharp 1 := ⟨⟨(List.mem_append_right _ (List.mem_of_getElem? (i := 1714) (by decide +kernel))), (List.mem_append_right _ (List.mem_of_getElem? (i := 1717) (by decide +kernel))), (List.mem_append_right _ (List.mem_of_getElem? (i := 9) (by decide +kernel))), ⟨by decide +kernel, by decide +kernel⟩, by decide +kernel⟩, (List.mem_append_right _ (List.mem_of_getElem? (i := 1716) (by decide +kernel))), (List.mem_append_left _ (List.mem_of_getElem? (i := 90) (by decide +kernel)))⟩
abbrev M_Mo_sharpMany : xM := (yX9_sharpMany, cX9_sharpMany, 3, some .int, [])
theorem dX9_sharpMany_0 : decode cX9_sharpMany 0 = .ok (.iconst 0, 1) := by decide +kernel
theorem dX9_sharpMany_1 : decode cX9_sharpMany 1 = .ok (.istore_n 1, 1) := by decide +kernel
theorem dX9_sharpMany_2 : decode cX9_sharpMany 2 = .ok (.iconst 0, 1) := by decide +kernel
theorem dX9_sharpMany_3 : decode cX9_sharpMany 3 = .ok (.istore_n 2, 1) := by decide +kernel
theorem dX9_sharpMany_4 : decode cX9_sharpMany 4 = .ok (.iload_n 2, 1) := by decide +kernel
theorem dX9_sharpMany_5 : decode cX9_sharpMany 5 = .ok (.aload_n 0, 1) := by decide +kernel
theorem dX9_sharpMany_6 : decode cX9_sharpMany 6 = .ok (.invokevirtual 390, 3) := by decide +kernel
theorem dX9_sharpMany_9 : decode cX9_sharpMany 9 = .ok (.if_icmp .gt 25, 3) := by decide +kernel
theorem dX9_sharpMany_12 : decode cX9_sharpMany 12 = .ok (.iload_n 1, 1) := by decide +kernel
theorem dX9_sharpMany_13 : decode cX9_sharpMany 13 = .ok (.aload_n 0, 1) := by decide +kernel
theorem dX9_sharpMany_14 : decode cX9_sharpMany 14 = .ok (.iload_n 2, 1) := by decide +kernel
theorem dX9_sharpMany_15 : decode cX9_sharpMany 15 = .ok (.invokevirtual 405, 3) := by decide +kernel
theorem dX9_sharpMany_18 : decode cX9_sharpMany 18 = .ok (.ifCond .eq 7, 3) := by decide +kernel
theorem dX9_sharpMany_21 : decode cX9_sharpMany 21 = .ok (.iconst 1, 1) := by decide +kernel
theorem dX9_sharpMany_22 : decode cX9_sharpMany 22 = .ok (.goto 4, 3) := by decide +kernel
theorem dX9_sharpMany_25 : decode cX9_sharpMany 25 = .ok (.iconst 0, 1) := by decide +kernel
theorem dX9_sharpMany_26 : decode cX9_sharpMany 26 = .ok (.iadd, 1) := by decide +kernel
theorem dX9_sharpMany_27 : decode cX9_sharpMany 27 = .ok (.istore_n 1, 1) := by decide +kernel
theorem dX9_sharpMany_28 : decode cX9_sharpMany 28 = .ok (.iinc 2 1, 3) := by decide +kernel
theorem dX9_sharpMany_31 : decode cX9_sharpMany 31 = .ok (.goto (-27), 3) := by decide +kernel
theorem dX9_sharpMany_34 : decode cX9_sharpMany 34 = .ok (.iload_n 1, 1) := by decide +kernel
theorem dX9_sharpMany_35 : decode cX9_sharpMany 35 = .ok (.ireturn, 1) := by decide +kernel
def f_Mo_sharpMany_60_L4  (a : Int32 × Int32 × xS) : Option ((Int32 × Int32 × xS) ⊕ (Int32 × Int32 × xS)) :=
  let v1 := a.1; let v2 := a.2.1; let σ := a.2.2;
  (f_Mo_last_60  σ).bind fun q1 =>
  if q1.1 < v2 then
    some (.inl (v1, v2, q1.2))
  else
    (f_Mo_isSharp_60 v2 q1.2).bind fun q2 =>
    if q2.1 = 0 then
      let w3 := (v1 + (0 : Int32))
      let w4 := v2 + (1 : Int32)
      some (.inr (w3, w4, q2.2))
    else
      let w5 := (v1 + (1 : Int32))
      let w6 := v2 + (1 : Int32)
      some (.inr (w5, w6, q2.2))
def f_Mo_sharpMany_60  (σ : xS) : Option (Int32 × xS) :=
  (x_it (f_Mo_sharpMany_60_L4 ) 10000 ((0 : Int32), (0 : Int32), σ)).bind fun b7 =>
  some (b7.1, b7.2.2)
set_option maxHeartbeats 4000000 in
set_option maxRecDepth 100000 in
theorem b_Mo_sharpMany_60_L4 {l : Launch} {s0 : State} {a0 : Array Value} {D : va_G} {cA : Nat → ClassId} {sp : Nat → Nat} (E : x_En CL l s0 a0 D cA sp)  {r : Int32} {σ1 : xS} (a : Int32 × Int32 × xS) (o : (Int32 × Int32 × xS) ⊕ (Int32 × Int32 × xS)) (h : f_Mo_sharpMany_60_L4  a = some o) (hK : ∀ b, o = .inl b → zW l s0 D cA sp (zQ s0 D cA sp (some (.int r)) σ1) (x_rm 2 0 0) M_Mo_sharpMany 0 0 34 [none, some (.int b.1), none] [] b.2.2) (hG : ∀ a', o = .inr a' → zW l s0 D cA sp (zQ s0 D cA sp (some (.int r)) σ1) (x_rm 2 0 0) M_Mo_sharpMany 0 0 4 [some (.ref 60), some (.int a'.1), some (.int a'.2.1)] [] a'.2.2) : zW l s0 D cA sp (zQ s0 D cA sp (some (.int r)) σ1) (x_rm 2 0 0) M_Mo_sharpMany 0 0 4 [some (.ref 60), some (.int a.1), some (.int a.2.1)] [] a.2.2 := by
  obtain ⟨v1, v2, σ⟩ := a
  unfold f_Mo_sharpMany_60_L4 at h
  try dsimp only at h ⊢
  refine x_iload_n 5 rfl 2 dX9_sharpMany_4 rfl rfl ?_
  refine x_aload_n 6 rfl 0 dX9_sharpMany_5 rfl rfl ?_
  obtain ⟨⟨q1r, q1s⟩, q1h, h⟩ := x_bind h
  try dsimp only at h
  refine z_callV E [] [.int _] dX9_sharpMany_6 K_RX9_390 ⟨Nat.le_of_ble_eq_true rfl, Nat.le_of_ble_eq_true rfl⟩ sh_60 (by decide) rfl (c_Mo_last_60 E  q1h) rfl rfl (Nat.le_of_ble_eq_true rfl) 9 rfl [.int _, .int _] rfl ?_
  refine x_icmp_gt 12 rfl 34 dX9_sharpMany_9 (by decide) (fun hc => ?_) (fun hc => ?_)
  · replace h := x_ifT hc h
    cases h
    exact x_wk (x_le_n (x_le_s (x_le_n x_le_0))) (hK (_, _, _) rfl)
  · replace h := x_ifF hc h
    refine x_iload_n 13 rfl 1 dX9_sharpMany_12 rfl rfl ?_
    refine x_aload_n 14 rfl 0 dX9_sharpMany_13 rfl rfl ?_
    refine x_iload_n 15 rfl 2 dX9_sharpMany_14 rfl rfl ?_
    obtain ⟨⟨q2r, q2s⟩, q2h, h⟩ := x_bind h
    try dsimp only at h
    refine z_callV E [.int _] [.int _] dX9_sharpMany_15 K_RX9_405 ⟨Nat.le_of_ble_eq_true rfl, Nat.le_of_ble_eq_true rfl⟩ sh_60 (by decide) rfl (c_Mo_isSharp_60 E _ q2h) rfl rfl (Nat.le_of_ble_eq_true rfl) 18 rfl [.int _, .int _] rfl ?_
    refine x_if_eq 21 rfl 25 dX9_sharpMany_18 (by decide) (fun hc => ?_) (fun hc => ?_)
    · replace h := x_ifT hc h
      refine x_iconst 26 rfl (v := 0) dX9_sharpMany_25 (by decide) ?_
      refine x_iadd 27 rfl dX9_sharpMany_26 ?_
      refine x_istore_n 28 rfl 1 dX9_sharpMany_27 rfl (by decide) [some (.ref 60), some (.int _), some (.int _)] rfl ?_
      refine x_iinc 31 rfl (1) dX9_sharpMany_28 rfl (by decide) (by decide) [some (.ref 60), some (.int _), some (.int _)] rfl ?_
      refine x_goto 4 dX9_sharpMany_31 (by decide) ?_
      cases h
      exact x_wk (x_le_s (x_le_s (x_le_s x_le_0))) (hG (_, _, _) rfl)
    · replace h := x_ifF hc h
      refine x_iconst 22 rfl (v := 1) dX9_sharpMany_21 (by decide) ?_
      refine x_goto 26 dX9_sharpMany_22 (by decide) ?_
      refine x_iadd 27 rfl dX9_sharpMany_26 ?_
      refine x_istore_n 28 rfl 1 dX9_sharpMany_27 rfl (by decide) [some (.ref 60), some (.int _), some (.int _)] rfl ?_
      refine x_iinc 31 rfl (1) dX9_sharpMany_28 rfl (by decide) (by decide) [some (.ref 60), some (.int _), some (.int _)] rfl ?_
      refine x_goto 4 dX9_sharpMany_31 (by decide) ?_
      cases h
      exact x_wk (x_le_s (x_le_s (x_le_s x_le_0))) (hG (_, _, _) rfl)
set_option maxHeartbeats 4000000 in
set_option maxRecDepth 100000 in
theorem c_Mo_sharpMany_60 {l : Launch} {s0 : State} {a0 : Array Value} {D : va_G} {cA : Nat → ClassId} {sp : Nat → Nat} (E : x_En CL l s0 a0 D cA sp)  {σ : xS} {r : Int32} {σ1 : xS} (h : f_Mo_sharpMany_60  σ = some (r, σ1)) : zC l s0 D cA sp 2 M_Mo_sharpMany [.ref 60] σ (some (.int r)) σ1 := by
  unfold f_Mo_sharpMany_60 at h
  try dsimp only at h
  refine x_enter [some (.ref 60), none, none] rfl (Nat.le_of_ble_eq_true rfl) (by decide +kernel) rfl ?_
  refine x_iconst 1 rfl (v := 0) dX9_sharpMany_0 (by decide) ?_
  refine x_istore_n 2 rfl 1 dX9_sharpMany_1 rfl (by decide) [some (.ref 60), some (.int _), none] rfl ?_
  refine x_iconst 3 rfl (v := 0) dX9_sharpMany_2 (by decide) ?_
  refine x_istore_n 4 rfl 2 dX9_sharpMany_3 rfl (by decide) [some (.ref 60), some (.int _), some (.int _)] rfl ?_
  obtain ⟨b7, b7h, h⟩ := x_bind h
  try dsimp only at h
  refine x_wk (x_le_s (x_le_s (x_le_s x_le_0))) (x_loop (fun a o h hK hG => b_Mo_sharpMany_60_L4 (r := r) (σ1 := σ1) E  a o h hK hG) _ _ _ b7h ?_)
  refine x_iload_n 35 rfl 1 dX9_sharpMany_34 rfl rfl ?_
  cases h
  exact x_iret dX9_sharpMany_35 rfl rfl rfl
theorem K_RX9_408 : x_KV RX9 408 M_Mo_goesThrough 0 := ⟨⟨(List.mem_append_right _ (List.mem_of_getElem? (i := 1683) (by decide +kernel))), (List.mem_append_right _ (List.mem_of_getElem? (i := 1686) (by decide +kernel))), (List.mem_append_right _ (List.mem_of_getElem? (i := 9) (by decide +kernel))), ⟨by decide +kernel, by decide +kernel⟩, by decide +kernel⟩, (List.mem_append_right _ (List.mem_of_getElem? (i := 1685) (by decide +kernel))), (List.mem_append_left _ (List.mem_of_getElem? (i := 83) (by decide +kernel)))⟩
theorem K_RX9_411 : x_KV RX9 411 M_Mo_sharpMany 0 := ⟨⟨(List.mem_append_right _ (List.mem_of_getElem? (i := 1726) (by decide +kernel))), (List.mem_append_right _ (List.mem_of_getElem? (i := 1729) (by decide +kernel))), (List.mem_append_right _ (List.mem_of_getElem? (i := 9) (by decide +kernel))), ⟨by decide +kernel, by decide +kernel⟩, by decide +kernel⟩, (List.mem_append_right _ (List.mem_of_getElem? (i := 1728) (by decide +kernel))), (List.mem_append_left _ (List.mem_of_getElem? (i := 92) (by decide +kernel)))⟩
abbrev M_Mo_takesSharp : xM := (yX9_takesSharp, cX9_takesSharp, 1, some .int, [])
theorem dX9_takesSharp_0 : decode cX9_takesSharp 0 = .ok (.aload_n 0, 1) := by decide +kernel
theorem dX9_takesSharp_1 : decode cX9_takesSharp 1 = .ok (.invokevirtual 408, 3) := by decide +kernel
theorem dX9_takesSharp_4 : decode cX9_takesSharp 4 = .ok (.aload_n 0, 1) := by decide +kernel
theorem dX9_takesSharp_5 : decode cX9_takesSharp 5 = .ok (.invokevirtual 411, 3) := by decide +kernel
theorem dX9_takesSharp_8 : decode cX9_takesSharp 8 = .ok (.ireturn, 1) := by decide +kernel
def f_Mo_takesSharp_60  (σ : xS) : Option (Int32 × xS) :=
  (f_Mo_goesThrough_60  σ).bind fun q1 =>
  (f_Mo_sharpMany_60  q1.2).bind fun q2 =>
  some (q2.1, q2.2)
set_option maxHeartbeats 4000000 in
set_option maxRecDepth 100000 in
theorem c_Mo_takesSharp_60 {l : Launch} {s0 : State} {a0 : Array Value} {D : va_G} {cA : Nat → ClassId} {sp : Nat → Nat} (E : x_En CL l s0 a0 D cA sp)  {σ : xS} {r : Int32} {σ1 : xS} (h : f_Mo_takesSharp_60  σ = some (r, σ1)) : zC l s0 D cA sp 5 M_Mo_takesSharp [.ref 60] σ (some (.int r)) σ1 := by
  unfold f_Mo_takesSharp_60 at h
  try dsimp only at h
  refine x_enter [some (.ref 60)] rfl (Nat.le_of_ble_eq_true rfl) (by decide +kernel) rfl ?_
  refine x_aload_n 1 rfl 0 dX9_takesSharp_0 rfl rfl ?_
  obtain ⟨⟨q1r, q1s⟩, q1h, h⟩ := x_bind h
  try dsimp only at h
  refine z_callV E [] [] dX9_takesSharp_1 K_RX9_408 ⟨Nat.le_of_ble_eq_true rfl, Nat.le_of_ble_eq_true rfl⟩ sh_60 (by decide) rfl (c_Mo_goesThrough_60 E  q1h) rfl rfl (Nat.le_of_ble_eq_true rfl) 4 rfl [] rfl ?_
  refine x_aload_n 5 rfl 0 dX9_takesSharp_4 rfl rfl ?_
  obtain ⟨⟨q2r, q2s⟩, q2h, h⟩ := x_bind h
  try dsimp only at h
  refine z_callV E [] [] dX9_takesSharp_5 K_RX9_411 ⟨Nat.le_of_ble_eq_true rfl, Nat.le_of_ble_eq_true rfl⟩ sh_60 (by decide) rfl (c_Mo_sharpMany_60 E  q2h) rfl rfl (Nat.le_of_ble_eq_true rfl) 8 rfl [.int _] rfl ?_
  cases h
  exact x_iret dX9_takesSharp_8 rfl rfl rfl
abbrev M_Mo_mostOff : xM := (yX9_mostOff, cX9_mostOff, 3, some .int, [])
theorem dX9_mostOff_0 : decode cX9_mostOff 0 = .ok (.iconst 0, 1) := by decide +kernel
theorem dX9_mostOff_1 : decode cX9_mostOff 1 = .ok (.istore_n 1, 1) := by decide +kernel
theorem dX9_mostOff_2 : decode cX9_mostOff 2 = .ok (.iconst 0, 1) := by decide +kernel
theorem dX9_mostOff_3 : decode cX9_mostOff 3 = .ok (.istore_n 2, 1) := by decide +kernel
theorem dX9_mostOff_4 : decode cX9_mostOff 4 = .ok (.iload_n 2, 1) := by decide +kernel
theorem dX9_mostOff_5 : decode cX9_mostOff 5 = .ok (.aload_n 0, 1) := by decide +kernel
theorem dX9_mostOff_6 : decode cX9_mostOff 6 = .ok (.invokevirtual 390, 3) := by decide +kernel
theorem dX9_mostOff_9 : decode cX9_mostOff 9 = .ok (.if_icmp .gt 38, 3) := by decide +kernel
theorem dX9_mostOff_12 : decode cX9_mostOff 12 = .ok (.aload_n 0, 1) := by decide +kernel
theorem dX9_mostOff_13 : decode cX9_mostOff 13 = .ok (.getfield 99, 3) := by decide +kernel
theorem dX9_mostOff_16 : decode cX9_mostOff 16 = .ok (.iload_n 2, 1) := by decide +kernel
theorem dX9_mostOff_17 : decode cX9_mostOff 17 = .ok (.iaload, 1) := by decide +kernel
theorem dX9_mostOff_18 : decode cX9_mostOff 18 = .ok (.iconst 0, 1) := by decide +kernel
theorem dX9_mostOff_19 : decode cX9_mostOff 19 = .ok (.invokestatic 372, 3) := by decide +kernel
theorem dX9_mostOff_22 : decode cX9_mostOff 22 = .ok (.iload_n 1, 1) := by decide +kernel
theorem dX9_mostOff_23 : decode cX9_mostOff 23 = .ok (.if_icmp .le 16, 3) := by decide +kernel
theorem dX9_mostOff_26 : decode cX9_mostOff 26 = .ok (.aload_n 0, 1) := by decide +kernel
theorem dX9_mostOff_27 : decode cX9_mostOff 27 = .ok (.getfield 99, 3) := by decide +kernel
theorem dX9_mostOff_30 : decode cX9_mostOff 30 = .ok (.iload_n 2, 1) := by decide +kernel
theorem dX9_mostOff_31 : decode cX9_mostOff 31 = .ok (.iaload, 1) := by decide +kernel
theorem dX9_mostOff_32 : decode cX9_mostOff 32 = .ok (.iconst 0, 1) := by decide +kernel
theorem dX9_mostOff_33 : decode cX9_mostOff 33 = .ok (.invokestatic 372, 3) := by decide +kernel
theorem dX9_mostOff_36 : decode cX9_mostOff 36 = .ok (.goto 4, 3) := by decide +kernel
theorem dX9_mostOff_39 : decode cX9_mostOff 39 = .ok (.iload_n 1, 1) := by decide +kernel
theorem dX9_mostOff_40 : decode cX9_mostOff 40 = .ok (.istore_n 1, 1) := by decide +kernel
theorem dX9_mostOff_41 : decode cX9_mostOff 41 = .ok (.iinc 2 1, 3) := by decide +kernel
theorem dX9_mostOff_44 : decode cX9_mostOff 44 = .ok (.goto (-40), 3) := by decide +kernel
theorem dX9_mostOff_47 : decode cX9_mostOff 47 = .ok (.iload_n 1, 1) := by decide +kernel
theorem dX9_mostOff_48 : decode cX9_mostOff 48 = .ok (.ireturn, 1) := by decide +kernel
def f_Mo_mostOff_60_L4  (a : Int32 × Int32 × xS) : Option ((Int32 × Int32 × xS) ⊕ (Int32 × Int32 × xS)) :=
  let v1 := a.1; let v2 := a.2.1; let σ := a.2.2;
  (f_Mo_last_60  σ).bind fun q1 =>
  if q1.1 < v2 then
    some (.inl (v1, v2, q1.2))
  else
    if v2 < 0 ∨ 601 ≤ v2.toNatClampNeg then none else
    (f_Mo_off (q1.2.1 86 v2.toNatClampNeg) (0 : Int32) q1.2).bind fun q2 =>
    if q2.1 ≤ v1 then
      let w3 := v2 + (1 : Int32)
      some (.inr (v1, w3, q2.2))
    else
      if v2 < 0 ∨ 601 ≤ v2.toNatClampNeg then none else
      (f_Mo_off (q2.2.1 86 v2.toNatClampNeg) (0 : Int32) q2.2).bind fun q4 =>
      let w5 := q4.1
      let w6 := v2 + (1 : Int32)
      some (.inr (w5, w6, q4.2))
def f_Mo_mostOff_60  (σ : xS) : Option (Int32 × xS) :=
  (x_it (f_Mo_mostOff_60_L4 ) 10000 ((0 : Int32), (0 : Int32), σ)).bind fun b7 =>
  some (b7.1, b7.2.2)
set_option maxHeartbeats 4000000 in
set_option maxRecDepth 100000 in
theorem b_Mo_mostOff_60_L4 {l : Launch} {s0 : State} {a0 : Array Value} {D : va_G} {cA : Nat → ClassId} {sp : Nat → Nat} (E : x_En CL l s0 a0 D cA sp)  {r : Int32} {σ1 : xS} (a : Int32 × Int32 × xS) (o : (Int32 × Int32 × xS) ⊕ (Int32 × Int32 × xS)) (h : f_Mo_mostOff_60_L4  a = some o) (hK : ∀ b, o = .inl b → zW l s0 D cA sp (zQ s0 D cA sp (some (.int r)) σ1) (x_rm 1 0 0) M_Mo_mostOff 0 0 47 [none, some (.int b.1), none] [] b.2.2) (hG : ∀ a', o = .inr a' → zW l s0 D cA sp (zQ s0 D cA sp (some (.int r)) σ1) (x_rm 1 0 0) M_Mo_mostOff 0 0 4 [some (.ref 60), some (.int a'.1), some (.int a'.2.1)] [] a'.2.2) : zW l s0 D cA sp (zQ s0 D cA sp (some (.int r)) σ1) (x_rm 1 0 0) M_Mo_mostOff 0 0 4 [some (.ref 60), some (.int a.1), some (.int a.2.1)] [] a.2.2 := by
  obtain ⟨v1, v2, σ⟩ := a
  unfold f_Mo_mostOff_60_L4 at h
  try dsimp only at h ⊢
  refine x_iload_n 5 rfl 2 dX9_mostOff_4 rfl rfl ?_
  refine x_aload_n 6 rfl 0 dX9_mostOff_5 rfl rfl ?_
  obtain ⟨⟨q1r, q1s⟩, q1h, h⟩ := x_bind h
  try dsimp only at h
  refine z_callV E [] [.int _] dX9_mostOff_6 K_RX9_390 ⟨Nat.le_of_ble_eq_true rfl, Nat.le_of_ble_eq_true rfl⟩ sh_60 (by decide) rfl (c_Mo_last_60 E  q1h) rfl rfl (Nat.le_of_ble_eq_true rfl) 9 rfl [.int _, .int _] rfl ?_
  refine x_icmp_gt 12 rfl 47 dX9_mostOff_9 (by decide) (fun hc => ?_) (fun hc => ?_)
  · replace h := x_ifT hc h
    cases h
    exact x_wk (x_le_n (x_le_s (x_le_n x_le_0))) (hK (_, _, _) rfl)
  · replace h := x_ifF hc h
    refine x_aload_n 13 rfl 0 dX9_mostOff_12 rfl rfl ?_
    refine x_getR E dX9_mostOff_13 F_RX9_99 sh_60 rf_60_63 16 rfl ?_
    refine x_iload_n 17 rfl 2 dX9_mostOff_16 rfl rfl ?_
    obtain ⟨hz, h⟩ := x_ifn h
    refine x_iald E dX9_mostOff_17 sh_86 _ rfl hz 18 rfl ?_
    refine x_iconst 19 rfl (v := 0) dX9_mostOff_18 (by decide) ?_
    obtain ⟨⟨q2r, q2s⟩, q2h, h⟩ := x_bind h
    try dsimp only at h
    refine z_callS E [.int _, .int _] [] dX9_mostOff_19 K_RX9_372 ⟨Nat.le_of_ble_eq_true rfl, Nat.le_of_ble_eq_true rfl⟩ (c_Mo_off E _ _ q2h) rfl rfl (Nat.le_of_ble_eq_true rfl) 22 rfl [.int _] rfl ?_
    refine x_iload_n 23 rfl 1 dX9_mostOff_22 rfl rfl ?_
    refine x_icmp_le 26 rfl 39 dX9_mostOff_23 (by decide) (fun hc => ?_) (fun hc => ?_)
    · replace h := x_ifT hc h
      refine x_iload_n 40 rfl 1 dX9_mostOff_39 rfl rfl ?_
      refine x_istore_n 41 rfl 1 dX9_mostOff_40 rfl (by decide) [some (.ref 60), some (.int _), some (.int _)] rfl ?_
      refine x_iinc 44 rfl (1) dX9_mostOff_41 rfl (by decide) (by decide) [some (.ref 60), some (.int _), some (.int _)] rfl ?_
      refine x_goto 4 dX9_mostOff_44 (by decide) ?_
      cases h
      exact x_wk (x_le_s (x_le_s (x_le_s x_le_0))) (hG (_, _, _) rfl)
    · replace h := x_ifF hc h
      refine x_aload_n 27 rfl 0 dX9_mostOff_26 rfl rfl ?_
      refine x_getR E dX9_mostOff_27 F_RX9_99 sh_60 rf_60_63 30 rfl ?_
      refine x_iload_n 31 rfl 2 dX9_mostOff_30 rfl rfl ?_
      obtain ⟨hz, h⟩ := x_ifn h
      refine x_iald E dX9_mostOff_31 sh_86 _ rfl hz 32 rfl ?_
      refine x_iconst 33 rfl (v := 0) dX9_mostOff_32 (by decide) ?_
      obtain ⟨⟨q4r, q4s⟩, q4h, h⟩ := x_bind h
      try dsimp only at h
      refine z_callS E [.int _, .int _] [] dX9_mostOff_33 K_RX9_372 ⟨Nat.le_of_ble_eq_true rfl, Nat.le_of_ble_eq_true rfl⟩ (c_Mo_off E _ _ q4h) rfl rfl (Nat.le_of_ble_eq_true rfl) 36 rfl [.int _] rfl ?_
      refine x_goto 40 dX9_mostOff_36 (by decide) ?_
      refine x_istore_n 41 rfl 1 dX9_mostOff_40 rfl (by decide) [some (.ref 60), some (.int _), some (.int _)] rfl ?_
      refine x_iinc 44 rfl (1) dX9_mostOff_41 rfl (by decide) (by decide) [some (.ref 60), some (.int _), some (.int _)] rfl ?_
      refine x_goto 4 dX9_mostOff_44 (by decide) ?_
      cases h
      exact x_wk (x_le_s (x_le_s (x_le_s x_le_0))) (hG (_, _, _) rfl)
set_option maxHeartbeats 4000000 in
set_option maxRecDepth 100000 in
theorem c_Mo_mostOff_60 {l : Launch} {s0 : State} {a0 : Array Value} {D : va_G} {cA : Nat → ClassId} {sp : Nat → Nat} (E : x_En CL l s0 a0 D cA sp)  {σ : xS} {r : Int32} {σ1 : xS} (h : f_Mo_mostOff_60  σ = some (r, σ1)) : zC l s0 D cA sp 1 M_Mo_mostOff [.ref 60] σ (some (.int r)) σ1 := by
  unfold f_Mo_mostOff_60 at h
  try dsimp only at h
  refine x_enter [some (.ref 60), none, none] rfl (Nat.le_of_ble_eq_true rfl) (by decide +kernel) rfl ?_
  refine x_iconst 1 rfl (v := 0) dX9_mostOff_0 (by decide) ?_
  refine x_istore_n 2 rfl 1 dX9_mostOff_1 rfl (by decide) [some (.ref 60), some (.int _), none] rfl ?_
  refine x_iconst 3 rfl (v := 0) dX9_mostOff_2 (by decide) ?_
  refine x_istore_n 4 rfl 2 dX9_mostOff_3 rfl (by decide) [some (.ref 60), some (.int _), some (.int _)] rfl ?_
  obtain ⟨b7, b7h, h⟩ := x_bind h
  try dsimp only at h
  refine x_wk (x_le_s (x_le_s (x_le_s x_le_0))) (x_loop (fun a o h hK hG => b_Mo_mostOff_60_L4 (r := r) (σ1 := σ1) E  a o h hK hG) _ _ _ b7h ?_)
  refine x_iload_n 48 rfl 1 dX9_mostOff_47 rfl rfl ?_
  cases h
  exact x_iret dX9_mostOff_48 rfl rfl rfl
abbrev M_Mo_isShown : xM := (yX9_isShown, cX9_isShown, 2, some .boolean, [])
theorem dX9_isShown_0 : decode cX9_isShown 0 = .ok (.aload_n 0, 1) := by decide +kernel
theorem dX9_isShown_1 : decode cX9_isShown 1 = .ok (.iload_n 1, 1) := by decide +kernel
theorem dX9_isShown_2 : decode cX9_isShown 2 = .ok (.invokevirtual 405, 3) := by decide +kernel
theorem dX9_isShown_5 : decode cX9_isShown 5 = .ok (.ifCond .eq 5, 3) := by decide +kernel
theorem dX9_isShown_8 : decode cX9_isShown 8 = .ok (.iconst 0, 1) := by decide +kernel
theorem dX9_isShown_9 : decode cX9_isShown 9 = .ok (.ireturn, 1) := by decide +kernel
theorem dX9_isShown_10 : decode cX9_isShown 10 = .ok (.aload_n 0, 1) := by decide +kernel
theorem dX9_isShown_11 : decode cX9_isShown 11 = .ok (.getfield 16, 3) := by decide +kernel
theorem dX9_isShown_14 : decode cX9_isShown 14 = .ok (.iconst (-1), 1) := by decide +kernel
theorem dX9_isShown_15 : decode cX9_isShown 15 = .ok (.if_icmp .ne 5, 3) := by decide +kernel
theorem dX9_isShown_18 : decode cX9_isShown 18 = .ok (.iconst 1, 1) := by decide +kernel
theorem dX9_isShown_19 : decode cX9_isShown 19 = .ok (.ireturn, 1) := by decide +kernel
theorem dX9_isShown_20 : decode cX9_isShown 20 = .ok (.aload_n 0, 1) := by decide +kernel
theorem dX9_isShown_21 : decode cX9_isShown 21 = .ok (.getfield 87, 3) := by decide +kernel
theorem dX9_isShown_24 : decode cX9_isShown 24 = .ok (.bipush 6, 2) := by decide +kernel
theorem dX9_isShown_26 : decode cX9_isShown 26 = .ok (.aload_n 0, 1) := by decide +kernel
theorem dX9_isShown_27 : decode cX9_isShown 27 = .ok (.getfield 99, 3) := by decide +kernel
theorem dX9_isShown_30 : decode cX9_isShown 30 = .ok (.iload_n 1, 1) := by decide +kernel
theorem dX9_isShown_31 : decode cX9_isShown 31 = .ok (.iaload, 1) := by decide +kernel
theorem dX9_isShown_32 : decode cX9_isShown 32 = .ok (.iconst 0, 1) := by decide +kernel
theorem dX9_isShown_33 : decode cX9_isShown 33 = .ok (.invokestatic 372, 3) := by decide +kernel
theorem dX9_isShown_36 : decode cX9_isShown 36 = .ok (.iastore, 1) := by decide +kernel
theorem dX9_isShown_37 : decode cX9_isShown 37 = .ok (.aload_n 0, 1) := by decide +kernel
theorem dX9_isShown_38 : decode cX9_isShown 38 = .ok (.getfield 87, 3) := by decide +kernel
theorem dX9_isShown_41 : decode cX9_isShown 41 = .ok (.bipush 7, 2) := by decide +kernel
theorem dX9_isShown_43 : decode cX9_isShown 43 = .ok (.aload_n 0, 1) := by decide +kernel
theorem dX9_isShown_44 : decode cX9_isShown 44 = .ok (.getfield 78, 3) := by decide +kernel
theorem dX9_isShown_47 : decode cX9_isShown 47 = .ok (.iconst 0, 1) := by decide +kernel
theorem dX9_isShown_48 : decode cX9_isShown 48 = .ok (.iaload, 1) := by decide +kernel
theorem dX9_isShown_49 : decode cX9_isShown 49 = .ok (.iastore, 1) := by decide +kernel
theorem dX9_isShown_50 : decode cX9_isShown 50 = .ok (.aload_n 0, 1) := by decide +kernel
theorem dX9_isShown_51 : decode cX9_isShown 51 = .ok (.getfield 87, 3) := by decide +kernel
theorem dX9_isShown_54 : decode cX9_isShown 54 = .ok (.iconst 5, 1) := by decide +kernel
theorem dX9_isShown_55 : decode cX9_isShown 55 = .ok (.aload_n 0, 1) := by decide +kernel
theorem dX9_isShown_56 : decode cX9_isShown 56 = .ok (.iload_n 1, 1) := by decide +kernel
theorem dX9_isShown_57 : decode cX9_isShown 57 = .ok (.aload_n 0, 1) := by decide +kernel
theorem dX9_isShown_58 : decode cX9_isShown 58 = .ok (.iload_n 1, 1) := by decide +kernel
theorem dX9_isShown_59 : decode cX9_isShown 59 = .ok (.invokevirtual 399, 3) := by decide +kernel
theorem dX9_isShown_62 : decode cX9_isShown 62 = .ok (.invokevirtual 381, 3) := by decide +kernel
theorem dX9_isShown_65 : decode cX9_isShown 65 = .ok (.iastore, 1) := by decide +kernel
theorem dX9_isShown_66 : decode cX9_isShown 66 = .ok (.aload_n 0, 1) := by decide +kernel
theorem dX9_isShown_67 : decode cX9_isShown 67 = .ok (.aload_n 0, 1) := by decide +kernel
theorem dX9_isShown_68 : decode cX9_isShown 68 = .ok (.getfield 16, 3) := by decide +kernel
theorem dX9_isShown_71 : decode cX9_isShown 71 = .ok (.invokevirtual 366, 3) := by decide +kernel
theorem dX9_isShown_74 : decode cX9_isShown 74 = .ok (.ifCond .le 7, 3) := by decide +kernel
theorem dX9_isShown_77 : decode cX9_isShown 77 = .ok (.iconst 1, 1) := by decide +kernel
theorem dX9_isShown_78 : decode cX9_isShown 78 = .ok (.goto 4, 3) := by decide +kernel
theorem dX9_isShown_81 : decode cX9_isShown 81 = .ok (.iconst 0, 1) := by decide +kernel
theorem dX9_isShown_82 : decode cX9_isShown 82 = .ok (.ireturn, 1) := by decide +kernel
def f_Mo_isShown_60 (v1 : Int32) (σ : xS) : Option (Int32 × xS) :=
  (f_Mo_isSharp_60 v1 σ).bind fun q1 =>
  if q1.1 = 0 then
    if q1.2.1 60 7 = (-1 : Int32) then
      some ((1 : Int32), q1.2)
    else
      if v1 < 0 ∨ 601 ≤ v1.toNatClampNeg then none else
      (f_Mo_off (q1.2.1 86 v1.toNatClampNeg) (0 : Int32) q1.2).bind fun q2 =>
      let σ3 := x_pI q2.2 82 6 q2.1
      let σ4 := x_pI σ3 82 7 (σ3.1 79 0)
      (f_Mo_whoseIn_60 v1 σ4).bind fun q5 =>
      (f_Mo_inchesOf_60 v1 q5.1 q5.2).bind fun q6 =>
      let σ7 := x_pI q6.2 82 5 q6.1
      (f_Mo_reckons_60 (σ7.1 60 7) σ7).bind fun q8 =>
      if q8.1 ≤ 0 then
        some ((0 : Int32), q8.2)
      else
        some ((1 : Int32), q8.2)
  else
    some ((0 : Int32), q1.2)
set_option maxHeartbeats 4000000 in
set_option maxRecDepth 100000 in
theorem c_Mo_isShown_60 {l : Launch} {s0 : State} {a0 : Array Value} {D : va_G} {cA : Nat → ClassId} {sp : Nat → Nat} (E : x_En CL l s0 a0 D cA sp) (v1 : Int32) {σ : xS} {r : Int32} {σ1 : xS} (h : f_Mo_isShown_60 v1 σ = some (r, σ1)) : zC l s0 D cA sp 2 M_Mo_isShown [.ref 60, .int v1] σ (some (.int r)) σ1 := by
  unfold f_Mo_isShown_60 at h
  try dsimp only at h
  refine x_enter [some (.ref 60), some (.int v1)] rfl (Nat.le_of_ble_eq_true rfl) (by decide +kernel) rfl ?_
  refine x_aload_n 1 rfl 0 dX9_isShown_0 rfl rfl ?_
  refine x_iload_n 2 rfl 1 dX9_isShown_1 rfl rfl ?_
  obtain ⟨⟨q1r, q1s⟩, q1h, h⟩ := x_bind h
  try dsimp only at h
  refine z_callV E [.int _] [] dX9_isShown_2 K_RX9_405 ⟨Nat.le_of_ble_eq_true rfl, Nat.le_of_ble_eq_true rfl⟩ sh_60 (by decide) rfl (c_Mo_isSharp_60 E _ q1h) rfl rfl (Nat.le_of_ble_eq_true rfl) 5 rfl [.int _] rfl ?_
  refine x_if_eq 8 rfl 10 dX9_isShown_5 (by decide) (fun hc => ?_) (fun hc => ?_)
  · replace h := x_ifT hc h
    refine x_aload_n 11 rfl 0 dX9_isShown_10 rfl rfl ?_
    refine x_getI E dX9_isShown_11 F_RX9_16 sh_60 14 rfl ?_
    refine x_iconst 15 rfl (v := -1) dX9_isShown_14 (by decide) ?_
    refine x_icmp_ne 18 rfl 20 dX9_isShown_15 (by decide) (fun hc => ?_) (fun hc => ?_)
    · replace h := x_ifF hc h
      refine x_aload_n 21 rfl 0 dX9_isShown_20 rfl rfl ?_
      refine x_getR E dX9_isShown_21 F_RX9_87 sh_60 rf_60_57 24 rfl ?_
      refine x_bipush 26 rfl (v := 6) dX9_isShown_24 (by decide) ?_
      refine x_aload_n 27 rfl 0 dX9_isShown_26 rfl rfl ?_
      refine x_getR E dX9_isShown_27 F_RX9_99 sh_60 rf_60_63 30 rfl ?_
      refine x_iload_n 31 rfl 1 dX9_isShown_30 rfl rfl ?_
      obtain ⟨hz, h⟩ := x_ifn h
      refine x_iald E dX9_isShown_31 sh_86 _ rfl hz 32 rfl ?_
      refine x_iconst 33 rfl (v := 0) dX9_isShown_32 (by decide) ?_
      obtain ⟨⟨q2r, q2s⟩, q2h, h⟩ := x_bind h
      try dsimp only at h
      refine z_callS E [.int _, .int _] [.int _, .ref 82] dX9_isShown_33 K_RX9_372 ⟨Nat.le_of_ble_eq_true rfl, Nat.le_of_ble_eq_true rfl⟩ (c_Mo_off E _ _ q2h) rfl rfl (Nat.le_of_ble_eq_true rfl) 36 rfl [.int _, .int _, .ref 82] rfl ?_
      refine x_iast E dX9_isShown_36 sh_82 6 (by decide) (by decide) 37 rfl ?_
      refine x_aload_n 38 rfl 0 dX9_isShown_37 rfl rfl ?_
      refine x_getR E dX9_isShown_38 F_RX9_87 sh_60 rf_60_57 41 rfl ?_
      refine x_bipush 43 rfl (v := 7) dX9_isShown_41 (by decide) ?_
      refine x_aload_n 44 rfl 0 dX9_isShown_43 rfl rfl ?_
      refine x_getR E dX9_isShown_44 F_RX9_78 sh_60 rf_60_53 47 rfl ?_
      refine x_iconst 48 rfl (v := 0) dX9_isShown_47 (by decide) ?_
      refine x_iald E dX9_isShown_48 sh_79 0 (by decide) (by decide) 49 rfl ?_
      refine x_iast E dX9_isShown_49 sh_82 7 (by decide) (by decide) 50 rfl ?_
      refine x_aload_n 51 rfl 0 dX9_isShown_50 rfl rfl ?_
      refine x_getR E dX9_isShown_51 F_RX9_87 sh_60 rf_60_57 54 rfl ?_
      refine x_iconst 55 rfl (v := 5) dX9_isShown_54 (by decide) ?_
      refine x_aload_n 56 rfl 0 dX9_isShown_55 rfl rfl ?_
      refine x_iload_n 57 rfl 1 dX9_isShown_56 rfl rfl ?_
      refine x_aload_n 58 rfl 0 dX9_isShown_57 rfl rfl ?_
      refine x_iload_n 59 rfl 1 dX9_isShown_58 rfl rfl ?_
      obtain ⟨⟨q5r, q5s⟩, q5h, h⟩ := x_bind h
      try dsimp only at h
      refine z_callV E [.int _] [.int _, .ref 60, .int _, .ref 82] dX9_isShown_59 K_RX9_399 ⟨Nat.le_of_ble_eq_true rfl, Nat.le_of_ble_eq_true rfl⟩ sh_60 (by decide) rfl (c_Mo_whoseIn_60 E _ q5h) rfl rfl (Nat.le_of_ble_eq_true rfl) 62 rfl [.int _, .int _, .ref 60, .int _, .ref 82] rfl ?_
      obtain ⟨⟨q6r, q6s⟩, q6h, h⟩ := x_bind h
      try dsimp only at h
      refine z_callV E [.int _, .int _] [.int _, .ref 82] dX9_isShown_62 K_RX9_381 ⟨Nat.le_of_ble_eq_true rfl, Nat.le_of_ble_eq_true rfl⟩ sh_60 (by decide) rfl (c_Mo_inchesOf_60 E _ _ q6h) rfl rfl (Nat.le_of_ble_eq_true rfl) 65 rfl [.int _, .int _, .ref 82] rfl ?_
      refine x_iast E dX9_isShown_65 sh_82 5 (by decide) (by decide) 66 rfl ?_
      refine x_aload_n 67 rfl 0 dX9_isShown_66 rfl rfl ?_
      refine x_aload_n 68 rfl 0 dX9_isShown_67 rfl rfl ?_
      refine x_getI E dX9_isShown_68 F_RX9_16 sh_60 71 rfl ?_
      obtain ⟨⟨q8r, q8s⟩, q8h, h⟩ := x_bind h
      try dsimp only at h
      refine z_callV E [.int _] [] dX9_isShown_71 K_RX9_366 ⟨Nat.le_of_ble_eq_true rfl, Nat.le_of_ble_eq_true rfl⟩ sh_60 (by decide) rfl (c_Mo_reckons_60 E _ q8h) rfl rfl (Nat.le_of_ble_eq_true rfl) 74 rfl [.int _] rfl ?_
      refine x_if_le 77 rfl 81 dX9_isShown_74 (by decide) (fun hc => ?_) (fun hc => ?_)
      · replace h := x_ifT hc h
        refine x_iconst 82 rfl (v := 0) dX9_isShown_81 (by decide) ?_
        cases h
        exact x_zret (Or.inl rfl) dX9_isShown_82 rfl rfl rfl
      · replace h := x_ifF hc h
        refine x_iconst 78 rfl (v := 1) dX9_isShown_77 (by decide) ?_
        refine x_goto 82 dX9_isShown_78 (by decide) ?_
        cases h
        exact x_zret (Or.inr rfl) dX9_isShown_82 rfl rfl rfl
    · replace h := x_ifT hc h
      refine x_iconst 19 rfl (v := 1) dX9_isShown_18 (by decide) ?_
      cases h
      exact x_zret (Or.inr rfl) dX9_isShown_19 rfl rfl rfl
  · replace h := x_ifF hc h
    refine x_iconst 9 rfl (v := 0) dX9_isShown_8 (by decide) ?_
    cases h
    exact x_zret (Or.inl rfl) dX9_isShown_9 rfl rfl rfl
theorem K_RX9_414 : x_KS RX9 414 M_Mo_within 3 := ⟨⟨(List.mem_append_right _ (List.mem_of_getElem? (i := 1630) (by decide +kernel))), (List.mem_append_right _ (List.mem_of_getElem? (i := 1632) (by decide +kernel))), (List.mem_append_right _ (List.mem_of_getElem? (i := 9) (by decide +kernel))), ⟨by decide +kernel, by decide +kernel⟩, by decide +kernel⟩, (List.mem_append_right _ (List.mem_of_getElem? (i := 1631) (by decide +kernel)))⟩
abbrev M_Mo_count : xM := (yX9_count, cX9_count, 2, some .int, [])
theorem dX9_count_0 : decode cX9_count 0 = .ok (.aload_n 0, 1) := by decide +kernel
theorem dX9_count_1 : decode cX9_count 1 = .ok (.iconst 0, 1) := by decide +kernel
theorem dX9_count_2 : decode cX9_count 2 = .ok (.putfield 132, 3) := by decide +kernel
theorem dX9_count_5 : decode cX9_count 5 = .ok (.aload_n 0, 1) := by decide +kernel
theorem dX9_count_6 : decode cX9_count 6 = .ok (.iload_n 1, 1) := by decide +kernel
theorem dX9_count_7 : decode cX9_count 7 = .ok (.iconst 0, 1) := by decide +kernel
theorem dX9_count_8 : decode cX9_count 8 = .ok (.bipush 17, 2) := by decide +kernel
theorem dX9_count_10 : decode cX9_count 10 = .ok (.invokestatic 414, 3) := by decide +kernel
theorem dX9_count_13 : decode cX9_count 13 = .ok (.iconst 1, 1) := by decide +kernel
theorem dX9_count_14 : decode cX9_count 14 = .ok (.invokevirtual 311, 3) := by decide +kernel
theorem dX9_count_17 : decode cX9_count 17 = .ok (.ifCond .ne 5, 3) := by decide +kernel
theorem dX9_count_20 : decode cX9_count 20 = .ok (.iconst 0, 1) := by decide +kernel
theorem dX9_count_21 : decode cX9_count 21 = .ok (.ireturn, 1) := by decide +kernel
theorem dX9_count_22 : decode cX9_count 22 = .ok (.iload_n 1, 1) := by decide +kernel
theorem dX9_count_23 : decode cX9_count 23 = .ok (.tableswitch 160 0 14 #[73, 78, 83, 88, 93, 98, 105, 112, 119, 126, 133, 140, 145, 150, 155], 73) := by decide +kernel
theorem dX9_count_96 : decode cX9_count 96 = .ok (.aload_n 0, 1) := by decide +kernel
theorem dX9_count_97 : decode cX9_count 97 = .ok (.invokevirtual 390, 3) := by decide +kernel
theorem dX9_count_100 : decode cX9_count 100 = .ok (.ireturn, 1) := by decide +kernel
theorem dX9_count_101 : decode cX9_count 101 = .ok (.aload_n 0, 1) := by decide +kernel
theorem dX9_count_102 : decode cX9_count 102 = .ok (.getfield 324, 3) := by decide +kernel
theorem dX9_count_105 : decode cX9_count 105 = .ok (.ireturn, 1) := by decide +kernel
theorem dX9_count_106 : decode cX9_count 106 = .ok (.aload_n 0, 1) := by decide +kernel
theorem dX9_count_107 : decode cX9_count 107 = .ok (.getfield 327, 3) := by decide +kernel
theorem dX9_count_110 : decode cX9_count 110 = .ok (.ireturn, 1) := by decide +kernel
theorem dX9_count_111 : decode cX9_count 111 = .ok (.aload_n 0, 1) := by decide +kernel
theorem dX9_count_112 : decode cX9_count 112 = .ok (.getfield 330, 3) := by decide +kernel
theorem dX9_count_115 : decode cX9_count 115 = .ok (.ireturn, 1) := by decide +kernel
theorem dX9_count_116 : decode cX9_count 116 = .ok (.aload_n 0, 1) := by decide +kernel
theorem dX9_count_117 : decode cX9_count 117 = .ok (.getfield 333, 3) := by decide +kernel
theorem dX9_count_120 : decode cX9_count 120 = .ok (.ireturn, 1) := by decide +kernel
theorem dX9_count_121 : decode cX9_count 121 = .ok (.aload_n 0, 1) := by decide +kernel
theorem dX9_count_122 : decode cX9_count 122 = .ok (.getfield 78, 3) := by decide +kernel
theorem dX9_count_125 : decode cX9_count 125 = .ok (.iconst 5, 1) := by decide +kernel
theorem dX9_count_126 : decode cX9_count 126 = .ok (.iaload, 1) := by decide +kernel
theorem dX9_count_127 : decode cX9_count 127 = .ok (.ireturn, 1) := by decide +kernel
theorem dX9_count_128 : decode cX9_count 128 = .ok (.aload_n 0, 1) := by decide +kernel
theorem dX9_count_129 : decode cX9_count 129 = .ok (.getfield 78, 3) := by decide +kernel
theorem dX9_count_132 : decode cX9_count 132 = .ok (.iconst 0, 1) := by decide +kernel
theorem dX9_count_133 : decode cX9_count 133 = .ok (.iaload, 1) := by decide +kernel
theorem dX9_count_134 : decode cX9_count 134 = .ok (.ireturn, 1) := by decide +kernel
theorem dX9_count_135 : decode cX9_count 135 = .ok (.aload_n 0, 1) := by decide +kernel
theorem dX9_count_136 : decode cX9_count 136 = .ok (.getfield 78, 3) := by decide +kernel
theorem dX9_count_139 : decode cX9_count 139 = .ok (.iconst 1, 1) := by decide +kernel
theorem dX9_count_140 : decode cX9_count 140 = .ok (.iaload, 1) := by decide +kernel
theorem dX9_count_141 : decode cX9_count 141 = .ok (.ireturn, 1) := by decide +kernel
theorem dX9_count_142 : decode cX9_count 142 = .ok (.aload_n 0, 1) := by decide +kernel
theorem dX9_count_143 : decode cX9_count 143 = .ok (.getfield 78, 3) := by decide +kernel
theorem dX9_count_146 : decode cX9_count 146 = .ok (.iconst 2, 1) := by decide +kernel
theorem dX9_count_147 : decode cX9_count 147 = .ok (.iaload, 1) := by decide +kernel
theorem dX9_count_148 : decode cX9_count 148 = .ok (.ireturn, 1) := by decide +kernel
theorem dX9_count_149 : decode cX9_count 149 = .ok (.aload_n 0, 1) := by decide +kernel
theorem dX9_count_150 : decode cX9_count 150 = .ok (.getfield 78, 3) := by decide +kernel
theorem dX9_count_153 : decode cX9_count 153 = .ok (.iconst 3, 1) := by decide +kernel
theorem dX9_count_154 : decode cX9_count 154 = .ok (.iaload, 1) := by decide +kernel
theorem dX9_count_155 : decode cX9_count 155 = .ok (.ireturn, 1) := by decide +kernel
theorem dX9_count_156 : decode cX9_count 156 = .ok (.aload_n 0, 1) := by decide +kernel
theorem dX9_count_157 : decode cX9_count 157 = .ok (.getfield 78, 3) := by decide +kernel
theorem dX9_count_160 : decode cX9_count 160 = .ok (.iconst 4, 1) := by decide +kernel
theorem dX9_count_161 : decode cX9_count 161 = .ok (.iaload, 1) := by decide +kernel
theorem dX9_count_162 : decode cX9_count 162 = .ok (.ireturn, 1) := by decide +kernel
theorem dX9_count_163 : decode cX9_count 163 = .ok (.aload_n 0, 1) := by decide +kernel
theorem dX9_count_164 : decode cX9_count 164 = .ok (.getfield 340, 3) := by decide +kernel
theorem dX9_count_167 : decode cX9_count 167 = .ok (.ireturn, 1) := by decide +kernel
theorem dX9_count_168 : decode cX9_count 168 = .ok (.aload_n 0, 1) := by decide +kernel
theorem dX9_count_169 : decode cX9_count 169 = .ok (.getfield 343, 3) := by decide +kernel
theorem dX9_count_172 : decode cX9_count 172 = .ok (.ireturn, 1) := by decide +kernel
theorem dX9_count_173 : decode cX9_count 173 = .ok (.aload_n 0, 1) := by decide +kernel
theorem dX9_count_174 : decode cX9_count 174 = .ok (.getfield 346, 3) := by decide +kernel
theorem dX9_count_177 : decode cX9_count 177 = .ok (.ireturn, 1) := by decide +kernel
theorem dX9_count_178 : decode cX9_count 178 = .ok (.aload_n 0, 1) := by decide +kernel
theorem dX9_count_179 : decode cX9_count 179 = .ok (.getfield 135, 3) := by decide +kernel
theorem dX9_count_182 : decode cX9_count 182 = .ok (.ireturn, 1) := by decide +kernel
theorem dX9_count_183 : decode cX9_count 183 = .ok (.aload_n 0, 1) := by decide +kernel
theorem dX9_count_184 : decode cX9_count 184 = .ok (.getfield 44, 3) := by decide +kernel
theorem dX9_count_187 : decode cX9_count 187 = .ok (.iload_n 1, 1) := by decide +kernel
theorem dX9_count_188 : decode cX9_count 188 = .ok (.bipush 15, 2) := by decide +kernel
theorem dX9_count_190 : decode cX9_count 190 = .ok (.isub, 1) := by decide +kernel
theorem dX9_count_191 : decode cX9_count 191 = .ok (.iaload, 1) := by decide +kernel
theorem dX9_count_192 : decode cX9_count 192 = .ok (.ireturn, 1) := by decide +kernel
def f_Mo_count_60 (v1 : Int32) (σ : xS) : Option (Int32 × xS) :=
  let σ1 := x_pI σ 60 0 (0 : Int32)
  (f_Mo_within v1 (0 : Int32) (17 : Int32) σ1).bind fun q2 =>
  (f_Mo_right_60 q2.1 (1 : Int32) q2.2).bind fun q3 =>
  if q3.1 = 0 then
    some ((0 : Int32), q3.2)
  else
    if v1 = (0 : Int32) then
      (f_Mo_last_60  q3.2).bind fun q4 =>
      some (q4.1, q4.2)
    else if v1 = (1 : Int32) then
      some (q3.2.1 60 2, q3.2)
    else if v1 = (2 : Int32) then
      some (q3.2.1 60 3, q3.2)
    else if v1 = (3 : Int32) then
      some (q3.2.1 60 4, q3.2)
    else if v1 = (4 : Int32) then
      some (q3.2.1 60 5, q3.2)
    else if v1 = (5 : Int32) then
      some (q3.2.1 79 5, q3.2)
    else if v1 = (6 : Int32) then
      some (q3.2.1 79 0, q3.2)
    else if v1 = (7 : Int32) then
      some (q3.2.1 79 1, q3.2)
    else if v1 = (8 : Int32) then
      some (q3.2.1 79 2, q3.2)
    else if v1 = (9 : Int32) then
      some (q3.2.1 79 3, q3.2)
    else if v1 = (10 : Int32) then
      some (q3.2.1 79 4, q3.2)
    else if v1 = (11 : Int32) then
      some (q3.2.1 60 56, q3.2)
    else if v1 = (12 : Int32) then
      some (q3.2.1 60 74, q3.2)
    else if v1 = (13 : Int32) then
      some (q3.2.1 60 76, q3.2)
    else if v1 = (14 : Int32) then
      some (q3.2.1 60 15, q3.2)
    else 
      if (v1 - (15 : Int32)) < 0 ∨ 3 ≤ (v1 - (15 : Int32)).toNatClampNeg then none else
      some (q3.2.1 68 (v1 - (15 : Int32)).toNatClampNeg, q3.2)
set_option maxHeartbeats 4000000 in
set_option maxRecDepth 100000 in
theorem c_Mo_count_60 {l : Launch} {s0 : State} {a0 : Array Value} {D : va_G} {cA : Nat → ClassId} {sp : Nat → Nat} (E : x_En CL l s0 a0 D cA sp) (v1 : Int32) {σ : xS} {r : Int32} {σ1 : xS} (h : f_Mo_count_60 v1 σ = some (r, σ1)) : zC l s0 D cA sp 1 M_Mo_count [.ref 60, .int v1] σ (some (.int r)) σ1 := by
  unfold f_Mo_count_60 at h
  try dsimp only at h
  refine x_enter [some (.ref 60), some (.int v1)] rfl (Nat.le_of_ble_eq_true rfl) (by decide +kernel) rfl ?_
  refine x_aload_n 1 rfl 0 dX9_count_0 rfl rfl ?_
  refine x_iconst 2 rfl (v := 0) dX9_count_1 (by decide) ?_
  refine x_putI E dX9_count_2 F_RX9_132 sh_60 5 rfl ?_
  refine x_aload_n 6 rfl 0 dX9_count_5 rfl rfl ?_
  refine x_iload_n 7 rfl 1 dX9_count_6 rfl rfl ?_
  refine x_iconst 8 rfl (v := 0) dX9_count_7 (by decide) ?_
  refine x_bipush 10 rfl (v := 17) dX9_count_8 (by decide) ?_
  obtain ⟨⟨q2r, q2s⟩, q2h, h⟩ := x_bind h
  try dsimp only at h
  refine z_callS E [.int _, .int _, .int _] [.ref 60] dX9_count_10 K_RX9_414 ⟨Nat.le_of_ble_eq_true rfl, Nat.le_of_ble_eq_true rfl⟩ (c_Mo_within E _ _ _ q2h) rfl rfl (Nat.le_of_ble_eq_true rfl) 13 rfl [.int _, .ref 60] rfl ?_
  refine x_iconst 14 rfl (v := 1) dX9_count_13 (by decide) ?_
  obtain ⟨⟨q3r, q3s⟩, q3h, h⟩ := x_bind h
  try dsimp only at h
  refine z_callV E [.int _, .int _] [] dX9_count_14 K_RX9_311 ⟨Nat.le_of_ble_eq_true rfl, Nat.le_of_ble_eq_true rfl⟩ sh_60 (by decide) rfl (c_Mo_right_60 E _ _ q3h) rfl rfl (Nat.le_of_ble_eq_true rfl) 17 rfl [.int _] rfl ?_
  refine x_if_ne 20 rfl 22 dX9_count_17 (by decide) (fun hc => ?_) (fun hc => ?_)
  · replace h := x_ifF hc h
    refine x_iload_n 23 rfl 1 dX9_count_22 rfl rfl ?_
    refine x_case (0) (fun hc0 => ?_) (fun hc0 => ?_)
    · replace h := x_ifT hc0 h
      refine x_tabIn (off := 73) 96 dX9_count_23 (by rw [hc0]; decide) (by rw [hc0]; decide) (by rw [hc0]; rfl) (by decide) ?_
      refine x_aload_n 97 rfl 0 dX9_count_96 rfl rfl ?_
      obtain ⟨⟨q4r, q4s⟩, q4h, h⟩ := x_bind h
      try dsimp only at h
      refine z_callV E [] [] dX9_count_97 K_RX9_390 ⟨Nat.le_of_ble_eq_true rfl, Nat.le_of_ble_eq_true rfl⟩ sh_60 (by decide) rfl (c_Mo_last_60 E  q4h) rfl rfl (Nat.le_of_ble_eq_true rfl) 100 rfl [.int _] rfl ?_
      cases h
      exact x_iret dX9_count_100 rfl rfl rfl
    replace h := x_ifF hc0 h
    refine x_case (1) (fun hc1 => ?_) (fun hc1 => ?_)
    · replace h := x_ifT hc1 h
      refine x_tabIn (off := 78) 101 dX9_count_23 (by rw [hc1]; decide) (by rw [hc1]; decide) (by rw [hc1]; rfl) (by decide) ?_
      refine x_aload_n 102 rfl 0 dX9_count_101 rfl rfl ?_
      refine x_getI E dX9_count_102 F_RX9_324 sh_60 105 rfl ?_
      cases h
      exact x_iret dX9_count_105 rfl rfl rfl
    replace h := x_ifF hc1 h
    refine x_case (2) (fun hc2 => ?_) (fun hc2 => ?_)
    · replace h := x_ifT hc2 h
      refine x_tabIn (off := 83) 106 dX9_count_23 (by rw [hc2]; decide) (by rw [hc2]; decide) (by rw [hc2]; rfl) (by decide) ?_
      refine x_aload_n 107 rfl 0 dX9_count_106 rfl rfl ?_
      refine x_getI E dX9_count_107 F_RX9_327 sh_60 110 rfl ?_
      cases h
      exact x_iret dX9_count_110 rfl rfl rfl
    replace h := x_ifF hc2 h
    refine x_case (3) (fun hc3 => ?_) (fun hc3 => ?_)
    · replace h := x_ifT hc3 h
      refine x_tabIn (off := 88) 111 dX9_count_23 (by rw [hc3]; decide) (by rw [hc3]; decide) (by rw [hc3]; rfl) (by decide) ?_
      refine x_aload_n 112 rfl 0 dX9_count_111 rfl rfl ?_
      refine x_getI E dX9_count_112 F_RX9_330 sh_60 115 rfl ?_
      cases h
      exact x_iret dX9_count_115 rfl rfl rfl
    replace h := x_ifF hc3 h
    refine x_case (4) (fun hc4 => ?_) (fun hc4 => ?_)
    · replace h := x_ifT hc4 h
      refine x_tabIn (off := 93) 116 dX9_count_23 (by rw [hc4]; decide) (by rw [hc4]; decide) (by rw [hc4]; rfl) (by decide) ?_
      refine x_aload_n 117 rfl 0 dX9_count_116 rfl rfl ?_
      refine x_getI E dX9_count_117 F_RX9_333 sh_60 120 rfl ?_
      cases h
      exact x_iret dX9_count_120 rfl rfl rfl
    replace h := x_ifF hc4 h
    refine x_case (5) (fun hc5 => ?_) (fun hc5 => ?_)
    · replace h := x_ifT hc5 h
      refine x_tabIn (off := 98) 121 dX9_count_23 (by rw [hc5]; decide) (by rw [hc5]; decide) (by rw [hc5]; rfl) (by decide) ?_
      refine x_aload_n 122 rfl 0 dX9_count_121 rfl rfl ?_
      refine x_getR E dX9_count_122 F_RX9_78 sh_60 rf_60_53 125 rfl ?_
      refine x_iconst 126 rfl (v := 5) dX9_count_125 (by decide) ?_
      refine x_iald E dX9_count_126 sh_79 5 (by decide) (by decide) 127 rfl ?_
      cases h
      exact x_iret dX9_count_127 rfl rfl rfl
    replace h := x_ifF hc5 h
    refine x_case (6) (fun hc6 => ?_) (fun hc6 => ?_)
    · replace h := x_ifT hc6 h
      refine x_tabIn (off := 105) 128 dX9_count_23 (by rw [hc6]; decide) (by rw [hc6]; decide) (by rw [hc6]; rfl) (by decide) ?_
      refine x_aload_n 129 rfl 0 dX9_count_128 rfl rfl ?_
      refine x_getR E dX9_count_129 F_RX9_78 sh_60 rf_60_53 132 rfl ?_
      refine x_iconst 133 rfl (v := 0) dX9_count_132 (by decide) ?_
      refine x_iald E dX9_count_133 sh_79 0 (by decide) (by decide) 134 rfl ?_
      cases h
      exact x_iret dX9_count_134 rfl rfl rfl
    replace h := x_ifF hc6 h
    refine x_case (7) (fun hc7 => ?_) (fun hc7 => ?_)
    · replace h := x_ifT hc7 h
      refine x_tabIn (off := 112) 135 dX9_count_23 (by rw [hc7]; decide) (by rw [hc7]; decide) (by rw [hc7]; rfl) (by decide) ?_
      refine x_aload_n 136 rfl 0 dX9_count_135 rfl rfl ?_
      refine x_getR E dX9_count_136 F_RX9_78 sh_60 rf_60_53 139 rfl ?_
      refine x_iconst 140 rfl (v := 1) dX9_count_139 (by decide) ?_
      refine x_iald E dX9_count_140 sh_79 1 (by decide) (by decide) 141 rfl ?_
      cases h
      exact x_iret dX9_count_141 rfl rfl rfl
    replace h := x_ifF hc7 h
    refine x_case (8) (fun hc8 => ?_) (fun hc8 => ?_)
    · replace h := x_ifT hc8 h
      refine x_tabIn (off := 119) 142 dX9_count_23 (by rw [hc8]; decide) (by rw [hc8]; decide) (by rw [hc8]; rfl) (by decide) ?_
      refine x_aload_n 143 rfl 0 dX9_count_142 rfl rfl ?_
      refine x_getR E dX9_count_143 F_RX9_78 sh_60 rf_60_53 146 rfl ?_
      refine x_iconst 147 rfl (v := 2) dX9_count_146 (by decide) ?_
      refine x_iald E dX9_count_147 sh_79 2 (by decide) (by decide) 148 rfl ?_
      cases h
      exact x_iret dX9_count_148 rfl rfl rfl
    replace h := x_ifF hc8 h
    refine x_case (9) (fun hc9 => ?_) (fun hc9 => ?_)
    · replace h := x_ifT hc9 h
      refine x_tabIn (off := 126) 149 dX9_count_23 (by rw [hc9]; decide) (by rw [hc9]; decide) (by rw [hc9]; rfl) (by decide) ?_
      refine x_aload_n 150 rfl 0 dX9_count_149 rfl rfl ?_
      refine x_getR E dX9_count_150 F_RX9_78 sh_60 rf_60_53 153 rfl ?_
      refine x_iconst 154 rfl (v := 3) dX9_count_153 (by decide) ?_
      refine x_iald E dX9_count_154 sh_79 3 (by decide) (by decide) 155 rfl ?_
      cases h
      exact x_iret dX9_count_155 rfl rfl rfl
    replace h := x_ifF hc9 h
    refine x_case (10) (fun hc10 => ?_) (fun hc10 => ?_)
    · replace h := x_ifT hc10 h
      refine x_tabIn (off := 133) 156 dX9_count_23 (by rw [hc10]; decide) (by rw [hc10]; decide) (by rw [hc10]; rfl) (by decide) ?_
      refine x_aload_n 157 rfl 0 dX9_count_156 rfl rfl ?_
      refine x_getR E dX9_count_157 F_RX9_78 sh_60 rf_60_53 160 rfl ?_
      refine x_iconst 161 rfl (v := 4) dX9_count_160 (by decide) ?_
      refine x_iald E dX9_count_161 sh_79 4 (by decide) (by decide) 162 rfl ?_
      cases h
      exact x_iret dX9_count_162 rfl rfl rfl
    replace h := x_ifF hc10 h
    refine x_case (11) (fun hc11 => ?_) (fun hc11 => ?_)
    · replace h := x_ifT hc11 h
      refine x_tabIn (off := 140) 163 dX9_count_23 (by rw [hc11]; decide) (by rw [hc11]; decide) (by rw [hc11]; rfl) (by decide) ?_
      refine x_aload_n 164 rfl 0 dX9_count_163 rfl rfl ?_
      refine x_getI E dX9_count_164 F_RX9_340 sh_60 167 rfl ?_
      cases h
      exact x_iret dX9_count_167 rfl rfl rfl
    replace h := x_ifF hc11 h
    refine x_case (12) (fun hc12 => ?_) (fun hc12 => ?_)
    · replace h := x_ifT hc12 h
      refine x_tabIn (off := 145) 168 dX9_count_23 (by rw [hc12]; decide) (by rw [hc12]; decide) (by rw [hc12]; rfl) (by decide) ?_
      refine x_aload_n 169 rfl 0 dX9_count_168 rfl rfl ?_
      refine x_getI E dX9_count_169 F_RX9_343 sh_60 172 rfl ?_
      cases h
      exact x_iret dX9_count_172 rfl rfl rfl
    replace h := x_ifF hc12 h
    refine x_case (13) (fun hc13 => ?_) (fun hc13 => ?_)
    · replace h := x_ifT hc13 h
      refine x_tabIn (off := 150) 173 dX9_count_23 (by rw [hc13]; decide) (by rw [hc13]; decide) (by rw [hc13]; rfl) (by decide) ?_
      refine x_aload_n 174 rfl 0 dX9_count_173 rfl rfl ?_
      refine x_getI E dX9_count_174 F_RX9_346 sh_60 177 rfl ?_
      cases h
      exact x_iret dX9_count_177 rfl rfl rfl
    replace h := x_ifF hc13 h
    refine x_case (14) (fun hc14 => ?_) (fun hc14 => ?_)
    · replace h := x_ifT hc14 h
      refine x_tabIn (off := 155) 178 dX9_count_23 (by rw [hc14]; decide) (by rw [hc14]; decide) (by rw [hc14]; rfl) (by decide) ?_
      refine x_aload_n 179 rfl 0 dX9_count_178 rfl rfl ?_
      refine x_getI E dX9_count_179 F_RX9_135 sh_60 182 rfl ?_
      cases h
      exact x_iret dX9_count_182 rfl rfl rfl
    replace h := x_ifF hc14 h
    refine x_tabOut 183 dX9_count_23 (by have g0 := x_toNe hc0 (k := 0) (by decide); have g1 := x_toNe hc1 (k := 1) (by decide); have g2 := x_toNe hc2 (k := 2) (by decide); have g3 := x_toNe hc3 (k := 3) (by decide); have g4 := x_toNe hc4 (k := 4) (by decide); have g5 := x_toNe hc5 (k := 5) (by decide); have g6 := x_toNe hc6 (k := 6) (by decide); have g7 := x_toNe hc7 (k := 7) (by decide); have g8 := x_toNe hc8 (k := 8) (by decide); have g9 := x_toNe hc9 (k := 9) (by decide); have g10 := x_toNe hc10 (k := 10) (by decide); have g11 := x_toNe hc11 (k := 11) (by decide); have g12 := x_toNe hc12 (k := 12) (by decide); have g13 := x_toNe hc13 (k := 13) (by decide); have g14 := x_toNe hc14 (k := 14) (by decide); omega) (by decide) ?_
    refine x_aload_n 184 rfl 0 dX9_count_183 rfl rfl ?_
    refine x_getR E dX9_count_184 F_RX9_44 sh_60 rf_60_18 187 rfl ?_
    refine x_iload_n 188 rfl 1 dX9_count_187 rfl rfl ?_
    refine x_bipush 190 rfl (v := 15) dX9_count_188 (by decide) ?_
    refine x_isub 191 rfl dX9_count_190 ?_
    obtain ⟨hz, h⟩ := x_ifn h
    refine x_iald E dX9_count_191 sh_68 _ rfl hz 192 rfl ?_
    cases h
    exact x_iret dX9_count_192 rfl rfl rfl
  · replace h := x_ifT hc h
    refine x_iconst 21 rfl (v := 0) dX9_count_20 (by decide) ?_
    cases h
    exact x_iret dX9_count_21 rfl rfl rfl
abbrev M_Mo_mark : xM := (yX9_mark, cX9_mark, 2, some .int, [])
theorem dX9_mark_0 : decode cX9_mark 0 = .ok (.aload_n 0, 1) := by decide +kernel
theorem dX9_mark_1 : decode cX9_mark 1 = .ok (.iconst 0, 1) := by decide +kernel
theorem dX9_mark_2 : decode cX9_mark 2 = .ok (.putfield 132, 3) := by decide +kernel
theorem dX9_mark_5 : decode cX9_mark 5 = .ok (.aload_n 0, 1) := by decide +kernel
theorem dX9_mark_6 : decode cX9_mark 6 = .ok (.iload_n 1, 1) := by decide +kernel
theorem dX9_mark_7 : decode cX9_mark 7 = .ok (.ifCond .lt 15, 3) := by decide +kernel
theorem dX9_mark_10 : decode cX9_mark 10 = .ok (.iload_n 1, 1) := by decide +kernel
theorem dX9_mark_11 : decode cX9_mark 11 = .ok (.aload_n 0, 1) := by decide +kernel
theorem dX9_mark_12 : decode cX9_mark 12 = .ok (.getfield 330, 3) := by decide +kernel
theorem dX9_mark_15 : decode cX9_mark 15 = .ok (.if_icmp .ge 7, 3) := by decide +kernel
theorem dX9_mark_18 : decode cX9_mark 18 = .ok (.iconst 1, 1) := by decide +kernel
theorem dX9_mark_19 : decode cX9_mark 19 = .ok (.goto 4, 3) := by decide +kernel
theorem dX9_mark_22 : decode cX9_mark 22 = .ok (.iconst 0, 1) := by decide +kernel
theorem dX9_mark_23 : decode cX9_mark 23 = .ok (.iconst 1, 1) := by decide +kernel
theorem dX9_mark_24 : decode cX9_mark 24 = .ok (.invokevirtual 311, 3) := by decide +kernel
theorem dX9_mark_27 : decode cX9_mark 27 = .ok (.ifCond .eq 15, 3) := by decide +kernel
theorem dX9_mark_30 : decode cX9_mark 30 = .ok (.aload_n 0, 1) := by decide +kernel
theorem dX9_mark_31 : decode cX9_mark 31 = .ok (.getfield 78, 3) := by decide +kernel
theorem dX9_mark_34 : decode cX9_mark 34 = .ok (.bipush 6, 2) := by decide +kernel
theorem dX9_mark_36 : decode cX9_mark 36 = .ok (.iload_n 1, 1) := by decide +kernel
theorem dX9_mark_37 : decode cX9_mark 37 = .ok (.iadd, 1) := by decide +kernel
theorem dX9_mark_38 : decode cX9_mark 38 = .ok (.iaload, 1) := by decide +kernel
theorem dX9_mark_39 : decode cX9_mark 39 = .ok (.goto 4, 3) := by decide +kernel
theorem dX9_mark_42 : decode cX9_mark 42 = .ok (.iconst 0, 1) := by decide +kernel
theorem dX9_mark_43 : decode cX9_mark 43 = .ok (.ireturn, 1) := by decide +kernel
def f_Mo_mark_60_J23 (v1 : Int32) (y1 : Int32) (σ : xS) : Option (Int32 × xS) :=
  (f_Mo_right_60 y1 (1 : Int32) σ).bind fun q1 =>
  if q1.1 = 0 then
    some ((0 : Int32), q1.2)
  else
    if ((6 : Int32) + v1) < 0 ∨ 12 ≤ ((6 : Int32) + v1).toNatClampNeg then none else
    some (q1.2.1 79 ((6 : Int32) + v1).toNatClampNeg, q1.2)
def f_Mo_mark_60_J22 (v1 : Int32) (σ : xS) : Option (Int32 × xS) :=
  f_Mo_mark_60_J23 v1 (0 : Int32) σ
def f_Mo_mark_60 (v1 : Int32) (σ : xS) : Option (Int32 × xS) :=
  let σ2 := x_pI σ 60 0 (0 : Int32)
  if v1 < 0 then
    f_Mo_mark_60_J22 v1 σ2
  else
    if σ2.1 60 4 ≤ v1 then
      f_Mo_mark_60_J22 v1 σ2
    else
      f_Mo_mark_60_J23 v1 (1 : Int32) σ2
set_option maxHeartbeats 4000000 in
set_option maxRecDepth 100000 in
theorem j_Mo_mark_60_J23 {l : Launch} {s0 : State} {a0 : Array Value} {D : va_G} {cA : Nat → ClassId} {sp : Nat → Nat} (E : x_En CL l s0 a0 D cA sp) (v1 : Int32) (y1 : Int32) (σ : xS) {r : Int32} {σ1 : xS} (h : f_Mo_mark_60_J23 v1 y1 σ = some (r, σ1)) : zW l s0 D cA sp (zQ s0 D cA sp (some (.int r)) σ1) (x_rm 1 0 0) M_Mo_mark 0 0 23 [some (.ref 60), some (.int v1)] [.int y1, .ref 60] σ := by
  unfold f_Mo_mark_60_J23 at h
  try dsimp only at h
  refine x_iconst 24 rfl (v := 1) dX9_mark_23 (by decide) ?_
  obtain ⟨⟨q1r, q1s⟩, q1h, h⟩ := x_bind h
  try dsimp only at h
  refine z_callV E [.int _, .int _] [] dX9_mark_24 K_RX9_311 ⟨Nat.le_of_ble_eq_true rfl, Nat.le_of_ble_eq_true rfl⟩ sh_60 (by decide) rfl (c_Mo_right_60 E _ _ q1h) rfl rfl (Nat.le_of_ble_eq_true rfl) 27 rfl [.int _] rfl ?_
  refine x_if_eq 30 rfl 42 dX9_mark_27 (by decide) (fun hc => ?_) (fun hc => ?_)
  · replace h := x_ifT hc h
    refine x_iconst 43 rfl (v := 0) dX9_mark_42 (by decide) ?_
    cases h
    exact x_iret dX9_mark_43 rfl rfl rfl
  · replace h := x_ifF hc h
    refine x_aload_n 31 rfl 0 dX9_mark_30 rfl rfl ?_
    refine x_getR E dX9_mark_31 F_RX9_78 sh_60 rf_60_53 34 rfl ?_
    refine x_bipush 36 rfl (v := 6) dX9_mark_34 (by decide) ?_
    refine x_iload_n 37 rfl 1 dX9_mark_36 rfl rfl ?_
    refine x_iadd 38 rfl dX9_mark_37 ?_
    obtain ⟨hz, h⟩ := x_ifn h
    refine x_iald E dX9_mark_38 sh_79 _ rfl hz 39 rfl ?_
    refine x_goto 43 dX9_mark_39 (by decide) ?_
    cases h
    exact x_iret dX9_mark_43 rfl rfl rfl
set_option maxHeartbeats 4000000 in
set_option maxRecDepth 100000 in
theorem j_Mo_mark_60_J22 {l : Launch} {s0 : State} {a0 : Array Value} {D : va_G} {cA : Nat → ClassId} {sp : Nat → Nat} (E : x_En CL l s0 a0 D cA sp) (v1 : Int32) (σ : xS) {r : Int32} {σ1 : xS} (h : f_Mo_mark_60_J22 v1 σ = some (r, σ1)) : zW l s0 D cA sp (zQ s0 D cA sp (some (.int r)) σ1) (x_rm 1 0 0) M_Mo_mark 0 0 22 [some (.ref 60), some (.int v1)] [.ref 60] σ := by
  unfold f_Mo_mark_60_J22 at h
  try dsimp only at h
  refine x_iconst 23 rfl (v := 0) dX9_mark_22 (by decide) ?_
  exact x_wk (x_le_s (x_le_s x_le_0)) (j_Mo_mark_60_J23 E _ _ _ h)
set_option maxHeartbeats 4000000 in
set_option maxRecDepth 100000 in
theorem c_Mo_mark_60 {l : Launch} {s0 : State} {a0 : Array Value} {D : va_G} {cA : Nat → ClassId} {sp : Nat → Nat} (E : x_En CL l s0 a0 D cA sp) (v1 : Int32) {σ : xS} {r : Int32} {σ1 : xS} (h : f_Mo_mark_60 v1 σ = some (r, σ1)) : zC l s0 D cA sp 1 M_Mo_mark [.ref 60, .int v1] σ (some (.int r)) σ1 := by
  unfold f_Mo_mark_60 at h
  try dsimp only at h
  refine x_enter [some (.ref 60), some (.int v1)] rfl (Nat.le_of_ble_eq_true rfl) (by decide +kernel) rfl ?_
  refine x_aload_n 1 rfl 0 dX9_mark_0 rfl rfl ?_
  refine x_iconst 2 rfl (v := 0) dX9_mark_1 (by decide) ?_
  refine x_putI E dX9_mark_2 F_RX9_132 sh_60 5 rfl ?_
  refine x_aload_n 6 rfl 0 dX9_mark_5 rfl rfl ?_
  refine x_iload_n 7 rfl 1 dX9_mark_6 rfl rfl ?_
  refine x_if_lt 10 rfl 22 dX9_mark_7 (by decide) (fun hc => ?_) (fun hc => ?_)
  · replace h := x_ifT hc h
    exact x_wk (x_le_s (x_le_s x_le_0)) (j_Mo_mark_60_J22 E _ _ h)
  · replace h := x_ifF hc h
    refine x_iload_n 11 rfl 1 dX9_mark_10 rfl rfl ?_
    refine x_aload_n 12 rfl 0 dX9_mark_11 rfl rfl ?_
    refine x_getI E dX9_mark_12 F_RX9_330 sh_60 15 rfl ?_
    refine x_icmp_ge 18 rfl 22 dX9_mark_15 (by decide) (fun hc => ?_) (fun hc => ?_)
    · replace h := x_ifT hc h
      exact x_wk (x_le_s (x_le_s x_le_0)) (j_Mo_mark_60_J22 E _ _ h)
    · replace h := x_ifF hc h
      refine x_iconst 19 rfl (v := 1) dX9_mark_18 (by decide) ?_
      refine x_goto 23 dX9_mark_19 (by decide) ?_
      exact x_wk (x_le_s (x_le_s x_le_0)) (j_Mo_mark_60_J23 E _ _ _ h)
abbrev M_Mo_isTenth : xM := (yX9_isTenth, cX9_isTenth, 2, some .boolean, [])
theorem dX9_isTenth_0 : decode cX9_isTenth 0 = .ok (.aload_n 0, 1) := by decide +kernel
theorem dX9_isTenth_1 : decode cX9_isTenth 1 = .ok (.iload_n 1, 1) := by decide +kernel
theorem dX9_isTenth_2 : decode cX9_isTenth 2 = .ok (.ifCond .lt 15, 3) := by decide +kernel
theorem dX9_isTenth_5 : decode cX9_isTenth 5 = .ok (.iload_n 1, 1) := by decide +kernel
theorem dX9_isTenth_6 : decode cX9_isTenth 6 = .ok (.aload_n 0, 1) := by decide +kernel
theorem dX9_isTenth_7 : decode cX9_isTenth 7 = .ok (.invokevirtual 390, 3) := by decide +kernel
theorem dX9_isTenth_10 : decode cX9_isTenth 10 = .ok (.if_icmp .gt 7, 3) := by decide +kernel
theorem dX9_isTenth_13 : decode cX9_isTenth 13 = .ok (.iconst 1, 1) := by decide +kernel
theorem dX9_isTenth_14 : decode cX9_isTenth 14 = .ok (.goto 4, 3) := by decide +kernel
theorem dX9_isTenth_17 : decode cX9_isTenth 17 = .ok (.iconst 0, 1) := by decide +kernel
theorem dX9_isTenth_18 : decode cX9_isTenth 18 = .ok (.iconst 1, 1) := by decide +kernel
theorem dX9_isTenth_19 : decode cX9_isTenth 19 = .ok (.invokevirtual 311, 3) := by decide +kernel
theorem dX9_isTenth_22 : decode cX9_isTenth 22 = .ok (.ireturn, 1) := by decide +kernel
def f_Mo_isTenth_60 (v1 : Int32) (σ : xS) : Option (Int32 × xS) :=
  if v1 < 0 then
    (f_Mo_right_60 (0 : Int32) (1 : Int32) σ).bind fun q1 =>
    x_ok (q1.1 = 0 ∨ q1.1 = 1) <|
    some (q1.1, q1.2)
  else
    (f_Mo_last_60  σ).bind fun q2 =>
    if q2.1 < v1 then
      (f_Mo_right_60 (0 : Int32) (1 : Int32) q2.2).bind fun q3 =>
      x_ok (q3.1 = 0 ∨ q3.1 = 1) <|
      some (q3.1, q3.2)
    else
      (f_Mo_right_60 (1 : Int32) (1 : Int32) q2.2).bind fun q4 =>
      x_ok (q4.1 = 0 ∨ q4.1 = 1) <|
      some (q4.1, q4.2)
set_option maxHeartbeats 4000000 in
set_option maxRecDepth 100000 in
theorem c_Mo_isTenth_60 {l : Launch} {s0 : State} {a0 : Array Value} {D : va_G} {cA : Nat → ClassId} {sp : Nat → Nat} (E : x_En CL l s0 a0 D cA sp) (v1 : Int32) {σ : xS} {r : Int32} {σ1 : xS} (h : f_Mo_isTenth_60 v1 σ = some (r, σ1)) : zC l s0 D cA sp 1 M_Mo_isTenth [.ref 60, .int v1] σ (some (.int r)) σ1 := by
  unfold f_Mo_isTenth_60 at h
  try dsimp only at h
  refine x_enter [some (.ref 60), some (.int v1)] rfl (Nat.le_of_ble_eq_true rfl) (by decide +kernel) rfl ?_
  refine x_aload_n 1 rfl 0 dX9_isTenth_0 rfl rfl ?_
  refine x_iload_n 2 rfl 1 dX9_isTenth_1 rfl rfl ?_
  refine x_if_lt 5 rfl 17 dX9_isTenth_2 (by decide) (fun hc => ?_) (fun hc => ?_)
  · replace h := x_ifT hc h
    refine x_iconst 18 rfl (v := 0) dX9_isTenth_17 (by decide) ?_
    refine x_iconst 19 rfl (v := 1) dX9_isTenth_18 (by decide) ?_
    obtain ⟨⟨q1r, q1s⟩, q1h, h⟩ := x_bind h
    try dsimp only at h
    refine z_callV E [.int _, .int _] [] dX9_isTenth_19 K_RX9_311 ⟨Nat.le_of_ble_eq_true rfl, Nat.le_of_ble_eq_true rfl⟩ sh_60 (by decide) rfl (c_Mo_right_60 E _ _ q1h) rfl rfl (Nat.le_of_ble_eq_true rfl) 22 rfl [.int _] rfl ?_
    obtain ⟨hz, h⟩ := x_ift h
    cases h
    exact x_zret hz dX9_isTenth_22 rfl rfl rfl
  · replace h := x_ifF hc h
    refine x_iload_n 6 rfl 1 dX9_isTenth_5 rfl rfl ?_
    refine x_aload_n 7 rfl 0 dX9_isTenth_6 rfl rfl ?_
    obtain ⟨⟨q2r, q2s⟩, q2h, h⟩ := x_bind h
    try dsimp only at h
    refine z_callV E [] [.int _, .ref 60] dX9_isTenth_7 K_RX9_390 ⟨Nat.le_of_ble_eq_true rfl, Nat.le_of_ble_eq_true rfl⟩ sh_60 (by decide) rfl (c_Mo_last_60 E  q2h) rfl rfl (Nat.le_of_ble_eq_true rfl) 10 rfl [.int _, .int _, .ref 60] rfl ?_
    refine x_icmp_gt 13 rfl 17 dX9_isTenth_10 (by decide) (fun hc => ?_) (fun hc => ?_)
    · replace h := x_ifT hc h
      refine x_iconst 18 rfl (v := 0) dX9_isTenth_17 (by decide) ?_
      refine x_iconst 19 rfl (v := 1) dX9_isTenth_18 (by decide) ?_
      obtain ⟨⟨q3r, q3s⟩, q3h, h⟩ := x_bind h
      try dsimp only at h
      refine z_callV E [.int _, .int _] [] dX9_isTenth_19 K_RX9_311 ⟨Nat.le_of_ble_eq_true rfl, Nat.le_of_ble_eq_true rfl⟩ sh_60 (by decide) rfl (c_Mo_right_60 E _ _ q3h) rfl rfl (Nat.le_of_ble_eq_true rfl) 22 rfl [.int _] rfl ?_
      obtain ⟨hz, h⟩ := x_ift h
      cases h
      exact x_zret hz dX9_isTenth_22 rfl rfl rfl
    · replace h := x_ifF hc h
      refine x_iconst 14 rfl (v := 1) dX9_isTenth_13 (by decide) ?_
      refine x_goto 18 dX9_isTenth_14 (by decide) ?_
      refine x_iconst 19 rfl (v := 1) dX9_isTenth_18 (by decide) ?_
      obtain ⟨⟨q4r, q4s⟩, q4h, h⟩ := x_bind h
      try dsimp only at h
      refine z_callV E [.int _, .int _] [] dX9_isTenth_19 K_RX9_311 ⟨Nat.le_of_ble_eq_true rfl, Nat.le_of_ble_eq_true rfl⟩ sh_60 (by decide) rfl (c_Mo_right_60 E _ _ q4h) rfl rfl (Nat.le_of_ble_eq_true rfl) 22 rfl [.int _] rfl ?_
      obtain ⟨hz, h⟩ := x_ift h
      cases h
      exact x_zret hz dX9_isTenth_22 rfl rfl rfl
abbrev M_Mo_isWhat : xM := (yX9_isWhat, cX9_isWhat, 3, some .boolean, [])
theorem dX9_isWhat_0 : decode cX9_isWhat 0 = .ok (.aload_n 0, 1) := by decide +kernel
theorem dX9_isWhat_1 : decode cX9_isWhat 1 = .ok (.iload_n 1, 1) := by decide +kernel
theorem dX9_isWhat_2 : decode cX9_isWhat 2 = .ok (.iconst 0, 1) := by decide +kernel
theorem dX9_isWhat_3 : decode cX9_isWhat 3 = .ok (.iload_n 2, 1) := by decide +kernel
theorem dX9_isWhat_4 : decode cX9_isWhat 4 = .ok (.invokestatic 414, 3) := by decide +kernel
theorem dX9_isWhat_7 : decode cX9_isWhat 7 = .ok (.iconst 1, 1) := by decide +kernel
theorem dX9_isWhat_8 : decode cX9_isWhat 8 = .ok (.invokevirtual 311, 3) := by decide +kernel
theorem dX9_isWhat_11 : decode cX9_isWhat 11 = .ok (.ireturn, 1) := by decide +kernel
def f_Mo_isWhat_60 (v1 : Int32) (v2 : Int32) (σ : xS) : Option (Int32 × xS) :=
  (f_Mo_within v1 (0 : Int32) v2 σ).bind fun q1 =>
  (f_Mo_right_60 q1.1 (1 : Int32) q1.2).bind fun q2 =>
  x_ok (q2.1 = 0 ∨ q2.1 = 1) <|
  some (q2.1, q2.2)
set_option maxHeartbeats 4000000 in
set_option maxRecDepth 100000 in
theorem c_Mo_isWhat_60 {l : Launch} {s0 : State} {a0 : Array Value} {D : va_G} {cA : Nat → ClassId} {sp : Nat → Nat} (E : x_En CL l s0 a0 D cA sp) (v1 : Int32) (v2 : Int32) {σ : xS} {r : Int32} {σ1 : xS} (h : f_Mo_isWhat_60 v1 v2 σ = some (r, σ1)) : zC l s0 D cA sp 1 M_Mo_isWhat [.ref 60, .int v1, .int v2] σ (some (.int r)) σ1 := by
  unfold f_Mo_isWhat_60 at h
  try dsimp only at h
  refine x_enter [some (.ref 60), some (.int v1), some (.int v2)] rfl (Nat.le_of_ble_eq_true rfl) (by decide +kernel) rfl ?_
  refine x_aload_n 1 rfl 0 dX9_isWhat_0 rfl rfl ?_
  refine x_iload_n 2 rfl 1 dX9_isWhat_1 rfl rfl ?_
  refine x_iconst 3 rfl (v := 0) dX9_isWhat_2 (by decide) ?_
  refine x_iload_n 4 rfl 2 dX9_isWhat_3 rfl rfl ?_
  obtain ⟨⟨q1r, q1s⟩, q1h, h⟩ := x_bind h
  try dsimp only at h
  refine z_callS E [.int _, .int _, .int _] [.ref 60] dX9_isWhat_4 K_RX9_414 ⟨Nat.le_of_ble_eq_true rfl, Nat.le_of_ble_eq_true rfl⟩ (c_Mo_within E _ _ _ q1h) rfl rfl (Nat.le_of_ble_eq_true rfl) 7 rfl [.int _, .ref 60] rfl ?_
  refine x_iconst 8 rfl (v := 1) dX9_isWhat_7 (by decide) ?_
  obtain ⟨⟨q2r, q2s⟩, q2h, h⟩ := x_bind h
  try dsimp only at h
  refine z_callV E [.int _, .int _] [] dX9_isWhat_8 K_RX9_311 ⟨Nat.le_of_ble_eq_true rfl, Nat.le_of_ble_eq_true rfl⟩ sh_60 (by decide) rfl (c_Mo_right_60 E _ _ q2h) rfl rfl (Nat.le_of_ble_eq_true rfl) 11 rfl [.int _] rfl ?_
  obtain ⟨hz, h⟩ := x_ift h
  cases h
  exact x_zret hz dX9_isWhat_11 rfl rfl rfl
theorem K_RX9_418 : x_KV RX9 418 M_Mo_isTenth 1 := ⟨⟨(List.mem_append_right _ (List.mem_of_getElem? (i := 1645) (by decide +kernel))), (List.mem_append_right _ (List.mem_of_getElem? (i := 1648) (by decide +kernel))), (List.mem_append_right _ (List.mem_of_getElem? (i := 9) (by decide +kernel))), ⟨by decide +kernel, by decide +kernel⟩, by decide +kernel⟩, (List.mem_append_right _ (List.mem_of_getElem? (i := 1647) (by decide +kernel))), (List.mem_append_left _ (List.mem_of_getElem? (i := 77) (by decide +kernel)))⟩
theorem K_RX9_421 : x_KV RX9 421 M_Mo_isWhat 2 := ⟨⟨(List.mem_append_right _ (List.mem_of_getElem? (i := 1649) (by decide +kernel))), (List.mem_append_right _ (List.mem_of_getElem? (i := 1652) (by decide +kernel))), (List.mem_append_right _ (List.mem_of_getElem? (i := 9) (by decide +kernel))), ⟨by decide +kernel, by decide +kernel⟩, by decide +kernel⟩, (List.mem_append_right _ (List.mem_of_getElem? (i := 1651) (by decide +kernel))), (List.mem_append_left _ (List.mem_of_getElem? (i := 78) (by decide +kernel)))⟩
abbrev M_Mo_inches : xM := (yX9_inches, cX9_inches, 3, some .int, [])
theorem dX9_inches_0 : decode cX9_inches 0 = .ok (.aload_n 0, 1) := by decide +kernel
theorem dX9_inches_1 : decode cX9_inches 1 = .ok (.iconst 0, 1) := by decide +kernel
theorem dX9_inches_2 : decode cX9_inches 2 = .ok (.putfield 132, 3) := by decide +kernel
theorem dX9_inches_5 : decode cX9_inches 5 = .ok (.aload_n 0, 1) := by decide +kernel
theorem dX9_inches_6 : decode cX9_inches 6 = .ok (.iload_n 1, 1) := by decide +kernel
theorem dX9_inches_7 : decode cX9_inches 7 = .ok (.invokevirtual 418, 3) := by decide +kernel
theorem dX9_inches_10 : decode cX9_inches 10 = .ok (.ifCond .eq 21, 3) := by decide +kernel
theorem dX9_inches_13 : decode cX9_inches 13 = .ok (.aload_n 0, 1) := by decide +kernel
theorem dX9_inches_14 : decode cX9_inches 14 = .ok (.iload_n 2, 1) := by decide +kernel
theorem dX9_inches_15 : decode cX9_inches 15 = .ok (.iconst 1, 1) := by decide +kernel
theorem dX9_inches_16 : decode cX9_inches 16 = .ok (.invokevirtual 421, 3) := by decide +kernel
theorem dX9_inches_19 : decode cX9_inches 19 = .ok (.ifCond .eq 12, 3) := by decide +kernel
theorem dX9_inches_22 : decode cX9_inches 22 = .ok (.aload_n 0, 1) := by decide +kernel
theorem dX9_inches_23 : decode cX9_inches 23 = .ok (.iload_n 1, 1) := by decide +kernel
theorem dX9_inches_24 : decode cX9_inches 24 = .ok (.iload_n 2, 1) := by decide +kernel
theorem dX9_inches_25 : decode cX9_inches 25 = .ok (.invokevirtual 381, 3) := by decide +kernel
theorem dX9_inches_28 : decode cX9_inches 28 = .ok (.goto 4, 3) := by decide +kernel
theorem dX9_inches_31 : decode cX9_inches 31 = .ok (.iconst 0, 1) := by decide +kernel
theorem dX9_inches_32 : decode cX9_inches 32 = .ok (.ireturn, 1) := by decide +kernel
def f_Mo_inches_60 (v1 : Int32) (v2 : Int32) (σ : xS) : Option (Int32 × xS) :=
  let σ1 := x_pI σ 60 0 (0 : Int32)
  (f_Mo_isTenth_60 v1 σ1).bind fun q2 =>
  if q2.1 = 0 then
    some ((0 : Int32), q2.2)
  else
    (f_Mo_isWhat_60 v2 (1 : Int32) q2.2).bind fun q3 =>
    if q3.1 = 0 then
      some ((0 : Int32), q3.2)
    else
      (f_Mo_inchesOf_60 v1 v2 q3.2).bind fun q4 =>
      some (q4.1, q4.2)
set_option maxHeartbeats 4000000 in
set_option maxRecDepth 100000 in
theorem c_Mo_inches_60 {l : Launch} {s0 : State} {a0 : Array Value} {D : va_G} {cA : Nat → ClassId} {sp : Nat → Nat} (E : x_En CL l s0 a0 D cA sp) (v1 : Int32) (v2 : Int32) {σ : xS} {r : Int32} {σ1 : xS} (h : f_Mo_inches_60 v1 v2 σ = some (r, σ1)) : zC l s0 D cA sp 2 M_Mo_inches [.ref 60, .int v1, .int v2] σ (some (.int r)) σ1 := by
  unfold f_Mo_inches_60 at h
  try dsimp only at h
  refine x_enter [some (.ref 60), some (.int v1), some (.int v2)] rfl (Nat.le_of_ble_eq_true rfl) (by decide +kernel) rfl ?_
  refine x_aload_n 1 rfl 0 dX9_inches_0 rfl rfl ?_
  refine x_iconst 2 rfl (v := 0) dX9_inches_1 (by decide) ?_
  refine x_putI E dX9_inches_2 F_RX9_132 sh_60 5 rfl ?_
  refine x_aload_n 6 rfl 0 dX9_inches_5 rfl rfl ?_
  refine x_iload_n 7 rfl 1 dX9_inches_6 rfl rfl ?_
  obtain ⟨⟨q2r, q2s⟩, q2h, h⟩ := x_bind h
  try dsimp only at h
  refine z_callV E [.int _] [] dX9_inches_7 K_RX9_418 ⟨Nat.le_of_ble_eq_true rfl, Nat.le_of_ble_eq_true rfl⟩ sh_60 (by decide) rfl (c_Mo_isTenth_60 E _ q2h) rfl rfl (Nat.le_of_ble_eq_true rfl) 10 rfl [.int _] rfl ?_
  refine x_if_eq 13 rfl 31 dX9_inches_10 (by decide) (fun hc => ?_) (fun hc => ?_)
  · replace h := x_ifT hc h
    refine x_iconst 32 rfl (v := 0) dX9_inches_31 (by decide) ?_
    cases h
    exact x_iret dX9_inches_32 rfl rfl rfl
  · replace h := x_ifF hc h
    refine x_aload_n 14 rfl 0 dX9_inches_13 rfl rfl ?_
    refine x_iload_n 15 rfl 2 dX9_inches_14 rfl rfl ?_
    refine x_iconst 16 rfl (v := 1) dX9_inches_15 (by decide) ?_
    obtain ⟨⟨q3r, q3s⟩, q3h, h⟩ := x_bind h
    try dsimp only at h
    refine z_callV E [.int _, .int _] [] dX9_inches_16 K_RX9_421 ⟨Nat.le_of_ble_eq_true rfl, Nat.le_of_ble_eq_true rfl⟩ sh_60 (by decide) rfl (c_Mo_isWhat_60 E _ _ q3h) rfl rfl (Nat.le_of_ble_eq_true rfl) 19 rfl [.int _] rfl ?_
    refine x_if_eq 22 rfl 31 dX9_inches_19 (by decide) (fun hc => ?_) (fun hc => ?_)
    · replace h := x_ifT hc h
      refine x_iconst 32 rfl (v := 0) dX9_inches_31 (by decide) ?_
      cases h
      exact x_iret dX9_inches_32 rfl rfl rfl
    · replace h := x_ifF hc h
      refine x_aload_n 23 rfl 0 dX9_inches_22 rfl rfl ?_
      refine x_iload_n 24 rfl 1 dX9_inches_23 rfl rfl ?_
      refine x_iload_n 25 rfl 2 dX9_inches_24 rfl rfl ?_
      obtain ⟨⟨q4r, q4s⟩, q4h, h⟩ := x_bind h
      try dsimp only at h
      refine z_callV E [.int _, .int _] [] dX9_inches_25 K_RX9_381 ⟨Nat.le_of_ble_eq_true rfl, Nat.le_of_ble_eq_true rfl⟩ sh_60 (by decide) rfl (c_Mo_inchesOf_60 E _ _ q4h) rfl rfl (Nat.le_of_ble_eq_true rfl) 28 rfl [.int _] rfl ?_
      refine x_goto 32 dX9_inches_28 (by decide) ?_
      cases h
      exact x_iret dX9_inches_32 rfl rfl rfl
abbrev M_Mo_turn : xM := (yX9_turn, cX9_turn, 2, some .int, [])
theorem dX9_turn_0 : decode cX9_turn 0 = .ok (.aload_n 0, 1) := by decide +kernel
theorem dX9_turn_1 : decode cX9_turn 1 = .ok (.iconst 0, 1) := by decide +kernel
theorem dX9_turn_2 : decode cX9_turn 2 = .ok (.putfield 132, 3) := by decide +kernel
theorem dX9_turn_5 : decode cX9_turn 5 = .ok (.aload_n 0, 1) := by decide +kernel
theorem dX9_turn_6 : decode cX9_turn 6 = .ok (.iload_n 1, 1) := by decide +kernel
theorem dX9_turn_7 : decode cX9_turn 7 = .ok (.bipush 12, 2) := by decide +kernel
theorem dX9_turn_9 : decode cX9_turn 9 = .ok (.sipush 480, 3) := by decide +kernel
theorem dX9_turn_12 : decode cX9_turn 12 = .ok (.invokestatic 414, 3) := by decide +kernel
theorem dX9_turn_15 : decode cX9_turn 15 = .ok (.iconst 1, 1) := by decide +kernel
theorem dX9_turn_16 : decode cX9_turn 16 = .ok (.invokevirtual 311, 3) := by decide +kernel
theorem dX9_turn_19 : decode cX9_turn 19 = .ok (.ifCond .eq 11, 3) := by decide +kernel
theorem dX9_turn_22 : decode cX9_turn 22 = .ok (.aload_n 0, 1) := by decide +kernel
theorem dX9_turn_23 : decode cX9_turn 23 = .ok (.iload_n 1, 1) := by decide +kernel
theorem dX9_turn_24 : decode cX9_turn 24 = .ok (.invokevirtual 396, 3) := by decide +kernel
theorem dX9_turn_27 : decode cX9_turn 27 = .ok (.goto 4, 3) := by decide +kernel
theorem dX9_turn_30 : decode cX9_turn 30 = .ok (.iconst 0, 1) := by decide +kernel
theorem dX9_turn_31 : decode cX9_turn 31 = .ok (.ireturn, 1) := by decide +kernel
def f_Mo_turn_60 (v1 : Int32) (σ : xS) : Option (Int32 × xS) :=
  let σ1 := x_pI σ 60 0 (0 : Int32)
  (f_Mo_within v1 (12 : Int32) (480 : Int32) σ1).bind fun q2 =>
  (f_Mo_right_60 q2.1 (1 : Int32) q2.2).bind fun q3 =>
  if q3.1 = 0 then
    some ((0 : Int32), q3.2)
  else
    (f_Mo_turnOf_60 v1 q3.2).bind fun q4 =>
    some (q4.1, q4.2)
set_option maxHeartbeats 4000000 in
set_option maxRecDepth 100000 in
theorem c_Mo_turn_60 {l : Launch} {s0 : State} {a0 : Array Value} {D : va_G} {cA : Nat → ClassId} {sp : Nat → Nat} (E : x_En CL l s0 a0 D cA sp) (v1 : Int32) {σ : xS} {r : Int32} {σ1 : xS} (h : f_Mo_turn_60 v1 σ = some (r, σ1)) : zC l s0 D cA sp 3 M_Mo_turn [.ref 60, .int v1] σ (some (.int r)) σ1 := by
  unfold f_Mo_turn_60 at h
  try dsimp only at h
  refine x_enter [some (.ref 60), some (.int v1)] rfl (Nat.le_of_ble_eq_true rfl) (by decide +kernel) rfl ?_
  refine x_aload_n 1 rfl 0 dX9_turn_0 rfl rfl ?_
  refine x_iconst 2 rfl (v := 0) dX9_turn_1 (by decide) ?_
  refine x_putI E dX9_turn_2 F_RX9_132 sh_60 5 rfl ?_
  refine x_aload_n 6 rfl 0 dX9_turn_5 rfl rfl ?_
  refine x_iload_n 7 rfl 1 dX9_turn_6 rfl rfl ?_
  refine x_bipush 9 rfl (v := 12) dX9_turn_7 (by decide) ?_
  refine x_sipush 12 rfl (v := 480) dX9_turn_9 (by decide) ?_
  obtain ⟨⟨q2r, q2s⟩, q2h, h⟩ := x_bind h
  try dsimp only at h
  refine z_callS E [.int _, .int _, .int _] [.ref 60] dX9_turn_12 K_RX9_414 ⟨Nat.le_of_ble_eq_true rfl, Nat.le_of_ble_eq_true rfl⟩ (c_Mo_within E _ _ _ q2h) rfl rfl (Nat.le_of_ble_eq_true rfl) 15 rfl [.int _, .ref 60] rfl ?_
  refine x_iconst 16 rfl (v := 1) dX9_turn_15 (by decide) ?_
  obtain ⟨⟨q3r, q3s⟩, q3h, h⟩ := x_bind h
  try dsimp only at h
  refine z_callV E [.int _, .int _] [] dX9_turn_16 K_RX9_311 ⟨Nat.le_of_ble_eq_true rfl, Nat.le_of_ble_eq_true rfl⟩ sh_60 (by decide) rfl (c_Mo_right_60 E _ _ q3h) rfl rfl (Nat.le_of_ble_eq_true rfl) 19 rfl [.int _] rfl ?_
  refine x_if_eq 22 rfl 30 dX9_turn_19 (by decide) (fun hc => ?_) (fun hc => ?_)
  · replace h := x_ifT hc h
    refine x_iconst 31 rfl (v := 0) dX9_turn_30 (by decide) ?_
    cases h
    exact x_iret dX9_turn_31 rfl rfl rfl
  · replace h := x_ifF hc h
    refine x_aload_n 23 rfl 0 dX9_turn_22 rfl rfl ?_
    refine x_iload_n 24 rfl 1 dX9_turn_23 rfl rfl ?_
    obtain ⟨⟨q4r, q4s⟩, q4h, h⟩ := x_bind h
    try dsimp only at h
    refine z_callV E [.int _] [] dX9_turn_24 K_RX9_396 ⟨Nat.le_of_ble_eq_true rfl, Nat.le_of_ble_eq_true rfl⟩ sh_60 (by decide) rfl (c_Mo_turnOf_60 E _ q4h) rfl rfl (Nat.le_of_ble_eq_true rfl) 27 rfl [.int _] rfl ?_
    refine x_goto 31 dX9_turn_27 (by decide) ?_
    cases h
    exact x_iret dX9_turn_31 rfl rfl rfl
