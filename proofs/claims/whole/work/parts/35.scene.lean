/-! RingHand.scene. Written by wip/gen/scene.py. -/
theorem K_RX4_66 : x_KV RX4 66 M_Ru_has 1 := ⟨⟨(List.mem_append_right _ (List.mem_of_getElem? (i := 285) (by decide +kernel))), (List.mem_append_right _ (List.mem_of_getElem? (i := 288) (by decide +kernel))), (List.mem_append_right _ (List.mem_of_getElem? (i := 4) (by decide +kernel))), ⟨by decide +kernel, by decide +kernel⟩, by decide +kernel⟩, (List.mem_append_right _ (List.mem_of_getElem? (i := 286) (by decide +kernel))), (List.mem_append_right _ (List.mem_of_getElem? (i := 287) (by decide +kernel)))⟩
theorem K_RX4_73 : x_KV RX4 73 M_Ru_worth 1 := ⟨⟨(List.mem_append_right _ (List.mem_of_getElem? (i := 289) (by decide +kernel))), (List.mem_append_right _ (List.mem_of_getElem? (i := 292) (by decide +kernel))), (List.mem_append_right _ (List.mem_of_getElem? (i := 4) (by decide +kernel))), ⟨by decide +kernel, by decide +kernel⟩, by decide +kernel⟩, (List.mem_append_right _ (List.mem_of_getElem? (i := 290) (by decide +kernel))), (List.mem_append_right _ (List.mem_of_getElem? (i := 291) (by decide +kernel)))⟩
abbrev M_Sc_ruledTurn : xM := (yX4_ruledTurn, cX4_ruledTurn, 2, some .int, [])
theorem dX4_ruledTurn_0 : decode cX4_ruledTurn 0 = .ok (.aload_n 0, 1) := by decide +kernel
theorem dX4_ruledTurn_1 : decode cX4_ruledTurn 1 = .ok (.getfield 30, 3) := by decide +kernel
theorem dX4_ruledTurn_4 : decode cX4_ruledTurn 4 = .ok (.iconst 0, 1) := by decide +kernel
theorem dX4_ruledTurn_5 : decode cX4_ruledTurn 5 = .ok (.invokevirtual 66, 3) := by decide +kernel
theorem dX4_ruledTurn_8 : decode cX4_ruledTurn 8 = .ok (.ifCond .ne 18, 3) := by decide +kernel
theorem dX4_ruledTurn_11 : decode cX4_ruledTurn 11 = .ok (.iload_n 1, 1) := by decide +kernel
theorem dX4_ruledTurn_12 : decode cX4_ruledTurn 12 = .ok (.iconst 1, 1) := by decide +kernel
theorem dX4_ruledTurn_13 : decode cX4_ruledTurn 13 = .ok (.if_icmp .ge 7, 3) := by decide +kernel
theorem dX4_ruledTurn_16 : decode cX4_ruledTurn 16 = .ok (.iconst 0, 1) := by decide +kernel
theorem dX4_ruledTurn_17 : decode cX4_ruledTurn 17 = .ok (.goto 8, 3) := by decide +kernel
theorem dX4_ruledTurn_20 : decode cX4_ruledTurn 20 = .ok (.sipush 4320, 3) := by decide +kernel
theorem dX4_ruledTurn_23 : decode cX4_ruledTurn 23 = .ok (.iload_n 1, 1) := by decide +kernel
theorem dX4_ruledTurn_24 : decode cX4_ruledTurn 24 = .ok (.idiv, 1) := by decide +kernel
theorem dX4_ruledTurn_25 : decode cX4_ruledTurn 25 = .ok (.ireturn, 1) := by decide +kernel
theorem dX4_ruledTurn_26 : decode cX4_ruledTurn 26 = .ok (.aload_n 0, 1) := by decide +kernel
theorem dX4_ruledTurn_27 : decode cX4_ruledTurn 27 = .ok (.getfield 30, 3) := by decide +kernel
theorem dX4_ruledTurn_30 : decode cX4_ruledTurn 30 = .ok (.getfield 70, 3) := by decide +kernel
theorem dX4_ruledTurn_33 : decode cX4_ruledTurn 33 = .ok (.iconst 0, 1) := by decide +kernel
theorem dX4_ruledTurn_34 : decode cX4_ruledTurn 34 = .ok (.iload_n 1, 1) := by decide +kernel
theorem dX4_ruledTurn_35 : decode cX4_ruledTurn 35 = .ok (.iastore, 1) := by decide +kernel
theorem dX4_ruledTurn_36 : decode cX4_ruledTurn 36 = .ok (.aload_n 0, 1) := by decide +kernel
theorem dX4_ruledTurn_37 : decode cX4_ruledTurn 37 = .ok (.getfield 30, 3) := by decide +kernel
theorem dX4_ruledTurn_40 : decode cX4_ruledTurn 40 = .ok (.iconst 0, 1) := by decide +kernel
theorem dX4_ruledTurn_41 : decode cX4_ruledTurn 41 = .ok (.invokevirtual 73, 3) := by decide +kernel
theorem dX4_ruledTurn_44 : decode cX4_ruledTurn 44 = .ok (.iconst 0, 1) := by decide +kernel
theorem dX4_ruledTurn_45 : decode cX4_ruledTurn 45 = .ok (.sipush 999, 3) := by decide +kernel
theorem dX4_ruledTurn_48 : decode cX4_ruledTurn 48 = .ok (.invokestatic 76, 3) := by decide +kernel
theorem dX4_ruledTurn_51 : decode cX4_ruledTurn 51 = .ok (.ireturn, 1) := by decide +kernel
def f_Sc_ruledTurn_7 (v1 : Int32) (σ : xS) : Option (Int32 × xS) :=
  (f_Ru_has_13 (0 : Int32) σ).bind fun q1 =>
  if q1.1 = 0 then
    if (1 : Int32) ≤ v1 then
      if v1 = 0 then none else
      some (((4320 : Int32) / v1), q1.2)
    else
      some ((0 : Int32), q1.2)
  else
    let σ2 := x_pI q1.2 18 0 v1
    (f_Ru_worth_13 (0 : Int32) σ2).bind fun q3 =>
    (f_RH_within q3.1 (0 : Int32) (999 : Int32) q3.2).bind fun q4 =>
    some (q4.1, q4.2)
set_option maxHeartbeats 4000000 in
set_option maxRecDepth 100000 in
theorem c_Sc_ruledTurn_7 {l : Launch} {s0 : State} {a0 : Array Value} {D : va_G} {cA : Nat → ClassId} {sp : Nat → Nat} (E : x_En CL l s0 a0 D cA sp) (v1 : Int32) {σ : xS} {r : Int32} {σ1 : xS} (h : f_Sc_ruledTurn_7 v1 σ = some (r, σ1)) : zC l s0 D cA sp 2 M_Sc_ruledTurn [.ref 7, .int v1] σ (some (.int r)) σ1 := by
  unfold f_Sc_ruledTurn_7 at h
  try dsimp only at h
  refine x_enter [some (.ref 7), some (.int v1)] rfl (Nat.le_of_ble_eq_true rfl) (by decide +kernel) rfl ?_
  refine x_aload_n 1 rfl 0 dX4_ruledTurn_0 rfl rfl ?_
  refine x_getR E dX4_ruledTurn_1 F_RX4_30 sh_7 rf_7_11 4 rfl ?_
  refine x_iconst 5 rfl (v := 0) dX4_ruledTurn_4 (by decide) ?_
  obtain ⟨⟨q1r, q1s⟩, q1h, h⟩ := x_bind h
  try dsimp only at h
  refine z_callV E [.int _] [] dX4_ruledTurn_5 K_RX4_66 ⟨Nat.le_of_ble_eq_true rfl, Nat.le_of_ble_eq_true rfl⟩ sh_13 (by decide) rfl (c_Ru_has_13 E _ q1h) rfl rfl (Nat.le_of_ble_eq_true rfl) 8 rfl [.int _] rfl ?_
  refine x_if_ne 11 rfl 26 dX4_ruledTurn_8 (by decide) (fun hc => ?_) (fun hc => ?_)
  · replace h := x_ifF hc h
    refine x_aload_n 27 rfl 0 dX4_ruledTurn_26 rfl rfl ?_
    refine x_getR E dX4_ruledTurn_27 F_RX4_30 sh_7 rf_7_11 30 rfl ?_
    refine x_getR E dX4_ruledTurn_30 F_RX4_70 sh_13 rf_13_5 33 rfl ?_
    refine x_iconst 34 rfl (v := 0) dX4_ruledTurn_33 (by decide) ?_
    refine x_iload_n 35 rfl 1 dX4_ruledTurn_34 rfl rfl ?_
    refine x_iast E dX4_ruledTurn_35 sh_18 0 (by decide) (by decide) 36 rfl ?_
    refine x_aload_n 37 rfl 0 dX4_ruledTurn_36 rfl rfl ?_
    refine x_getR E dX4_ruledTurn_37 F_RX4_30 sh_7 rf_7_11 40 rfl ?_
    refine x_iconst 41 rfl (v := 0) dX4_ruledTurn_40 (by decide) ?_
    obtain ⟨⟨q3r, q3s⟩, q3h, h⟩ := x_bind h
    try dsimp only at h
    refine z_callV E [.int _] [] dX4_ruledTurn_41 K_RX4_73 ⟨Nat.le_of_ble_eq_true rfl, Nat.le_of_ble_eq_true rfl⟩ sh_13 (by decide) rfl (c_Ru_worth_13 E _ q3h) rfl rfl (Nat.le_of_ble_eq_true rfl) 44 rfl [.int _] rfl ?_
    refine x_iconst 45 rfl (v := 0) dX4_ruledTurn_44 (by decide) ?_
    refine x_sipush 48 rfl (v := 999) dX4_ruledTurn_45 (by decide) ?_
    obtain ⟨⟨q4r, q4s⟩, q4h, h⟩ := x_bind h
    try dsimp only at h
    refine z_callT E [.int _, .int _, .int _] [] dX4_ruledTurn_48 K_RX4_76 ⟨Nat.le_of_ble_eq_true rfl, Nat.le_of_ble_eq_true rfl⟩ (c_RH_within E _ _ _ q4h) rfl rfl (Nat.le_of_ble_eq_true rfl) 51 rfl [.int _] rfl ?_
    cases h
    exact x_iret dX4_ruledTurn_51 rfl rfl rfl
  · replace h := x_ifT hc h
    refine x_iload_n 12 rfl 1 dX4_ruledTurn_11 rfl rfl ?_
    refine x_iconst 13 rfl (v := 1) dX4_ruledTurn_12 (by decide) ?_
    refine x_icmp_ge 16 rfl 20 dX4_ruledTurn_13 (by decide) (fun hc => ?_) (fun hc => ?_)
    · replace h := x_ifT hc h
      refine x_sipush 23 rfl (v := 4320) dX4_ruledTurn_20 (by decide) ?_
      refine x_iload_n 24 rfl 1 dX4_ruledTurn_23 rfl rfl ?_
      obtain ⟨hz, h⟩ := x_ifn h
      refine x_idiv 25 rfl dX4_ruledTurn_24 hz ?_
      cases h
      exact x_iret dX4_ruledTurn_25 rfl rfl rfl
    · replace h := x_ifF hc h
      refine x_iconst 17 rfl (v := 0) dX4_ruledTurn_16 (by decide) ?_
      refine x_goto 25 dX4_ruledTurn_17 (by decide) ?_
      cases h
      exact x_iret dX4_ruledTurn_25 rfl rfl rfl
theorem K_RX4_62 : x_KV RX4 62 M_Sc_ruledTurn 1 := ⟨⟨(List.mem_append_right _ (List.mem_of_getElem? (i := 281) (by decide +kernel))), (List.mem_append_right _ (List.mem_of_getElem? (i := 284) (by decide +kernel))), (List.mem_append_right _ (List.mem_of_getElem? (i := 3) (by decide +kernel))), ⟨by decide +kernel, by decide +kernel⟩, by decide +kernel⟩, (List.mem_append_right _ (List.mem_of_getElem? (i := 283) (by decide +kernel))), (List.mem_append_left _ (List.mem_of_getElem? (i := 0) (by decide +kernel)))⟩
abbrev M_Sc_finish : xM := (yX4_finish, cX4_finish, 6, none, [])
theorem dX4_finish_0 : decode cX4_finish 0 = .ok (.aload_n 0, 1) := by decide +kernel
theorem dX4_finish_1 : decode cX4_finish 1 = .ok (.getfield 24, 3) := by decide +kernel
theorem dX4_finish_4 : decode cX4_finish 4 = .ok (.iconst 4, 1) := by decide +kernel
theorem dX4_finish_5 : decode cX4_finish 5 = .ok (.aload_n 0, 1) := by decide +kernel
theorem dX4_finish_6 : decode cX4_finish 6 = .ok (.getfield 56, 3) := by decide +kernel
theorem dX4_finish_9 : decode cX4_finish 9 = .ok (.ifCond .le 7, 3) := by decide +kernel
theorem dX4_finish_12 : decode cX4_finish 12 = .ok (.iconst 0, 1) := by decide +kernel
theorem dX4_finish_13 : decode cX4_finish 13 = .ok (.goto 4, 3) := by decide +kernel
theorem dX4_finish_16 : decode cX4_finish 16 = .ok (.iconst (-1), 1) := by decide +kernel
theorem dX4_finish_17 : decode cX4_finish 17 = .ok (.iastore, 1) := by decide +kernel
theorem dX4_finish_18 : decode cX4_finish 18 = .ok (.aload_n 0, 1) := by decide +kernel
theorem dX4_finish_19 : decode cX4_finish 19 = .ok (.getfield 34, 3) := by decide +kernel
theorem dX4_finish_22 : decode cX4_finish 22 = .ok (.iconst 0, 1) := by decide +kernel
theorem dX4_finish_23 : decode cX4_finish 23 = .ok (.aload_n 0, 1) := by decide +kernel
theorem dX4_finish_24 : decode cX4_finish 24 = .ok (.getfield 40, 3) := by decide +kernel
theorem dX4_finish_27 : decode cX4_finish 27 = .ok (.iastore, 1) := by decide +kernel
theorem dX4_finish_28 : decode cX4_finish 28 = .ok (.aload_n 0, 1) := by decide +kernel
theorem dX4_finish_29 : decode cX4_finish 29 = .ok (.getfield 40, 3) := by decide +kernel
theorem dX4_finish_32 : decode cX4_finish 32 = .ok (.istore_n 1, 1) := by decide +kernel
theorem dX4_finish_33 : decode cX4_finish 33 = .ok (.iconst 0, 1) := by decide +kernel
theorem dX4_finish_34 : decode cX4_finish 34 = .ok (.istore_n 2, 1) := by decide +kernel
theorem dX4_finish_35 : decode cX4_finish 35 = .ok (.iconst 0, 1) := by decide +kernel
theorem dX4_finish_36 : decode cX4_finish 36 = .ok (.istore_n 3, 1) := by decide +kernel
theorem dX4_finish_37 : decode cX4_finish 37 = .ok (.iload_n 3, 1) := by decide +kernel
theorem dX4_finish_38 : decode cX4_finish 38 = .ok (.aload_n 0, 1) := by decide +kernel
theorem dX4_finish_39 : decode cX4_finish 39 = .ok (.getfield 44, 3) := by decide +kernel
theorem dX4_finish_42 : decode cX4_finish 42 = .ok (.if_icmp .ge 78, 3) := by decide +kernel
theorem dX4_finish_45 : decode cX4_finish 45 = .ok (.iload_n 3, 1) := by decide +kernel
theorem dX4_finish_46 : decode cX4_finish 46 = .ok (.bipush 12, 2) := by decide +kernel
theorem dX4_finish_48 : decode cX4_finish 48 = .ok (.if_icmp .ge 72, 3) := by decide +kernel
theorem dX4_finish_51 : decode cX4_finish 51 = .ok (.aload_n 0, 1) := by decide +kernel
theorem dX4_finish_52 : decode cX4_finish 52 = .ok (.getfield 15, 3) := by decide +kernel
theorem dX4_finish_55 : decode cX4_finish 55 = .ok (.iload_n 3, 1) := by decide +kernel
theorem dX4_finish_56 : decode cX4_finish 56 = .ok (.iaload, 1) := by decide +kernel
theorem dX4_finish_57 : decode cX4_finish 57 = .ok (.istore 4, 2) := by decide +kernel
theorem dX4_finish_59 : decode cX4_finish 59 = .ok (.iconst 1, 1) := by decide +kernel
theorem dX4_finish_60 : decode cX4_finish 60 = .ok (.istore 5, 2) := by decide +kernel
theorem dX4_finish_62 : decode cX4_finish 62 = .ok (.iload 5, 2) := by decide +kernel
theorem dX4_finish_64 : decode cX4_finish 64 = .ok (.iload 4, 2) := by decide +kernel
theorem dX4_finish_66 : decode cX4_finish 66 = .ok (.if_icmp .gt 41, 3) := by decide +kernel
theorem dX4_finish_69 : decode cX4_finish 69 = .ok (.iload_n 2, 1) := by decide +kernel
theorem dX4_finish_70 : decode cX4_finish 70 = .ok (.sipush 600, 3) := by decide +kernel
theorem dX4_finish_73 : decode cX4_finish 73 = .ok (.if_icmp .ge 34, 3) := by decide +kernel
theorem dX4_finish_76 : decode cX4_finish 76 = .ok (.iinc 2 1, 3) := by decide +kernel
theorem dX4_finish_79 : decode cX4_finish 79 = .ok (.aload_n 0, 1) := by decide +kernel
theorem dX4_finish_80 : decode cX4_finish 80 = .ok (.getfield 34, 3) := by decide +kernel
theorem dX4_finish_83 : decode cX4_finish 83 = .ok (.iload_n 2, 1) := by decide +kernel
theorem dX4_finish_84 : decode cX4_finish 84 = .ok (.iload_n 1, 1) := by decide +kernel
theorem dX4_finish_85 : decode cX4_finish 85 = .ok (.aload_n 0, 1) := by decide +kernel
theorem dX4_finish_86 : decode cX4_finish 86 = .ok (.getfield 9, 3) := by decide +kernel
theorem dX4_finish_89 : decode cX4_finish 89 = .ok (.iload_n 3, 1) := by decide +kernel
theorem dX4_finish_90 : decode cX4_finish 90 = .ok (.iaload, 1) := by decide +kernel
theorem dX4_finish_91 : decode cX4_finish 91 = .ok (.iload_n 1, 1) := by decide +kernel
theorem dX4_finish_92 : decode cX4_finish 92 = .ok (.isub, 1) := by decide +kernel
theorem dX4_finish_93 : decode cX4_finish 93 = .ok (.iload 5, 2) := by decide +kernel
theorem dX4_finish_95 : decode cX4_finish 95 = .ok (.imul, 1) := by decide +kernel
theorem dX4_finish_96 : decode cX4_finish 96 = .ok (.iload 4, 2) := by decide +kernel
theorem dX4_finish_98 : decode cX4_finish 98 = .ok (.idiv, 1) := by decide +kernel
theorem dX4_finish_99 : decode cX4_finish 99 = .ok (.iadd, 1) := by decide +kernel
theorem dX4_finish_100 : decode cX4_finish 100 = .ok (.iastore, 1) := by decide +kernel
theorem dX4_finish_101 : decode cX4_finish 101 = .ok (.iinc 5 1, 3) := by decide +kernel
theorem dX4_finish_104 : decode cX4_finish 104 = .ok (.goto (-42), 3) := by decide +kernel
theorem dX4_finish_107 : decode cX4_finish 107 = .ok (.aload_n 0, 1) := by decide +kernel
theorem dX4_finish_108 : decode cX4_finish 108 = .ok (.getfield 9, 3) := by decide +kernel
theorem dX4_finish_111 : decode cX4_finish 111 = .ok (.iload_n 3, 1) := by decide +kernel
theorem dX4_finish_112 : decode cX4_finish 112 = .ok (.iaload, 1) := by decide +kernel
theorem dX4_finish_113 : decode cX4_finish 113 = .ok (.istore_n 1, 1) := by decide +kernel
theorem dX4_finish_114 : decode cX4_finish 114 = .ok (.iinc 3 1, 3) := by decide +kernel
theorem dX4_finish_117 : decode cX4_finish 117 = .ok (.goto (-80), 3) := by decide +kernel
theorem dX4_finish_120 : decode cX4_finish 120 = .ok (.bipush 12, 2) := by decide +kernel
theorem dX4_finish_122 : decode cX4_finish 122 = .ok (.istore_n 3, 1) := by decide +kernel
theorem dX4_finish_123 : decode cX4_finish 123 = .ok (.iload_n 3, 1) := by decide +kernel
theorem dX4_finish_124 : decode cX4_finish 124 = .ok (.sipush 480, 3) := by decide +kernel
theorem dX4_finish_127 : decode cX4_finish 127 = .ok (.if_icmp .gt 20, 3) := by decide +kernel
theorem dX4_finish_130 : decode cX4_finish 130 = .ok (.aload_n 0, 1) := by decide +kernel
theorem dX4_finish_131 : decode cX4_finish 131 = .ok (.getfield 37, 3) := by decide +kernel
theorem dX4_finish_134 : decode cX4_finish 134 = .ok (.iload_n 3, 1) := by decide +kernel
theorem dX4_finish_135 : decode cX4_finish 135 = .ok (.aload_n 0, 1) := by decide +kernel
theorem dX4_finish_136 : decode cX4_finish 136 = .ok (.iload_n 3, 1) := by decide +kernel
theorem dX4_finish_137 : decode cX4_finish 137 = .ok (.invokevirtual 62, 3) := by decide +kernel
theorem dX4_finish_140 : decode cX4_finish 140 = .ok (.iastore, 1) := by decide +kernel
theorem dX4_finish_141 : decode cX4_finish 141 = .ok (.iinc 3 1, 3) := by decide +kernel
theorem dX4_finish_144 : decode cX4_finish 144 = .ok (.goto (-21), 3) := by decide +kernel
theorem dX4_finish_147 : decode cX4_finish 147 = .ok (.return_, 1) := by decide +kernel
def f_Sc_finish_7_L123  (a : Int32 × xS) : Option ((Int32 × xS) ⊕ (Int32 × xS)) :=
  let v3 := a.1; let σ := a.2;
  if (480 : Int32) < v3 then
    some (.inl (v3, σ))
  else
    (f_Sc_ruledTurn_7 v3 σ).bind fun q1 =>
    if v3 < 0 ∨ 481 ≤ v3.toNatClampNeg then none else
    let σ2 := x_pI q1.2 20 v3.toNatClampNeg q1.1
    let w3 := v3 + (1 : Int32)
    some (.inr (w3, σ2))
def f_Sc_finish_7_L62 (v1 : Int32) (v3 : Int32) (v4 : Int32) (a : Int32 × Int32 × xS) : Option ((Int32 × Int32 × xS) ⊕ (Int32 × Int32 × xS)) :=
  let v2 := a.1; let v5 := a.2.1; let σ := a.2.2;
  if v4 < v5 then
    some (.inl (v2, v5, σ))
  else
    if (600 : Int32) ≤ v2 then
      some (.inl (v2, v5, σ))
    else
      let w4 := v2 + (1 : Int32)
      if v3 < 0 ∨ 12 ≤ v3.toNatClampNeg then none else
      if v4 = 0 then none else
      if w4 < 0 ∨ 601 ≤ w4.toNatClampNeg then none else
      let σ5 := x_pI σ 19 w4.toNatClampNeg (v1 + (((σ.1 8 v3.toNatClampNeg - v1) * v5) / v4))
      let w6 := v5 + (1 : Int32)
      some (.inr (w4, w6, σ5))
def f_Sc_finish_7_L37  (a : Int32 × Int32 × Int32 × xS) : Option ((Int32 × Int32 × Int32 × xS) ⊕ (Int32 × Int32 × Int32 × xS)) :=
  let v1 := a.1; let v2 := a.2.1; let v3 := a.2.2.1; let σ := a.2.2.2;
  if σ.1 7 1 ≤ v3 then
    some (.inl (v1, v2, v3, σ))
  else
    if (12 : Int32) ≤ v3 then
      some (.inl (v1, v2, v3, σ))
    else
      if v3 < 0 ∨ 12 ≤ v3.toNatClampNeg then none else
      let w7 := σ.1 9 v3.toNatClampNeg
      (x_it (f_Sc_finish_7_L62 v1 v3 w7) 10000 (v2, (1 : Int32), σ)).bind fun b8 =>
      if v3 < 0 ∨ 12 ≤ v3.toNatClampNeg then none else
      let w9 := b8.2.2.1 8 v3.toNatClampNeg
      let w10 := v3 + (1 : Int32)
      some (.inr (w9, b8.1, w10, b8.2.2))
def f_Sc_finish_7_J120  (σ : xS) : Option (Unit × xS) :=
  (x_it (f_Sc_finish_7_L123 ) 10000 ((12 : Int32), σ)).bind fun b11 =>
  some ((), b11.2)
def f_Sc_finish_7_J17 (y1 : Int32) (y2 : Int32) (σ : xS) : Option (Unit × xS) :=
  if y1 < 0 ∨ 12 ≤ y1.toNatClampNeg then none else
  let σ12 := x_pI σ 12 y1.toNatClampNeg y2
  let σ13 := x_pI σ12 19 0 (σ12.1 7 0)
  let w14 := σ13.1 7 0
  (x_it (f_Sc_finish_7_L37 ) 10000 (w14, (0 : Int32), (0 : Int32), σ13)).bind fun b15 =>
  f_Sc_finish_7_J120  b15.2.2.2
def f_Sc_finish_7  (σ : xS) : Option (Unit × xS) :=
  if σ.1 7 9 ≤ 0 then
    f_Sc_finish_7_J17 (4 : Int32) (-1 : Int32) σ
  else
    f_Sc_finish_7_J17 (4 : Int32) (0 : Int32) σ
set_option maxHeartbeats 4000000 in
set_option maxRecDepth 100000 in
theorem b_Sc_finish_7_L123 {l : Launch} {s0 : State} {a0 : Array Value} {D : va_G} {cA : Nat → ClassId} {sp : Nat → Nat} (E : x_En CL l s0 a0 D cA sp)  {r : Unit} {σ1 : xS} (a : Int32 × xS) (o : (Int32 × xS) ⊕ (Int32 × xS)) (h : f_Sc_finish_7_L123  a = some o) (hK : ∀ b, o = .inl b → zW l s0 D cA sp (zQ s0 D cA sp none σ1) (x_rm 3 0 0) M_Sc_finish 0 0 147 [none, none, none, none, none, none] [] b.2) (hG : ∀ a', o = .inr a' → zW l s0 D cA sp (zQ s0 D cA sp none σ1) (x_rm 3 0 0) M_Sc_finish 0 0 123 [some (.ref 7), none, none, some (.int a'.1), none, none] [] a'.2) : zW l s0 D cA sp (zQ s0 D cA sp none σ1) (x_rm 3 0 0) M_Sc_finish 0 0 123 [some (.ref 7), none, none, some (.int a.1), none, none] [] a.2 := by
  obtain ⟨v3, σ⟩ := a
  unfold f_Sc_finish_7_L123 at h
  try dsimp only at h ⊢
  refine x_iload_n 124 rfl 3 dX4_finish_123 rfl rfl ?_
  refine x_sipush 127 rfl (v := 480) dX4_finish_124 (by decide) ?_
  refine x_icmp_gt 130 rfl 147 dX4_finish_127 (by decide) (fun hc => ?_) (fun hc => ?_)
  · replace h := x_ifT hc h
    cases h
    exact x_wk (x_le_n (x_le_n (x_le_n (x_le_n (x_le_n (x_le_n x_le_0)))))) (hK (_, _) rfl)
  · replace h := x_ifF hc h
    refine x_aload_n 131 rfl 0 dX4_finish_130 rfl rfl ?_
    refine x_getR E dX4_finish_131 F_RX4_37 sh_7 rf_7_13 134 rfl ?_
    refine x_iload_n 135 rfl 3 dX4_finish_134 rfl rfl ?_
    refine x_aload_n 136 rfl 0 dX4_finish_135 rfl rfl ?_
    refine x_iload_n 137 rfl 3 dX4_finish_136 rfl rfl ?_
    obtain ⟨⟨q1r, q1s⟩, q1h, h⟩ := x_bind h
    try dsimp only at h
    refine z_callV E [.int _] [.int _, .ref 20] dX4_finish_137 K_RX4_62 ⟨Nat.le_of_ble_eq_true rfl, Nat.le_of_ble_eq_true rfl⟩ sh_7 (by decide) rfl (c_Sc_ruledTurn_7 E _ q1h) rfl rfl (Nat.le_of_ble_eq_true rfl) 140 rfl [.int _, .int _, .ref 20] rfl ?_
    obtain ⟨hz, h⟩ := x_ifn h
    refine x_iast E dX4_finish_140 sh_20 _ rfl hz 141 rfl ?_
    refine x_iinc 144 rfl (1) dX4_finish_141 rfl (by decide) (by decide) [some (.ref 7), none, none, some (.int _), none, none] rfl ?_
    refine x_goto 123 dX4_finish_144 (by decide) ?_
    cases h
    exact x_wk (x_le_s (x_le_n (x_le_n (x_le_s (x_le_n (x_le_n x_le_0)))))) (hG (_, _) rfl)
set_option maxHeartbeats 4000000 in
set_option maxRecDepth 100000 in
theorem b_Sc_finish_7_L62 {l : Launch} {s0 : State} {a0 : Array Value} {D : va_G} {cA : Nat → ClassId} {sp : Nat → Nat} (E : x_En CL l s0 a0 D cA sp) (v1 : Int32) (v3 : Int32) (v4 : Int32) {r : Unit} {σ1 : xS} (a : Int32 × Int32 × xS) (o : (Int32 × Int32 × xS) ⊕ (Int32 × Int32 × xS)) (h : f_Sc_finish_7_L62 v1 v3 v4 a = some o) (hK : ∀ b, o = .inl b → zW l s0 D cA sp (zQ s0 D cA sp none σ1) (x_rm 3 0 0) M_Sc_finish 0 0 107 [some (.ref 7), none, some (.int b.1), some (.int v3), none, none] [] b.2.2) (hG : ∀ a', o = .inr a' → zW l s0 D cA sp (zQ s0 D cA sp none σ1) (x_rm 3 0 0) M_Sc_finish 0 0 62 [some (.ref 7), some (.int v1), some (.int a'.1), some (.int v3), some (.int v4), some (.int a'.2.1)] [] a'.2.2) : zW l s0 D cA sp (zQ s0 D cA sp none σ1) (x_rm 3 0 0) M_Sc_finish 0 0 62 [some (.ref 7), some (.int v1), some (.int a.1), some (.int v3), some (.int v4), some (.int a.2.1)] [] a.2.2 := by
  obtain ⟨v2, v5, σ⟩ := a
  unfold f_Sc_finish_7_L62 at h
  try dsimp only at h ⊢
  refine x_iload 64 rfl dX4_finish_62 rfl ?_
  refine x_iload 66 rfl dX4_finish_64 rfl ?_
  refine x_icmp_gt 69 rfl 107 dX4_finish_66 (by decide) (fun hc => ?_) (fun hc => ?_)
  · replace h := x_ifT hc h
    cases h
    exact x_wk (x_le_s (x_le_n (x_le_s (x_le_s (x_le_n (x_le_n x_le_0)))))) (hK (_, _, _) rfl)
  · replace h := x_ifF hc h
    refine x_iload_n 70 rfl 2 dX4_finish_69 rfl rfl ?_
    refine x_sipush 73 rfl (v := 600) dX4_finish_70 (by decide) ?_
    refine x_icmp_ge 76 rfl 107 dX4_finish_73 (by decide) (fun hc => ?_) (fun hc => ?_)
    · replace h := x_ifT hc h
      cases h
      exact x_wk (x_le_s (x_le_n (x_le_s (x_le_s (x_le_n (x_le_n x_le_0)))))) (hK (_, _, _) rfl)
    · replace h := x_ifF hc h
      refine x_iinc 79 rfl (1) dX4_finish_76 rfl (by decide) (by decide) [some (.ref 7), some (.int _), some (.int _), some (.int _), some (.int _), some (.int _)] rfl ?_
      refine x_aload_n 80 rfl 0 dX4_finish_79 rfl rfl ?_
      refine x_getR E dX4_finish_80 F_RX4_34 sh_7 rf_7_12 83 rfl ?_
      refine x_iload_n 84 rfl 2 dX4_finish_83 rfl rfl ?_
      refine x_iload_n 85 rfl 1 dX4_finish_84 rfl rfl ?_
      refine x_aload_n 86 rfl 0 dX4_finish_85 rfl rfl ?_
      refine x_getR E dX4_finish_86 F_RX4_9 sh_7 rf_7_2 89 rfl ?_
      refine x_iload_n 90 rfl 3 dX4_finish_89 rfl rfl ?_
      obtain ⟨hz, h⟩ := x_ifn h
      refine x_iald E dX4_finish_90 sh_8 _ rfl hz 91 rfl ?_
      refine x_iload_n 92 rfl 1 dX4_finish_91 rfl rfl ?_
      refine x_isub 93 rfl dX4_finish_92 ?_
      refine x_iload 95 rfl dX4_finish_93 rfl ?_
      refine x_imul 96 rfl dX4_finish_95 ?_
      refine x_iload 98 rfl dX4_finish_96 rfl ?_
      obtain ⟨hz, h⟩ := x_ifn h
      refine x_idiv 99 rfl dX4_finish_98 hz ?_
      refine x_iadd 100 rfl dX4_finish_99 ?_
      obtain ⟨hz, h⟩ := x_ifn h
      refine x_iast E dX4_finish_100 sh_19 _ rfl hz 101 rfl ?_
      refine x_iinc 104 rfl (1) dX4_finish_101 rfl (by decide) (by decide) [some (.ref 7), some (.int _), some (.int _), some (.int _), some (.int _), some (.int _)] rfl ?_
      refine x_goto 62 dX4_finish_104 (by decide) ?_
      cases h
      exact x_wk (x_le_s (x_le_s (x_le_s (x_le_s (x_le_s (x_le_s x_le_0)))))) (hG (_, _, _) rfl)
set_option maxHeartbeats 4000000 in
set_option maxRecDepth 100000 in
theorem b_Sc_finish_7_L37 {l : Launch} {s0 : State} {a0 : Array Value} {D : va_G} {cA : Nat → ClassId} {sp : Nat → Nat} (E : x_En CL l s0 a0 D cA sp)  {r : Unit} {σ1 : xS} (a : Int32 × Int32 × Int32 × xS) (o : (Int32 × Int32 × Int32 × xS) ⊕ (Int32 × Int32 × Int32 × xS)) (h : f_Sc_finish_7_L37  a = some o) (hK : ∀ b, o = .inl b → zW l s0 D cA sp (zQ s0 D cA sp none σ1) (x_rm 3 0 0) M_Sc_finish 0 0 120 [some (.ref 7), none, none, none, none, none] [] b.2.2.2) (hG : ∀ a', o = .inr a' → zW l s0 D cA sp (zQ s0 D cA sp none σ1) (x_rm 3 0 0) M_Sc_finish 0 0 37 [some (.ref 7), some (.int a'.1), some (.int a'.2.1), some (.int a'.2.2.1), none, none] [] a'.2.2.2) : zW l s0 D cA sp (zQ s0 D cA sp none σ1) (x_rm 3 0 0) M_Sc_finish 0 0 37 [some (.ref 7), some (.int a.1), some (.int a.2.1), some (.int a.2.2.1), none, none] [] a.2.2.2 := by
  obtain ⟨v1, v2, v3, σ⟩ := a
  unfold f_Sc_finish_7_L37 at h
  try dsimp only at h ⊢
  refine x_iload_n 38 rfl 3 dX4_finish_37 rfl rfl ?_
  refine x_aload_n 39 rfl 0 dX4_finish_38 rfl rfl ?_
  refine x_getI E dX4_finish_39 F_RX4_44 sh_7 42 rfl ?_
  refine x_icmp_ge 45 rfl 120 dX4_finish_42 (by decide) (fun hc => ?_) (fun hc => ?_)
  · replace h := x_ifT hc h
    cases h
    exact x_wk (x_le_s (x_le_n (x_le_n (x_le_n (x_le_n (x_le_n x_le_0)))))) (hK (_, _, _, _) rfl)
  · replace h := x_ifF hc h
    refine x_iload_n 46 rfl 3 dX4_finish_45 rfl rfl ?_
    refine x_bipush 48 rfl (v := 12) dX4_finish_46 (by decide) ?_
    refine x_icmp_ge 51 rfl 120 dX4_finish_48 (by decide) (fun hc => ?_) (fun hc => ?_)
    · replace h := x_ifT hc h
      cases h
      exact x_wk (x_le_s (x_le_n (x_le_n (x_le_n (x_le_n (x_le_n x_le_0)))))) (hK (_, _, _, _) rfl)
    · replace h := x_ifF hc h
      refine x_aload_n 52 rfl 0 dX4_finish_51 rfl rfl ?_
      refine x_getR E dX4_finish_52 F_RX4_15 sh_7 rf_7_3 55 rfl ?_
      refine x_iload_n 56 rfl 3 dX4_finish_55 rfl rfl ?_
      obtain ⟨hz, h⟩ := x_ifn h
      refine x_iald E dX4_finish_56 sh_9 _ rfl hz 57 rfl ?_
      refine x_istore 59 rfl dX4_finish_57 (by decide) [some (.ref 7), some (.int _), some (.int _), some (.int _), some (.int _), none] rfl ?_
      refine x_iconst 60 rfl (v := 1) dX4_finish_59 (by decide) ?_
      refine x_istore 62 rfl dX4_finish_60 (by decide) [some (.ref 7), some (.int _), some (.int _), some (.int _), some (.int _), some (.int _)] rfl ?_
      obtain ⟨b8, b8h, h⟩ := x_bind h
      try dsimp only at h
      refine x_wk (x_le_s (x_le_s (x_le_s (x_le_s (x_le_s (x_le_s x_le_0)))))) (x_loop (fun a o h hK hG => b_Sc_finish_7_L62 (r := r) (σ1 := σ1) E _ _ _ a o h hK hG) _ _ _ b8h ?_)
      refine x_aload_n 108 rfl 0 dX4_finish_107 rfl rfl ?_
      refine x_getR E dX4_finish_108 F_RX4_9 sh_7 rf_7_2 111 rfl ?_
      refine x_iload_n 112 rfl 3 dX4_finish_111 rfl rfl ?_
      obtain ⟨hz, h⟩ := x_ifn h
      refine x_iald E dX4_finish_112 sh_8 _ rfl hz 113 rfl ?_
      refine x_istore_n 114 rfl 1 dX4_finish_113 rfl (by decide) [some (.ref 7), some (.int _), some (.int _), some (.int _), none, none] rfl ?_
      refine x_iinc 117 rfl (1) dX4_finish_114 rfl (by decide) (by decide) [some (.ref 7), some (.int _), some (.int _), some (.int _), none, none] rfl ?_
      refine x_goto 37 dX4_finish_117 (by decide) ?_
      cases h
      exact x_wk (x_le_s (x_le_s (x_le_s (x_le_s (x_le_n (x_le_n x_le_0)))))) (hG (_, _, _, _) rfl)
set_option maxHeartbeats 4000000 in
set_option maxRecDepth 100000 in
theorem j_Sc_finish_7_J120 {l : Launch} {s0 : State} {a0 : Array Value} {D : va_G} {cA : Nat → ClassId} {sp : Nat → Nat} (E : x_En CL l s0 a0 D cA sp)  (σ : xS) {r : Unit} {σ1 : xS} (h : f_Sc_finish_7_J120  σ = some (r, σ1)) : zW l s0 D cA sp (zQ s0 D cA sp none σ1) (x_rm 3 0 0) M_Sc_finish 0 0 120 [some (.ref 7), none, none, none, none, none] [] σ := by
  unfold f_Sc_finish_7_J120 at h
  try dsimp only at h
  refine x_bipush 122 rfl (v := 12) dX4_finish_120 (by decide) ?_
  refine x_istore_n 123 rfl 3 dX4_finish_122 rfl (by decide) [some (.ref 7), none, none, some (.int _), none, none] rfl ?_
  obtain ⟨b11, b11h, h⟩ := x_bind h
  try dsimp only at h
  refine x_wk (x_le_s (x_le_n (x_le_n (x_le_s (x_le_n (x_le_n x_le_0)))))) (x_loop (fun a o h hK hG => b_Sc_finish_7_L123 (r := r) (σ1 := σ1) E  a o h hK hG) _ _ _ b11h ?_)
  cases h
  exact x_vret dX4_finish_147 rfl rfl rfl
set_option maxHeartbeats 4000000 in
set_option maxRecDepth 100000 in
theorem j_Sc_finish_7_J17 {l : Launch} {s0 : State} {a0 : Array Value} {D : va_G} {cA : Nat → ClassId} {sp : Nat → Nat} (E : x_En CL l s0 a0 D cA sp) (y1 : Int32) (y2 : Int32) (σ : xS) {r : Unit} {σ1 : xS} (h : f_Sc_finish_7_J17 y1 y2 σ = some (r, σ1)) : zW l s0 D cA sp (zQ s0 D cA sp none σ1) (x_rm 3 0 0) M_Sc_finish 0 0 17 [some (.ref 7), none, none, none, none, none] [.int y2, .int y1, .ref 12] σ := by
  unfold f_Sc_finish_7_J17 at h
  try dsimp only at h
  obtain ⟨hz, h⟩ := x_ifn h
  refine x_iast E dX4_finish_17 sh_12 _ rfl hz 18 rfl ?_
  refine x_aload_n 19 rfl 0 dX4_finish_18 rfl rfl ?_
  refine x_getR E dX4_finish_19 F_RX4_34 sh_7 rf_7_12 22 rfl ?_
  refine x_iconst 23 rfl (v := 0) dX4_finish_22 (by decide) ?_
  refine x_aload_n 24 rfl 0 dX4_finish_23 rfl rfl ?_
  refine x_getI E dX4_finish_24 F_RX4_40 sh_7 27 rfl ?_
  refine x_iast E dX4_finish_27 sh_19 0 (by decide) (by decide) 28 rfl ?_
  refine x_aload_n 29 rfl 0 dX4_finish_28 rfl rfl ?_
  refine x_getI E dX4_finish_29 F_RX4_40 sh_7 32 rfl ?_
  refine x_istore_n 33 rfl 1 dX4_finish_32 rfl (by decide) [some (.ref 7), some (.int _), none, none, none, none] rfl ?_
  refine x_iconst 34 rfl (v := 0) dX4_finish_33 (by decide) ?_
  refine x_istore_n 35 rfl 2 dX4_finish_34 rfl (by decide) [some (.ref 7), some (.int _), some (.int _), none, none, none] rfl ?_
  refine x_iconst 36 rfl (v := 0) dX4_finish_35 (by decide) ?_
  refine x_istore_n 37 rfl 3 dX4_finish_36 rfl (by decide) [some (.ref 7), some (.int _), some (.int _), some (.int _), none, none] rfl ?_
  obtain ⟨b15, b15h, h⟩ := x_bind h
  try dsimp only at h
  refine x_wk (x_le_s (x_le_s (x_le_s (x_le_s (x_le_n (x_le_n x_le_0)))))) (x_loop (fun a o h hK hG => b_Sc_finish_7_L37 (r := r) (σ1 := σ1) E  a o h hK hG) _ _ _ b15h ?_)
  exact x_wk (x_le_s (x_le_n (x_le_n (x_le_n (x_le_n (x_le_n x_le_0)))))) (j_Sc_finish_7_J120 E  _ h)
set_option maxHeartbeats 4000000 in
set_option maxRecDepth 100000 in
theorem c_Sc_finish_7 {l : Launch} {s0 : State} {a0 : Array Value} {D : va_G} {cA : Nat → ClassId} {sp : Nat → Nat} (E : x_En CL l s0 a0 D cA sp)  {σ : xS} {r : Unit} {σ1 : xS} (h : f_Sc_finish_7  σ = some (r, σ1)) : zC l s0 D cA sp 3 M_Sc_finish [.ref 7] σ none σ1 := by
  unfold f_Sc_finish_7 at h
  try dsimp only at h
  refine x_enter [some (.ref 7), none, none, none, none, none] rfl (Nat.le_of_ble_eq_true rfl) (by decide +kernel) rfl ?_
  refine x_aload_n 1 rfl 0 dX4_finish_0 rfl rfl ?_
  refine x_getR E dX4_finish_1 F_RX4_24 sh_7 rf_7_10 4 rfl ?_
  refine x_iconst 5 rfl (v := 4) dX4_finish_4 (by decide) ?_
  refine x_aload_n 6 rfl 0 dX4_finish_5 rfl rfl ?_
  refine x_getI E dX4_finish_6 F_RX4_56 sh_7 9 rfl ?_
  refine x_if_le 12 rfl 16 dX4_finish_9 (by decide) (fun hc => ?_) (fun hc => ?_)
  · replace h := x_ifT hc h
    refine x_iconst 17 rfl (v := -1) dX4_finish_16 (by decide) ?_
    exact x_wk (x_le_s (x_le_n (x_le_n (x_le_n (x_le_n (x_le_n x_le_0)))))) (j_Sc_finish_7_J17 E _ _ _ h)
  · replace h := x_ifF hc h
    refine x_iconst 13 rfl (v := 0) dX4_finish_12 (by decide) ?_
    refine x_goto 17 dX4_finish_13 (by decide) ?_
    exact x_wk (x_le_s (x_le_n (x_le_n (x_le_n (x_le_n (x_le_n x_le_0)))))) (j_Sc_finish_7_J17 E _ _ _ h)
abbrev M_Se_begin : xM := (yX5_begin, cX5_begin, 2, none, [])
theorem dX5_begin_0 : decode cX5_begin 0 = .ok (.aload_n 1, 1) := by decide +kernel
theorem dX5_begin_1 : decode cX5_begin 1 = .ok (.getfield 40, 3) := by decide +kernel
theorem dX5_begin_4 : decode cX5_begin 4 = .ok (.iconst 0, 1) := by decide +kernel
theorem dX5_begin_5 : decode cX5_begin 5 = .ok (.aload_n 0, 1) := by decide +kernel
theorem dX5_begin_6 : decode cX5_begin 6 = .ok (.getfield 9, 3) := by decide +kernel
theorem dX5_begin_9 : decode cX5_begin 9 = .ok (.iconst 0, 1) := by decide +kernel
theorem dX5_begin_10 : decode cX5_begin 10 = .ok (.bipush 12, 2) := by decide +kernel
theorem dX5_begin_12 : decode cX5_begin 12 = .ok (.invokestatic 43, 3) := by decide +kernel
theorem dX5_begin_15 : decode cX5_begin 15 = .ok (.aload_n 0, 1) := by decide +kernel
theorem dX5_begin_16 : decode cX5_begin 16 = .ok (.iconst 0, 1) := by decide +kernel
theorem dX5_begin_17 : decode cX5_begin 17 = .ok (.putfield 21, 3) := by decide +kernel
theorem dX5_begin_20 : decode cX5_begin 20 = .ok (.aload_n 0, 1) := by decide +kernel
theorem dX5_begin_21 : decode cX5_begin 21 = .ok (.iconst 0, 1) := by decide +kernel
theorem dX5_begin_22 : decode cX5_begin 22 = .ok (.putfield 31, 3) := by decide +kernel
theorem dX5_begin_25 : decode cX5_begin 25 = .ok (.aload_n 0, 1) := by decide +kernel
theorem dX5_begin_26 : decode cX5_begin 26 = .ok (.iconst 0, 1) := by decide +kernel
theorem dX5_begin_27 : decode cX5_begin 27 = .ok (.putfield 37, 3) := by decide +kernel
theorem dX5_begin_30 : decode cX5_begin 30 = .ok (.return_, 1) := by decide +kernel
def f_Se_begin_35_7  (σ : xS) : Option (Unit × xS) :=
  let σ1 := x_cp σ 12 36 12
  let σ2 := x_pI σ1 35 3 (0 : Int32)
  let σ3 := x_pI σ2 35 6 (0 : Int32)
  let σ4 := x_pI σ3 35 8 (0 : Int32)
  some ((), σ4)
set_option maxHeartbeats 4000000 in
set_option maxRecDepth 100000 in
theorem c_Se_begin_35_7 {l : Launch} {s0 : State} {a0 : Array Value} {D : va_G} {cA : Nat → ClassId} {sp : Nat → Nat} (E : x_En CL l s0 a0 D cA sp)  {σ : xS} {r : Unit} {σ1 : xS} (h : f_Se_begin_35_7  σ = some (r, σ1)) : zC l s0 D cA sp 0 M_Se_begin [.ref 35, .ref 7] σ none σ1 := by
  unfold f_Se_begin_35_7 at h
  try dsimp only at h
  refine x_enter [some (.ref 35), some (.ref 7)] rfl (Nat.le_of_ble_eq_true rfl) (by decide +kernel) rfl ?_
  refine x_aload_n 1 rfl 1 dX5_begin_0 rfl rfl ?_
  refine x_getR E dX5_begin_1 F_RX5_40 sh_7 rf_7_10 4 rfl ?_
  refine x_iconst 5 rfl (v := 0) dX5_begin_4 (by decide) ?_
  refine x_aload_n 6 rfl 0 dX5_begin_5 rfl rfl ?_
  refine x_getR E dX5_begin_6 F_RX5_9 sh_35 rf_35_0 9 rfl ?_
  refine x_iconst 10 rfl (v := 0) dX5_begin_9 (by decide) ?_
  refine x_bipush 12 rfl (v := 12) dX5_begin_10 (by decide) ?_
  refine x_copy E dX5_begin_12 K_RX5_43 sh_12 sh_36 12 (by decide) (by decide) (by decide) (by decide) (Nat.le_of_ble_eq_true rfl) (Nat.le_of_ble_eq_true rfl) 15 rfl ?_
  refine x_aload_n 16 rfl 0 dX5_begin_15 rfl rfl ?_
  refine x_iconst 17 rfl (v := 0) dX5_begin_16 (by decide) ?_
  refine x_putI E dX5_begin_17 F_RX5_21 sh_35 20 rfl ?_
  refine x_aload_n 21 rfl 0 dX5_begin_20 rfl rfl ?_
  refine x_iconst 22 rfl (v := 0) dX5_begin_21 (by decide) ?_
  refine x_putI E dX5_begin_22 F_RX5_31 sh_35 25 rfl ?_
  refine x_aload_n 26 rfl 0 dX5_begin_25 rfl rfl ?_
  refine x_iconst 27 rfl (v := 0) dX5_begin_26 (by decide) ?_
  refine x_putI E dX5_begin_27 F_RX5_37 sh_35 30 rfl ?_
  cases h
  exact x_vret dX5_begin_30 rfl rfl rfl
abbrev M_Ch_drop : xM := (yX1_drop, cX1_drop, 1, none, [])
theorem dX1_drop_0 : decode cX1_drop 0 = .ok (.aload_n 0, 1) := by decide +kernel
theorem dX1_drop_1 : decode cX1_drop 1 = .ok (.iconst (-1), 1) := by decide +kernel
theorem dX1_drop_2 : decode cX1_drop 2 = .ok (.putfield 25, 3) := by decide +kernel
theorem dX1_drop_5 : decode cX1_drop 5 = .ok (.return_, 1) := by decide +kernel
def f_Ch_drop_55  (σ : xS) : Option (Unit × xS) :=
  let σ1 := x_pI σ 55 4 (-1 : Int32)
  some ((), σ1)
set_option maxHeartbeats 4000000 in
set_option maxRecDepth 100000 in
theorem c_Ch_drop_55 {l : Launch} {s0 : State} {a0 : Array Value} {D : va_G} {cA : Nat → ClassId} {sp : Nat → Nat} (E : x_En CL l s0 a0 D cA sp)  {σ : xS} {r : Unit} {σ1 : xS} (h : f_Ch_drop_55  σ = some (r, σ1)) : zC l s0 D cA sp 0 M_Ch_drop [.ref 55] σ none σ1 := by
  unfold f_Ch_drop_55 at h
  try dsimp only at h
  refine x_enter [some (.ref 55)] rfl (Nat.le_of_ble_eq_true rfl) (by decide +kernel) rfl ?_
  refine x_aload_n 1 rfl 0 dX1_drop_0 rfl rfl ?_
  refine x_iconst 2 rfl (v := -1) dX1_drop_1 (by decide) ?_
  refine x_putI E dX1_drop_2 F_RX1_25 sh_55 5 rfl ?_
  cases h
  exact x_vret dX1_drop_5 rfl rfl rfl
theorem KX_RX8_87 : x_KX RX8 85 87 89 (x_Xn 1) "the tape has not so many bytes" := ⟨by decide +kernel, (List.mem_append_right _ (List.mem_of_getElem? (i := 544) (by decide +kernel))), (List.mem_append_right _ (List.mem_of_getElem? (i := 13) (by decide +kernel))), (List.mem_append_right _ (List.mem_of_getElem? (i := 584) (by decide +kernel))), (List.mem_of_getElem? (i := 407) (by decide +kernel)), AX_89, AO_85_89⟩
theorem K_RX8_100 : x_KV RX8 100 M_Ch_drop 0 := ⟨⟨(List.mem_append_right _ (List.mem_of_getElem? (i := 869) (by decide +kernel))), (List.mem_append_right _ (List.mem_of_getElem? (i := 872) (by decide +kernel))), (List.mem_append_right _ (List.mem_of_getElem? (i := 7) (by decide +kernel))), ⟨by decide +kernel, by decide +kernel⟩, by decide +kernel⟩, (List.mem_append_right _ (List.mem_of_getElem? (i := 870) (by decide +kernel))), (List.mem_append_right _ (List.mem_of_getElem? (i := 871) (by decide +kernel)))⟩
theorem K_RX8_74 : x_KV RX8 74 M_Sc_finish 0 := ⟨⟨(List.mem_append_right _ (List.mem_of_getElem? (i := 277) (by decide +kernel))), (List.mem_append_right _ (List.mem_of_getElem? (i := 280) (by decide +kernel))), (List.mem_append_right _ (List.mem_of_getElem? (i := 3) (by decide +kernel))), ⟨by decide +kernel, by decide +kernel⟩, by decide +kernel⟩, (List.mem_append_right _ (List.mem_of_getElem? (i := 278) (by decide +kernel))), (List.mem_append_right _ (List.mem_of_getElem? (i := 279) (by decide +kernel)))⟩
theorem K_RX8_77 : x_KV RX8 77 M_Se_begin 1 := ⟨⟨(List.mem_append_right _ (List.mem_of_getElem? (i := 304) (by decide +kernel))), (List.mem_append_right _ (List.mem_of_getElem? (i := 307) (by decide +kernel))), (List.mem_append_right _ (List.mem_of_getElem? (i := 5) (by decide +kernel))), ⟨by decide +kernel, by decide +kernel⟩, by decide +kernel⟩, (List.mem_append_right _ (List.mem_of_getElem? (i := 305) (by decide +kernel))), (List.mem_append_right _ (List.mem_of_getElem? (i := 306) (by decide +kernel)))⟩
theorem K_RX8_92 : x_KV RX8 92 M_Re_read 3 := ⟨⟨(List.mem_append_right _ (List.mem_of_getElem? (i := 611) (by decide +kernel))), (List.mem_append_right _ (List.mem_of_getElem? (i := 614) (by decide +kernel))), (List.mem_append_right _ (List.mem_of_getElem? (i := 2) (by decide +kernel))), ⟨by decide +kernel, by decide +kernel⟩, by decide +kernel⟩, (List.mem_append_right _ (List.mem_of_getElem? (i := 612) (by decide +kernel))), (List.mem_append_right _ (List.mem_of_getElem? (i := 613) (by decide +kernel)))⟩
abbrev M_RH_scene : xM := (yX8_scene, cX8_scene, 4, some .int, [])
theorem dX8_scene_0 : decode cX8_scene 0 = .ok (.iload_n 1, 1) := by decide +kernel
theorem dX8_scene_1 : decode cX8_scene 1 = .ok (.ifCond .lt 11, 3) := by decide +kernel
theorem dX8_scene_4 : decode cX8_scene 4 = .ok (.iload_n 1, 1) := by decide +kernel
theorem dX8_scene_5 : decode cX8_scene 5 = .ok (.aload_n 0, 1) := by decide +kernel
theorem dX8_scene_6 : decode cX8_scene 6 = .ok (.getfield 13, 3) := by decide +kernel
theorem dX8_scene_9 : decode cX8_scene 9 = .ok (.if_icmp .le 13, 3) := by decide +kernel
theorem dX8_scene_12 : decode cX8_scene 12 = .ok (.new 85, 3) := by decide +kernel
theorem dX8_scene_15 : decode cX8_scene 15 = .ok (.dup, 1) := by decide +kernel
theorem dX8_scene_16 : decode cX8_scene 16 = .ok (.ldc 87, 2) := by decide +kernel
theorem dX8_scene_18 : decode cX8_scene 18 = .ok (.invokespecial 89, 3) := by decide +kernel
theorem dX8_scene_21 : decode cX8_scene 21 = .ok (.athrow, 1) := by decide +kernel
theorem dX8_scene_22 : decode cX8_scene 22 = .ok (.aload_n 0, 1) := by decide +kernel
theorem dX8_scene_23 : decode cX8_scene 23 = .ok (.getfield 20, 3) := by decide +kernel
theorem dX8_scene_26 : decode cX8_scene 26 = .ok (.aload_n 0, 1) := by decide +kernel
theorem dX8_scene_27 : decode cX8_scene 27 = .ok (.getfield 9, 3) := by decide +kernel
theorem dX8_scene_30 : decode cX8_scene 30 = .ok (.iload_n 1, 1) := by decide +kernel
theorem dX8_scene_31 : decode cX8_scene 31 = .ok (.aload_n 0, 1) := by decide +kernel
theorem dX8_scene_32 : decode cX8_scene 32 = .ok (.getfield 31, 3) := by decide +kernel
theorem dX8_scene_35 : decode cX8_scene 35 = .ok (.invokevirtual 92, 3) := by decide +kernel
theorem dX8_scene_38 : decode cX8_scene 38 = .ok (.istore_n 2, 1) := by decide +kernel
theorem dX8_scene_39 : decode cX8_scene 39 = .ok (.aload_n 0, 1) := by decide +kernel
theorem dX8_scene_40 : decode cX8_scene 40 = .ok (.iconst 0, 1) := by decide +kernel
theorem dX8_scene_41 : decode cX8_scene 41 = .ok (.putfield 13, 3) := by decide +kernel
theorem dX8_scene_44 : decode cX8_scene 44 = .ok (.iload_n 2, 1) := by decide +kernel
theorem dX8_scene_45 : decode cX8_scene 45 = .ok (.ifCond .ne 32, 3) := by decide +kernel
theorem dX8_scene_48 : decode cX8_scene 48 = .ok (.aload_n 0, 1) := by decide +kernel
theorem dX8_scene_49 : decode cX8_scene 49 = .ok (.getfield 68, 3) := by decide +kernel
theorem dX8_scene_52 : decode cX8_scene 52 = .ok (.iconst 0, 1) := by decide +kernel
theorem dX8_scene_53 : decode cX8_scene 53 = .ok (.dup2, 1) := by decide +kernel
theorem dX8_scene_54 : decode cX8_scene 54 = .ok (.iaload, 1) := by decide +kernel
theorem dX8_scene_55 : decode cX8_scene 55 = .ok (.iconst 1, 1) := by decide +kernel
theorem dX8_scene_56 : decode cX8_scene 56 = .ok (.iadd, 1) := by decide +kernel
theorem dX8_scene_57 : decode cX8_scene 57 = .ok (.iastore, 1) := by decide +kernel
theorem dX8_scene_58 : decode cX8_scene 58 = .ok (.aload_n 0, 1) := by decide +kernel
theorem dX8_scene_59 : decode cX8_scene 59 = .ok (.aload_n 0, 1) := by decide +kernel
theorem dX8_scene_60 : decode cX8_scene 60 = .ok (.getfield 20, 3) := by decide +kernel
theorem dX8_scene_63 : decode cX8_scene 63 = .ok (.getfield 96, 3) := by decide +kernel
theorem dX8_scene_66 : decode cX8_scene 66 = .ok (.putfield 65, 3) := by decide +kernel
theorem dX8_scene_69 : decode cX8_scene 69 = .ok (.aload_n 0, 1) := by decide +kernel
theorem dX8_scene_70 : decode cX8_scene 70 = .ok (.getfield 20, 3) := by decide +kernel
theorem dX8_scene_73 : decode cX8_scene 73 = .ok (.getfield 97, 3) := by decide +kernel
theorem dX8_scene_76 : decode cX8_scene 76 = .ok (.ireturn, 1) := by decide +kernel
theorem dX8_scene_77 : decode cX8_scene 77 = .ok (.aload_n 0, 1) := by decide +kernel
theorem dX8_scene_78 : decode cX8_scene 78 = .ok (.getfield 27, 3) := by decide +kernel
theorem dX8_scene_81 : decode cX8_scene 81 = .ok (.astore_n 3, 1) := by decide +kernel
theorem dX8_scene_82 : decode cX8_scene 82 = .ok (.aload_n 0, 1) := by decide +kernel
theorem dX8_scene_83 : decode cX8_scene 83 = .ok (.aload_n 0, 1) := by decide +kernel
theorem dX8_scene_84 : decode cX8_scene 84 = .ok (.getfield 31, 3) := by decide +kernel
theorem dX8_scene_87 : decode cX8_scene 87 = .ok (.putfield 27, 3) := by decide +kernel
theorem dX8_scene_90 : decode cX8_scene 90 = .ok (.aload_n 0, 1) := by decide +kernel
theorem dX8_scene_91 : decode cX8_scene 91 = .ok (.aload_n 3, 1) := by decide +kernel
theorem dX8_scene_92 : decode cX8_scene 92 = .ok (.putfield 31, 3) := by decide +kernel
theorem dX8_scene_95 : decode cX8_scene 95 = .ok (.aload_n 0, 1) := by decide +kernel
theorem dX8_scene_96 : decode cX8_scene 96 = .ok (.getfield 27, 3) := by decide +kernel
theorem dX8_scene_99 : decode cX8_scene 99 = .ok (.invokevirtual 74, 3) := by decide +kernel
theorem dX8_scene_102 : decode cX8_scene 102 = .ok (.aload_n 0, 1) := by decide +kernel
theorem dX8_scene_103 : decode cX8_scene 103 = .ok (.getfield 37, 3) := by decide +kernel
theorem dX8_scene_106 : decode cX8_scene 106 = .ok (.aload_n 0, 1) := by decide +kernel
theorem dX8_scene_107 : decode cX8_scene 107 = .ok (.getfield 27, 3) := by decide +kernel
theorem dX8_scene_110 : decode cX8_scene 110 = .ok (.invokevirtual 77, 3) := by decide +kernel
theorem dX8_scene_113 : decode cX8_scene 113 = .ok (.aload_n 0, 1) := by decide +kernel
theorem dX8_scene_114 : decode cX8_scene 114 = .ok (.iconst 0, 1) := by decide +kernel
theorem dX8_scene_115 : decode cX8_scene 115 = .ok (.putfield 44, 3) := by decide +kernel
theorem dX8_scene_118 : decode cX8_scene 118 = .ok (.aload_n 0, 1) := by decide +kernel
theorem dX8_scene_119 : decode cX8_scene 119 = .ok (.getfield 61, 3) := by decide +kernel
theorem dX8_scene_122 : decode cX8_scene 122 = .ok (.invokevirtual 100, 3) := by decide +kernel
theorem dX8_scene_125 : decode cX8_scene 125 = .ok (.aload_n 0, 1) := by decide +kernel
theorem dX8_scene_126 : decode cX8_scene 126 = .ok (.iconst 0, 1) := by decide +kernel
theorem dX8_scene_127 : decode cX8_scene 127 = .ok (.putfield 55, 3) := by decide +kernel
theorem dX8_scene_130 : decode cX8_scene 130 = .ok (.aload_n 0, 1) := by decide +kernel
theorem dX8_scene_131 : decode cX8_scene 131 = .ok (.iconst (-1), 1) := by decide +kernel
theorem dX8_scene_132 : decode cX8_scene 132 = .ok (.putfield 65, 3) := by decide +kernel
theorem dX8_scene_135 : decode cX8_scene 135 = .ok (.iconst 0, 1) := by decide +kernel
theorem dX8_scene_136 : decode cX8_scene 136 = .ok (.ireturn, 1) := by decide +kernel
def f_RH_scene_0 (v1 : Int32) (σ : xS) : Option ((Int32 ⊕ Nat) × xS) :=
  if v1 < 0 then
    some (.inr 1, σ)
  else
    if v1 ≤ σ.1 0 1 then
      (f_Re_read_2_1_21 v1 σ).bind fun q1 =>
      let w2 := q1.1
      let σ3 := x_pI q1.2 0 1 (0 : Int32)
      if w2 = 0 then
        let σ11 := x_pI σ3 59 0 (σ3.1 59 0 + (1 : Int32))
        let σ12 := x_pI σ11 0 11 (σ11.1 2 7)
        some (.inl (σ12.1 2 6), σ12)
      else
        let σ4 := x_sw σ3
        (f_Sc_finish_7  σ4).bind fun q5 =>
        (f_Se_begin_35_7  q5.2).bind fun q6 =>
        let σ7 := x_pI q6.2 0 7 (0 : Int32)
        (f_Ch_drop_55  σ7).bind fun q8 =>
        let σ9 := x_pI q8.2 0 9 (0 : Int32)
        let σ10 := x_pI σ9 0 11 (-1 : Int32)
        some (.inl (0 : Int32), σ10)
    else
      some (.inr 1, σ)
set_option maxHeartbeats 4000000 in
set_option maxRecDepth 100000 in
theorem c_RH_scene_0 {l : Launch} {s0 : State} {a0 : Array Value} {D : va_G} {cA : Nat → ClassId} {sp : Nat → Nat} (E : x_En CL l s0 a0 D cA sp) (S : x_Sw s0 sp) (v1 : Int32) {σ : xS} {r : Int32 ⊕ Nat} {σ1 : xS} (h : f_RH_scene_0 v1 σ = some (r, σ1)) : x_COX l s0 D cA sp 76 M_RH_scene [.ref 0, .int v1] σ (x_oi r) σ1 := by
  unfold f_RH_scene_0 at h
  try dsimp only at h
  refine x_enterX [some (.ref 0), some (.int v1), none, none] rfl (Nat.le_of_ble_eq_true rfl) (by decide +kernel) rfl ?_
  refine x_iload_n 1 rfl 1 dX8_scene_0 rfl rfl ?_
  refine x_if_lt 4 rfl 12 dX8_scene_1 (by decide) (fun hc => ?_) (fun hc => ?_)
  · replace h := x_ifT hc h
    cases h
    exact x_toX (x_throw E KU_ (k := 1) KX_RX8_87 rfl dX8_scene_12 dX8_scene_15 dX8_scene_16 dX8_scene_18 dX8_scene_21 (Nat.le_of_ble_eq_true rfl))
  · replace h := x_ifF hc h
    refine x_iload_n 5 rfl 1 dX8_scene_4 rfl rfl ?_
    refine x_aload_n 6 rfl 0 dX8_scene_5 rfl rfl ?_
    refine x_getI E dX8_scene_6 F_RX8_13 sh_0 9 rfl ?_
    refine x_icmp_le 12 rfl 22 dX8_scene_9 (by decide) (fun hc => ?_) (fun hc => ?_)
    · replace h := x_ifT hc h
      refine x_aload_n 23 rfl 0 dX8_scene_22 rfl rfl ?_
      refine x_getR E dX8_scene_23 F_RX8_20 sh_0 rf_0_2 26 rfl ?_
      refine x_aload_n 27 rfl 0 dX8_scene_26 rfl rfl ?_
      refine x_getR E dX8_scene_27 F_RX8_9 sh_0 rf_0_0 30 rfl ?_
      refine x_iload_n 31 rfl 1 dX8_scene_30 rfl rfl ?_
      refine x_aload_n 32 rfl 0 dX8_scene_31 rfl rfl ?_
      refine x_getR E dX8_scene_32 F_RX8_31 sh_0 rf_0_4 35 rfl ?_
      obtain ⟨⟨q1r, q1s⟩, q1h, h⟩ := x_bind h
      try dsimp only at h
      refine z_callV E [.ref 1, .int _, .ref 21] [] dX8_scene_35 K_RX8_92 ⟨Nat.le_of_ble_eq_true rfl, Nat.le_of_ble_eq_true rfl⟩ sh_2 (by decide) rfl (c_Re_read_2_1_21 E S _ q1h) rfl rfl (Nat.le_of_ble_eq_true rfl) 38 rfl [.int _] rfl ?_
      refine x_istore_n 39 rfl 2 dX8_scene_38 rfl (by decide) [some (.ref 0), some (.int _), some (.int _), none] rfl ?_
      refine x_aload_n 40 rfl 0 dX8_scene_39 rfl rfl ?_
      refine x_iconst 41 rfl (v := 0) dX8_scene_40 (by decide) ?_
      refine x_putI E dX8_scene_41 F_RX8_13 sh_0 44 rfl ?_
      refine x_iload_n 45 rfl 2 dX8_scene_44 rfl rfl ?_
      refine x_if_ne 48 rfl 77 dX8_scene_45 (by decide) (fun hc => ?_) (fun hc => ?_)
      · replace h := x_ifF hc h
        refine x_aload_n 78 rfl 0 dX8_scene_77 rfl rfl ?_
        refine x_getR E dX8_scene_78 F_RX8_27 sh_0 rf_0_3 81 rfl ?_
        refine x_astore_n 82 rfl 3 dX8_scene_81 rfl (by decide) [some (.ref 0), some (.int _), some (.int _), some (.ref 7)] rfl ?_
        refine x_aload_n 83 rfl 0 dX8_scene_82 rfl rfl ?_
        refine x_aload_n 84 rfl 0 dX8_scene_83 rfl rfl ?_
        refine x_getR E dX8_scene_84 F_RX8_31 sh_0 rf_0_4 87 rfl ?_
        refine x_putR E (fun h => by cases h) (Or.inl ⟨_, rfl⟩) dX8_scene_87 F_RX8_27 sh_0 90 rfl ?_
        refine x_aload_n 91 rfl 0 dX8_scene_90 rfl rfl ?_
        refine x_aload_n 92 rfl 3 dX8_scene_91 rfl rfl ?_
        refine x_putR E (fun h => by cases h) (Or.inl ⟨_, rfl⟩) dX8_scene_92 F_RX8_31 sh_0 95 rfl ?_
        refine x_wk (x_le_s (x_le_s (x_le_s (x_le_n x_le_0)))) ?_
        refine x_swap x_QX.cl rfl rfl ?_
        refine x_aload_n 96 rfl 0 dX8_scene_95 rfl rfl ?_
        refine x_getR E dX8_scene_96 F_RX8_27 sh_0 rf_0_3 99 rfl ?_
        obtain ⟨⟨q5r, q5s⟩, q5h, h⟩ := x_bind h
        try dsimp only at h
        refine z_callV E [] [] dX8_scene_99 K_RX8_74 ⟨Nat.le_of_ble_eq_true rfl, Nat.le_of_ble_eq_true rfl⟩ sh_7 (by decide) rfl (c_Sc_finish_7 E  q5h) rfl rfl (Nat.le_of_ble_eq_true rfl) 102 rfl [] rfl ?_
        refine x_aload_n 103 rfl 0 dX8_scene_102 rfl rfl ?_
        refine x_getR E dX8_scene_103 F_RX8_37 sh_0 rf_0_5 106 rfl ?_
        refine x_aload_n 107 rfl 0 dX8_scene_106 rfl rfl ?_
        refine x_getR E dX8_scene_107 F_RX8_27 sh_0 rf_0_3 110 rfl ?_
        obtain ⟨⟨q6r, q6s⟩, q6h, h⟩ := x_bind h
        try dsimp only at h
        refine z_callV E [.ref 7] [] dX8_scene_110 K_RX8_77 ⟨Nat.le_of_ble_eq_true rfl, Nat.le_of_ble_eq_true rfl⟩ sh_35 (by decide) rfl (c_Se_begin_35_7 E  q6h) rfl rfl (Nat.le_of_ble_eq_true rfl) 113 rfl [] rfl ?_
        refine x_aload_n 114 rfl 0 dX8_scene_113 rfl rfl ?_
        refine x_iconst 115 rfl (v := 0) dX8_scene_114 (by decide) ?_
        refine x_putZ E (Or.inl rfl) dX8_scene_115 F_RX8_44 sh_0 118 rfl ?_
        refine x_aload_n 119 rfl 0 dX8_scene_118 rfl rfl ?_
        refine x_getR E dX8_scene_119 F_RX8_61 sh_0 rf_0_10 122 rfl ?_
        obtain ⟨⟨q8r, q8s⟩, q8h, h⟩ := x_bind h
        try dsimp only at h
        refine z_callV E [] [] dX8_scene_122 K_RX8_100 ⟨Nat.le_of_ble_eq_true rfl, Nat.le_of_ble_eq_true rfl⟩ sh_55 (by decide) rfl (c_Ch_drop_55 E  q8h) rfl rfl (Nat.le_of_ble_eq_true rfl) 125 rfl [] rfl ?_
        refine x_aload_n 126 rfl 0 dX8_scene_125 rfl rfl ?_
        refine x_iconst 127 rfl (v := 0) dX8_scene_126 (by decide) ?_
        refine x_putZ E (Or.inl rfl) dX8_scene_127 F_RX8_55 sh_0 130 rfl ?_
        refine x_aload_n 131 rfl 0 dX8_scene_130 rfl rfl ?_
        refine x_iconst 132 rfl (v := -1) dX8_scene_131 (by decide) ?_
        refine x_putI E dX8_scene_132 F_RX8_65 sh_0 135 rfl ?_
        refine x_iconst 136 rfl (v := 0) dX8_scene_135 (by decide) ?_
        cases h
        exact x_toX (x_Oret (x_iret dX8_scene_136 rfl rfl rfl))
      · replace h := x_ifT hc h
        refine x_aload_n 49 rfl 0 dX8_scene_48 rfl rfl ?_
        refine x_getR E dX8_scene_49 F_RX8_68 sh_0 rf_0_12 52 rfl ?_
        refine x_iconst 53 rfl (v := 0) dX8_scene_52 (by decide) ?_
        refine x_dup2 54 rfl dX8_scene_53 rfl rfl ?_
        refine x_iald E dX8_scene_54 sh_59 0 (by decide) (by decide) 55 rfl ?_
        refine x_iconst 56 rfl (v := 1) dX8_scene_55 (by decide) ?_
        refine x_iadd 57 rfl dX8_scene_56 ?_
        refine x_iast E dX8_scene_57 sh_59 0 (by decide) (by decide) 58 rfl ?_
        refine x_aload_n 59 rfl 0 dX8_scene_58 rfl rfl ?_
        refine x_aload_n 60 rfl 0 dX8_scene_59 rfl rfl ?_
        refine x_getR E dX8_scene_60 F_RX8_20 sh_0 rf_0_2 63 rfl ?_
        refine x_getI E dX8_scene_63 F_RX8_96 sh_2 66 rfl ?_
        refine x_putI E dX8_scene_66 F_RX8_65 sh_0 69 rfl ?_
        refine x_aload_n 70 rfl 0 dX8_scene_69 rfl rfl ?_
        refine x_getR E dX8_scene_70 F_RX8_20 sh_0 rf_0_2 73 rfl ?_
        refine x_getI E dX8_scene_73 F_RX8_97 sh_2 76 rfl ?_
        cases h
        exact x_toX (x_Oret (x_iret dX8_scene_76 rfl rfl rfl))
    · replace h := x_ifF hc h
      cases h
      exact x_toX (x_throw E KU_ (k := 1) KX_RX8_87 rfl dX8_scene_12 dX8_scene_15 dX8_scene_16 dX8_scene_18 dX8_scene_21 (Nat.le_of_ble_eq_true rfl))
