/-! The class's methods: functions and contracts. Written by wip/gen/emit.py. -/
abbrev M_Re_isFirst : xM := (yX2_isFirst, cX2_isFirst, 2, some .boolean, [])
theorem dX2_isFirst_0 : decode cX2_isFirst 0 = .ok (.iload_n 1, 1) := by decide +kernel
theorem dX2_isFirst_1 : decode cX2_isFirst 1 = .ok (.ifCond .lt 18, 3) := by decide +kernel
theorem dX2_isFirst_4 : decode cX2_isFirst 4 = .ok (.iload_n 1, 1) := by decide +kernel
theorem dX2_isFirst_5 : decode cX2_isFirst 5 = .ok (.bipush 12, 2) := by decide +kernel
theorem dX2_isFirst_7 : decode cX2_isFirst 7 = .ok (.if_icmp .ge 12, 3) := by decide +kernel
theorem dX2_isFirst_10 : decode cX2_isFirst 10 = .ok (.aload_n 0, 1) := by decide +kernel
theorem dX2_isFirst_11 : decode cX2_isFirst 11 = .ok (.getfield 28, 3) := by decide +kernel
theorem dX2_isFirst_14 : decode cX2_isFirst 14 = .ok (.iload_n 1, 1) := by decide +kernel
theorem dX2_isFirst_15 : decode cX2_isFirst 15 = .ok (.baload, 1) := by decide +kernel
theorem dX2_isFirst_16 : decode cX2_isFirst 16 = .ok (.ifCond .eq 9, 3) := by decide +kernel
theorem dX2_isFirst_19 : decode cX2_isFirst 19 = .ok (.aload_n 0, 1) := by decide +kernel
theorem dX2_isFirst_20 : decode cX2_isFirst 20 = .ok (.iconst 5, 1) := by decide +kernel
theorem dX2_isFirst_21 : decode cX2_isFirst 21 = .ok (.invokevirtual 115, 3) := by decide +kernel
theorem dX2_isFirst_24 : decode cX2_isFirst 24 = .ok (.ireturn, 1) := by decide +kernel
theorem dX2_isFirst_25 : decode cX2_isFirst 25 = .ok (.aload_n 0, 1) := by decide +kernel
theorem dX2_isFirst_26 : decode cX2_isFirst 26 = .ok (.getfield 28, 3) := by decide +kernel
theorem dX2_isFirst_29 : decode cX2_isFirst 29 = .ok (.iload_n 1, 1) := by decide +kernel
theorem dX2_isFirst_30 : decode cX2_isFirst 30 = .ok (.iconst 1, 1) := by decide +kernel
theorem dX2_isFirst_31 : decode cX2_isFirst 31 = .ok (.bastore, 1) := by decide +kernel
theorem dX2_isFirst_32 : decode cX2_isFirst 32 = .ok (.iconst 1, 1) := by decide +kernel
theorem dX2_isFirst_33 : decode cX2_isFirst 33 = .ok (.ireturn, 1) := by decide +kernel
def f_Re_isFirst_2 (v1 : Int32) (σ : xS) : Option (Int32 × xS) :=
  if v1 < 0 then
    (f_Re_refuse_2 (5 : Int32) σ).bind fun q1 =>
    x_ok (q1.1 = 0 ∨ q1.1 = 1) <|
    some (q1.1, q1.2)
  else
    if (12 : Int32) ≤ v1 then
      (f_Re_refuse_2 (5 : Int32) σ).bind fun q2 =>
      x_ok (q2.1 = 0 ∨ q2.1 = 1) <|
      some (q2.1, q2.2)
    else
      if v1 < 0 ∨ 12 ≤ v1.toNatClampNeg then none else
      if σ.1 6 v1.toNatClampNeg = 0 then
        if v1 < 0 ∨ 12 ≤ v1.toNatClampNeg then none else
        let σ3 := x_pI σ 6 v1.toNatClampNeg (1 : Int32)
        some ((1 : Int32), σ3)
      else
        (f_Re_refuse_2 (5 : Int32) σ).bind fun q4 =>
        x_ok (q4.1 = 0 ∨ q4.1 = 1) <|
        some (q4.1, q4.2)
set_option maxHeartbeats 4000000 in
set_option maxRecDepth 100000 in
theorem c_Re_isFirst_2 {l : Launch} {s0 : State} {a0 : Array Value} {D : va_G} {cA : Nat → ClassId} {sp : Nat → Nat} (E : x_En CL l s0 a0 D cA sp) (v1 : Int32) {σ : xS} {r : Int32} {σ1 : xS} (h : f_Re_isFirst_2 v1 σ = some (r, σ1)) : zC l s0 D cA sp 1 M_Re_isFirst [.ref 2, .int v1] σ (some (.int r)) σ1 := by
  unfold f_Re_isFirst_2 at h
  try dsimp only at h
  refine x_enter [some (.ref 2), some (.int v1)] rfl (Nat.le_of_ble_eq_true rfl) (by decide +kernel) rfl ?_
  refine x_iload_n 1 rfl 1 dX2_isFirst_0 rfl rfl ?_
  refine x_if_lt 4 rfl 19 dX2_isFirst_1 (by decide) (fun hc => ?_) (fun hc => ?_)
  · replace h := x_ifT hc h
    refine x_aload_n 20 rfl 0 dX2_isFirst_19 rfl rfl ?_
    refine x_iconst 21 rfl (v := 5) dX2_isFirst_20 (by decide) ?_
    obtain ⟨⟨q1r, q1s⟩, q1h, h⟩ := x_bind h
    try dsimp only at h
    refine z_callV E [.int _] [] dX2_isFirst_21 K_RX2_115 ⟨Nat.le_of_ble_eq_true rfl, Nat.le_of_ble_eq_true rfl⟩ sh_2 (by decide) rfl (c_Re_refuse_2 E _ q1h) rfl rfl (Nat.le_of_ble_eq_true rfl) 24 rfl [.int _] rfl ?_
    obtain ⟨hz, h⟩ := x_ift h
    cases h
    exact x_zret hz dX2_isFirst_24 rfl rfl rfl
  · replace h := x_ifF hc h
    refine x_iload_n 5 rfl 1 dX2_isFirst_4 rfl rfl ?_
    refine x_bipush 7 rfl (v := 12) dX2_isFirst_5 (by decide) ?_
    refine x_icmp_ge 10 rfl 19 dX2_isFirst_7 (by decide) (fun hc => ?_) (fun hc => ?_)
    · replace h := x_ifT hc h
      refine x_aload_n 20 rfl 0 dX2_isFirst_19 rfl rfl ?_
      refine x_iconst 21 rfl (v := 5) dX2_isFirst_20 (by decide) ?_
      obtain ⟨⟨q2r, q2s⟩, q2h, h⟩ := x_bind h
      try dsimp only at h
      refine z_callV E [.int _] [] dX2_isFirst_21 K_RX2_115 ⟨Nat.le_of_ble_eq_true rfl, Nat.le_of_ble_eq_true rfl⟩ sh_2 (by decide) rfl (c_Re_refuse_2 E _ q2h) rfl rfl (Nat.le_of_ble_eq_true rfl) 24 rfl [.int _] rfl ?_
      obtain ⟨hz, h⟩ := x_ift h
      cases h
      exact x_zret hz dX2_isFirst_24 rfl rfl rfl
    · replace h := x_ifF hc h
      refine x_aload_n 11 rfl 0 dX2_isFirst_10 rfl rfl ?_
      refine x_getR E dX2_isFirst_11 F_RX2_28 sh_2 rf_2_5 14 rfl ?_
      refine x_iload_n 15 rfl 1 dX2_isFirst_14 rfl rfl ?_
      obtain ⟨hz, h⟩ := x_ifn h
      refine x_zald E dX2_isFirst_15 sh_6 _ rfl hz 16 rfl ?_
      refine x_if_eq 19 rfl 25 dX2_isFirst_16 (by decide) (fun hc => ?_) (fun hc => ?_)
      · replace h := x_ifT hc h
        refine x_aload_n 26 rfl 0 dX2_isFirst_25 rfl rfl ?_
        refine x_getR E dX2_isFirst_26 F_RX2_28 sh_2 rf_2_5 29 rfl ?_
        refine x_iload_n 30 rfl 1 dX2_isFirst_29 rfl rfl ?_
        refine x_iconst 31 rfl (v := 1) dX2_isFirst_30 (by decide) ?_
        obtain ⟨hz, h⟩ := x_ifn h
        refine x_zast E (Or.inr rfl) dX2_isFirst_31 sh_6 _ rfl hz 32 rfl ?_
        refine x_iconst 33 rfl (v := 1) dX2_isFirst_32 (by decide) ?_
        cases h
        exact x_zret (Or.inr rfl) dX2_isFirst_33 rfl rfl rfl
      · replace h := x_ifF hc h
        refine x_aload_n 20 rfl 0 dX2_isFirst_19 rfl rfl ?_
        refine x_iconst 21 rfl (v := 5) dX2_isFirst_20 (by decide) ?_
        obtain ⟨⟨q4r, q4s⟩, q4h, h⟩ := x_bind h
        try dsimp only at h
        refine z_callV E [.int _] [] dX2_isFirst_21 K_RX2_115 ⟨Nat.le_of_ble_eq_true rfl, Nat.le_of_ble_eq_true rfl⟩ sh_2 (by decide) rfl (c_Re_refuse_2 E _ q4h) rfl rfl (Nat.le_of_ble_eq_true rfl) 24 rfl [.int _] rfl ?_
        obtain ⟨hz, h⟩ := x_ift h
        cases h
        exact x_zret hz dX2_isFirst_24 rfl rfl rfl
theorem K_RX2_213 : x_KV RX2 213 M_Re_isFirst 1 := ⟨⟨(List.mem_append_right _ (List.mem_of_getElem? (i := 801) (by decide +kernel))), (List.mem_append_right _ (List.mem_of_getElem? (i := 804) (by decide +kernel))), (List.mem_append_right _ (List.mem_of_getElem? (i := 2) (by decide +kernel))), ⟨by decide +kernel, by decide +kernel⟩, by decide +kernel⟩, (List.mem_append_right _ (List.mem_of_getElem? (i := 803) (by decide +kernel))), (List.mem_append_left _ (List.mem_of_getElem? (i := 31) (by decide +kernel)))⟩
abbrev M_Re_readSetting : xM := (yX2_readSetting, cX2_readSetting, 5, some .boolean, [])
theorem dX2_readSetting_0 : decode cX2_readSetting 0 = .ok (.aload_n 0, 1) := by decide +kernel
theorem dX2_readSetting_1 : decode cX2_readSetting 1 = .ok (.iload_n 2, 1) := by decide +kernel
theorem dX2_readSetting_2 : decode cX2_readSetting 2 = .ok (.invokevirtual 213, 3) := by decide +kernel
theorem dX2_readSetting_5 : decode cX2_readSetting 5 = .ok (.ifCond .ne 5, 3) := by decide +kernel
theorem dX2_readSetting_8 : decode cX2_readSetting 8 = .ok (.iconst 0, 1) := by decide +kernel
theorem dX2_readSetting_9 : decode cX2_readSetting 9 = .ok (.ireturn, 1) := by decide +kernel
theorem dX2_readSetting_10 : decode cX2_readSetting 10 = .ok (.aload_n 0, 1) := by decide +kernel
theorem dX2_readSetting_11 : decode cX2_readSetting 11 = .ok (.invokevirtual 118, 3) := by decide +kernel
theorem dX2_readSetting_14 : decode cX2_readSetting 14 = .ok (.aload_n 0, 1) := by decide +kernel
theorem dX2_readSetting_15 : decode cX2_readSetting 15 = .ok (.iload_n 3, 1) := by decide +kernel
theorem dX2_readSetting_16 : decode cX2_readSetting 16 = .ok (.iload 4, 2) := by decide +kernel
theorem dX2_readSetting_18 : decode cX2_readSetting 18 = .ok (.invokevirtual 125, 3) := by decide +kernel
theorem dX2_readSetting_21 : decode cX2_readSetting 21 = .ok (.ifCond .ne 5, 3) := by decide +kernel
theorem dX2_readSetting_24 : decode cX2_readSetting 24 = .ok (.iconst 0, 1) := by decide +kernel
theorem dX2_readSetting_25 : decode cX2_readSetting 25 = .ok (.ireturn, 1) := by decide +kernel
theorem dX2_readSetting_26 : decode cX2_readSetting 26 = .ok (.aload_n 1, 1) := by decide +kernel
theorem dX2_readSetting_27 : decode cX2_readSetting 27 = .ok (.getfield 202, 3) := by decide +kernel
theorem dX2_readSetting_30 : decode cX2_readSetting 30 = .ok (.iload_n 2, 1) := by decide +kernel
theorem dX2_readSetting_31 : decode cX2_readSetting 31 = .ok (.aload_n 0, 1) := by decide +kernel
theorem dX2_readSetting_32 : decode cX2_readSetting 32 = .ok (.invokevirtual 129, 3) := by decide +kernel
theorem dX2_readSetting_35 : decode cX2_readSetting 35 = .ok (.iastore, 1) := by decide +kernel
theorem dX2_readSetting_36 : decode cX2_readSetting 36 = .ok (.aload_n 0, 1) := by decide +kernel
theorem dX2_readSetting_37 : decode cX2_readSetting 37 = .ok (.invokevirtual 136, 3) := by decide +kernel
theorem dX2_readSetting_40 : decode cX2_readSetting 40 = .ok (.ireturn, 1) := by decide +kernel
def f_Re_readSetting_2_21 (v2 : Int32) (v3 : Int32) (v4 : Int32) (σ : xS) : Option (Int32 × xS) :=
  (f_Re_isFirst_2 v2 σ).bind fun q1 =>
  if q1.1 = 0 then
    some ((0 : Int32), q1.2)
  else
    (f_Re_advance_2  q1.2).bind fun q2 =>
    (f_Re_isNumber_2 v3 v4 q2.2).bind fun q3 =>
    if q3.1 = 0 then
      some ((0 : Int32), q3.2)
    else
      (f_Re_takeNumber_2  q3.2).bind fun q4 =>
      if v2 < 0 ∨ 12 ≤ v2.toNatClampNeg then none else
      let σ5 := x_pI q4.2 26 v2.toNatClampNeg q4.1
      (f_Re_readEnd_2  σ5).bind fun q6 =>
      x_ok (q6.1 = 0 ∨ q6.1 = 1) <|
      some (q6.1, q6.2)
set_option maxHeartbeats 4000000 in
set_option maxRecDepth 100000 in
theorem c_Re_readSetting_2_21 {l : Launch} {s0 : State} {a0 : Array Value} {D : va_G} {cA : Nat → ClassId} {sp : Nat → Nat} (E : x_En CL l s0 a0 D cA sp) (v2 : Int32) (v3 : Int32) (v4 : Int32) {σ : xS} {r : Int32} {σ1 : xS} (h : f_Re_readSetting_2_21 v2 v3 v4 σ = some (r, σ1)) : zC l s0 D cA sp 3 M_Re_readSetting [.ref 2, .ref 21, .int v2, .int v3, .int v4] σ (some (.int r)) σ1 := by
  unfold f_Re_readSetting_2_21 at h
  try dsimp only at h
  refine x_enter [some (.ref 2), some (.ref 21), some (.int v2), some (.int v3), some (.int v4)] rfl (Nat.le_of_ble_eq_true rfl) (by decide +kernel) rfl ?_
  refine x_aload_n 1 rfl 0 dX2_readSetting_0 rfl rfl ?_
  refine x_iload_n 2 rfl 2 dX2_readSetting_1 rfl rfl ?_
  obtain ⟨⟨q1r, q1s⟩, q1h, h⟩ := x_bind h
  try dsimp only at h
  refine z_callV E [.int _] [] dX2_readSetting_2 K_RX2_213 ⟨Nat.le_of_ble_eq_true rfl, Nat.le_of_ble_eq_true rfl⟩ sh_2 (by decide) rfl (c_Re_isFirst_2 E _ q1h) rfl rfl (Nat.le_of_ble_eq_true rfl) 5 rfl [.int _] rfl ?_
  refine x_if_ne 8 rfl 10 dX2_readSetting_5 (by decide) (fun hc => ?_) (fun hc => ?_)
  · replace h := x_ifF hc h
    refine x_aload_n 11 rfl 0 dX2_readSetting_10 rfl rfl ?_
    obtain ⟨⟨q2r, q2s⟩, q2h, h⟩ := x_bind h
    try dsimp only at h
    refine z_callV E [] [] dX2_readSetting_11 K_RX2_118 ⟨Nat.le_of_ble_eq_true rfl, Nat.le_of_ble_eq_true rfl⟩ sh_2 (by decide) rfl (c_Re_advance_2 E  q2h) rfl rfl (Nat.le_of_ble_eq_true rfl) 14 rfl [] rfl ?_
    refine x_aload_n 15 rfl 0 dX2_readSetting_14 rfl rfl ?_
    refine x_iload_n 16 rfl 3 dX2_readSetting_15 rfl rfl ?_
    refine x_iload 18 rfl dX2_readSetting_16 rfl ?_
    obtain ⟨⟨q3r, q3s⟩, q3h, h⟩ := x_bind h
    try dsimp only at h
    refine z_callV E [.int _, .int _] [] dX2_readSetting_18 K_RX2_125 ⟨Nat.le_of_ble_eq_true rfl, Nat.le_of_ble_eq_true rfl⟩ sh_2 (by decide) rfl (c_Re_isNumber_2 E _ _ q3h) rfl rfl (Nat.le_of_ble_eq_true rfl) 21 rfl [.int _] rfl ?_
    refine x_if_ne 24 rfl 26 dX2_readSetting_21 (by decide) (fun hc => ?_) (fun hc => ?_)
    · replace h := x_ifF hc h
      refine x_aload_n 27 rfl 1 dX2_readSetting_26 rfl rfl ?_
      refine x_getR E dX2_readSetting_27 F_RX2_202 sh_21 rf_21_10 30 rfl ?_
      refine x_iload_n 31 rfl 2 dX2_readSetting_30 rfl rfl ?_
      refine x_aload_n 32 rfl 0 dX2_readSetting_31 rfl rfl ?_
      obtain ⟨⟨q4r, q4s⟩, q4h, h⟩ := x_bind h
      try dsimp only at h
      refine z_callV E [] [.int _, .ref 26] dX2_readSetting_32 K_RX2_129 ⟨Nat.le_of_ble_eq_true rfl, Nat.le_of_ble_eq_true rfl⟩ sh_2 (by decide) rfl (c_Re_takeNumber_2 E  q4h) rfl rfl (Nat.le_of_ble_eq_true rfl) 35 rfl [.int _, .int _, .ref 26] rfl ?_
      obtain ⟨hz, h⟩ := x_ifn h
      refine x_iast E dX2_readSetting_35 sh_26 _ rfl hz 36 rfl ?_
      refine x_aload_n 37 rfl 0 dX2_readSetting_36 rfl rfl ?_
      obtain ⟨⟨q6r, q6s⟩, q6h, h⟩ := x_bind h
      try dsimp only at h
      refine z_callV E [] [] dX2_readSetting_37 K_RX2_136 ⟨Nat.le_of_ble_eq_true rfl, Nat.le_of_ble_eq_true rfl⟩ sh_2 (by decide) rfl (c_Re_readEnd_2 E  q6h) rfl rfl (Nat.le_of_ble_eq_true rfl) 40 rfl [.int _] rfl ?_
      obtain ⟨hz, h⟩ := x_ift h
      cases h
      exact x_zret hz dX2_readSetting_40 rfl rfl rfl
    · replace h := x_ifT hc h
      refine x_iconst 25 rfl (v := 0) dX2_readSetting_24 (by decide) ?_
      cases h
      exact x_zret (Or.inl rfl) dX2_readSetting_25 rfl rfl rfl
  · replace h := x_ifT hc h
    refine x_iconst 9 rfl (v := 0) dX2_readSetting_8 (by decide) ?_
    cases h
    exact x_zret (Or.inl rfl) dX2_readSetting_9 rfl rfl rfl
abbrev M_Re_readEye : xM := (yX2_readEye, cX2_readEye, 4, some .boolean, [])
theorem dX2_readEye_0 : decode cX2_readEye 0 = .ok (.aload_n 0, 1) := by decide +kernel
theorem dX2_readEye_1 : decode cX2_readEye 1 = .ok (.iconst 3, 1) := by decide +kernel
theorem dX2_readEye_2 : decode cX2_readEye 2 = .ok (.invokevirtual 213, 3) := by decide +kernel
theorem dX2_readEye_5 : decode cX2_readEye 5 = .ok (.ifCond .ne 5, 3) := by decide +kernel
theorem dX2_readEye_8 : decode cX2_readEye 8 = .ok (.iconst 0, 1) := by decide +kernel
theorem dX2_readEye_9 : decode cX2_readEye 9 = .ok (.ireturn, 1) := by decide +kernel
theorem dX2_readEye_10 : decode cX2_readEye 10 = .ok (.aload_n 0, 1) := by decide +kernel
theorem dX2_readEye_11 : decode cX2_readEye 11 = .ok (.invokevirtual 118, 3) := by decide +kernel
theorem dX2_readEye_14 : decode cX2_readEye 14 = .ok (.aload_n 0, 1) := by decide +kernel
theorem dX2_readEye_15 : decode cX2_readEye 15 = .ok (.bipush 45, 2) := by decide +kernel
theorem dX2_readEye_17 : decode cX2_readEye 17 = .ok (.invokevirtual 121, 3) := by decide +kernel
theorem dX2_readEye_20 : decode cX2_readEye 20 = .ok (.istore_n 2, 1) := by decide +kernel
theorem dX2_readEye_21 : decode cX2_readEye 21 = .ok (.iload_n 2, 1) := by decide +kernel
theorem dX2_readEye_22 : decode cX2_readEye 22 = .ok (.ifCond .eq 7, 3) := by decide +kernel
theorem dX2_readEye_25 : decode cX2_readEye 25 = .ok (.aload_n 0, 1) := by decide +kernel
theorem dX2_readEye_26 : decode cX2_readEye 26 = .ok (.invokevirtual 118, 3) := by decide +kernel
theorem dX2_readEye_29 : decode cX2_readEye 29 = .ok (.aload_n 0, 1) := by decide +kernel
theorem dX2_readEye_30 : decode cX2_readEye 30 = .ok (.iconst 0, 1) := by decide +kernel
theorem dX2_readEye_31 : decode cX2_readEye 31 = .ok (.bipush 30, 2) := by decide +kernel
theorem dX2_readEye_33 : decode cX2_readEye 33 = .ok (.invokevirtual 125, 3) := by decide +kernel
theorem dX2_readEye_36 : decode cX2_readEye 36 = .ok (.ifCond .ne 5, 3) := by decide +kernel
theorem dX2_readEye_39 : decode cX2_readEye 39 = .ok (.iconst 0, 1) := by decide +kernel
theorem dX2_readEye_40 : decode cX2_readEye 40 = .ok (.ireturn, 1) := by decide +kernel
theorem dX2_readEye_41 : decode cX2_readEye 41 = .ok (.aload_n 0, 1) := by decide +kernel
theorem dX2_readEye_42 : decode cX2_readEye 42 = .ok (.invokevirtual 129, 3) := by decide +kernel
theorem dX2_readEye_45 : decode cX2_readEye 45 = .ok (.istore_n 3, 1) := by decide +kernel
theorem dX2_readEye_46 : decode cX2_readEye 46 = .ok (.aload_n 1, 1) := by decide +kernel
theorem dX2_readEye_47 : decode cX2_readEye 47 = .ok (.getfield 202, 3) := by decide +kernel
theorem dX2_readEye_50 : decode cX2_readEye 50 = .ok (.iconst 3, 1) := by decide +kernel
theorem dX2_readEye_51 : decode cX2_readEye 51 = .ok (.iload_n 2, 1) := by decide +kernel
theorem dX2_readEye_52 : decode cX2_readEye 52 = .ok (.ifCond .eq 8, 3) := by decide +kernel
theorem dX2_readEye_55 : decode cX2_readEye 55 = .ok (.iload_n 3, 1) := by decide +kernel
theorem dX2_readEye_56 : decode cX2_readEye 56 = .ok (.ineg, 1) := by decide +kernel
theorem dX2_readEye_57 : decode cX2_readEye 57 = .ok (.goto 4, 3) := by decide +kernel
theorem dX2_readEye_60 : decode cX2_readEye 60 = .ok (.iload_n 3, 1) := by decide +kernel
theorem dX2_readEye_61 : decode cX2_readEye 61 = .ok (.iastore, 1) := by decide +kernel
theorem dX2_readEye_62 : decode cX2_readEye 62 = .ok (.aload_n 0, 1) := by decide +kernel
theorem dX2_readEye_63 : decode cX2_readEye 63 = .ok (.invokevirtual 136, 3) := by decide +kernel
theorem dX2_readEye_66 : decode cX2_readEye 66 = .ok (.ireturn, 1) := by decide +kernel
def f_Re_readEye_2_21_J29 (v2 : Int32) (σ : xS) : Option (Int32 × xS) :=
  (f_Re_isNumber_2 (0 : Int32) (30 : Int32) σ).bind fun q1 =>
  if q1.1 = 0 then
    some ((0 : Int32), q1.2)
  else
    (f_Re_takeNumber_2  q1.2).bind fun q2 =>
    let w3 := q2.1
    if v2 = 0 then
      let σ4 := x_pI q2.2 26 3 w3
      (f_Re_readEnd_2  σ4).bind fun q5 =>
      x_ok (q5.1 = 0 ∨ q5.1 = 1) <|
      some (q5.1, q5.2)
    else
      let σ6 := x_pI q2.2 26 3 (-w3)
      (f_Re_readEnd_2  σ6).bind fun q7 =>
      x_ok (q7.1 = 0 ∨ q7.1 = 1) <|
      some (q7.1, q7.2)
def f_Re_readEye_2_21  (σ : xS) : Option (Int32 × xS) :=
  (f_Re_isFirst_2 (3 : Int32) σ).bind fun q8 =>
  if q8.1 = 0 then
    some ((0 : Int32), q8.2)
  else
    (f_Re_advance_2  q8.2).bind fun q9 =>
    (f_Re_isSign_2 (45 : Int32) q9.2).bind fun q10 =>
    let w11 := q10.1
    if w11 = 0 then
      f_Re_readEye_2_21_J29 w11 q10.2
    else
      (f_Re_advance_2  q10.2).bind fun q12 =>
      f_Re_readEye_2_21_J29 w11 q12.2
set_option maxHeartbeats 4000000 in
set_option maxRecDepth 100000 in
theorem j_Re_readEye_2_21_J29 {l : Launch} {s0 : State} {a0 : Array Value} {D : va_G} {cA : Nat → ClassId} {sp : Nat → Nat} (E : x_En CL l s0 a0 D cA sp) (v2 : Int32) (σ : xS) {r : Int32} {σ1 : xS} (h : f_Re_readEye_2_21_J29 v2 σ = some (r, σ1)) : zW l s0 D cA sp (zQ s0 D cA sp (some (.int r)) σ1) (x_rm 3 0 0) M_Re_readEye 0 0 29 [some (.ref 2), some (.ref 21), some (.int v2), none] [] σ := by
  unfold f_Re_readEye_2_21_J29 at h
  try dsimp only at h
  refine x_aload_n 30 rfl 0 dX2_readEye_29 rfl rfl ?_
  refine x_iconst 31 rfl (v := 0) dX2_readEye_30 (by decide) ?_
  refine x_bipush 33 rfl (v := 30) dX2_readEye_31 (by decide) ?_
  obtain ⟨⟨q1r, q1s⟩, q1h, h⟩ := x_bind h
  try dsimp only at h
  refine z_callV E [.int _, .int _] [] dX2_readEye_33 K_RX2_125 ⟨Nat.le_of_ble_eq_true rfl, Nat.le_of_ble_eq_true rfl⟩ sh_2 (by decide) rfl (c_Re_isNumber_2 E _ _ q1h) rfl rfl (Nat.le_of_ble_eq_true rfl) 36 rfl [.int _] rfl ?_
  refine x_if_ne 39 rfl 41 dX2_readEye_36 (by decide) (fun hc => ?_) (fun hc => ?_)
  · replace h := x_ifF hc h
    refine x_aload_n 42 rfl 0 dX2_readEye_41 rfl rfl ?_
    obtain ⟨⟨q2r, q2s⟩, q2h, h⟩ := x_bind h
    try dsimp only at h
    refine z_callV E [] [] dX2_readEye_42 K_RX2_129 ⟨Nat.le_of_ble_eq_true rfl, Nat.le_of_ble_eq_true rfl⟩ sh_2 (by decide) rfl (c_Re_takeNumber_2 E  q2h) rfl rfl (Nat.le_of_ble_eq_true rfl) 45 rfl [.int _] rfl ?_
    refine x_istore_n 46 rfl 3 dX2_readEye_45 rfl (by decide) [some (.ref 2), some (.ref 21), some (.int _), some (.int _)] rfl ?_
    refine x_aload_n 47 rfl 1 dX2_readEye_46 rfl rfl ?_
    refine x_getR E dX2_readEye_47 F_RX2_202 sh_21 rf_21_10 50 rfl ?_
    refine x_iconst 51 rfl (v := 3) dX2_readEye_50 (by decide) ?_
    refine x_iload_n 52 rfl 2 dX2_readEye_51 rfl rfl ?_
    refine x_if_eq 55 rfl 60 dX2_readEye_52 (by decide) (fun hc => ?_) (fun hc => ?_)
    · replace h := x_ifT hc h
      refine x_iload_n 61 rfl 3 dX2_readEye_60 rfl rfl ?_
      refine x_iast E dX2_readEye_61 sh_26 3 (by decide) (by decide) 62 rfl ?_
      refine x_aload_n 63 rfl 0 dX2_readEye_62 rfl rfl ?_
      obtain ⟨⟨q5r, q5s⟩, q5h, h⟩ := x_bind h
      try dsimp only at h
      refine z_callV E [] [] dX2_readEye_63 K_RX2_136 ⟨Nat.le_of_ble_eq_true rfl, Nat.le_of_ble_eq_true rfl⟩ sh_2 (by decide) rfl (c_Re_readEnd_2 E  q5h) rfl rfl (Nat.le_of_ble_eq_true rfl) 66 rfl [.int _] rfl ?_
      obtain ⟨hz, h⟩ := x_ift h
      cases h
      exact x_zret hz dX2_readEye_66 rfl rfl rfl
    · replace h := x_ifF hc h
      refine x_iload_n 56 rfl 3 dX2_readEye_55 rfl rfl ?_
      refine x_ineg 57 rfl dX2_readEye_56 ?_
      refine x_goto 61 dX2_readEye_57 (by decide) ?_
      refine x_iast E dX2_readEye_61 sh_26 3 (by decide) (by decide) 62 rfl ?_
      refine x_aload_n 63 rfl 0 dX2_readEye_62 rfl rfl ?_
      obtain ⟨⟨q7r, q7s⟩, q7h, h⟩ := x_bind h
      try dsimp only at h
      refine z_callV E [] [] dX2_readEye_63 K_RX2_136 ⟨Nat.le_of_ble_eq_true rfl, Nat.le_of_ble_eq_true rfl⟩ sh_2 (by decide) rfl (c_Re_readEnd_2 E  q7h) rfl rfl (Nat.le_of_ble_eq_true rfl) 66 rfl [.int _] rfl ?_
      obtain ⟨hz, h⟩ := x_ift h
      cases h
      exact x_zret hz dX2_readEye_66 rfl rfl rfl
  · replace h := x_ifT hc h
    refine x_iconst 40 rfl (v := 0) dX2_readEye_39 (by decide) ?_
    cases h
    exact x_zret (Or.inl rfl) dX2_readEye_40 rfl rfl rfl
set_option maxHeartbeats 4000000 in
set_option maxRecDepth 100000 in
theorem c_Re_readEye_2_21 {l : Launch} {s0 : State} {a0 : Array Value} {D : va_G} {cA : Nat → ClassId} {sp : Nat → Nat} (E : x_En CL l s0 a0 D cA sp)  {σ : xS} {r : Int32} {σ1 : xS} (h : f_Re_readEye_2_21  σ = some (r, σ1)) : zC l s0 D cA sp 3 M_Re_readEye [.ref 2, .ref 21] σ (some (.int r)) σ1 := by
  unfold f_Re_readEye_2_21 at h
  try dsimp only at h
  refine x_enter [some (.ref 2), some (.ref 21), none, none] rfl (Nat.le_of_ble_eq_true rfl) (by decide +kernel) rfl ?_
  refine x_aload_n 1 rfl 0 dX2_readEye_0 rfl rfl ?_
  refine x_iconst 2 rfl (v := 3) dX2_readEye_1 (by decide) ?_
  obtain ⟨⟨q8r, q8s⟩, q8h, h⟩ := x_bind h
  try dsimp only at h
  refine z_callV E [.int _] [] dX2_readEye_2 K_RX2_213 ⟨Nat.le_of_ble_eq_true rfl, Nat.le_of_ble_eq_true rfl⟩ sh_2 (by decide) rfl (c_Re_isFirst_2 E _ q8h) rfl rfl (Nat.le_of_ble_eq_true rfl) 5 rfl [.int _] rfl ?_
  refine x_if_ne 8 rfl 10 dX2_readEye_5 (by decide) (fun hc => ?_) (fun hc => ?_)
  · replace h := x_ifF hc h
    refine x_aload_n 11 rfl 0 dX2_readEye_10 rfl rfl ?_
    obtain ⟨⟨q9r, q9s⟩, q9h, h⟩ := x_bind h
    try dsimp only at h
    refine z_callV E [] [] dX2_readEye_11 K_RX2_118 ⟨Nat.le_of_ble_eq_true rfl, Nat.le_of_ble_eq_true rfl⟩ sh_2 (by decide) rfl (c_Re_advance_2 E  q9h) rfl rfl (Nat.le_of_ble_eq_true rfl) 14 rfl [] rfl ?_
    refine x_aload_n 15 rfl 0 dX2_readEye_14 rfl rfl ?_
    refine x_bipush 17 rfl (v := 45) dX2_readEye_15 (by decide) ?_
    obtain ⟨⟨q10r, q10s⟩, q10h, h⟩ := x_bind h
    try dsimp only at h
    refine z_callV E [.int _] [] dX2_readEye_17 K_RX2_121 ⟨Nat.le_of_ble_eq_true rfl, Nat.le_of_ble_eq_true rfl⟩ sh_2 (by decide) rfl (c_Re_isSign_2 E _ q10h) rfl rfl (Nat.le_of_ble_eq_true rfl) 20 rfl [.int _] rfl ?_
    refine x_istore_n 21 rfl 2 dX2_readEye_20 rfl (by decide) [some (.ref 2), some (.ref 21), some (.int _), none] rfl ?_
    refine x_iload_n 22 rfl 2 dX2_readEye_21 rfl rfl ?_
    refine x_if_eq 25 rfl 29 dX2_readEye_22 (by decide) (fun hc => ?_) (fun hc => ?_)
    · replace h := x_ifT hc h
      exact x_wk (x_le_s (x_le_s (x_le_s (x_le_n x_le_0)))) (j_Re_readEye_2_21_J29 E _ _ h)
    · replace h := x_ifF hc h
      refine x_aload_n 26 rfl 0 dX2_readEye_25 rfl rfl ?_
      obtain ⟨⟨q12r, q12s⟩, q12h, h⟩ := x_bind h
      try dsimp only at h
      refine z_callV E [] [] dX2_readEye_26 K_RX2_118 ⟨Nat.le_of_ble_eq_true rfl, Nat.le_of_ble_eq_true rfl⟩ sh_2 (by decide) rfl (c_Re_advance_2 E  q12h) rfl rfl (Nat.le_of_ble_eq_true rfl) 29 rfl [] rfl ?_
      exact x_wk (x_le_s (x_le_s (x_le_s (x_le_n x_le_0)))) (j_Re_readEye_2_21_J29 E _ _ h)
  · replace h := x_ifT hc h
    refine x_iconst 9 rfl (v := 0) dX2_readEye_8 (by decide) ?_
    cases h
    exact x_zret (Or.inl rfl) dX2_readEye_9 rfl rfl rfl
def f_Ru_has_27 (v1 : Int32) (σ : xS) : Option (Int32 × xS) :=
  if v1 < 0 then
    some ((0 : Int32), σ)
  else
    if (6 : Int32) ≤ v1 then
      some ((0 : Int32), σ)
    else
      if v1 < 0 ∨ 6 ≤ v1.toNatClampNeg then none else
      if v1 < 0 ∨ 6 ≤ v1.toNatClampNeg then none else
      if σ.1 30 v1.toNatClampNeg ≤ σ.1 29 v1.toNatClampNeg then
        some ((0 : Int32), σ)
      else
        some ((1 : Int32), σ)
set_option maxHeartbeats 4000000 in
set_option maxRecDepth 100000 in
theorem c_Ru_has_27 {l : Launch} {s0 : State} {a0 : Array Value} {D : va_G} {cA : Nat → ClassId} {sp : Nat → Nat} (E : x_En CL l s0 a0 D cA sp) (v1 : Int32) {σ : xS} {r : Int32} {σ1 : xS} (h : f_Ru_has_27 v1 σ = some (r, σ1)) : zC l s0 D cA sp 0 M_Ru_has [.ref 27, .int v1] σ (some (.int r)) σ1 := by
  unfold f_Ru_has_27 at h
  try dsimp only at h
  refine x_enter [some (.ref 27), some (.int v1)] rfl (Nat.le_of_ble_eq_true rfl) (by decide +kernel) rfl ?_
  refine x_iload_n 1 rfl 1 dX3_has_0 rfl rfl ?_
  refine x_if_lt 4 rfl 29 dX3_has_1 (by decide) (fun hc => ?_) (fun hc => ?_)
  · replace h := x_ifT hc h
    refine x_iconst 30 rfl (v := 0) dX3_has_29 (by decide) ?_
    cases h
    exact x_zret (Or.inl rfl) dX3_has_30 rfl rfl rfl
  · replace h := x_ifF hc h
    refine x_iload_n 5 rfl 1 dX3_has_4 rfl rfl ?_
    refine x_bipush 7 rfl (v := 6) dX3_has_5 (by decide) ?_
    refine x_icmp_ge 10 rfl 29 dX3_has_7 (by decide) (fun hc => ?_) (fun hc => ?_)
    · replace h := x_ifT hc h
      refine x_iconst 30 rfl (v := 0) dX3_has_29 (by decide) ?_
      cases h
      exact x_zret (Or.inl rfl) dX3_has_30 rfl rfl rfl
    · replace h := x_ifF hc h
      refine x_aload_n 11 rfl 0 dX3_has_10 rfl rfl ?_
      refine x_getR E dX3_has_11 F_RX3_22 sh_27 rf_27_3 14 rfl ?_
      refine x_iload_n 15 rfl 1 dX3_has_14 rfl rfl ?_
      obtain ⟨hz, h⟩ := x_ifn h
      refine x_iald E dX3_has_15 sh_30 _ rfl hz 16 rfl ?_
      refine x_aload_n 17 rfl 0 dX3_has_16 rfl rfl ?_
      refine x_getR E dX3_has_17 F_RX3_19 sh_27 rf_27_2 20 rfl ?_
      refine x_iload_n 21 rfl 1 dX3_has_20 rfl rfl ?_
      obtain ⟨hz, h⟩ := x_ifn h
      refine x_iald E dX3_has_21 sh_29 _ rfl hz 22 rfl ?_
      refine x_icmp_le 25 rfl 29 dX3_has_22 (by decide) (fun hc => ?_) (fun hc => ?_)
      · replace h := x_ifT hc h
        refine x_iconst 30 rfl (v := 0) dX3_has_29 (by decide) ?_
        cases h
        exact x_zret (Or.inl rfl) dX3_has_30 rfl rfl rfl
      · replace h := x_ifF hc h
        refine x_iconst 26 rfl (v := 1) dX3_has_25 (by decide) ?_
        refine x_goto 30 dX3_has_26 (by decide) ?_
        cases h
        exact x_zret (Or.inr rfl) dX3_has_30 rfl rfl rfl
abbrev M_Ru_open : xM := (yX3_open, cX3_open, 2, none, [])
theorem dX3_open_0 : decode cX3_open 0 = .ok (.iload_n 1, 1) := by decide +kernel
theorem dX3_open_1 : decode cX3_open 1 = .ok (.ifCond .lt 29, 3) := by decide +kernel
theorem dX3_open_4 : decode cX3_open 4 = .ok (.iload_n 1, 1) := by decide +kernel
theorem dX3_open_5 : decode cX3_open 5 = .ok (.bipush 6, 2) := by decide +kernel
theorem dX3_open_7 : decode cX3_open 7 = .ok (.if_icmp .ge 23, 3) := by decide +kernel
theorem dX3_open_10 : decode cX3_open 10 = .ok (.aload_n 0, 1) := by decide +kernel
theorem dX3_open_11 : decode cX3_open 11 = .ok (.getfield 19, 3) := by decide +kernel
theorem dX3_open_14 : decode cX3_open 14 = .ok (.iload_n 1, 1) := by decide +kernel
theorem dX3_open_15 : decode cX3_open 15 = .ok (.aload_n 0, 1) := by decide +kernel
theorem dX3_open_16 : decode cX3_open 16 = .ok (.getfield 15, 3) := by decide +kernel
theorem dX3_open_19 : decode cX3_open 19 = .ok (.iastore, 1) := by decide +kernel
theorem dX3_open_20 : decode cX3_open 20 = .ok (.aload_n 0, 1) := by decide +kernel
theorem dX3_open_21 : decode cX3_open 21 = .ok (.getfield 22, 3) := by decide +kernel
theorem dX3_open_24 : decode cX3_open 24 = .ok (.iload_n 1, 1) := by decide +kernel
theorem dX3_open_25 : decode cX3_open 25 = .ok (.aload_n 0, 1) := by decide +kernel
theorem dX3_open_26 : decode cX3_open 26 = .ok (.getfield 15, 3) := by decide +kernel
theorem dX3_open_29 : decode cX3_open 29 = .ok (.iastore, 1) := by decide +kernel
theorem dX3_open_30 : decode cX3_open 30 = .ok (.return_, 1) := by decide +kernel
def f_Ru_open_27 (v1 : Int32) (σ : xS) : Option (Unit × xS) :=
  if v1 < 0 then
    some ((), σ)
  else
    if (6 : Int32) ≤ v1 then
      some ((), σ)
    else
      if v1 < 0 ∨ 6 ≤ v1.toNatClampNeg then none else
      let σ1 := x_pI σ 29 v1.toNatClampNeg (σ.1 27 1)
      if v1 < 0 ∨ 6 ≤ v1.toNatClampNeg then none else
      let σ2 := x_pI σ1 30 v1.toNatClampNeg (σ1.1 27 1)
      some ((), σ2)
set_option maxHeartbeats 4000000 in
set_option maxRecDepth 100000 in
theorem c_Ru_open_27 {l : Launch} {s0 : State} {a0 : Array Value} {D : va_G} {cA : Nat → ClassId} {sp : Nat → Nat} (E : x_En CL l s0 a0 D cA sp) (v1 : Int32) {σ : xS} {r : Unit} {σ1 : xS} (h : f_Ru_open_27 v1 σ = some (r, σ1)) : zC l s0 D cA sp 0 M_Ru_open [.ref 27, .int v1] σ none σ1 := by
  unfold f_Ru_open_27 at h
  try dsimp only at h
  refine x_enter [some (.ref 27), some (.int v1)] rfl (Nat.le_of_ble_eq_true rfl) (by decide +kernel) rfl ?_
  refine x_iload_n 1 rfl 1 dX3_open_0 rfl rfl ?_
  refine x_if_lt 4 rfl 30 dX3_open_1 (by decide) (fun hc => ?_) (fun hc => ?_)
  · replace h := x_ifT hc h
    cases h
    exact x_vret dX3_open_30 rfl rfl rfl
  · replace h := x_ifF hc h
    refine x_iload_n 5 rfl 1 dX3_open_4 rfl rfl ?_
    refine x_bipush 7 rfl (v := 6) dX3_open_5 (by decide) ?_
    refine x_icmp_ge 10 rfl 30 dX3_open_7 (by decide) (fun hc => ?_) (fun hc => ?_)
    · replace h := x_ifT hc h
      cases h
      exact x_vret dX3_open_30 rfl rfl rfl
    · replace h := x_ifF hc h
      refine x_aload_n 11 rfl 0 dX3_open_10 rfl rfl ?_
      refine x_getR E dX3_open_11 F_RX3_19 sh_27 rf_27_2 14 rfl ?_
      refine x_iload_n 15 rfl 1 dX3_open_14 rfl rfl ?_
      refine x_aload_n 16 rfl 0 dX3_open_15 rfl rfl ?_
      refine x_getI E dX3_open_16 F_RX3_15 sh_27 19 rfl ?_
      obtain ⟨hz, h⟩ := x_ifn h
      refine x_iast E dX3_open_19 sh_29 _ rfl hz 20 rfl ?_
      refine x_aload_n 21 rfl 0 dX3_open_20 rfl rfl ?_
      refine x_getR E dX3_open_21 F_RX3_22 sh_27 rf_27_3 24 rfl ?_
      refine x_iload_n 25 rfl 1 dX3_open_24 rfl rfl ?_
      refine x_aload_n 26 rfl 0 dX3_open_25 rfl rfl ?_
      refine x_getI E dX3_open_26 F_RX3_15 sh_27 29 rfl ?_
      obtain ⟨hz, h⟩ := x_ifn h
      refine x_iast E dX3_open_29 sh_30 _ rfl hz 30 rfl ?_
      cases h
      exact x_vret dX3_open_30 rfl rfl rfl
theorem K_RX2_111 : x_KV RX2 111 M_Re_word 0 := ⟨⟨(List.mem_append_right _ (List.mem_of_getElem? (i := 706) (by decide +kernel))), (List.mem_append_right _ (List.mem_of_getElem? (i := 709) (by decide +kernel))), (List.mem_append_right _ (List.mem_of_getElem? (i := 2) (by decide +kernel))), ⟨by decide +kernel, by decide +kernel⟩, by decide +kernel⟩, (List.mem_append_right _ (List.mem_of_getElem? (i := 708) (by decide +kernel))), (List.mem_append_left _ (List.mem_of_getElem? (i := 15) (by decide +kernel)))⟩
abbrev M_Re_isWord : xM := (yX2_isWord, cX2_isWord, 2, some .boolean, [])
theorem dX2_isWord_0 : decode cX2_isWord 0 = .ok (.aload_n 0, 1) := by decide +kernel
theorem dX2_isWord_1 : decode cX2_isWord 1 = .ok (.invokevirtual 111, 3) := by decide +kernel
theorem dX2_isWord_4 : decode cX2_isWord 4 = .ok (.aload_n 1, 1) := by decide +kernel
theorem dX2_isWord_5 : decode cX2_isWord 5 = .ok (.if_acmp .ne 7, 3) := by decide +kernel
theorem dX2_isWord_8 : decode cX2_isWord 8 = .ok (.iconst 1, 1) := by decide +kernel
theorem dX2_isWord_9 : decode cX2_isWord 9 = .ok (.goto 4, 3) := by decide +kernel
theorem dX2_isWord_12 : decode cX2_isWord 12 = .ok (.iconst 0, 1) := by decide +kernel
theorem dX2_isWord_13 : decode cX2_isWord 13 = .ok (.ireturn, 1) := by decide +kernel
def f_Re_isWord_2 (v1 : Nat) (σ : xS) : Option (Int32 × xS) :=
  (f_Re_word_2  σ).bind fun q1 =>
  x_ok (1000 ≤ q1.1 ∧ q1.1 < 1023) <|
  x_ok (1000 ≤ v1 ∧ v1 < 1023) <|
  if q1.1 = v1 then
    some ((1 : Int32), q1.2)
  else
    some ((0 : Int32), q1.2)
set_option maxHeartbeats 4000000 in
set_option maxRecDepth 100000 in
theorem c_Re_isWord_2 {l : Launch} {s0 : State} {a0 : Array Value} {D : va_G} {cA : Nat → ClassId} {sp : Nat → Nat} (E : x_En CL l s0 a0 D cA sp) (S : x_Sw s0 sp) (v1 : Nat) {σ : xS} {r : Int32} {σ1 : xS} (h : f_Re_isWord_2 v1 σ = some (r, σ1)) : zC l s0 D cA sp 1 M_Re_isWord [.ref 2, .ref v1] σ (some (.int r)) σ1 := by
  unfold f_Re_isWord_2 at h
  try dsimp only at h
  refine x_enter [some (.ref 2), some (.ref v1)] rfl (Nat.le_of_ble_eq_true rfl) (by decide +kernel) rfl ?_
  refine x_aload_n 1 rfl 0 dX2_isWord_0 rfl rfl ?_
  obtain ⟨⟨q1r, q1s⟩, q1h, h⟩ := x_bind h
  try dsimp only at h
  refine z_callV E [] [] dX2_isWord_1 K_RX2_111 ⟨Nat.le_of_ble_eq_true rfl, Nat.le_of_ble_eq_true rfl⟩ sh_2 (by decide) rfl (c_Re_word_2 E S  q1h) rfl rfl (Nat.le_of_ble_eq_true rfl) 4 rfl [.ref _] rfl ?_
  refine x_aload_n 5 rfl 1 dX2_isWord_4 rfl rfl ?_
  obtain ⟨hzx, h⟩ := x_ift h
  obtain ⟨hzy, h⟩ := x_ift h
  refine x_acne 12 S hzx hzy dX2_isWord_5 (by decide) (fun hc => ?_) (fun hc => ?_)
  · replace h := x_ifF hc h
    refine x_iconst 13 rfl (v := 0) dX2_isWord_12 (by decide) ?_
    cases h
    exact x_zret (Or.inl rfl) dX2_isWord_13 rfl rfl rfl
  · replace h := x_ifT hc h
    refine x_iconst 9 rfl (v := 1) dX2_isWord_8 (by decide) ?_
    refine x_goto 13 dX2_isWord_9 (by decide) ?_
    cases h
    exact x_zret (Or.inr rfl) dX2_isWord_13 rfl rfl rfl
abbrev M_Ru_add : xM := (yX3_add, cX3_add, 2, none, [])
theorem dX3_add_0 : decode cX3_add 0 = .ok (.aload_n 0, 1) := by decide +kernel
theorem dX3_add_1 : decode cX3_add 1 = .ok (.getfield 15, 3) := by decide +kernel
theorem dX3_add_4 : decode cX3_add 4 = .ok (.aload_n 0, 1) := by decide +kernel
theorem dX3_add_5 : decode cX3_add 5 = .ok (.getfield 9, 3) := by decide +kernel
theorem dX3_add_8 : decode cX3_add 8 = .ok (.arraylength, 1) := by decide +kernel
theorem dX3_add_9 : decode cX3_add 9 = .ok (.if_icmp .ge 23, 3) := by decide +kernel
theorem dX3_add_12 : decode cX3_add 12 = .ok (.aload_n 0, 1) := by decide +kernel
theorem dX3_add_13 : decode cX3_add 13 = .ok (.getfield 9, 3) := by decide +kernel
theorem dX3_add_16 : decode cX3_add 16 = .ok (.aload_n 0, 1) := by decide +kernel
theorem dX3_add_17 : decode cX3_add 17 = .ok (.getfield 15, 3) := by decide +kernel
theorem dX3_add_20 : decode cX3_add 20 = .ok (.iload_n 1, 1) := by decide +kernel
theorem dX3_add_21 : decode cX3_add 21 = .ok (.iastore, 1) := by decide +kernel
theorem dX3_add_22 : decode cX3_add 22 = .ok (.aload_n 0, 1) := by decide +kernel
theorem dX3_add_23 : decode cX3_add 23 = .ok (.dup, 1) := by decide +kernel
theorem dX3_add_24 : decode cX3_add 24 = .ok (.getfield 15, 3) := by decide +kernel
theorem dX3_add_27 : decode cX3_add 27 = .ok (.iconst 1, 1) := by decide +kernel
theorem dX3_add_28 : decode cX3_add 28 = .ok (.iadd, 1) := by decide +kernel
theorem dX3_add_29 : decode cX3_add 29 = .ok (.putfield 15, 3) := by decide +kernel
theorem dX3_add_32 : decode cX3_add 32 = .ok (.return_, 1) := by decide +kernel
def f_Ru_add_27 (v1 : Int32) (σ : xS) : Option (Unit × xS) :=
  if (Int32.ofNat 700) ≤ σ.1 27 1 then
    some ((), σ)
  else
    if σ.1 27 1 < 0 ∨ 700 ≤ (σ.1 27 1).toNatClampNeg then none else
    let σ1 := x_pI σ 28 (σ.1 27 1).toNatClampNeg v1
    let σ2 := x_pI σ1 27 1 (σ1.1 27 1 + (1 : Int32))
    some ((), σ2)
set_option maxHeartbeats 4000000 in
set_option maxRecDepth 100000 in
theorem c_Ru_add_27 {l : Launch} {s0 : State} {a0 : Array Value} {D : va_G} {cA : Nat → ClassId} {sp : Nat → Nat} (E : x_En CL l s0 a0 D cA sp) (v1 : Int32) {σ : xS} {r : Unit} {σ1 : xS} (h : f_Ru_add_27 v1 σ = some (r, σ1)) : zC l s0 D cA sp 0 M_Ru_add [.ref 27, .int v1] σ none σ1 := by
  unfold f_Ru_add_27 at h
  try dsimp only at h
  refine x_enter [some (.ref 27), some (.int v1)] rfl (Nat.le_of_ble_eq_true rfl) (by decide +kernel) rfl ?_
  refine x_aload_n 1 rfl 0 dX3_add_0 rfl rfl ?_
  refine x_getI E dX3_add_1 F_RX3_15 sh_27 4 rfl ?_
  refine x_aload_n 5 rfl 0 dX3_add_4 rfl rfl ?_
  refine x_getR E dX3_add_5 F_RX3_9 sh_27 rf_27_0 8 rfl ?_
  refine x_alen E dX3_add_8 sh_28 9 rfl ?_
  refine x_icmp_ge 12 rfl 32 dX3_add_9 (by decide) (fun hc => ?_) (fun hc => ?_)
  · replace h := x_ifT hc h
    cases h
    exact x_vret dX3_add_32 rfl rfl rfl
  · replace h := x_ifF hc h
    refine x_aload_n 13 rfl 0 dX3_add_12 rfl rfl ?_
    refine x_getR E dX3_add_13 F_RX3_9 sh_27 rf_27_0 16 rfl ?_
    refine x_aload_n 17 rfl 0 dX3_add_16 rfl rfl ?_
    refine x_getI E dX3_add_17 F_RX3_15 sh_27 20 rfl ?_
    refine x_iload_n 21 rfl 1 dX3_add_20 rfl rfl ?_
    obtain ⟨hz, h⟩ := x_ifn h
    refine x_iast E dX3_add_21 sh_28 _ rfl hz 22 rfl ?_
    refine x_aload_n 23 rfl 0 dX3_add_22 rfl rfl ?_
    refine x_dup 24 rfl dX3_add_23 rfl ?_
    refine x_getI E dX3_add_24 F_RX3_15 sh_27 27 rfl ?_
    refine x_iconst 28 rfl (v := 1) dX3_add_27 (by decide) ?_
    refine x_iadd 29 rfl dX3_add_28 ?_
    refine x_putI E dX3_add_29 F_RX3_15 sh_27 32 rfl ?_
    cases h
    exact x_vret dX3_add_32 rfl rfl rfl
abbrev M_Re_readExpr : xM := (yX2_readExpr, cX2_readExpr, 5, some .boolean, [])
theorem K_RX2_228 : x_KV RX2 228 M_Re_readExpr 3 := ⟨⟨(List.mem_append_right _ (List.mem_of_getElem? (i := 818) (by decide +kernel))), (List.mem_append_right _ (List.mem_of_getElem? (i := 821) (by decide +kernel))), (List.mem_append_right _ (List.mem_of_getElem? (i := 2) (by decide +kernel))), ⟨by decide +kernel, by decide +kernel⟩, by decide +kernel⟩, (List.mem_append_right _ (List.mem_of_getElem? (i := 820) (by decide +kernel))), (List.mem_append_left _ (List.mem_of_getElem? (i := 34) (by decide +kernel)))⟩
abbrev M_Re_readInner : xM := (yX2_readInner, cX2_readInner, 4, some .boolean, [])
theorem dX2_readInner_0 : decode cX2_readInner 0 = .ok (.aload_n 0, 1) := by decide +kernel
theorem dX2_readInner_1 : decode cX2_readInner 1 = .ok (.bipush 40, 2) := by decide +kernel
theorem dX2_readInner_3 : decode cX2_readInner 3 = .ok (.invokevirtual 121, 3) := by decide +kernel
theorem dX2_readInner_6 : decode cX2_readInner 6 = .ok (.ifCond .ne 9, 3) := by decide +kernel
theorem dX2_readInner_9 : decode cX2_readInner 9 = .ok (.aload_n 0, 1) := by decide +kernel
theorem dX2_readInner_10 : decode cX2_readInner 10 = .ok (.iconst 1, 1) := by decide +kernel
theorem dX2_readInner_11 : decode cX2_readInner 11 = .ok (.invokevirtual 115, 3) := by decide +kernel
theorem dX2_readInner_14 : decode cX2_readInner 14 = .ok (.ireturn, 1) := by decide +kernel
theorem dX2_readInner_15 : decode cX2_readInner 15 = .ok (.aload_n 0, 1) := by decide +kernel
theorem dX2_readInner_16 : decode cX2_readInner 16 = .ok (.invokevirtual 118, 3) := by decide +kernel
theorem dX2_readInner_19 : decode cX2_readInner 19 = .ok (.aload_n 0, 1) := by decide +kernel
theorem dX2_readInner_20 : decode cX2_readInner 20 = .ok (.aload_n 1, 1) := by decide +kernel
theorem dX2_readInner_21 : decode cX2_readInner 21 = .ok (.iload_n 2, 1) := by decide +kernel
theorem dX2_readInner_22 : decode cX2_readInner 22 = .ok (.iload_n 3, 1) := by decide +kernel
theorem dX2_readInner_23 : decode cX2_readInner 23 = .ok (.iconst 1, 1) := by decide +kernel
theorem dX2_readInner_24 : decode cX2_readInner 24 = .ok (.iadd, 1) := by decide +kernel
theorem dX2_readInner_25 : decode cX2_readInner 25 = .ok (.invokevirtual 228, 3) := by decide +kernel
theorem dX2_readInner_28 : decode cX2_readInner 28 = .ok (.ifCond .ne 5, 3) := by decide +kernel
theorem dX2_readInner_31 : decode cX2_readInner 31 = .ok (.iconst 0, 1) := by decide +kernel
theorem dX2_readInner_32 : decode cX2_readInner 32 = .ok (.ireturn, 1) := by decide +kernel
theorem dX2_readInner_33 : decode cX2_readInner 33 = .ok (.aload_n 0, 1) := by decide +kernel
theorem dX2_readInner_34 : decode cX2_readInner 34 = .ok (.bipush 41, 2) := by decide +kernel
theorem dX2_readInner_36 : decode cX2_readInner 36 = .ok (.invokevirtual 121, 3) := by decide +kernel
theorem dX2_readInner_39 : decode cX2_readInner 39 = .ok (.ifCond .ne 9, 3) := by decide +kernel
theorem dX2_readInner_42 : decode cX2_readInner 42 = .ok (.aload_n 0, 1) := by decide +kernel
theorem dX2_readInner_43 : decode cX2_readInner 43 = .ok (.iconst 1, 1) := by decide +kernel
theorem dX2_readInner_44 : decode cX2_readInner 44 = .ok (.invokevirtual 115, 3) := by decide +kernel
theorem dX2_readInner_47 : decode cX2_readInner 47 = .ok (.ireturn, 1) := by decide +kernel
theorem dX2_readInner_48 : decode cX2_readInner 48 = .ok (.aload_n 0, 1) := by decide +kernel
theorem dX2_readInner_49 : decode cX2_readInner 49 = .ok (.invokevirtual 118, 3) := by decide +kernel
theorem dX2_readInner_52 : decode cX2_readInner 52 = .ok (.iconst 1, 1) := by decide +kernel
theorem dX2_readInner_53 : decode cX2_readInner 53 = .ok (.ireturn, 1) := by decide +kernel
def f_Re_readInner_2_27 (rec : Int32 → Int32 → xS → Option (Int32 × xS)) (v2 : Int32) (v3 : Int32) (σ : xS) : Option (Int32 × xS) :=
  (f_Re_isSign_2 (40 : Int32) σ).bind fun q1 =>
  if q1.1 = 0 then
    (f_Re_refuse_2 (1 : Int32) q1.2).bind fun q7 =>
    x_ok (q7.1 = 0 ∨ q7.1 = 1) <|
    some (q7.1, q7.2)
  else
    (f_Re_advance_2  q1.2).bind fun q2 =>
    (rec v2 (v3 + (1 : Int32)) q2.2).bind fun q3 =>
    if q3.1 = 0 then
      some ((0 : Int32), q3.2)
    else
      (f_Re_isSign_2 (41 : Int32) q3.2).bind fun q4 =>
      if q4.1 = 0 then
        (f_Re_refuse_2 (1 : Int32) q4.2).bind fun q6 =>
        x_ok (q6.1 = 0 ∨ q6.1 = 1) <|
        some (q6.1, q6.2)
      else
        (f_Re_advance_2  q4.2).bind fun q5 =>
        some ((1 : Int32), q5.2)
set_option maxHeartbeats 4000000 in
set_option maxRecDepth 100000 in
theorem c_Re_readInner_2_27 {l : Launch} {s0 : State} {a0 : Array Value} {D : va_G} {cA : Nat → ClassId} {sp : Nat → Nat} (E : x_En CL l s0 a0 D cA sp) {dR : Nat} {rec : Int32 → Int32 → xS → Option (Int32 × xS)} (hrec : ∀ (v2 v3 : Int32) (σ : xS) (r : Int32) (σ1 : xS), rec v2 v3 σ = some (r, σ1) → zC l s0 D cA sp dR M_Re_readExpr [.ref 2, .ref 27, .int v2, .int v3] σ (some (.int r)) σ1) (v2 : Int32) (v3 : Int32) {σ : xS} {r : Int32} {σ1 : xS} (h : f_Re_readInner_2_27 rec v2 v3 σ = some (r, σ1)) : zC l s0 D cA sp (dR + 2) M_Re_readInner [.ref 2, .ref 27, .int v2, .int v3] σ (some (.int r)) σ1 := by
  unfold f_Re_readInner_2_27 at h
  try dsimp only at h
  refine x_enter [some (.ref 2), some (.ref 27), some (.int v2), some (.int v3)] rfl (Nat.le_of_ble_eq_true rfl) (by decide +kernel) rfl ?_
  refine x_aload_n 1 rfl 0 dX2_readInner_0 rfl rfl ?_
  refine x_bipush 3 rfl (v := 40) dX2_readInner_1 (by decide) ?_
  obtain ⟨⟨q1r, q1s⟩, q1h, h⟩ := x_bind h
  try dsimp only at h
  refine z_callV E [.int _] [] dX2_readInner_3 K_RX2_121 (x_fitC (Nat.le_of_ble_eq_true rfl) (Nat.le_of_ble_eq_true rfl)) sh_2 (by decide) rfl (c_Re_isSign_2 E _ q1h) rfl rfl (Nat.le_of_ble_eq_true rfl) 6 rfl [.int _] rfl ?_
  refine x_if_ne 9 rfl 15 dX2_readInner_6 (by decide) (fun hc => ?_) (fun hc => ?_)
  · replace h := x_ifF hc h
    refine x_aload_n 16 rfl 0 dX2_readInner_15 rfl rfl ?_
    obtain ⟨⟨q2r, q2s⟩, q2h, h⟩ := x_bind h
    try dsimp only at h
    refine z_callV E [] [] dX2_readInner_16 K_RX2_118 (x_fitC (Nat.le_of_ble_eq_true rfl) (Nat.le_of_ble_eq_true rfl)) sh_2 (by decide) rfl (c_Re_advance_2 E  q2h) rfl rfl (Nat.le_of_ble_eq_true rfl) 19 rfl [] rfl ?_
    refine x_aload_n 20 rfl 0 dX2_readInner_19 rfl rfl ?_
    refine x_aload_n 21 rfl 1 dX2_readInner_20 rfl rfl ?_
    refine x_iload_n 22 rfl 2 dX2_readInner_21 rfl rfl ?_
    refine x_iload_n 23 rfl 3 dX2_readInner_22 rfl rfl ?_
    refine x_iconst 24 rfl (v := 1) dX2_readInner_23 (by decide) ?_
    refine x_iadd 25 rfl dX2_readInner_24 ?_
    obtain ⟨⟨q3r, q3s⟩, q3h, h⟩ := x_bind h
    try dsimp only at h
    refine z_callV E [.ref 27, .int _, .int _] [] dX2_readInner_25 K_RX2_228 (x_fitR (a := 0) (Nat.le_of_ble_eq_true rfl) (Nat.le_of_ble_eq_true rfl)) sh_2 (by decide) rfl (hrec _ _ _ _ _ q3h) rfl rfl (Nat.le_of_ble_eq_true rfl) 28 rfl [.int _] rfl ?_
    refine x_if_ne 31 rfl 33 dX2_readInner_28 (by decide) (fun hc => ?_) (fun hc => ?_)
    · replace h := x_ifF hc h
      refine x_aload_n 34 rfl 0 dX2_readInner_33 rfl rfl ?_
      refine x_bipush 36 rfl (v := 41) dX2_readInner_34 (by decide) ?_
      obtain ⟨⟨q4r, q4s⟩, q4h, h⟩ := x_bind h
      try dsimp only at h
      refine z_callV E [.int _] [] dX2_readInner_36 K_RX2_121 (x_fitC (Nat.le_of_ble_eq_true rfl) (Nat.le_of_ble_eq_true rfl)) sh_2 (by decide) rfl (c_Re_isSign_2 E _ q4h) rfl rfl (Nat.le_of_ble_eq_true rfl) 39 rfl [.int _] rfl ?_
      refine x_if_ne 42 rfl 48 dX2_readInner_39 (by decide) (fun hc => ?_) (fun hc => ?_)
      · replace h := x_ifF hc h
        refine x_aload_n 49 rfl 0 dX2_readInner_48 rfl rfl ?_
        obtain ⟨⟨q5r, q5s⟩, q5h, h⟩ := x_bind h
        try dsimp only at h
        refine z_callV E [] [] dX2_readInner_49 K_RX2_118 (x_fitC (Nat.le_of_ble_eq_true rfl) (Nat.le_of_ble_eq_true rfl)) sh_2 (by decide) rfl (c_Re_advance_2 E  q5h) rfl rfl (Nat.le_of_ble_eq_true rfl) 52 rfl [] rfl ?_
        refine x_iconst 53 rfl (v := 1) dX2_readInner_52 (by decide) ?_
        cases h
        exact x_zret (Or.inr rfl) dX2_readInner_53 rfl rfl rfl
      · replace h := x_ifT hc h
        refine x_aload_n 43 rfl 0 dX2_readInner_42 rfl rfl ?_
        refine x_iconst 44 rfl (v := 1) dX2_readInner_43 (by decide) ?_
        obtain ⟨⟨q6r, q6s⟩, q6h, h⟩ := x_bind h
        try dsimp only at h
        refine z_callV E [.int _] [] dX2_readInner_44 K_RX2_115 (x_fitC (Nat.le_of_ble_eq_true rfl) (Nat.le_of_ble_eq_true rfl)) sh_2 (by decide) rfl (c_Re_refuse_2 E _ q6h) rfl rfl (Nat.le_of_ble_eq_true rfl) 47 rfl [.int _] rfl ?_
        obtain ⟨hz, h⟩ := x_ift h
        cases h
        exact x_zret hz dX2_readInner_47 rfl rfl rfl
    · replace h := x_ifT hc h
      refine x_iconst 32 rfl (v := 0) dX2_readInner_31 (by decide) ?_
      cases h
      exact x_zret (Or.inl rfl) dX2_readInner_32 rfl rfl rfl
  · replace h := x_ifT hc h
    refine x_aload_n 10 rfl 0 dX2_readInner_9 rfl rfl ?_
    refine x_iconst 11 rfl (v := 1) dX2_readInner_10 (by decide) ?_
    obtain ⟨⟨q7r, q7s⟩, q7h, h⟩ := x_bind h
    try dsimp only at h
    refine z_callV E [.int _] [] dX2_readInner_11 K_RX2_115 (x_fitC (Nat.le_of_ble_eq_true rfl) (Nat.le_of_ble_eq_true rfl)) sh_2 (by decide) rfl (c_Re_refuse_2 E _ q7h) rfl rfl (Nat.le_of_ble_eq_true rfl) 14 rfl [.int _] rfl ?_
    obtain ⟨hz, h⟩ := x_ift h
    cases h
    exact x_zret hz dX2_readInner_14 rfl rfl rfl
theorem KO_RX2_145 : x_KH RX2 145 "RingHand$Word" ⟨"RingHand$Word", "ordinal", "()I"⟩ M_ord 0 := ⟨(List.mem_append_right _ (List.mem_of_getElem? (i := 750) (by decide +kernel))), (List.mem_append_right _ (List.mem_of_getElem? (i := 751) (by decide +kernel))), (List.mem_append_right _ (List.mem_of_getElem? (i := 753) (by decide +kernel))), (List.mem_append_right _ (List.mem_of_getElem? (i := 754) (by decide +kernel))), (List.mem_append_right _ (List.mem_of_getElem? (i := 19) (by decide +kernel))), (List.mem_append_right _ (List.mem_of_getElem? (i := 755) (by decide +kernel))), rfl, ⟨by decide +kernel, by decide +kernel⟩, by decide +kernel⟩
abbrev M_Re_valueOf : xM := (yX2_valueOf, cX2_valueOf, 2, some .int, [])
theorem dX2_valueOf_0 : decode cX2_valueOf 0 = .ok (.iload_n 1, 1) := by decide +kernel
theorem dX2_valueOf_1 : decode cX2_valueOf 1 = .ok (.ifCond .ne 16, 3) := by decide +kernel
theorem dX2_valueOf_4 : decode cX2_valueOf 4 = .ok (.aload_n 0, 1) := by decide +kernel
theorem dX2_valueOf_5 : decode cX2_valueOf 5 = .ok (.getstatic 272, 3) := by decide +kernel
theorem dX2_valueOf_8 : decode cX2_valueOf 8 = .ok (.if_acmp .ne 7, 3) := by decide +kernel
theorem dX2_valueOf_11 : decode cX2_valueOf 11 = .ok (.iconst 0, 1) := by decide +kernel
theorem dX2_valueOf_12 : decode cX2_valueOf 12 = .ok (.goto 4, 3) := by decide +kernel
theorem dX2_valueOf_15 : decode cX2_valueOf 15 = .ok (.iconst (-1), 1) := by decide +kernel
theorem dX2_valueOf_16 : decode cX2_valueOf 16 = .ok (.ireturn, 1) := by decide +kernel
theorem dX2_valueOf_17 : decode cX2_valueOf 17 = .ok (.iload_n 1, 1) := by decide +kernel
theorem dX2_valueOf_18 : decode cX2_valueOf 18 = .ok (.iconst 1, 1) := by decide +kernel
theorem dX2_valueOf_19 : decode cX2_valueOf 19 = .ok (.if_icmp .ne 53, 3) := by decide +kernel
theorem dX2_valueOf_22 : decode cX2_valueOf 22 = .ok (.getstatic 140, 3) := by decide +kernel
theorem dX2_valueOf_25 : decode cX2_valueOf 25 = .ok (.aload_n 0, 1) := by decide +kernel
theorem dX2_valueOf_26 : decode cX2_valueOf 26 = .ok (.invokevirtual 145, 3) := by decide +kernel
theorem dX2_valueOf_29 : decode cX2_valueOf 29 = .ok (.iaload, 1) := by decide +kernel
theorem dX2_valueOf_30 : decode cX2_valueOf 30 = .ok (.lookupswitch 40 #[(7, 36), (14, 34), (15, 38)], 34) := by decide +kernel
theorem dX2_valueOf_64 : decode cX2_valueOf 64 = .ok (.iconst 1, 1) := by decide +kernel
theorem dX2_valueOf_65 : decode cX2_valueOf 65 = .ok (.ireturn, 1) := by decide +kernel
theorem dX2_valueOf_66 : decode cX2_valueOf 66 = .ok (.iconst 2, 1) := by decide +kernel
theorem dX2_valueOf_67 : decode cX2_valueOf 67 = .ok (.ireturn, 1) := by decide +kernel
theorem dX2_valueOf_68 : decode cX2_valueOf 68 = .ok (.iconst 0, 1) := by decide +kernel
theorem dX2_valueOf_69 : decode cX2_valueOf 69 = .ok (.ireturn, 1) := by decide +kernel
theorem dX2_valueOf_70 : decode cX2_valueOf 70 = .ok (.iconst (-1), 1) := by decide +kernel
theorem dX2_valueOf_71 : decode cX2_valueOf 71 = .ok (.ireturn, 1) := by decide +kernel
theorem dX2_valueOf_72 : decode cX2_valueOf 72 = .ok (.getstatic 140, 3) := by decide +kernel
theorem dX2_valueOf_75 : decode cX2_valueOf 75 = .ok (.aload_n 0, 1) := by decide +kernel
theorem dX2_valueOf_76 : decode cX2_valueOf 76 = .ok (.invokevirtual 145, 3) := by decide +kernel
theorem dX2_valueOf_79 : decode cX2_valueOf 79 = .ok (.iaload, 1) := by decide +kernel
theorem dX2_valueOf_80 : decode cX2_valueOf 80 = .ok (.tableswitch 84 5 18 #[81, 84, 84, 84, 84, 84, 76, 84, 84, 84, 84, 72, 74, 78], 72) := by decide +kernel
theorem dX2_valueOf_152 : decode cX2_valueOf 152 = .ok (.iconst 3, 1) := by decide +kernel
theorem dX2_valueOf_153 : decode cX2_valueOf 153 = .ok (.ireturn, 1) := by decide +kernel
theorem dX2_valueOf_154 : decode cX2_valueOf 154 = .ok (.iconst 4, 1) := by decide +kernel
theorem dX2_valueOf_155 : decode cX2_valueOf 155 = .ok (.ireturn, 1) := by decide +kernel
theorem dX2_valueOf_156 : decode cX2_valueOf 156 = .ok (.iconst 5, 1) := by decide +kernel
theorem dX2_valueOf_157 : decode cX2_valueOf 157 = .ok (.ireturn, 1) := by decide +kernel
theorem dX2_valueOf_158 : decode cX2_valueOf 158 = .ok (.bipush 6, 2) := by decide +kernel
theorem dX2_valueOf_160 : decode cX2_valueOf 160 = .ok (.ireturn, 1) := by decide +kernel
theorem dX2_valueOf_161 : decode cX2_valueOf 161 = .ok (.bipush 7, 2) := by decide +kernel
theorem dX2_valueOf_163 : decode cX2_valueOf 163 = .ok (.ireturn, 1) := by decide +kernel
theorem dX2_valueOf_164 : decode cX2_valueOf 164 = .ok (.iconst (-1), 1) := by decide +kernel
theorem dX2_valueOf_165 : decode cX2_valueOf 165 = .ok (.ireturn, 1) := by decide +kernel
def f_Re_valueOf (v0 : Nat) (v1 : Int32) (σ : xS) : Option (Int32 × xS) :=
  if v1 = 0 then
    x_ok (1000 ≤ v0 ∧ v0 < 1023) <|
    if v0 = 1018 then
      some ((0 : Int32), σ)
    else
      some ((-1 : Int32), σ)
  else
    if v1 = (1 : Int32) then
      x_ok (1000 ≤ v0 ∧ v0 < 1023) <|
      if (Int32.ofNat (v0 - 1000)) < 0 ∨ 23 ≤ (Int32.ofNat (v0 - 1000)).toNatClampNeg then none else
      if (x_sm.getD (Int32.ofNat (v0 - 1000)).toNatClampNeg 0) = (7 : Int32) then
        some ((2 : Int32), σ)
      else if (x_sm.getD (Int32.ofNat (v0 - 1000)).toNatClampNeg 0) = (14 : Int32) then
        some ((1 : Int32), σ)
      else if (x_sm.getD (Int32.ofNat (v0 - 1000)).toNatClampNeg 0) = (15 : Int32) then
        some ((0 : Int32), σ)
      else 
        some ((-1 : Int32), σ)
    else
      x_ok (1000 ≤ v0 ∧ v0 < 1023) <|
      if (Int32.ofNat (v0 - 1000)) < 0 ∨ 23 ≤ (Int32.ofNat (v0 - 1000)).toNatClampNeg then none else
      if (x_sm.getD (Int32.ofNat (v0 - 1000)).toNatClampNeg 0) = (5 : Int32) then
        some ((7 : Int32), σ)
      else if (x_sm.getD (Int32.ofNat (v0 - 1000)).toNatClampNeg 0) = (6 : Int32) then
        some ((-1 : Int32), σ)
      else if (x_sm.getD (Int32.ofNat (v0 - 1000)).toNatClampNeg 0) = (7 : Int32) then
        some ((-1 : Int32), σ)
      else if (x_sm.getD (Int32.ofNat (v0 - 1000)).toNatClampNeg 0) = (8 : Int32) then
        some ((-1 : Int32), σ)
      else if (x_sm.getD (Int32.ofNat (v0 - 1000)).toNatClampNeg 0) = (9 : Int32) then
        some ((-1 : Int32), σ)
      else if (x_sm.getD (Int32.ofNat (v0 - 1000)).toNatClampNeg 0) = (10 : Int32) then
        some ((-1 : Int32), σ)
      else if (x_sm.getD (Int32.ofNat (v0 - 1000)).toNatClampNeg 0) = (11 : Int32) then
        some ((5 : Int32), σ)
      else if (x_sm.getD (Int32.ofNat (v0 - 1000)).toNatClampNeg 0) = (12 : Int32) then
        some ((-1 : Int32), σ)
      else if (x_sm.getD (Int32.ofNat (v0 - 1000)).toNatClampNeg 0) = (13 : Int32) then
        some ((-1 : Int32), σ)
      else if (x_sm.getD (Int32.ofNat (v0 - 1000)).toNatClampNeg 0) = (14 : Int32) then
        some ((-1 : Int32), σ)
      else if (x_sm.getD (Int32.ofNat (v0 - 1000)).toNatClampNeg 0) = (15 : Int32) then
        some ((-1 : Int32), σ)
      else if (x_sm.getD (Int32.ofNat (v0 - 1000)).toNatClampNeg 0) = (16 : Int32) then
        some ((3 : Int32), σ)
      else if (x_sm.getD (Int32.ofNat (v0 - 1000)).toNatClampNeg 0) = (17 : Int32) then
        some ((4 : Int32), σ)
      else if (x_sm.getD (Int32.ofNat (v0 - 1000)).toNatClampNeg 0) = (18 : Int32) then
        some ((6 : Int32), σ)
      else 
        some ((-1 : Int32), σ)
set_option maxHeartbeats 4000000 in
set_option maxRecDepth 100000 in
theorem c_Re_valueOf {l : Launch} {s0 : State} {a0 : Array Value} {D : va_G} {cA : Nat → ClassId} {sp : Nat → Nat} (E : x_En CL l s0 a0 D cA sp) (S : x_Sw s0 sp) (v0 : Nat) (v1 : Int32) {σ : xS} {r : Int32} {σ1 : xS} (h : f_Re_valueOf v0 v1 σ = some (r, σ1)) : zC l s0 D cA sp 1 M_Re_valueOf [.ref v0, .int v1] σ (some (.int r)) σ1 := by
  unfold f_Re_valueOf at h
  try dsimp only at h
  refine x_enter [some (.ref v0), some (.int v1)] rfl (Nat.le_of_ble_eq_true rfl) (by decide +kernel) rfl ?_
  refine x_iload_n 1 rfl 1 dX2_valueOf_0 rfl rfl ?_
  refine x_if_ne 4 rfl 17 dX2_valueOf_1 (by decide) (fun hc => ?_) (fun hc => ?_)
  · replace h := x_ifF hc h
    refine x_iload_n 18 rfl 1 dX2_valueOf_17 rfl rfl ?_
    refine x_iconst 19 rfl (v := 1) dX2_valueOf_18 (by decide) ?_
    refine x_icmp_ne 22 rfl 72 dX2_valueOf_19 (by decide) (fun hc => ?_) (fun hc => ?_)
    · replace h := x_ifF hc h
      refine z_smap E S dX2_valueOf_72 (List.mem_append_right _ (List.mem_of_getElem? (i := 748) (by decide +kernel))) 75 rfl ?_
      refine x_aload_n 76 rfl 0 dX2_valueOf_75 rfl rfl ?_
      obtain ⟨hz, h⟩ := x_ift h
      refine z_ord E S [.ref 1101] hz dX2_valueOf_76 KO_RX2_145 ⟨(Nat.le_of_ble_eq_true rfl), (Nat.le_of_ble_eq_true rfl)⟩ (Nat.le_of_ble_eq_true rfl) 79 rfl ?_
      obtain ⟨hz, h⟩ := x_ifn h
      refine z_mald S dX2_valueOf_79 hz 80 rfl ?_
      refine x_case (5) (fun hc0 => ?_) (fun hc0 => ?_)
      · replace h := x_ifT hc0 h
        refine x_tabIn (off := 81) 161 dX2_valueOf_80 (by rw [hc0]; decide) (by rw [hc0]; decide) (by rw [hc0]; rfl) (by decide) ?_
        refine x_bipush 163 rfl (v := 7) dX2_valueOf_161 (by decide) ?_
        cases h
        exact x_iret dX2_valueOf_163 rfl rfl rfl
      replace h := x_ifF hc0 h
      refine x_case (6) (fun hc1 => ?_) (fun hc1 => ?_)
      · replace h := x_ifT hc1 h
        refine x_tabIn (off := 84) 164 dX2_valueOf_80 (by rw [hc1]; decide) (by rw [hc1]; decide) (by rw [hc1]; rfl) (by decide) ?_
        refine x_iconst 165 rfl (v := -1) dX2_valueOf_164 (by decide) ?_
        cases h
        exact x_iret dX2_valueOf_165 rfl rfl rfl
      replace h := x_ifF hc1 h
      refine x_case (7) (fun hc2 => ?_) (fun hc2 => ?_)
      · replace h := x_ifT hc2 h
        refine x_tabIn (off := 84) 164 dX2_valueOf_80 (by rw [hc2]; decide) (by rw [hc2]; decide) (by rw [hc2]; rfl) (by decide) ?_
        refine x_iconst 165 rfl (v := -1) dX2_valueOf_164 (by decide) ?_
        cases h
        exact x_iret dX2_valueOf_165 rfl rfl rfl
      replace h := x_ifF hc2 h
      refine x_case (8) (fun hc3 => ?_) (fun hc3 => ?_)
      · replace h := x_ifT hc3 h
        refine x_tabIn (off := 84) 164 dX2_valueOf_80 (by rw [hc3]; decide) (by rw [hc3]; decide) (by rw [hc3]; rfl) (by decide) ?_
        refine x_iconst 165 rfl (v := -1) dX2_valueOf_164 (by decide) ?_
        cases h
        exact x_iret dX2_valueOf_165 rfl rfl rfl
      replace h := x_ifF hc3 h
      refine x_case (9) (fun hc4 => ?_) (fun hc4 => ?_)
      · replace h := x_ifT hc4 h
        refine x_tabIn (off := 84) 164 dX2_valueOf_80 (by rw [hc4]; decide) (by rw [hc4]; decide) (by rw [hc4]; rfl) (by decide) ?_
        refine x_iconst 165 rfl (v := -1) dX2_valueOf_164 (by decide) ?_
        cases h
        exact x_iret dX2_valueOf_165 rfl rfl rfl
      replace h := x_ifF hc4 h
      refine x_case (10) (fun hc5 => ?_) (fun hc5 => ?_)
      · replace h := x_ifT hc5 h
        refine x_tabIn (off := 84) 164 dX2_valueOf_80 (by rw [hc5]; decide) (by rw [hc5]; decide) (by rw [hc5]; rfl) (by decide) ?_
        refine x_iconst 165 rfl (v := -1) dX2_valueOf_164 (by decide) ?_
        cases h
        exact x_iret dX2_valueOf_165 rfl rfl rfl
      replace h := x_ifF hc5 h
      refine x_case (11) (fun hc6 => ?_) (fun hc6 => ?_)
      · replace h := x_ifT hc6 h
        refine x_tabIn (off := 76) 156 dX2_valueOf_80 (by rw [hc6]; decide) (by rw [hc6]; decide) (by rw [hc6]; rfl) (by decide) ?_
        refine x_iconst 157 rfl (v := 5) dX2_valueOf_156 (by decide) ?_
        cases h
        exact x_iret dX2_valueOf_157 rfl rfl rfl
      replace h := x_ifF hc6 h
      refine x_case (12) (fun hc7 => ?_) (fun hc7 => ?_)
      · replace h := x_ifT hc7 h
        refine x_tabIn (off := 84) 164 dX2_valueOf_80 (by rw [hc7]; decide) (by rw [hc7]; decide) (by rw [hc7]; rfl) (by decide) ?_
        refine x_iconst 165 rfl (v := -1) dX2_valueOf_164 (by decide) ?_
        cases h
        exact x_iret dX2_valueOf_165 rfl rfl rfl
      replace h := x_ifF hc7 h
      refine x_case (13) (fun hc8 => ?_) (fun hc8 => ?_)
      · replace h := x_ifT hc8 h
        refine x_tabIn (off := 84) 164 dX2_valueOf_80 (by rw [hc8]; decide) (by rw [hc8]; decide) (by rw [hc8]; rfl) (by decide) ?_
        refine x_iconst 165 rfl (v := -1) dX2_valueOf_164 (by decide) ?_
        cases h
        exact x_iret dX2_valueOf_165 rfl rfl rfl
      replace h := x_ifF hc8 h
      refine x_case (14) (fun hc9 => ?_) (fun hc9 => ?_)
      · replace h := x_ifT hc9 h
        refine x_tabIn (off := 84) 164 dX2_valueOf_80 (by rw [hc9]; decide) (by rw [hc9]; decide) (by rw [hc9]; rfl) (by decide) ?_
        refine x_iconst 165 rfl (v := -1) dX2_valueOf_164 (by decide) ?_
        cases h
        exact x_iret dX2_valueOf_165 rfl rfl rfl
      replace h := x_ifF hc9 h
      refine x_case (15) (fun hc10 => ?_) (fun hc10 => ?_)
      · replace h := x_ifT hc10 h
        refine x_tabIn (off := 84) 164 dX2_valueOf_80 (by rw [hc10]; decide) (by rw [hc10]; decide) (by rw [hc10]; rfl) (by decide) ?_
        refine x_iconst 165 rfl (v := -1) dX2_valueOf_164 (by decide) ?_
        cases h
        exact x_iret dX2_valueOf_165 rfl rfl rfl
      replace h := x_ifF hc10 h
      refine x_case (16) (fun hc11 => ?_) (fun hc11 => ?_)
      · replace h := x_ifT hc11 h
        refine x_tabIn (off := 72) 152 dX2_valueOf_80 (by rw [hc11]; decide) (by rw [hc11]; decide) (by rw [hc11]; rfl) (by decide) ?_
        refine x_iconst 153 rfl (v := 3) dX2_valueOf_152 (by decide) ?_
        cases h
        exact x_iret dX2_valueOf_153 rfl rfl rfl
      replace h := x_ifF hc11 h
      refine x_case (17) (fun hc12 => ?_) (fun hc12 => ?_)
      · replace h := x_ifT hc12 h
        refine x_tabIn (off := 74) 154 dX2_valueOf_80 (by rw [hc12]; decide) (by rw [hc12]; decide) (by rw [hc12]; rfl) (by decide) ?_
        refine x_iconst 155 rfl (v := 4) dX2_valueOf_154 (by decide) ?_
        cases h
        exact x_iret dX2_valueOf_155 rfl rfl rfl
      replace h := x_ifF hc12 h
      refine x_case (18) (fun hc13 => ?_) (fun hc13 => ?_)
      · replace h := x_ifT hc13 h
        refine x_tabIn (off := 78) 158 dX2_valueOf_80 (by rw [hc13]; decide) (by rw [hc13]; decide) (by rw [hc13]; rfl) (by decide) ?_
        refine x_bipush 160 rfl (v := 6) dX2_valueOf_158 (by decide) ?_
        cases h
        exact x_iret dX2_valueOf_160 rfl rfl rfl
      replace h := x_ifF hc13 h
      refine x_tabOut 164 dX2_valueOf_80 (by have g0 := x_toNe hc0 (k := 5) (by decide); have g1 := x_toNe hc1 (k := 6) (by decide); have g2 := x_toNe hc2 (k := 7) (by decide); have g3 := x_toNe hc3 (k := 8) (by decide); have g4 := x_toNe hc4 (k := 9) (by decide); have g5 := x_toNe hc5 (k := 10) (by decide); have g6 := x_toNe hc6 (k := 11) (by decide); have g7 := x_toNe hc7 (k := 12) (by decide); have g8 := x_toNe hc8 (k := 13) (by decide); have g9 := x_toNe hc9 (k := 14) (by decide); have g10 := x_toNe hc10 (k := 15) (by decide); have g11 := x_toNe hc11 (k := 16) (by decide); have g12 := x_toNe hc12 (k := 17) (by decide); have g13 := x_toNe hc13 (k := 18) (by decide); omega) (by decide) ?_
      refine x_iconst 165 rfl (v := -1) dX2_valueOf_164 (by decide) ?_
      cases h
      exact x_iret dX2_valueOf_165 rfl rfl rfl
    · replace h := x_ifT hc h
      refine z_smap E S dX2_valueOf_22 (List.mem_append_right _ (List.mem_of_getElem? (i := 748) (by decide +kernel))) 25 rfl ?_
      refine x_aload_n 26 rfl 0 dX2_valueOf_25 rfl rfl ?_
      obtain ⟨hz, h⟩ := x_ift h
      refine z_ord E S [.ref 1101] hz dX2_valueOf_26 KO_RX2_145 ⟨(Nat.le_of_ble_eq_true rfl), (Nat.le_of_ble_eq_true rfl)⟩ (Nat.le_of_ble_eq_true rfl) 29 rfl ?_
      obtain ⟨hz, h⟩ := x_ifn h
      refine z_mald S dX2_valueOf_29 hz 30 rfl ?_
      refine x_case (7) (fun hc0 => ?_) (fun hc0 => ?_)
      · replace h := x_ifT hc0 h
        refine x_look (off := 36) 66 dX2_valueOf_30 (by decide +kernel) (by rw [hc0]; decide +kernel) (by decide) ?_
        refine x_iconst 67 rfl (v := 2) dX2_valueOf_66 (by decide) ?_
        cases h
        exact x_iret dX2_valueOf_67 rfl rfl rfl
      replace h := x_ifF hc0 h
      refine x_case (14) (fun hc1 => ?_) (fun hc1 => ?_)
      · replace h := x_ifT hc1 h
        refine x_look (off := 34) 64 dX2_valueOf_30 (by decide +kernel) (by rw [hc1]; decide +kernel) (by decide) ?_
        refine x_iconst 65 rfl (v := 1) dX2_valueOf_64 (by decide) ?_
        cases h
        exact x_iret dX2_valueOf_65 rfl rfl rfl
      replace h := x_ifF hc1 h
      refine x_case (15) (fun hc2 => ?_) (fun hc2 => ?_)
      · replace h := x_ifT hc2 h
        refine x_look (off := 38) 68 dX2_valueOf_30 (by decide +kernel) (by rw [hc2]; decide +kernel) (by decide) ?_
        refine x_iconst 69 rfl (v := 0) dX2_valueOf_68 (by decide) ?_
        cases h
        exact x_iret dX2_valueOf_69 rfl rfl rfl
      replace h := x_ifF hc2 h
      refine x_look (off := 40) 70 dX2_valueOf_30 (by decide +kernel) (x_offD _ (List.forall_mem_cons.mpr ⟨Ne.symm (x_toNe hc0 (k := 7) (by decide)), (List.forall_mem_cons.mpr ⟨Ne.symm (x_toNe hc1 (k := 14) (by decide)), (List.forall_mem_cons.mpr ⟨Ne.symm (x_toNe hc2 (k := 15) (by decide)), (fun _ h => absurd h List.not_mem_nil)⟩)⟩)⟩)) (by decide) ?_
      refine x_iconst 71 rfl (v := -1) dX2_valueOf_70 (by decide) ?_
      cases h
      exact x_iret dX2_valueOf_71 rfl rfl rfl
  · replace h := x_ifT hc h
    refine x_aload_n 5 rfl 0 dX2_valueOf_4 rfl rfl ?_
    refine z_word E S (n := "INCH") 18 1018 (by decide) rfl rfl dX2_valueOf_5 (List.mem_append_right _ (List.mem_of_getElem? (i := 855) (by decide +kernel))) 8 rfl ?_
    obtain ⟨hzx, h⟩ := x_ift h
    refine x_acne 15 S hzx ⟨by decide, by decide⟩ dX2_valueOf_8 (by decide) (fun hc => ?_) (fun hc => ?_)
    · replace h := x_ifF hc h
      refine x_iconst 16 rfl (v := -1) dX2_valueOf_15 (by decide) ?_
      cases h
      exact x_iret dX2_valueOf_16 rfl rfl rfl
    · replace h := x_ifT hc h
      refine x_iconst 12 rfl (v := 0) dX2_valueOf_11 (by decide) ?_
      refine x_goto 16 dX2_valueOf_12 (by decide) ?_
      cases h
      exact x_iret dX2_valueOf_16 rfl rfl rfl
theorem K_RX2_241 : x_KV RX2 241 M_Ru_add 1 := ⟨⟨(List.mem_append_right _ (List.mem_of_getElem? (i := 848) (by decide +kernel))), (List.mem_append_right _ (List.mem_of_getElem? (i := 851) (by decide +kernel))), (List.mem_append_right _ (List.mem_of_getElem? (i := 4) (by decide +kernel))), ⟨by decide +kernel, by decide +kernel⟩, by decide +kernel⟩, (List.mem_append_right _ (List.mem_of_getElem? (i := 849) (by decide +kernel))), (List.mem_append_right _ (List.mem_of_getElem? (i := 850) (by decide +kernel)))⟩
theorem K_RX2_265 : x_KS RX2 265 M_Re_valueOf 2 := ⟨⟨(List.mem_append_right _ (List.mem_of_getElem? (i := 852) (by decide +kernel))), (List.mem_append_right _ (List.mem_of_getElem? (i := 854) (by decide +kernel))), (List.mem_append_right _ (List.mem_of_getElem? (i := 2) (by decide +kernel))), ⟨by decide +kernel, by decide +kernel⟩, by decide +kernel⟩, (List.mem_append_right _ (List.mem_of_getElem? (i := 853) (by decide +kernel)))⟩
theorem K_RX2_269 : x_KV RX2 269 M_Re_readInner 3 := ⟨⟨(List.mem_append_right _ (List.mem_of_getElem? (i := 857) (by decide +kernel))), (List.mem_append_right _ (List.mem_of_getElem? (i := 860) (by decide +kernel))), (List.mem_append_right _ (List.mem_of_getElem? (i := 2) (by decide +kernel))), ⟨by decide +kernel, by decide +kernel⟩, by decide +kernel⟩, (List.mem_append_right _ (List.mem_of_getElem? (i := 859) (by decide +kernel))), (List.mem_append_left _ (List.mem_of_getElem? (i := 41) (by decide +kernel)))⟩
abbrev M_Re_readPart : xM := (yX2_readPart, cX2_readPart, 5, some .boolean, [])
theorem dX2_readPart_0 : decode cX2_readPart 0 = .ok (.aload_n 0, 1) := by decide +kernel
theorem dX2_readPart_1 : decode cX2_readPart 1 = .ok (.iconst 2, 1) := by decide +kernel
theorem dX2_readPart_2 : decode cX2_readPart 2 = .ok (.invokevirtual 61, 3) := by decide +kernel
theorem dX2_readPart_5 : decode cX2_readPart 5 = .ok (.ifCond .eq 26, 3) := by decide +kernel
theorem dX2_readPart_8 : decode cX2_readPart 8 = .ok (.aload_n 0, 1) := by decide +kernel
theorem dX2_readPart_9 : decode cX2_readPart 9 = .ok (.iconst 0, 1) := by decide +kernel
theorem dX2_readPart_10 : decode cX2_readPart 10 = .ok (.sipush 9999, 3) := by decide +kernel
theorem dX2_readPart_13 : decode cX2_readPart 13 = .ok (.invokevirtual 125, 3) := by decide +kernel
theorem dX2_readPart_16 : decode cX2_readPart 16 = .ok (.ifCond .ne 5, 3) := by decide +kernel
theorem dX2_readPart_19 : decode cX2_readPart 19 = .ok (.iconst 0, 1) := by decide +kernel
theorem dX2_readPart_20 : decode cX2_readPart 20 = .ok (.ireturn, 1) := by decide +kernel
theorem dX2_readPart_21 : decode cX2_readPart 21 = .ok (.aload_n 1, 1) := by decide +kernel
theorem dX2_readPart_22 : decode cX2_readPart 22 = .ok (.aload_n 0, 1) := by decide +kernel
theorem dX2_readPart_23 : decode cX2_readPart 23 = .ok (.invokevirtual 129, 3) := by decide +kernel
theorem dX2_readPart_26 : decode cX2_readPart 26 = .ok (.invokevirtual 241, 3) := by decide +kernel
theorem dX2_readPart_29 : decode cX2_readPart 29 = .ok (.iconst 1, 1) := by decide +kernel
theorem dX2_readPart_30 : decode cX2_readPart 30 = .ok (.ireturn, 1) := by decide +kernel
theorem dX2_readPart_31 : decode cX2_readPart 31 = .ok (.aload_n 0, 1) := by decide +kernel
theorem dX2_readPart_32 : decode cX2_readPart 32 = .ok (.iconst 1, 1) := by decide +kernel
theorem dX2_readPart_33 : decode cX2_readPart 33 = .ok (.invokevirtual 61, 3) := by decide +kernel
theorem dX2_readPart_36 : decode cX2_readPart 36 = .ok (.ifCond .eq 40, 3) := by decide +kernel
theorem dX2_readPart_39 : decode cX2_readPart 39 = .ok (.aload_n 0, 1) := by decide +kernel
theorem dX2_readPart_40 : decode cX2_readPart 40 = .ok (.invokevirtual 111, 3) := by decide +kernel
theorem dX2_readPart_43 : decode cX2_readPart 43 = .ok (.iload_n 2, 1) := by decide +kernel
theorem dX2_readPart_44 : decode cX2_readPart 44 = .ok (.invokestatic 265, 3) := by decide +kernel
theorem dX2_readPart_47 : decode cX2_readPart 47 = .ok (.istore 4, 2) := by decide +kernel
theorem dX2_readPart_49 : decode cX2_readPart 49 = .ok (.iload 4, 2) := by decide +kernel
theorem dX2_readPart_51 : decode cX2_readPart 51 = .ok (.iconst (-1), 1) := by decide +kernel
theorem dX2_readPart_52 : decode cX2_readPart 52 = .ok (.if_icmp .ne 9, 3) := by decide +kernel
theorem dX2_readPart_55 : decode cX2_readPart 55 = .ok (.aload_n 0, 1) := by decide +kernel
theorem dX2_readPart_56 : decode cX2_readPart 56 = .ok (.iconst 3, 1) := by decide +kernel
theorem dX2_readPart_57 : decode cX2_readPart 57 = .ok (.invokevirtual 115, 3) := by decide +kernel
theorem dX2_readPart_60 : decode cX2_readPart 60 = .ok (.ireturn, 1) := by decide +kernel
theorem dX2_readPart_61 : decode cX2_readPart 61 = .ok (.aload_n 1, 1) := by decide +kernel
theorem dX2_readPart_62 : decode cX2_readPart 62 = .ok (.bipush (-10), 2) := by decide +kernel
theorem dX2_readPart_64 : decode cX2_readPart 64 = .ok (.iload 4, 2) := by decide +kernel
theorem dX2_readPart_66 : decode cX2_readPart 66 = .ok (.isub, 1) := by decide +kernel
theorem dX2_readPart_67 : decode cX2_readPart 67 = .ok (.invokevirtual 241, 3) := by decide +kernel
theorem dX2_readPart_70 : decode cX2_readPart 70 = .ok (.aload_n 0, 1) := by decide +kernel
theorem dX2_readPart_71 : decode cX2_readPart 71 = .ok (.invokevirtual 118, 3) := by decide +kernel
theorem dX2_readPart_74 : decode cX2_readPart 74 = .ok (.iconst 1, 1) := by decide +kernel
theorem dX2_readPart_75 : decode cX2_readPart 75 = .ok (.ireturn, 1) := by decide +kernel
theorem dX2_readPart_76 : decode cX2_readPart 76 = .ok (.aload_n 0, 1) := by decide +kernel
theorem dX2_readPart_77 : decode cX2_readPart 77 = .ok (.aload_n 1, 1) := by decide +kernel
theorem dX2_readPart_78 : decode cX2_readPart 78 = .ok (.iload_n 2, 1) := by decide +kernel
theorem dX2_readPart_79 : decode cX2_readPart 79 = .ok (.iload_n 3, 1) := by decide +kernel
theorem dX2_readPart_80 : decode cX2_readPart 80 = .ok (.invokevirtual 269, 3) := by decide +kernel
theorem dX2_readPart_83 : decode cX2_readPart 83 = .ok (.ireturn, 1) := by decide +kernel
def f_Re_readPart_2_27 (rec : Int32 → Int32 → xS → Option (Int32 × xS)) (v2 : Int32) (v3 : Int32) (σ : xS) : Option (Int32 × xS) :=
  (f_Re_isKind_2 (2 : Int32) σ).bind fun q1 =>
  if q1.1 = 0 then
    (f_Re_isKind_2 (1 : Int32) q1.2).bind fun q2 =>
    if q2.1 = 0 then
      (f_Re_readInner_2_27 rec v2 v3 q2.2).bind fun q3 =>
      x_ok (q3.1 = 0 ∨ q3.1 = 1) <|
      some (q3.1, q3.2)
    else
      (f_Re_word_2  q2.2).bind fun q4 =>
      (f_Re_valueOf q4.1 v2 q4.2).bind fun q5 =>
      let w6 := q5.1
      if w6 = (-1 : Int32) then
        (f_Re_refuse_2 (3 : Int32) q5.2).bind fun q9 =>
        x_ok (q9.1 = 0 ∨ q9.1 = 1) <|
        some (q9.1, q9.2)
      else
        (f_Ru_add_27 ((-10 : Int32) - w6) q5.2).bind fun q7 =>
        (f_Re_advance_2  q7.2).bind fun q8 =>
        some ((1 : Int32), q8.2)
  else
    (f_Re_isNumber_2 (0 : Int32) (9999 : Int32) q1.2).bind fun q10 =>
    if q10.1 = 0 then
      some ((0 : Int32), q10.2)
    else
      (f_Re_takeNumber_2  q10.2).bind fun q11 =>
      (f_Ru_add_27 q11.1 q11.2).bind fun q12 =>
      some ((1 : Int32), q12.2)
set_option maxHeartbeats 4000000 in
set_option maxRecDepth 100000 in
theorem c_Re_readPart_2_27 {l : Launch} {s0 : State} {a0 : Array Value} {D : va_G} {cA : Nat → ClassId} {sp : Nat → Nat} (E : x_En CL l s0 a0 D cA sp) (S : x_Sw s0 sp) {dR : Nat} {rec : Int32 → Int32 → xS → Option (Int32 × xS)} (hrec : ∀ (v2 v3 : Int32) (σ : xS) (r : Int32) (σ1 : xS), rec v2 v3 σ = some (r, σ1) → zC l s0 D cA sp dR M_Re_readExpr [.ref 2, .ref 27, .int v2, .int v3] σ (some (.int r)) σ1) (v2 : Int32) (v3 : Int32) {σ : xS} {r : Int32} {σ1 : xS} (h : f_Re_readPart_2_27 rec v2 v3 σ = some (r, σ1)) : zC l s0 D cA sp (dR + 3) M_Re_readPart [.ref 2, .ref 27, .int v2, .int v3] σ (some (.int r)) σ1 := by
  unfold f_Re_readPart_2_27 at h
  try dsimp only at h
  refine x_enter [some (.ref 2), some (.ref 27), some (.int v2), some (.int v3), none] rfl (Nat.le_of_ble_eq_true rfl) (by decide +kernel) rfl ?_
  refine x_aload_n 1 rfl 0 dX2_readPart_0 rfl rfl ?_
  refine x_iconst 2 rfl (v := 2) dX2_readPart_1 (by decide) ?_
  obtain ⟨⟨q1r, q1s⟩, q1h, h⟩ := x_bind h
  try dsimp only at h
  refine z_callV E [.int _] [] dX2_readPart_2 K_RX2_61 (x_fitC (Nat.le_of_ble_eq_true rfl) (Nat.le_of_ble_eq_true rfl)) sh_2 (by decide) rfl (c_Re_isKind_2 E _ q1h) rfl rfl (Nat.le_of_ble_eq_true rfl) 5 rfl [.int _] rfl ?_
  refine x_if_eq 8 rfl 31 dX2_readPart_5 (by decide) (fun hc => ?_) (fun hc => ?_)
  · replace h := x_ifT hc h
    refine x_aload_n 32 rfl 0 dX2_readPart_31 rfl rfl ?_
    refine x_iconst 33 rfl (v := 1) dX2_readPart_32 (by decide) ?_
    obtain ⟨⟨q2r, q2s⟩, q2h, h⟩ := x_bind h
    try dsimp only at h
    refine z_callV E [.int _] [] dX2_readPart_33 K_RX2_61 (x_fitC (Nat.le_of_ble_eq_true rfl) (Nat.le_of_ble_eq_true rfl)) sh_2 (by decide) rfl (c_Re_isKind_2 E _ q2h) rfl rfl (Nat.le_of_ble_eq_true rfl) 36 rfl [.int _] rfl ?_
    refine x_if_eq 39 rfl 76 dX2_readPart_36 (by decide) (fun hc => ?_) (fun hc => ?_)
    · replace h := x_ifT hc h
      refine x_aload_n 77 rfl 0 dX2_readPart_76 rfl rfl ?_
      refine x_aload_n 78 rfl 1 dX2_readPart_77 rfl rfl ?_
      refine x_iload_n 79 rfl 2 dX2_readPart_78 rfl rfl ?_
      refine x_iload_n 80 rfl 3 dX2_readPart_79 rfl rfl ?_
      obtain ⟨⟨q3r, q3s⟩, q3h, h⟩ := x_bind h
      try dsimp only at h
      refine z_callV E [.ref 27, .int _, .int _] [] dX2_readPart_80 K_RX2_269 (x_fitR (a := 2) (Nat.le_of_ble_eq_true rfl) (Nat.le_of_ble_eq_true rfl)) sh_2 (by decide) rfl (c_Re_readInner_2_27 E hrec _ _ q3h) rfl rfl (Nat.le_of_ble_eq_true rfl) 83 rfl [.int _] rfl ?_
      obtain ⟨hz, h⟩ := x_ift h
      cases h
      exact x_zret hz dX2_readPart_83 rfl rfl rfl
    · replace h := x_ifF hc h
      refine x_aload_n 40 rfl 0 dX2_readPart_39 rfl rfl ?_
      obtain ⟨⟨q4r, q4s⟩, q4h, h⟩ := x_bind h
      try dsimp only at h
      refine z_callV E [] [] dX2_readPart_40 K_RX2_111 (x_fitC (Nat.le_of_ble_eq_true rfl) (Nat.le_of_ble_eq_true rfl)) sh_2 (by decide) rfl (c_Re_word_2 E S  q4h) rfl rfl (Nat.le_of_ble_eq_true rfl) 43 rfl [.ref _] rfl ?_
      refine x_iload_n 44 rfl 2 dX2_readPart_43 rfl rfl ?_
      obtain ⟨⟨q5r, q5s⟩, q5h, h⟩ := x_bind h
      try dsimp only at h
      refine z_callS E [.ref _, .int _] [] dX2_readPart_44 K_RX2_265 (x_fitC (Nat.le_of_ble_eq_true rfl) (Nat.le_of_ble_eq_true rfl)) (c_Re_valueOf E S _ _ q5h) rfl rfl (Nat.le_of_ble_eq_true rfl) 47 rfl [.int _] rfl ?_
      refine x_istore 49 rfl dX2_readPart_47 (by decide) [some (.ref 2), some (.ref 27), some (.int _), some (.int _), some (.int _)] rfl ?_
      refine x_iload 51 rfl dX2_readPart_49 rfl ?_
      refine x_iconst 52 rfl (v := -1) dX2_readPart_51 (by decide) ?_
      refine x_icmp_ne 55 rfl 61 dX2_readPart_52 (by decide) (fun hc => ?_) (fun hc => ?_)
      · replace h := x_ifF hc h
        refine x_aload_n 62 rfl 1 dX2_readPart_61 rfl rfl ?_
        refine x_bipush 64 rfl (v := -10) dX2_readPart_62 (by decide) ?_
        refine x_iload 66 rfl dX2_readPart_64 rfl ?_
        refine x_isub 67 rfl dX2_readPart_66 ?_
        obtain ⟨⟨q7r, q7s⟩, q7h, h⟩ := x_bind h
        try dsimp only at h
        refine z_callV E [.int _] [] dX2_readPart_67 K_RX2_241 (x_fitC (Nat.le_of_ble_eq_true rfl) (Nat.le_of_ble_eq_true rfl)) sh_27 (by decide) rfl (c_Ru_add_27 E _ q7h) rfl rfl (Nat.le_of_ble_eq_true rfl) 70 rfl [] rfl ?_
        refine x_aload_n 71 rfl 0 dX2_readPart_70 rfl rfl ?_
        obtain ⟨⟨q8r, q8s⟩, q8h, h⟩ := x_bind h
        try dsimp only at h
        refine z_callV E [] [] dX2_readPart_71 K_RX2_118 (x_fitC (Nat.le_of_ble_eq_true rfl) (Nat.le_of_ble_eq_true rfl)) sh_2 (by decide) rfl (c_Re_advance_2 E  q8h) rfl rfl (Nat.le_of_ble_eq_true rfl) 74 rfl [] rfl ?_
        refine x_iconst 75 rfl (v := 1) dX2_readPart_74 (by decide) ?_
        cases h
        exact x_zret (Or.inr rfl) dX2_readPart_75 rfl rfl rfl
      · replace h := x_ifT hc h
        refine x_aload_n 56 rfl 0 dX2_readPart_55 rfl rfl ?_
        refine x_iconst 57 rfl (v := 3) dX2_readPart_56 (by decide) ?_
        obtain ⟨⟨q9r, q9s⟩, q9h, h⟩ := x_bind h
        try dsimp only at h
        refine z_callV E [.int _] [] dX2_readPart_57 K_RX2_115 (x_fitC (Nat.le_of_ble_eq_true rfl) (Nat.le_of_ble_eq_true rfl)) sh_2 (by decide) rfl (c_Re_refuse_2 E _ q9h) rfl rfl (Nat.le_of_ble_eq_true rfl) 60 rfl [.int _] rfl ?_
        obtain ⟨hz, h⟩ := x_ift h
        cases h
        exact x_zret hz dX2_readPart_60 rfl rfl rfl
  · replace h := x_ifF hc h
    refine x_aload_n 9 rfl 0 dX2_readPart_8 rfl rfl ?_
    refine x_iconst 10 rfl (v := 0) dX2_readPart_9 (by decide) ?_
    refine x_sipush 13 rfl (v := 9999) dX2_readPart_10 (by decide) ?_
    obtain ⟨⟨q10r, q10s⟩, q10h, h⟩ := x_bind h
    try dsimp only at h
    refine z_callV E [.int _, .int _] [] dX2_readPart_13 K_RX2_125 (x_fitC (Nat.le_of_ble_eq_true rfl) (Nat.le_of_ble_eq_true rfl)) sh_2 (by decide) rfl (c_Re_isNumber_2 E _ _ q10h) rfl rfl (Nat.le_of_ble_eq_true rfl) 16 rfl [.int _] rfl ?_
    refine x_if_ne 19 rfl 21 dX2_readPart_16 (by decide) (fun hc => ?_) (fun hc => ?_)
    · replace h := x_ifF hc h
      refine x_aload_n 22 rfl 1 dX2_readPart_21 rfl rfl ?_
      refine x_aload_n 23 rfl 0 dX2_readPart_22 rfl rfl ?_
      obtain ⟨⟨q11r, q11s⟩, q11h, h⟩ := x_bind h
      try dsimp only at h
      refine z_callV E [] [.ref 27] dX2_readPart_23 K_RX2_129 (x_fitC (Nat.le_of_ble_eq_true rfl) (Nat.le_of_ble_eq_true rfl)) sh_2 (by decide) rfl (c_Re_takeNumber_2 E  q11h) rfl rfl (Nat.le_of_ble_eq_true rfl) 26 rfl [.int _, .ref 27] rfl ?_
      obtain ⟨⟨q12r, q12s⟩, q12h, h⟩ := x_bind h
      try dsimp only at h
      refine z_callV E [.int _] [] dX2_readPart_26 K_RX2_241 (x_fitC (Nat.le_of_ble_eq_true rfl) (Nat.le_of_ble_eq_true rfl)) sh_27 (by decide) rfl (c_Ru_add_27 E _ q12h) rfl rfl (Nat.le_of_ble_eq_true rfl) 29 rfl [] rfl ?_
      refine x_iconst 30 rfl (v := 1) dX2_readPart_29 (by decide) ?_
      cases h
      exact x_zret (Or.inr rfl) dX2_readPart_30 rfl rfl rfl
    · replace h := x_ifT hc h
      refine x_iconst 20 rfl (v := 0) dX2_readPart_19 (by decide) ?_
      cases h
      exact x_zret (Or.inl rfl) dX2_readPart_20 rfl rfl rfl
theorem K_RX2_262 : x_KV RX2 262 M_Re_readPart 3 := ⟨⟨(List.mem_append_right _ (List.mem_of_getElem? (i := 844) (by decide +kernel))), (List.mem_append_right _ (List.mem_of_getElem? (i := 847) (by decide +kernel))), (List.mem_append_right _ (List.mem_of_getElem? (i := 2) (by decide +kernel))), ⟨by decide +kernel, by decide +kernel⟩, by decide +kernel⟩, (List.mem_append_right _ (List.mem_of_getElem? (i := 846) (by decide +kernel))), (List.mem_append_left _ (List.mem_of_getElem? (i := 40) (by decide +kernel)))⟩
abbrev M_Re_readProduct : xM := (yX2_readProduct, cX2_readProduct, 6, some .boolean, [])
theorem dX2_readProduct_0 : decode cX2_readProduct 0 = .ok (.aload_n 0, 1) := by decide +kernel
theorem dX2_readProduct_1 : decode cX2_readProduct 1 = .ok (.aload_n 1, 1) := by decide +kernel
theorem dX2_readProduct_2 : decode cX2_readProduct 2 = .ok (.iload_n 2, 1) := by decide +kernel
theorem dX2_readProduct_3 : decode cX2_readProduct 3 = .ok (.iload_n 3, 1) := by decide +kernel
theorem dX2_readProduct_4 : decode cX2_readProduct 4 = .ok (.invokevirtual 262, 3) := by decide +kernel
theorem dX2_readProduct_7 : decode cX2_readProduct 7 = .ok (.ifCond .ne 5, 3) := by decide +kernel
theorem dX2_readProduct_10 : decode cX2_readProduct 10 = .ok (.iconst 0, 1) := by decide +kernel
theorem dX2_readProduct_11 : decode cX2_readProduct 11 = .ok (.ireturn, 1) := by decide +kernel
theorem dX2_readProduct_12 : decode cX2_readProduct 12 = .ok (.iconst 0, 1) := by decide +kernel
theorem dX2_readProduct_13 : decode cX2_readProduct 13 = .ok (.istore 4, 2) := by decide +kernel
theorem dX2_readProduct_15 : decode cX2_readProduct 15 = .ok (.iload 4, 2) := by decide +kernel
theorem dX2_readProduct_17 : decode cX2_readProduct 17 = .ok (.aload_n 0, 1) := by decide +kernel
theorem dX2_readProduct_18 : decode cX2_readProduct 18 = .ok (.getfield 21, 3) := by decide +kernel
theorem dX2_readProduct_21 : decode cX2_readProduct 21 = .ok (.if_icmp .ge 67, 3) := by decide +kernel
theorem dX2_readProduct_24 : decode cX2_readProduct 24 = .ok (.aload_n 0, 1) := by decide +kernel
theorem dX2_readProduct_25 : decode cX2_readProduct 25 = .ok (.bipush 42, 2) := by decide +kernel
theorem dX2_readProduct_27 : decode cX2_readProduct 27 = .ok (.invokevirtual 121, 3) := by decide +kernel
theorem dX2_readProduct_30 : decode cX2_readProduct 30 = .ok (.ifCond .ne 12, 3) := by decide +kernel
theorem dX2_readProduct_33 : decode cX2_readProduct 33 = .ok (.aload_n 0, 1) := by decide +kernel
theorem dX2_readProduct_34 : decode cX2_readProduct 34 = .ok (.bipush 47, 2) := by decide +kernel
theorem dX2_readProduct_36 : decode cX2_readProduct 36 = .ok (.invokevirtual 121, 3) := by decide +kernel
theorem dX2_readProduct_39 : decode cX2_readProduct 39 = .ok (.ifCond .eq 49, 3) := by decide +kernel
theorem dX2_readProduct_42 : decode cX2_readProduct 42 = .ok (.aload_n 0, 1) := by decide +kernel
theorem dX2_readProduct_43 : decode cX2_readProduct 43 = .ok (.bipush 42, 2) := by decide +kernel
theorem dX2_readProduct_45 : decode cX2_readProduct 45 = .ok (.invokevirtual 121, 3) := by decide +kernel
theorem dX2_readProduct_48 : decode cX2_readProduct 48 = .ok (.ifCond .eq 8, 3) := by decide +kernel
theorem dX2_readProduct_51 : decode cX2_readProduct 51 = .ok (.bipush (-3), 2) := by decide +kernel
theorem dX2_readProduct_53 : decode cX2_readProduct 53 = .ok (.goto 5, 3) := by decide +kernel
theorem dX2_readProduct_56 : decode cX2_readProduct 56 = .ok (.bipush (-4), 2) := by decide +kernel
theorem dX2_readProduct_58 : decode cX2_readProduct 58 = .ok (.istore 5, 2) := by decide +kernel
theorem dX2_readProduct_60 : decode cX2_readProduct 60 = .ok (.aload_n 0, 1) := by decide +kernel
theorem dX2_readProduct_61 : decode cX2_readProduct 61 = .ok (.invokevirtual 118, 3) := by decide +kernel
theorem dX2_readProduct_64 : decode cX2_readProduct 64 = .ok (.aload_n 0, 1) := by decide +kernel
theorem dX2_readProduct_65 : decode cX2_readProduct 65 = .ok (.aload_n 1, 1) := by decide +kernel
theorem dX2_readProduct_66 : decode cX2_readProduct 66 = .ok (.iload_n 2, 1) := by decide +kernel
theorem dX2_readProduct_67 : decode cX2_readProduct 67 = .ok (.iload_n 3, 1) := by decide +kernel
theorem dX2_readProduct_68 : decode cX2_readProduct 68 = .ok (.invokevirtual 262, 3) := by decide +kernel
theorem dX2_readProduct_71 : decode cX2_readProduct 71 = .ok (.ifCond .ne 5, 3) := by decide +kernel
theorem dX2_readProduct_74 : decode cX2_readProduct 74 = .ok (.iconst 0, 1) := by decide +kernel
theorem dX2_readProduct_75 : decode cX2_readProduct 75 = .ok (.ireturn, 1) := by decide +kernel
theorem dX2_readProduct_76 : decode cX2_readProduct 76 = .ok (.aload_n 1, 1) := by decide +kernel
theorem dX2_readProduct_77 : decode cX2_readProduct 77 = .ok (.iload 5, 2) := by decide +kernel
theorem dX2_readProduct_79 : decode cX2_readProduct 79 = .ok (.invokevirtual 241, 3) := by decide +kernel
theorem dX2_readProduct_82 : decode cX2_readProduct 82 = .ok (.iinc 4 1, 3) := by decide +kernel
theorem dX2_readProduct_85 : decode cX2_readProduct 85 = .ok (.goto (-70), 3) := by decide +kernel
theorem dX2_readProduct_88 : decode cX2_readProduct 88 = .ok (.iconst 1, 1) := by decide +kernel
theorem dX2_readProduct_89 : decode cX2_readProduct 89 = .ok (.ireturn, 1) := by decide +kernel
def f_Re_readProduct_2_27_J58 (rec : Int32 → Int32 → xS → Option (Int32 × xS)) (v2 : Int32) (v3 : Int32) (v4 : Int32) (y0 : Int32) (σ : xS) : Option (((Int32 × xS) ⊕ (Int32 × xS)) ⊕ (Int32 × xS)) :=
  (f_Re_advance_2  σ).bind fun q1 =>
  (f_Re_readPart_2_27 rec v2 v3 q1.2).bind fun q2 =>
  if q2.1 = 0 then
    some (.inl (.inl ((0 : Int32), q2.2)))
  else
    (f_Ru_add_27 y0 q2.2).bind fun q3 =>
    let w4 := v4 + (1 : Int32)
    some (.inr (w4, q3.2))
def f_Re_readProduct_2_27_J42 (rec : Int32 → Int32 → xS → Option (Int32 × xS)) (v2 : Int32) (v3 : Int32) (v4 : Int32) (σ : xS) : Option (((Int32 × xS) ⊕ (Int32 × xS)) ⊕ (Int32 × xS)) :=
  (f_Re_isSign_2 (42 : Int32) σ).bind fun q5 =>
  if q5.1 = 0 then
    f_Re_readProduct_2_27_J58 rec v2 v3 v4 (-4 : Int32) q5.2
  else
    f_Re_readProduct_2_27_J58 rec v2 v3 v4 (-3 : Int32) q5.2
def f_Re_readProduct_2_27_L15 (rec : Int32 → Int32 → xS → Option (Int32 × xS)) (v2 : Int32) (v3 : Int32) (a : Int32 × xS) : Option (((Int32 × xS) ⊕ (Int32 × xS)) ⊕ (Int32 × xS)) :=
  let v4 := a.1; let σ := a.2;
  if σ.1 2 3 ≤ v4 then
    some (.inl (.inr (v4, σ)))
  else
    (f_Re_isSign_2 (42 : Int32) σ).bind fun q6 =>
    if q6.1 = 0 then
      (f_Re_isSign_2 (47 : Int32) q6.2).bind fun q7 =>
      if q7.1 = 0 then
        some (.inl (.inr (v4, q7.2)))
      else
        f_Re_readProduct_2_27_J42 rec v2 v3 v4 q7.2
    else
      f_Re_readProduct_2_27_J42 rec v2 v3 v4 q6.2
def f_Re_readProduct_2_27 (rec : Int32 → Int32 → xS → Option (Int32 × xS)) (v2 : Int32) (v3 : Int32) (σ : xS) : Option (Int32 × xS) :=
  (f_Re_readPart_2_27 rec v2 v3 σ).bind fun q8 =>
  if q8.1 = 0 then
    some ((0 : Int32), q8.2)
  else
    (x_it (f_Re_readProduct_2_27_L15 rec v2 v3) 10000 ((0 : Int32), q8.2)).bind fun b9 =>
    match b9 with
    | .inl b9r => some b9r
    | .inr b9e =>
      some ((1 : Int32), b9e.2)
set_option maxHeartbeats 4000000 in
set_option maxRecDepth 100000 in
theorem j_Re_readProduct_2_27_J58 {l : Launch} {s0 : State} {a0 : Array Value} {D : va_G} {cA : Nat → ClassId} {sp : Nat → Nat} (E : x_En CL l s0 a0 D cA sp) (S : x_Sw s0 sp) {dR : Nat} {rec : Int32 → Int32 → xS → Option (Int32 × xS)} (hrec : ∀ (v2 v3 : Int32) (σ : xS) (r : Int32) (σ1 : xS), rec v2 v3 σ = some (r, σ1) → zC l s0 D cA sp dR M_Re_readExpr [.ref 2, .ref 27, .int v2, .int v3] σ (some (.int r)) σ1) (v2 : Int32) (v3 : Int32) (v4 : Int32) (y0 : Int32)  (σ : xS) {r : Int32} {σ1 : xS} (o : ((Int32 × xS) ⊕ (Int32 × xS)) ⊕ (Int32 × xS)) (h : f_Re_readProduct_2_27_J58 rec v2 v3 v4 y0 σ = some o) (hK : ∀ b, o = .inl b → (∀ q, b = .inl q → q = (r, σ1)) ∧ ∀ e, b = .inr e → zW l s0 D cA sp (zQ s0 D cA sp (some (.int r)) σ1) (x_rm (dR + 4) 0 0) M_Re_readProduct 0 0 88 [none, none, none, none, none, none] [] e.2) (hG : ∀ a', o = .inr a' → zW l s0 D cA sp (zQ s0 D cA sp (some (.int r)) σ1) (x_rm (dR + 4) 0 0) M_Re_readProduct 0 0 15 [some (.ref 2), some (.ref 27), some (.int v2), some (.int v3), some (.int a'.1), none] [] a'.2) : zW l s0 D cA sp (zQ s0 D cA sp (some (.int r)) σ1) (x_rm (dR + 4) 0 0) M_Re_readProduct 0 0 58 [some (.ref 2), some (.ref 27), some (.int v2), some (.int v3), some (.int v4), none] [.int y0] σ := by
  unfold f_Re_readProduct_2_27_J58 at h
  try dsimp only at h
  refine x_istore 60 rfl dX2_readProduct_58 (by decide) [some (.ref 2), some (.ref 27), some (.int _), some (.int _), some (.int _), some (.int _)] rfl ?_
  refine x_aload_n 61 rfl 0 dX2_readProduct_60 rfl rfl ?_
  obtain ⟨⟨q1r, q1s⟩, q1h, h⟩ := x_bind h
  try dsimp only at h
  refine z_callV E [] [] dX2_readProduct_61 K_RX2_118 (x_fitC (Nat.le_of_ble_eq_true rfl) (Nat.le_of_ble_eq_true rfl)) sh_2 (by decide) rfl (c_Re_advance_2 E  q1h) rfl rfl (Nat.le_of_ble_eq_true rfl) 64 rfl [] rfl ?_
  refine x_aload_n 65 rfl 0 dX2_readProduct_64 rfl rfl ?_
  refine x_aload_n 66 rfl 1 dX2_readProduct_65 rfl rfl ?_
  refine x_iload_n 67 rfl 2 dX2_readProduct_66 rfl rfl ?_
  refine x_iload_n 68 rfl 3 dX2_readProduct_67 rfl rfl ?_
  obtain ⟨⟨q2r, q2s⟩, q2h, h⟩ := x_bind h
  try dsimp only at h
  refine z_callV E [.ref 27, .int _, .int _] [] dX2_readProduct_68 K_RX2_262 (x_fitR (a := 3) (Nat.le_of_ble_eq_true rfl) (Nat.le_of_ble_eq_true rfl)) sh_2 (by decide) rfl (c_Re_readPart_2_27 E S hrec _ _ q2h) rfl rfl (Nat.le_of_ble_eq_true rfl) 71 rfl [.int _] rfl ?_
  refine x_if_ne 74 rfl 76 dX2_readProduct_71 (by decide) (fun hc => ?_) (fun hc => ?_)
  · replace h := x_ifF hc h
    refine x_aload_n 77 rfl 1 dX2_readProduct_76 rfl rfl ?_
    refine x_iload 79 rfl dX2_readProduct_77 rfl ?_
    obtain ⟨⟨q3r, q3s⟩, q3h, h⟩ := x_bind h
    try dsimp only at h
    refine z_callV E [.int _] [] dX2_readProduct_79 K_RX2_241 (x_fitC (Nat.le_of_ble_eq_true rfl) (Nat.le_of_ble_eq_true rfl)) sh_27 (by decide) rfl (c_Ru_add_27 E _ q3h) rfl rfl (Nat.le_of_ble_eq_true rfl) 82 rfl [] rfl ?_
    refine x_iinc 85 rfl (1) dX2_readProduct_82 rfl (by decide) (by decide) [some (.ref 2), some (.ref 27), some (.int _), some (.int _), some (.int _), some (.int _)] rfl ?_
    refine x_goto 15 dX2_readProduct_85 (by decide) ?_
    cases h
    exact x_wk (x_le_s (x_le_s (x_le_s (x_le_s (x_le_s (x_le_n x_le_0)))))) (hG (_, _) rfl)
  · replace h := x_ifT hc h
    refine x_iconst 75 rfl (v := 0) dX2_readProduct_74 (by decide) ?_
    cases h
    cases (hK (.inl (_, _)) rfl).1 (_, _) rfl
    exact x_zret (Or.inl rfl) dX2_readProduct_75 rfl rfl rfl
set_option maxHeartbeats 4000000 in
set_option maxRecDepth 100000 in
theorem j_Re_readProduct_2_27_J42 {l : Launch} {s0 : State} {a0 : Array Value} {D : va_G} {cA : Nat → ClassId} {sp : Nat → Nat} (E : x_En CL l s0 a0 D cA sp) (S : x_Sw s0 sp) {dR : Nat} {rec : Int32 → Int32 → xS → Option (Int32 × xS)} (hrec : ∀ (v2 v3 : Int32) (σ : xS) (r : Int32) (σ1 : xS), rec v2 v3 σ = some (r, σ1) → zC l s0 D cA sp dR M_Re_readExpr [.ref 2, .ref 27, .int v2, .int v3] σ (some (.int r)) σ1) (v2 : Int32) (v3 : Int32) (v4 : Int32)  (σ : xS) {r : Int32} {σ1 : xS} (o : ((Int32 × xS) ⊕ (Int32 × xS)) ⊕ (Int32 × xS)) (h : f_Re_readProduct_2_27_J42 rec v2 v3 v4 σ = some o) (hK : ∀ b, o = .inl b → (∀ q, b = .inl q → q = (r, σ1)) ∧ ∀ e, b = .inr e → zW l s0 D cA sp (zQ s0 D cA sp (some (.int r)) σ1) (x_rm (dR + 4) 0 0) M_Re_readProduct 0 0 88 [none, none, none, none, none, none] [] e.2) (hG : ∀ a', o = .inr a' → zW l s0 D cA sp (zQ s0 D cA sp (some (.int r)) σ1) (x_rm (dR + 4) 0 0) M_Re_readProduct 0 0 15 [some (.ref 2), some (.ref 27), some (.int v2), some (.int v3), some (.int a'.1), none] [] a'.2) : zW l s0 D cA sp (zQ s0 D cA sp (some (.int r)) σ1) (x_rm (dR + 4) 0 0) M_Re_readProduct 0 0 42 [some (.ref 2), some (.ref 27), some (.int v2), some (.int v3), some (.int v4), none] [] σ := by
  unfold f_Re_readProduct_2_27_J42 at h
  try dsimp only at h
  refine x_aload_n 43 rfl 0 dX2_readProduct_42 rfl rfl ?_
  refine x_bipush 45 rfl (v := 42) dX2_readProduct_43 (by decide) ?_
  obtain ⟨⟨q5r, q5s⟩, q5h, h⟩ := x_bind h
  try dsimp only at h
  refine z_callV E [.int _] [] dX2_readProduct_45 K_RX2_121 (x_fitC (Nat.le_of_ble_eq_true rfl) (Nat.le_of_ble_eq_true rfl)) sh_2 (by decide) rfl (c_Re_isSign_2 E _ q5h) rfl rfl (Nat.le_of_ble_eq_true rfl) 48 rfl [.int _] rfl ?_
  refine x_if_eq 51 rfl 56 dX2_readProduct_48 (by decide) (fun hc => ?_) (fun hc => ?_)
  · replace h := x_ifT hc h
    refine x_bipush 58 rfl (v := -4) dX2_readProduct_56 (by decide) ?_
    exact x_wk (x_le_s (x_le_s (x_le_s (x_le_s (x_le_s (x_le_n x_le_0)))))) (j_Re_readProduct_2_27_J58 (r := r) (σ1 := σ1) E S hrec _ _ _ _  _ _ h hK hG)
  · replace h := x_ifF hc h
    refine x_bipush 53 rfl (v := -3) dX2_readProduct_51 (by decide) ?_
    refine x_goto 58 dX2_readProduct_53 (by decide) ?_
    exact x_wk (x_le_s (x_le_s (x_le_s (x_le_s (x_le_s (x_le_n x_le_0)))))) (j_Re_readProduct_2_27_J58 (r := r) (σ1 := σ1) E S hrec _ _ _ _  _ _ h hK hG)
set_option maxHeartbeats 4000000 in
set_option maxRecDepth 100000 in
theorem b_Re_readProduct_2_27_L15 {l : Launch} {s0 : State} {a0 : Array Value} {D : va_G} {cA : Nat → ClassId} {sp : Nat → Nat} (E : x_En CL l s0 a0 D cA sp) (S : x_Sw s0 sp) {dR : Nat} {rec : Int32 → Int32 → xS → Option (Int32 × xS)} (hrec : ∀ (v2 v3 : Int32) (σ : xS) (r : Int32) (σ1 : xS), rec v2 v3 σ = some (r, σ1) → zC l s0 D cA sp dR M_Re_readExpr [.ref 2, .ref 27, .int v2, .int v3] σ (some (.int r)) σ1) (v2 : Int32) (v3 : Int32) {r : Int32} {σ1 : xS} (a : Int32 × xS) (o : ((Int32 × xS) ⊕ (Int32 × xS)) ⊕ (Int32 × xS)) (h : f_Re_readProduct_2_27_L15 rec v2 v3 a = some o) (hK : ∀ b, o = .inl b → (∀ q, b = .inl q → q = (r, σ1)) ∧ ∀ e, b = .inr e → zW l s0 D cA sp (zQ s0 D cA sp (some (.int r)) σ1) (x_rm (dR + 4) 0 0) M_Re_readProduct 0 0 88 [none, none, none, none, none, none] [] e.2) (hG : ∀ a', o = .inr a' → zW l s0 D cA sp (zQ s0 D cA sp (some (.int r)) σ1) (x_rm (dR + 4) 0 0) M_Re_readProduct 0 0 15 [some (.ref 2), some (.ref 27), some (.int v2), some (.int v3), some (.int a'.1), none] [] a'.2) : zW l s0 D cA sp (zQ s0 D cA sp (some (.int r)) σ1) (x_rm (dR + 4) 0 0) M_Re_readProduct 0 0 15 [some (.ref 2), some (.ref 27), some (.int v2), some (.int v3), some (.int a.1), none] [] a.2 := by
  obtain ⟨v4, σ⟩ := a
  unfold f_Re_readProduct_2_27_L15 at h
  try dsimp only at h ⊢
  refine x_iload 17 rfl dX2_readProduct_15 rfl ?_
  refine x_aload_n 18 rfl 0 dX2_readProduct_17 rfl rfl ?_
  refine x_getI E dX2_readProduct_18 F_RX2_21 sh_2 21 rfl ?_
  refine x_icmp_ge 24 rfl 88 dX2_readProduct_21 (by decide) (fun hc => ?_) (fun hc => ?_)
  · replace h := x_ifT hc h
    cases h
    exact x_wk (x_le_n (x_le_n (x_le_n (x_le_n (x_le_n (x_le_n x_le_0)))))) ((hK (.inr (_, _)) rfl).2 (_, _) rfl)
  · replace h := x_ifF hc h
    refine x_aload_n 25 rfl 0 dX2_readProduct_24 rfl rfl ?_
    refine x_bipush 27 rfl (v := 42) dX2_readProduct_25 (by decide) ?_
    obtain ⟨⟨q6r, q6s⟩, q6h, h⟩ := x_bind h
    try dsimp only at h
    refine z_callV E [.int _] [] dX2_readProduct_27 K_RX2_121 (x_fitC (Nat.le_of_ble_eq_true rfl) (Nat.le_of_ble_eq_true rfl)) sh_2 (by decide) rfl (c_Re_isSign_2 E _ q6h) rfl rfl (Nat.le_of_ble_eq_true rfl) 30 rfl [.int _] rfl ?_
    refine x_if_ne 33 rfl 42 dX2_readProduct_30 (by decide) (fun hc => ?_) (fun hc => ?_)
    · replace h := x_ifF hc h
      exact x_wk (x_le_s (x_le_s (x_le_s (x_le_s (x_le_s (x_le_n x_le_0)))))) (j_Re_readProduct_2_27_J42 (r := r) (σ1 := σ1) E S hrec _ _ _  _ _ h hK hG)
    · replace h := x_ifT hc h
      refine x_aload_n 34 rfl 0 dX2_readProduct_33 rfl rfl ?_
      refine x_bipush 36 rfl (v := 47) dX2_readProduct_34 (by decide) ?_
      obtain ⟨⟨q7r, q7s⟩, q7h, h⟩ := x_bind h
      try dsimp only at h
      refine z_callV E [.int _] [] dX2_readProduct_36 K_RX2_121 (x_fitC (Nat.le_of_ble_eq_true rfl) (Nat.le_of_ble_eq_true rfl)) sh_2 (by decide) rfl (c_Re_isSign_2 E _ q7h) rfl rfl (Nat.le_of_ble_eq_true rfl) 39 rfl [.int _] rfl ?_
      refine x_if_eq 42 rfl 88 dX2_readProduct_39 (by decide) (fun hc => ?_) (fun hc => ?_)
      · replace h := x_ifT hc h
        cases h
        exact x_wk (x_le_n (x_le_n (x_le_n (x_le_n (x_le_n (x_le_n x_le_0)))))) ((hK (.inr (_, _)) rfl).2 (_, _) rfl)
      · replace h := x_ifF hc h
        exact x_wk (x_le_s (x_le_s (x_le_s (x_le_s (x_le_s (x_le_n x_le_0)))))) (j_Re_readProduct_2_27_J42 (r := r) (σ1 := σ1) E S hrec _ _ _  _ _ h hK hG)
set_option maxHeartbeats 4000000 in
set_option maxRecDepth 100000 in
theorem c_Re_readProduct_2_27 {l : Launch} {s0 : State} {a0 : Array Value} {D : va_G} {cA : Nat → ClassId} {sp : Nat → Nat} (E : x_En CL l s0 a0 D cA sp) (S : x_Sw s0 sp) {dR : Nat} {rec : Int32 → Int32 → xS → Option (Int32 × xS)} (hrec : ∀ (v2 v3 : Int32) (σ : xS) (r : Int32) (σ1 : xS), rec v2 v3 σ = some (r, σ1) → zC l s0 D cA sp dR M_Re_readExpr [.ref 2, .ref 27, .int v2, .int v3] σ (some (.int r)) σ1) (v2 : Int32) (v3 : Int32) {σ : xS} {r : Int32} {σ1 : xS} (h : f_Re_readProduct_2_27 rec v2 v3 σ = some (r, σ1)) : zC l s0 D cA sp (dR + 4) M_Re_readProduct [.ref 2, .ref 27, .int v2, .int v3] σ (some (.int r)) σ1 := by
  unfold f_Re_readProduct_2_27 at h
  try dsimp only at h
  refine x_enter [some (.ref 2), some (.ref 27), some (.int v2), some (.int v3), none, none] rfl (Nat.le_of_ble_eq_true rfl) (by decide +kernel) rfl ?_
  refine x_aload_n 1 rfl 0 dX2_readProduct_0 rfl rfl ?_
  refine x_aload_n 2 rfl 1 dX2_readProduct_1 rfl rfl ?_
  refine x_iload_n 3 rfl 2 dX2_readProduct_2 rfl rfl ?_
  refine x_iload_n 4 rfl 3 dX2_readProduct_3 rfl rfl ?_
  obtain ⟨⟨q8r, q8s⟩, q8h, h⟩ := x_bind h
  try dsimp only at h
  refine z_callV E [.ref 27, .int _, .int _] [] dX2_readProduct_4 K_RX2_262 (x_fitR (a := 3) (Nat.le_of_ble_eq_true rfl) (Nat.le_of_ble_eq_true rfl)) sh_2 (by decide) rfl (c_Re_readPart_2_27 E S hrec _ _ q8h) rfl rfl (Nat.le_of_ble_eq_true rfl) 7 rfl [.int _] rfl ?_
  refine x_if_ne 10 rfl 12 dX2_readProduct_7 (by decide) (fun hc => ?_) (fun hc => ?_)
  · replace h := x_ifF hc h
    refine x_iconst 13 rfl (v := 0) dX2_readProduct_12 (by decide) ?_
    refine x_istore 15 rfl dX2_readProduct_13 (by decide) [some (.ref 2), some (.ref 27), some (.int _), some (.int _), some (.int _), none] rfl ?_
    obtain ⟨b9, b9h, h⟩ := x_bind h
    try dsimp only at h
    refine x_wk (x_le_s (x_le_s (x_le_s (x_le_s (x_le_s (x_le_n x_le_0)))))) (x_loop (fun a o h hK hG => b_Re_readProduct_2_27_L15 (r := r) (σ1 := σ1) E S hrec _ _ a o h hK hG) _ _ _ b9h ?_)
    cases b9 with
    | inl b9r =>
      try dsimp only at h
      cases h
      exact ⟨fun q e => (by cases e; rfl), fun e he => (by cases he)⟩
    | inr b9e =>
      try dsimp only at h
      refine ⟨fun q e => (by cases e), fun e he => ?_⟩
      cases he
      refine x_iconst 89 rfl (v := 1) dX2_readProduct_88 (by decide) ?_
      cases h
      exact x_zret (Or.inr rfl) dX2_readProduct_89 rfl rfl rfl
  · replace h := x_ifT hc h
    refine x_iconst 11 rfl (v := 0) dX2_readProduct_10 (by decide) ?_
    cases h
    exact x_zret (Or.inl rfl) dX2_readProduct_11 rfl rfl rfl
