/-! The reference's methods: functions and contracts. Written by wip/gen/emit.py. -/
theorem K_RX9_424 : x_KV RX9 424 M_Mo_isShown 1 := ⟨⟨(List.mem_append_right _ (List.mem_of_getElem? (i := 1718) (by decide +kernel))), (List.mem_append_right _ (List.mem_of_getElem? (i := 1721) (by decide +kernel))), (List.mem_append_right _ (List.mem_of_getElem? (i := 9) (by decide +kernel))), ⟨by decide +kernel, by decide +kernel⟩, by decide +kernel⟩, (List.mem_append_right _ (List.mem_of_getElem? (i := 1720) (by decide +kernel))), (List.mem_append_left _ (List.mem_of_getElem? (i := 91) (by decide +kernel)))⟩
abbrev M_Mo_tenth : xM := (yX9_tenth, cX9_tenth, 3, some .int, [])
theorem dX9_tenth_0 : decode cX9_tenth 0 = .ok (.aload_n 0, 1) := by decide +kernel
theorem dX9_tenth_1 : decode cX9_tenth 1 = .ok (.iconst 0, 1) := by decide +kernel
theorem dX9_tenth_2 : decode cX9_tenth 2 = .ok (.putfield 132, 3) := by decide +kernel
theorem dX9_tenth_5 : decode cX9_tenth 5 = .ok (.aload_n 0, 1) := by decide +kernel
theorem dX9_tenth_6 : decode cX9_tenth 6 = .ok (.iload_n 1, 1) := by decide +kernel
theorem dX9_tenth_7 : decode cX9_tenth 7 = .ok (.invokevirtual 418, 3) := by decide +kernel
theorem dX9_tenth_10 : decode cX9_tenth 10 = .ok (.ifCond .eq 12, 3) := by decide +kernel
theorem dX9_tenth_13 : decode cX9_tenth 13 = .ok (.aload_n 0, 1) := by decide +kernel
theorem dX9_tenth_14 : decode cX9_tenth 14 = .ok (.iload_n 2, 1) := by decide +kernel
theorem dX9_tenth_15 : decode cX9_tenth 15 = .ok (.iconst 5, 1) := by decide +kernel
theorem dX9_tenth_16 : decode cX9_tenth 16 = .ok (.invokevirtual 421, 3) := by decide +kernel
theorem dX9_tenth_19 : decode cX9_tenth 19 = .ok (.ifCond .ne 5, 3) := by decide +kernel
theorem dX9_tenth_22 : decode cX9_tenth 22 = .ok (.iconst 0, 1) := by decide +kernel
theorem dX9_tenth_23 : decode cX9_tenth 23 = .ok (.ireturn, 1) := by decide +kernel
theorem dX9_tenth_24 : decode cX9_tenth 24 = .ok (.aload_n 0, 1) := by decide +kernel
theorem dX9_tenth_25 : decode cX9_tenth 25 = .ok (.invokevirtual 408, 3) := by decide +kernel
theorem dX9_tenth_28 : decode cX9_tenth 28 = .ok (.iload_n 2, 1) := by decide +kernel
theorem dX9_tenth_29 : decode cX9_tenth 29 = .ok (.tableswitch 76 0 4 #[35, 41, 48, 55, 62], 35) := by decide +kernel
theorem dX9_tenth_64 : decode cX9_tenth 64 = .ok (.aload_n 0, 1) := by decide +kernel
theorem dX9_tenth_65 : decode cX9_tenth 65 = .ok (.iload_n 1, 1) := by decide +kernel
theorem dX9_tenth_66 : decode cX9_tenth 66 = .ok (.invokevirtual 399, 3) := by decide +kernel
theorem dX9_tenth_69 : decode cX9_tenth 69 = .ok (.ireturn, 1) := by decide +kernel
theorem dX9_tenth_70 : decode cX9_tenth 70 = .ok (.aload_n 0, 1) := by decide +kernel
theorem dX9_tenth_71 : decode cX9_tenth 71 = .ok (.getfield 93, 3) := by decide +kernel
theorem dX9_tenth_74 : decode cX9_tenth 74 = .ok (.iload_n 1, 1) := by decide +kernel
theorem dX9_tenth_75 : decode cX9_tenth 75 = .ok (.iaload, 1) := by decide +kernel
theorem dX9_tenth_76 : decode cX9_tenth 76 = .ok (.ireturn, 1) := by decide +kernel
theorem dX9_tenth_77 : decode cX9_tenth 77 = .ok (.aload_n 0, 1) := by decide +kernel
theorem dX9_tenth_78 : decode cX9_tenth 78 = .ok (.getfield 96, 3) := by decide +kernel
theorem dX9_tenth_81 : decode cX9_tenth 81 = .ok (.iload_n 1, 1) := by decide +kernel
theorem dX9_tenth_82 : decode cX9_tenth 82 = .ok (.iaload, 1) := by decide +kernel
theorem dX9_tenth_83 : decode cX9_tenth 83 = .ok (.ireturn, 1) := by decide +kernel
theorem dX9_tenth_84 : decode cX9_tenth 84 = .ok (.aload_n 0, 1) := by decide +kernel
theorem dX9_tenth_85 : decode cX9_tenth 85 = .ok (.getfield 99, 3) := by decide +kernel
theorem dX9_tenth_88 : decode cX9_tenth 88 = .ok (.iload_n 1, 1) := by decide +kernel
theorem dX9_tenth_89 : decode cX9_tenth 89 = .ok (.iaload, 1) := by decide +kernel
theorem dX9_tenth_90 : decode cX9_tenth 90 = .ok (.ireturn, 1) := by decide +kernel
theorem dX9_tenth_91 : decode cX9_tenth 91 = .ok (.aload_n 0, 1) := by decide +kernel
theorem dX9_tenth_92 : decode cX9_tenth 92 = .ok (.iload_n 1, 1) := by decide +kernel
theorem dX9_tenth_93 : decode cX9_tenth 93 = .ok (.invokevirtual 405, 3) := by decide +kernel
theorem dX9_tenth_96 : decode cX9_tenth 96 = .ok (.ifCond .eq 7, 3) := by decide +kernel
theorem dX9_tenth_99 : decode cX9_tenth 99 = .ok (.iconst 1, 1) := by decide +kernel
theorem dX9_tenth_100 : decode cX9_tenth 100 = .ok (.goto 4, 3) := by decide +kernel
theorem dX9_tenth_103 : decode cX9_tenth 103 = .ok (.iconst 0, 1) := by decide +kernel
theorem dX9_tenth_104 : decode cX9_tenth 104 = .ok (.ireturn, 1) := by decide +kernel
theorem dX9_tenth_105 : decode cX9_tenth 105 = .ok (.aload_n 0, 1) := by decide +kernel
theorem dX9_tenth_106 : decode cX9_tenth 106 = .ok (.iload_n 1, 1) := by decide +kernel
theorem dX9_tenth_107 : decode cX9_tenth 107 = .ok (.invokevirtual 424, 3) := by decide +kernel
theorem dX9_tenth_110 : decode cX9_tenth 110 = .ok (.ifCond .eq 7, 3) := by decide +kernel
theorem dX9_tenth_113 : decode cX9_tenth 113 = .ok (.iconst 1, 1) := by decide +kernel
theorem dX9_tenth_114 : decode cX9_tenth 114 = .ok (.goto 4, 3) := by decide +kernel
theorem dX9_tenth_117 : decode cX9_tenth 117 = .ok (.iconst 0, 1) := by decide +kernel
theorem dX9_tenth_118 : decode cX9_tenth 118 = .ok (.ireturn, 1) := by decide +kernel
def f_Mo_tenth_60 (v1 : Int32) (v2 : Int32) (σ : xS) : Option (Int32 × xS) :=
  let σ1 := x_pI σ 60 0 (0 : Int32)
  (f_Mo_isTenth_60 v1 σ1).bind fun q2 =>
  if q2.1 = 0 then
    some ((0 : Int32), q2.2)
  else
    (f_Mo_isWhat_60 v2 (5 : Int32) q2.2).bind fun q3 =>
    if q3.1 = 0 then
      some ((0 : Int32), q3.2)
    else
      (f_Mo_goesThrough_60  q3.2).bind fun q4 =>
      if v2 = (0 : Int32) then
        (f_Mo_whoseIn_60 v1 q4.2).bind fun q5 =>
        some (q5.1, q5.2)
      else if v2 = (1 : Int32) then
        if v1 < 0 ∨ 601 ≤ v1.toNatClampNeg then none else
        some (q4.2.1 84 v1.toNatClampNeg, q4.2)
      else if v2 = (2 : Int32) then
        if v1 < 0 ∨ 601 ≤ v1.toNatClampNeg then none else
        some (q4.2.1 85 v1.toNatClampNeg, q4.2)
      else if v2 = (3 : Int32) then
        if v1 < 0 ∨ 601 ≤ v1.toNatClampNeg then none else
        some (q4.2.1 86 v1.toNatClampNeg, q4.2)
      else if v2 = (4 : Int32) then
        (f_Mo_isSharp_60 v1 q4.2).bind fun q6 =>
        if q6.1 = 0 then
          some ((0 : Int32), q6.2)
        else
          some ((1 : Int32), q6.2)
      else 
        (f_Mo_isShown_60 v1 q4.2).bind fun q7 =>
        if q7.1 = 0 then
          some ((0 : Int32), q7.2)
        else
          some ((1 : Int32), q7.2)
set_option maxHeartbeats 4000000 in
set_option maxRecDepth 100000 in
theorem c_Mo_tenth_60 {l : Launch} {s0 : State} {a0 : Array Value} {D : va_G} {cA : Nat → ClassId} {sp : Nat → Nat} (E : x_En CL l s0 a0 D cA sp) (v1 : Int32) (v2 : Int32) {σ : xS} {r : Int32} {σ1 : xS} (h : f_Mo_tenth_60 v1 v2 σ = some (r, σ1)) : zC l s0 D cA sp 5 M_Mo_tenth [.ref 60, .int v1, .int v2] σ (some (.int r)) σ1 := by
  unfold f_Mo_tenth_60 at h
  try dsimp only at h
  refine x_enter [some (.ref 60), some (.int v1), some (.int v2)] rfl (Nat.le_of_ble_eq_true rfl) (by decide +kernel) rfl ?_
  refine x_aload_n 1 rfl 0 dX9_tenth_0 rfl rfl ?_
  refine x_iconst 2 rfl (v := 0) dX9_tenth_1 (by decide) ?_
  refine x_putI E dX9_tenth_2 F_RX9_132 sh_60 5 rfl ?_
  refine x_aload_n 6 rfl 0 dX9_tenth_5 rfl rfl ?_
  refine x_iload_n 7 rfl 1 dX9_tenth_6 rfl rfl ?_
  obtain ⟨⟨q2r, q2s⟩, q2h, h⟩ := x_bind h
  try dsimp only at h
  refine z_callV E [.int _] [] dX9_tenth_7 K_RX9_418 ⟨Nat.le_of_ble_eq_true rfl, Nat.le_of_ble_eq_true rfl⟩ sh_60 (by decide) rfl (c_Mo_isTenth_60 E _ q2h) rfl rfl (Nat.le_of_ble_eq_true rfl) 10 rfl [.int _] rfl ?_
  refine x_if_eq 13 rfl 22 dX9_tenth_10 (by decide) (fun hc => ?_) (fun hc => ?_)
  · replace h := x_ifT hc h
    refine x_iconst 23 rfl (v := 0) dX9_tenth_22 (by decide) ?_
    cases h
    exact x_iret dX9_tenth_23 rfl rfl rfl
  · replace h := x_ifF hc h
    refine x_aload_n 14 rfl 0 dX9_tenth_13 rfl rfl ?_
    refine x_iload_n 15 rfl 2 dX9_tenth_14 rfl rfl ?_
    refine x_iconst 16 rfl (v := 5) dX9_tenth_15 (by decide) ?_
    obtain ⟨⟨q3r, q3s⟩, q3h, h⟩ := x_bind h
    try dsimp only at h
    refine z_callV E [.int _, .int _] [] dX9_tenth_16 K_RX9_421 ⟨Nat.le_of_ble_eq_true rfl, Nat.le_of_ble_eq_true rfl⟩ sh_60 (by decide) rfl (c_Mo_isWhat_60 E _ _ q3h) rfl rfl (Nat.le_of_ble_eq_true rfl) 19 rfl [.int _] rfl ?_
    refine x_if_ne 22 rfl 24 dX9_tenth_19 (by decide) (fun hc => ?_) (fun hc => ?_)
    · replace h := x_ifF hc h
      refine x_aload_n 25 rfl 0 dX9_tenth_24 rfl rfl ?_
      obtain ⟨⟨q4r, q4s⟩, q4h, h⟩ := x_bind h
      try dsimp only at h
      refine z_callV E [] [] dX9_tenth_25 K_RX9_408 ⟨Nat.le_of_ble_eq_true rfl, Nat.le_of_ble_eq_true rfl⟩ sh_60 (by decide) rfl (c_Mo_goesThrough_60 E  q4h) rfl rfl (Nat.le_of_ble_eq_true rfl) 28 rfl [] rfl ?_
      refine x_iload_n 29 rfl 2 dX9_tenth_28 rfl rfl ?_
      refine x_case (0) (fun hc0 => ?_) (fun hc0 => ?_)
      · replace h := x_ifT hc0 h
        refine x_tabIn (off := 35) 64 dX9_tenth_29 (by rw [hc0]; decide) (by rw [hc0]; decide) (by rw [hc0]; rfl) (by decide) ?_
        refine x_aload_n 65 rfl 0 dX9_tenth_64 rfl rfl ?_
        refine x_iload_n 66 rfl 1 dX9_tenth_65 rfl rfl ?_
        obtain ⟨⟨q5r, q5s⟩, q5h, h⟩ := x_bind h
        try dsimp only at h
        refine z_callV E [.int _] [] dX9_tenth_66 K_RX9_399 ⟨Nat.le_of_ble_eq_true rfl, Nat.le_of_ble_eq_true rfl⟩ sh_60 (by decide) rfl (c_Mo_whoseIn_60 E _ q5h) rfl rfl (Nat.le_of_ble_eq_true rfl) 69 rfl [.int _] rfl ?_
        cases h
        exact x_iret dX9_tenth_69 rfl rfl rfl
      replace h := x_ifF hc0 h
      refine x_case (1) (fun hc1 => ?_) (fun hc1 => ?_)
      · replace h := x_ifT hc1 h
        refine x_tabIn (off := 41) 70 dX9_tenth_29 (by rw [hc1]; decide) (by rw [hc1]; decide) (by rw [hc1]; rfl) (by decide) ?_
        refine x_aload_n 71 rfl 0 dX9_tenth_70 rfl rfl ?_
        refine x_getR E dX9_tenth_71 F_RX9_93 sh_60 rf_60_61 74 rfl ?_
        refine x_iload_n 75 rfl 1 dX9_tenth_74 rfl rfl ?_
        obtain ⟨hz, h⟩ := x_ifn h
        refine x_iald E dX9_tenth_75 sh_84 _ rfl hz 76 rfl ?_
        cases h
        exact x_iret dX9_tenth_76 rfl rfl rfl
      replace h := x_ifF hc1 h
      refine x_case (2) (fun hc2 => ?_) (fun hc2 => ?_)
      · replace h := x_ifT hc2 h
        refine x_tabIn (off := 48) 77 dX9_tenth_29 (by rw [hc2]; decide) (by rw [hc2]; decide) (by rw [hc2]; rfl) (by decide) ?_
        refine x_aload_n 78 rfl 0 dX9_tenth_77 rfl rfl ?_
        refine x_getR E dX9_tenth_78 F_RX9_96 sh_60 rf_60_62 81 rfl ?_
        refine x_iload_n 82 rfl 1 dX9_tenth_81 rfl rfl ?_
        obtain ⟨hz, h⟩ := x_ifn h
        refine x_iald E dX9_tenth_82 sh_85 _ rfl hz 83 rfl ?_
        cases h
        exact x_iret dX9_tenth_83 rfl rfl rfl
      replace h := x_ifF hc2 h
      refine x_case (3) (fun hc3 => ?_) (fun hc3 => ?_)
      · replace h := x_ifT hc3 h
        refine x_tabIn (off := 55) 84 dX9_tenth_29 (by rw [hc3]; decide) (by rw [hc3]; decide) (by rw [hc3]; rfl) (by decide) ?_
        refine x_aload_n 85 rfl 0 dX9_tenth_84 rfl rfl ?_
        refine x_getR E dX9_tenth_85 F_RX9_99 sh_60 rf_60_63 88 rfl ?_
        refine x_iload_n 89 rfl 1 dX9_tenth_88 rfl rfl ?_
        obtain ⟨hz, h⟩ := x_ifn h
        refine x_iald E dX9_tenth_89 sh_86 _ rfl hz 90 rfl ?_
        cases h
        exact x_iret dX9_tenth_90 rfl rfl rfl
      replace h := x_ifF hc3 h
      refine x_case (4) (fun hc4 => ?_) (fun hc4 => ?_)
      · replace h := x_ifT hc4 h
        refine x_tabIn (off := 62) 91 dX9_tenth_29 (by rw [hc4]; decide) (by rw [hc4]; decide) (by rw [hc4]; rfl) (by decide) ?_
        refine x_aload_n 92 rfl 0 dX9_tenth_91 rfl rfl ?_
        refine x_iload_n 93 rfl 1 dX9_tenth_92 rfl rfl ?_
        obtain ⟨⟨q6r, q6s⟩, q6h, h⟩ := x_bind h
        try dsimp only at h
        refine z_callV E [.int _] [] dX9_tenth_93 K_RX9_405 ⟨Nat.le_of_ble_eq_true rfl, Nat.le_of_ble_eq_true rfl⟩ sh_60 (by decide) rfl (c_Mo_isSharp_60 E _ q6h) rfl rfl (Nat.le_of_ble_eq_true rfl) 96 rfl [.int _] rfl ?_
        refine x_if_eq 99 rfl 103 dX9_tenth_96 (by decide) (fun hc => ?_) (fun hc => ?_)
        · replace h := x_ifT hc h
          refine x_iconst 104 rfl (v := 0) dX9_tenth_103 (by decide) ?_
          cases h
          exact x_iret dX9_tenth_104 rfl rfl rfl
        · replace h := x_ifF hc h
          refine x_iconst 100 rfl (v := 1) dX9_tenth_99 (by decide) ?_
          refine x_goto 104 dX9_tenth_100 (by decide) ?_
          cases h
          exact x_iret dX9_tenth_104 rfl rfl rfl
      replace h := x_ifF hc4 h
      refine x_tabOut 105 dX9_tenth_29 (by have g0 := x_toNe hc0 (k := 0) (by decide); have g1 := x_toNe hc1 (k := 1) (by decide); have g2 := x_toNe hc2 (k := 2) (by decide); have g3 := x_toNe hc3 (k := 3) (by decide); have g4 := x_toNe hc4 (k := 4) (by decide); omega) (by decide) ?_
      refine x_aload_n 106 rfl 0 dX9_tenth_105 rfl rfl ?_
      refine x_iload_n 107 rfl 1 dX9_tenth_106 rfl rfl ?_
      obtain ⟨⟨q7r, q7s⟩, q7h, h⟩ := x_bind h
      try dsimp only at h
      refine z_callV E [.int _] [] dX9_tenth_107 K_RX9_424 ⟨Nat.le_of_ble_eq_true rfl, Nat.le_of_ble_eq_true rfl⟩ sh_60 (by decide) rfl (c_Mo_isShown_60 E _ q7h) rfl rfl (Nat.le_of_ble_eq_true rfl) 110 rfl [.int _] rfl ?_
      refine x_if_eq 113 rfl 117 dX9_tenth_110 (by decide) (fun hc => ?_) (fun hc => ?_)
      · replace h := x_ifT hc h
        refine x_iconst 118 rfl (v := 0) dX9_tenth_117 (by decide) ?_
        cases h
        exact x_iret dX9_tenth_118 rfl rfl rfl
      · replace h := x_ifF hc h
        refine x_iconst 114 rfl (v := 1) dX9_tenth_113 (by decide) ?_
        refine x_goto 118 dX9_tenth_114 (by decide) ?_
        cases h
        exact x_iret dX9_tenth_118 rfl rfl rfl
    · replace h := x_ifT hc h
      refine x_iconst 23 rfl (v := 0) dX9_tenth_22 (by decide) ?_
      cases h
      exact x_iret dX9_tenth_23 rfl rfl rfl
abbrev M_Mo_longestSoft : xM := (yX9_longestSoft, cX9_longestSoft, 4, some .int, [])
theorem dX9_longestSoft_0 : decode cX9_longestSoft 0 = .ok (.iconst 0, 1) := by decide +kernel
theorem dX9_longestSoft_1 : decode cX9_longestSoft 1 = .ok (.istore_n 1, 1) := by decide +kernel
theorem dX9_longestSoft_2 : decode cX9_longestSoft 2 = .ok (.iconst 0, 1) := by decide +kernel
theorem dX9_longestSoft_3 : decode cX9_longestSoft 3 = .ok (.istore_n 2, 1) := by decide +kernel
theorem dX9_longestSoft_4 : decode cX9_longestSoft 4 = .ok (.iconst 0, 1) := by decide +kernel
theorem dX9_longestSoft_5 : decode cX9_longestSoft 5 = .ok (.istore_n 3, 1) := by decide +kernel
theorem dX9_longestSoft_6 : decode cX9_longestSoft 6 = .ok (.iload_n 3, 1) := by decide +kernel
theorem dX9_longestSoft_7 : decode cX9_longestSoft 7 = .ok (.aload_n 0, 1) := by decide +kernel
theorem dX9_longestSoft_8 : decode cX9_longestSoft 8 = .ok (.invokevirtual 390, 3) := by decide +kernel
theorem dX9_longestSoft_11 : decode cX9_longestSoft 11 = .ok (.if_icmp .gt 36, 3) := by decide +kernel
theorem dX9_longestSoft_14 : decode cX9_longestSoft 14 = .ok (.aload_n 0, 1) := by decide +kernel
theorem dX9_longestSoft_15 : decode cX9_longestSoft 15 = .ok (.iload_n 3, 1) := by decide +kernel
theorem dX9_longestSoft_16 : decode cX9_longestSoft 16 = .ok (.invokevirtual 405, 3) := by decide +kernel
theorem dX9_longestSoft_19 : decode cX9_longestSoft 19 = .ok (.ifCond .eq 7, 3) := by decide +kernel
theorem dX9_longestSoft_22 : decode cX9_longestSoft 22 = .ok (.iconst 0, 1) := by decide +kernel
theorem dX9_longestSoft_23 : decode cX9_longestSoft 23 = .ok (.goto 6, 3) := by decide +kernel
theorem dX9_longestSoft_26 : decode cX9_longestSoft 26 = .ok (.iload_n 2, 1) := by decide +kernel
theorem dX9_longestSoft_27 : decode cX9_longestSoft 27 = .ok (.iconst 1, 1) := by decide +kernel
theorem dX9_longestSoft_28 : decode cX9_longestSoft 28 = .ok (.iadd, 1) := by decide +kernel
theorem dX9_longestSoft_29 : decode cX9_longestSoft 29 = .ok (.istore_n 2, 1) := by decide +kernel
theorem dX9_longestSoft_30 : decode cX9_longestSoft 30 = .ok (.iload_n 2, 1) := by decide +kernel
theorem dX9_longestSoft_31 : decode cX9_longestSoft 31 = .ok (.iload_n 1, 1) := by decide +kernel
theorem dX9_longestSoft_32 : decode cX9_longestSoft 32 = .ok (.if_icmp .le 7, 3) := by decide +kernel
theorem dX9_longestSoft_35 : decode cX9_longestSoft 35 = .ok (.iload_n 2, 1) := by decide +kernel
theorem dX9_longestSoft_36 : decode cX9_longestSoft 36 = .ok (.goto 4, 3) := by decide +kernel
theorem dX9_longestSoft_39 : decode cX9_longestSoft 39 = .ok (.iload_n 1, 1) := by decide +kernel
theorem dX9_longestSoft_40 : decode cX9_longestSoft 40 = .ok (.istore_n 1, 1) := by decide +kernel
theorem dX9_longestSoft_41 : decode cX9_longestSoft 41 = .ok (.iinc 3 1, 3) := by decide +kernel
theorem dX9_longestSoft_44 : decode cX9_longestSoft 44 = .ok (.goto (-38), 3) := by decide +kernel
theorem dX9_longestSoft_47 : decode cX9_longestSoft 47 = .ok (.iload_n 1, 1) := by decide +kernel
theorem dX9_longestSoft_48 : decode cX9_longestSoft 48 = .ok (.ireturn, 1) := by decide +kernel
def f_Mo_longestSoft_60_J29 (v1 : Int32) (v3 : Int32) (y0 : Int32) (σ : xS) : Option ((Int32 × Int32 × Int32 × xS) ⊕ (Int32 × Int32 × Int32 × xS)) :=
  if y0 ≤ v1 then
    let w1 := v3 + (1 : Int32)
    some (.inr (v1, y0, w1, σ))
  else
    let w2 := v3 + (1 : Int32)
    some (.inr (y0, y0, w2, σ))
def f_Mo_longestSoft_60_L6  (a : Int32 × Int32 × Int32 × xS) : Option ((Int32 × Int32 × Int32 × xS) ⊕ (Int32 × Int32 × Int32 × xS)) :=
  let v1 := a.1; let v2 := a.2.1; let v3 := a.2.2.1; let σ := a.2.2.2;
  (f_Mo_last_60  σ).bind fun q3 =>
  if q3.1 < v3 then
    some (.inl (v1, v2, v3, q3.2))
  else
    (f_Mo_isSharp_60 v3 q3.2).bind fun q4 =>
    if q4.1 = 0 then
      f_Mo_longestSoft_60_J29 v1 v3 (v2 + (1 : Int32)) q4.2
    else
      f_Mo_longestSoft_60_J29 v1 v3 (0 : Int32) q4.2
def f_Mo_longestSoft_60  (σ : xS) : Option (Int32 × xS) :=
  (x_it (f_Mo_longestSoft_60_L6 ) 10000 ((0 : Int32), (0 : Int32), (0 : Int32), σ)).bind fun b5 =>
  some (b5.1, b5.2.2.2)
set_option maxHeartbeats 4000000 in
set_option maxRecDepth 100000 in
theorem j_Mo_longestSoft_60_J29 {l : Launch} {s0 : State} {a0 : Array Value} {D : va_G} {cA : Nat → ClassId} {sp : Nat → Nat} (E : x_En CL l s0 a0 D cA sp) (v1 : Int32) (v3 : Int32) (y0 : Int32)  (σ : xS) {r : Int32} {σ1 : xS} (o : (Int32 × Int32 × Int32 × xS) ⊕ (Int32 × Int32 × Int32 × xS)) (h : f_Mo_longestSoft_60_J29 v1 v3 y0 σ = some o) (hK : ∀ b, o = .inl b → zW l s0 D cA sp (zQ s0 D cA sp (some (.int r)) σ1) (x_rm 2 0 0) M_Mo_longestSoft 0 0 47 [none, some (.int b.1), none, none] [] b.2.2.2) (hG : ∀ a', o = .inr a' → zW l s0 D cA sp (zQ s0 D cA sp (some (.int r)) σ1) (x_rm 2 0 0) M_Mo_longestSoft 0 0 6 [some (.ref 60), some (.int a'.1), some (.int a'.2.1), some (.int a'.2.2.1)] [] a'.2.2.2) : zW l s0 D cA sp (zQ s0 D cA sp (some (.int r)) σ1) (x_rm 2 0 0) M_Mo_longestSoft 0 0 29 [some (.ref 60), some (.int v1), none, some (.int v3)] [.int y0] σ := by
  unfold f_Mo_longestSoft_60_J29 at h
  try dsimp only at h
  refine x_istore_n 30 rfl 2 dX9_longestSoft_29 rfl (by decide) [some (.ref 60), some (.int _), some (.int _), some (.int _)] rfl ?_
  refine x_iload_n 31 rfl 2 dX9_longestSoft_30 rfl rfl ?_
  refine x_iload_n 32 rfl 1 dX9_longestSoft_31 rfl rfl ?_
  refine x_icmp_le 35 rfl 39 dX9_longestSoft_32 (by decide) (fun hc => ?_) (fun hc => ?_)
  · replace h := x_ifT hc h
    refine x_iload_n 40 rfl 1 dX9_longestSoft_39 rfl rfl ?_
    refine x_istore_n 41 rfl 1 dX9_longestSoft_40 rfl (by decide) [some (.ref 60), some (.int _), some (.int _), some (.int _)] rfl ?_
    refine x_iinc 44 rfl (1) dX9_longestSoft_41 rfl (by decide) (by decide) [some (.ref 60), some (.int _), some (.int _), some (.int _)] rfl ?_
    refine x_goto 6 dX9_longestSoft_44 (by decide) ?_
    cases h
    exact x_wk (x_le_s (x_le_s (x_le_s (x_le_s x_le_0)))) (hG (_, _, _, _) rfl)
  · replace h := x_ifF hc h
    refine x_iload_n 36 rfl 2 dX9_longestSoft_35 rfl rfl ?_
    refine x_goto 40 dX9_longestSoft_36 (by decide) ?_
    refine x_istore_n 41 rfl 1 dX9_longestSoft_40 rfl (by decide) [some (.ref 60), some (.int _), some (.int _), some (.int _)] rfl ?_
    refine x_iinc 44 rfl (1) dX9_longestSoft_41 rfl (by decide) (by decide) [some (.ref 60), some (.int _), some (.int _), some (.int _)] rfl ?_
    refine x_goto 6 dX9_longestSoft_44 (by decide) ?_
    cases h
    exact x_wk (x_le_s (x_le_s (x_le_s (x_le_s x_le_0)))) (hG (_, _, _, _) rfl)
set_option maxHeartbeats 4000000 in
set_option maxRecDepth 100000 in
theorem b_Mo_longestSoft_60_L6 {l : Launch} {s0 : State} {a0 : Array Value} {D : va_G} {cA : Nat → ClassId} {sp : Nat → Nat} (E : x_En CL l s0 a0 D cA sp)  {r : Int32} {σ1 : xS} (a : Int32 × Int32 × Int32 × xS) (o : (Int32 × Int32 × Int32 × xS) ⊕ (Int32 × Int32 × Int32 × xS)) (h : f_Mo_longestSoft_60_L6  a = some o) (hK : ∀ b, o = .inl b → zW l s0 D cA sp (zQ s0 D cA sp (some (.int r)) σ1) (x_rm 2 0 0) M_Mo_longestSoft 0 0 47 [none, some (.int b.1), none, none] [] b.2.2.2) (hG : ∀ a', o = .inr a' → zW l s0 D cA sp (zQ s0 D cA sp (some (.int r)) σ1) (x_rm 2 0 0) M_Mo_longestSoft 0 0 6 [some (.ref 60), some (.int a'.1), some (.int a'.2.1), some (.int a'.2.2.1)] [] a'.2.2.2) : zW l s0 D cA sp (zQ s0 D cA sp (some (.int r)) σ1) (x_rm 2 0 0) M_Mo_longestSoft 0 0 6 [some (.ref 60), some (.int a.1), some (.int a.2.1), some (.int a.2.2.1)] [] a.2.2.2 := by
  obtain ⟨v1, v2, v3, σ⟩ := a
  unfold f_Mo_longestSoft_60_L6 at h
  try dsimp only at h ⊢
  refine x_iload_n 7 rfl 3 dX9_longestSoft_6 rfl rfl ?_
  refine x_aload_n 8 rfl 0 dX9_longestSoft_7 rfl rfl ?_
  obtain ⟨⟨q3r, q3s⟩, q3h, h⟩ := x_bind h
  try dsimp only at h
  refine z_callV E [] [.int _] dX9_longestSoft_8 K_RX9_390 ⟨Nat.le_of_ble_eq_true rfl, Nat.le_of_ble_eq_true rfl⟩ sh_60 (by decide) rfl (c_Mo_last_60 E  q3h) rfl rfl (Nat.le_of_ble_eq_true rfl) 11 rfl [.int _, .int _] rfl ?_
  refine x_icmp_gt 14 rfl 47 dX9_longestSoft_11 (by decide) (fun hc => ?_) (fun hc => ?_)
  · replace h := x_ifT hc h
    cases h
    exact x_wk (x_le_n (x_le_s (x_le_n (x_le_n x_le_0)))) (hK (_, _, _, _) rfl)
  · replace h := x_ifF hc h
    refine x_aload_n 15 rfl 0 dX9_longestSoft_14 rfl rfl ?_
    refine x_iload_n 16 rfl 3 dX9_longestSoft_15 rfl rfl ?_
    obtain ⟨⟨q4r, q4s⟩, q4h, h⟩ := x_bind h
    try dsimp only at h
    refine z_callV E [.int _] [] dX9_longestSoft_16 K_RX9_405 ⟨Nat.le_of_ble_eq_true rfl, Nat.le_of_ble_eq_true rfl⟩ sh_60 (by decide) rfl (c_Mo_isSharp_60 E _ q4h) rfl rfl (Nat.le_of_ble_eq_true rfl) 19 rfl [.int _] rfl ?_
    refine x_if_eq 22 rfl 26 dX9_longestSoft_19 (by decide) (fun hc => ?_) (fun hc => ?_)
    · replace h := x_ifT hc h
      refine x_iload_n 27 rfl 2 dX9_longestSoft_26 rfl rfl ?_
      refine x_iconst 28 rfl (v := 1) dX9_longestSoft_27 (by decide) ?_
      refine x_iadd 29 rfl dX9_longestSoft_28 ?_
      exact x_wk (x_le_s (x_le_s (x_le_n (x_le_s x_le_0)))) (j_Mo_longestSoft_60_J29 (r := r) (σ1 := σ1) E _ _ _  _ _ h hK hG)
    · replace h := x_ifF hc h
      refine x_iconst 23 rfl (v := 0) dX9_longestSoft_22 (by decide) ?_
      refine x_goto 29 dX9_longestSoft_23 (by decide) ?_
      exact x_wk (x_le_s (x_le_s (x_le_n (x_le_s x_le_0)))) (j_Mo_longestSoft_60_J29 (r := r) (σ1 := σ1) E _ _ _  _ _ h hK hG)
set_option maxHeartbeats 4000000 in
set_option maxRecDepth 100000 in
theorem c_Mo_longestSoft_60 {l : Launch} {s0 : State} {a0 : Array Value} {D : va_G} {cA : Nat → ClassId} {sp : Nat → Nat} (E : x_En CL l s0 a0 D cA sp)  {σ : xS} {r : Int32} {σ1 : xS} (h : f_Mo_longestSoft_60  σ = some (r, σ1)) : zC l s0 D cA sp 2 M_Mo_longestSoft [.ref 60] σ (some (.int r)) σ1 := by
  unfold f_Mo_longestSoft_60 at h
  try dsimp only at h
  refine x_enter [some (.ref 60), none, none, none] rfl (Nat.le_of_ble_eq_true rfl) (by decide +kernel) rfl ?_
  refine x_iconst 1 rfl (v := 0) dX9_longestSoft_0 (by decide) ?_
  refine x_istore_n 2 rfl 1 dX9_longestSoft_1 rfl (by decide) [some (.ref 60), some (.int _), none, none] rfl ?_
  refine x_iconst 3 rfl (v := 0) dX9_longestSoft_2 (by decide) ?_
  refine x_istore_n 4 rfl 2 dX9_longestSoft_3 rfl (by decide) [some (.ref 60), some (.int _), some (.int _), none] rfl ?_
  refine x_iconst 5 rfl (v := 0) dX9_longestSoft_4 (by decide) ?_
  refine x_istore_n 6 rfl 3 dX9_longestSoft_5 rfl (by decide) [some (.ref 60), some (.int _), some (.int _), some (.int _)] rfl ?_
  obtain ⟨b5, b5h, h⟩ := x_bind h
  try dsimp only at h
  refine x_wk (x_le_s (x_le_s (x_le_s (x_le_s x_le_0)))) (x_loop (fun a o h hK hG => b_Mo_longestSoft_60_L6 (r := r) (σ1 := σ1) E  a o h hK hG) _ _ _ b5h ?_)
  refine x_iload_n 48 rfl 1 dX9_longestSoft_47 rfl rfl ?_
  cases h
  exact x_iret dX9_longestSoft_48 rfl rfl rfl
abbrev M_Mo_firstSoft : xM := (yX9_firstSoft, cX9_firstSoft, 2, some .int, [])
theorem dX9_firstSoft_0 : decode cX9_firstSoft 0 = .ok (.iconst 0, 1) := by decide +kernel
theorem dX9_firstSoft_1 : decode cX9_firstSoft 1 = .ok (.istore_n 1, 1) := by decide +kernel
theorem dX9_firstSoft_2 : decode cX9_firstSoft 2 = .ok (.iload_n 1, 1) := by decide +kernel
theorem dX9_firstSoft_3 : decode cX9_firstSoft 3 = .ok (.aload_n 0, 1) := by decide +kernel
theorem dX9_firstSoft_4 : decode cX9_firstSoft 4 = .ok (.invokevirtual 390, 3) := by decide +kernel
theorem dX9_firstSoft_7 : decode cX9_firstSoft 7 = .ok (.if_icmp .gt 19, 3) := by decide +kernel
theorem dX9_firstSoft_10 : decode cX9_firstSoft 10 = .ok (.aload_n 0, 1) := by decide +kernel
theorem dX9_firstSoft_11 : decode cX9_firstSoft 11 = .ok (.iload_n 1, 1) := by decide +kernel
theorem dX9_firstSoft_12 : decode cX9_firstSoft 12 = .ok (.invokevirtual 405, 3) := by decide +kernel
theorem dX9_firstSoft_15 : decode cX9_firstSoft 15 = .ok (.ifCond .ne 5, 3) := by decide +kernel
theorem dX9_firstSoft_18 : decode cX9_firstSoft 18 = .ok (.iload_n 1, 1) := by decide +kernel
theorem dX9_firstSoft_19 : decode cX9_firstSoft 19 = .ok (.ireturn, 1) := by decide +kernel
theorem dX9_firstSoft_20 : decode cX9_firstSoft 20 = .ok (.iinc 1 1, 3) := by decide +kernel
theorem dX9_firstSoft_23 : decode cX9_firstSoft 23 = .ok (.goto (-21), 3) := by decide +kernel
theorem dX9_firstSoft_26 : decode cX9_firstSoft 26 = .ok (.iconst (-1), 1) := by decide +kernel
theorem dX9_firstSoft_27 : decode cX9_firstSoft 27 = .ok (.ireturn, 1) := by decide +kernel
def f_Mo_firstSoft_60_L2  (a : Int32 × xS) : Option (((Int32 × xS) ⊕ (Int32 × xS)) ⊕ (Int32 × xS)) :=
  let v1 := a.1; let σ := a.2;
  (f_Mo_last_60  σ).bind fun q1 =>
  if q1.1 < v1 then
    some (.inl (.inr (v1, q1.2)))
  else
    (f_Mo_isSharp_60 v1 q1.2).bind fun q2 =>
    if q2.1 = 0 then
      some (.inl (.inl (v1, q2.2)))
    else
      let w3 := v1 + (1 : Int32)
      some (.inr (w3, q2.2))
def f_Mo_firstSoft_60  (σ : xS) : Option (Int32 × xS) :=
  (x_it (f_Mo_firstSoft_60_L2 ) 10000 ((0 : Int32), σ)).bind fun b4 =>
  match b4 with
  | .inl b4r => some b4r
  | .inr b4e =>
    some ((-1 : Int32), b4e.2)
set_option maxHeartbeats 4000000 in
set_option maxRecDepth 100000 in
theorem b_Mo_firstSoft_60_L2 {l : Launch} {s0 : State} {a0 : Array Value} {D : va_G} {cA : Nat → ClassId} {sp : Nat → Nat} (E : x_En CL l s0 a0 D cA sp)  {r : Int32} {σ1 : xS} (a : Int32 × xS) (o : ((Int32 × xS) ⊕ (Int32 × xS)) ⊕ (Int32 × xS)) (h : f_Mo_firstSoft_60_L2  a = some o) (hK : ∀ b, o = .inl b → (∀ q, b = .inl q → q = (r, σ1)) ∧ ∀ e, b = .inr e → zW l s0 D cA sp (zQ s0 D cA sp (some (.int r)) σ1) (x_rm 2 0 0) M_Mo_firstSoft 0 0 26 [none, none] [] e.2) (hG : ∀ a', o = .inr a' → zW l s0 D cA sp (zQ s0 D cA sp (some (.int r)) σ1) (x_rm 2 0 0) M_Mo_firstSoft 0 0 2 [some (.ref 60), some (.int a'.1)] [] a'.2) : zW l s0 D cA sp (zQ s0 D cA sp (some (.int r)) σ1) (x_rm 2 0 0) M_Mo_firstSoft 0 0 2 [some (.ref 60), some (.int a.1)] [] a.2 := by
  obtain ⟨v1, σ⟩ := a
  unfold f_Mo_firstSoft_60_L2 at h
  try dsimp only at h ⊢
  refine x_iload_n 3 rfl 1 dX9_firstSoft_2 rfl rfl ?_
  refine x_aload_n 4 rfl 0 dX9_firstSoft_3 rfl rfl ?_
  obtain ⟨⟨q1r, q1s⟩, q1h, h⟩ := x_bind h
  try dsimp only at h
  refine z_callV E [] [.int _] dX9_firstSoft_4 K_RX9_390 ⟨Nat.le_of_ble_eq_true rfl, Nat.le_of_ble_eq_true rfl⟩ sh_60 (by decide) rfl (c_Mo_last_60 E  q1h) rfl rfl (Nat.le_of_ble_eq_true rfl) 7 rfl [.int _, .int _] rfl ?_
  refine x_icmp_gt 10 rfl 26 dX9_firstSoft_7 (by decide) (fun hc => ?_) (fun hc => ?_)
  · replace h := x_ifT hc h
    cases h
    exact x_wk (x_le_n (x_le_n x_le_0)) ((hK (.inr (_, _)) rfl).2 (_, _) rfl)
  · replace h := x_ifF hc h
    refine x_aload_n 11 rfl 0 dX9_firstSoft_10 rfl rfl ?_
    refine x_iload_n 12 rfl 1 dX9_firstSoft_11 rfl rfl ?_
    obtain ⟨⟨q2r, q2s⟩, q2h, h⟩ := x_bind h
    try dsimp only at h
    refine z_callV E [.int _] [] dX9_firstSoft_12 K_RX9_405 ⟨Nat.le_of_ble_eq_true rfl, Nat.le_of_ble_eq_true rfl⟩ sh_60 (by decide) rfl (c_Mo_isSharp_60 E _ q2h) rfl rfl (Nat.le_of_ble_eq_true rfl) 15 rfl [.int _] rfl ?_
    refine x_if_ne 18 rfl 20 dX9_firstSoft_15 (by decide) (fun hc => ?_) (fun hc => ?_)
    · replace h := x_ifF hc h
      refine x_iinc 23 rfl (1) dX9_firstSoft_20 rfl (by decide) (by decide) [some (.ref 60), some (.int _)] rfl ?_
      refine x_goto 2 dX9_firstSoft_23 (by decide) ?_
      cases h
      exact x_wk (x_le_s (x_le_s x_le_0)) (hG (_, _) rfl)
    · replace h := x_ifT hc h
      refine x_iload_n 19 rfl 1 dX9_firstSoft_18 rfl rfl ?_
      cases h
      cases (hK (.inl (_, _)) rfl).1 (_, _) rfl
      exact x_iret dX9_firstSoft_19 rfl rfl rfl
set_option maxHeartbeats 4000000 in
set_option maxRecDepth 100000 in
theorem c_Mo_firstSoft_60 {l : Launch} {s0 : State} {a0 : Array Value} {D : va_G} {cA : Nat → ClassId} {sp : Nat → Nat} (E : x_En CL l s0 a0 D cA sp)  {σ : xS} {r : Int32} {σ1 : xS} (h : f_Mo_firstSoft_60  σ = some (r, σ1)) : zC l s0 D cA sp 2 M_Mo_firstSoft [.ref 60] σ (some (.int r)) σ1 := by
  unfold f_Mo_firstSoft_60 at h
  try dsimp only at h
  refine x_enter [some (.ref 60), none] rfl (Nat.le_of_ble_eq_true rfl) (by decide +kernel) rfl ?_
  refine x_iconst 1 rfl (v := 0) dX9_firstSoft_0 (by decide) ?_
  refine x_istore_n 2 rfl 1 dX9_firstSoft_1 rfl (by decide) [some (.ref 60), some (.int _)] rfl ?_
  obtain ⟨b4, b4h, h⟩ := x_bind h
  try dsimp only at h
  refine x_wk (x_le_s (x_le_s x_le_0)) (x_loop (fun a o h hK hG => b_Mo_firstSoft_60_L2 (r := r) (σ1 := σ1) E  a o h hK hG) _ _ _ b4h ?_)
  cases b4 with
  | inl b4r =>
    try dsimp only at h
    cases h
    exact ⟨fun q e => (by cases e; rfl), fun e he => (by cases he)⟩
  | inr b4e =>
    try dsimp only at h
    refine ⟨fun q e => (by cases e), fun e he => ?_⟩
    cases he
    refine x_iconst 27 rfl (v := -1) dX9_firstSoft_26 (by decide) ?_
    cases h
    exact x_iret dX9_firstSoft_27 rfl rfl rfl
abbrev M_Mo_swings : xM := (yX9_swings, cX9_swings, 5, some .int, [])
theorem dX9_swings_0 : decode cX9_swings 0 = .ok (.iconst 0, 1) := by decide +kernel
theorem dX9_swings_1 : decode cX9_swings 1 = .ok (.istore_n 1, 1) := by decide +kernel
theorem dX9_swings_2 : decode cX9_swings 2 = .ok (.iconst 0, 1) := by decide +kernel
theorem dX9_swings_3 : decode cX9_swings 3 = .ok (.istore_n 2, 1) := by decide +kernel
theorem dX9_swings_4 : decode cX9_swings 4 = .ok (.iconst 0, 1) := by decide +kernel
theorem dX9_swings_5 : decode cX9_swings 5 = .ok (.istore_n 3, 1) := by decide +kernel
theorem dX9_swings_6 : decode cX9_swings 6 = .ok (.iload_n 3, 1) := by decide +kernel
theorem dX9_swings_7 : decode cX9_swings 7 = .ok (.aload_n 0, 1) := by decide +kernel
theorem dX9_swings_8 : decode cX9_swings 8 = .ok (.invokevirtual 390, 3) := by decide +kernel
theorem dX9_swings_11 : decode cX9_swings 11 = .ok (.if_icmp .gt 67, 3) := by decide +kernel
theorem dX9_swings_14 : decode cX9_swings 14 = .ok (.aload_n 0, 1) := by decide +kernel
theorem dX9_swings_15 : decode cX9_swings 15 = .ok (.getfield 99, 3) := by decide +kernel
theorem dX9_swings_18 : decode cX9_swings 18 = .ok (.iload_n 3, 1) := by decide +kernel
theorem dX9_swings_19 : decode cX9_swings 19 = .ok (.iaload, 1) := by decide +kernel
theorem dX9_swings_20 : decode cX9_swings 20 = .ok (.ifCond .le 7, 3) := by decide +kernel
theorem dX9_swings_23 : decode cX9_swings 23 = .ok (.iconst 1, 1) := by decide +kernel
theorem dX9_swings_24 : decode cX9_swings 24 = .ok (.goto 17, 3) := by decide +kernel
theorem dX9_swings_27 : decode cX9_swings 27 = .ok (.aload_n 0, 1) := by decide +kernel
theorem dX9_swings_28 : decode cX9_swings 28 = .ok (.getfield 99, 3) := by decide +kernel
theorem dX9_swings_31 : decode cX9_swings 31 = .ok (.iload_n 3, 1) := by decide +kernel
theorem dX9_swings_32 : decode cX9_swings 32 = .ok (.iaload, 1) := by decide +kernel
theorem dX9_swings_33 : decode cX9_swings 33 = .ok (.ifCond .ge 7, 3) := by decide +kernel
theorem dX9_swings_36 : decode cX9_swings 36 = .ok (.iconst (-1), 1) := by decide +kernel
theorem dX9_swings_37 : decode cX9_swings 37 = .ok (.goto 4, 3) := by decide +kernel
theorem dX9_swings_40 : decode cX9_swings 40 = .ok (.iconst 0, 1) := by decide +kernel
theorem dX9_swings_41 : decode cX9_swings 41 = .ok (.istore 4, 2) := by decide +kernel
theorem dX9_swings_43 : decode cX9_swings 43 = .ok (.iload 4, 2) := by decide +kernel
theorem dX9_swings_45 : decode cX9_swings 45 = .ok (.ifCond .ne 6, 3) := by decide +kernel
theorem dX9_swings_48 : decode cX9_swings 48 = .ok (.goto 24, 3) := by decide +kernel
theorem dX9_swings_51 : decode cX9_swings 51 = .ok (.iload_n 1, 1) := by decide +kernel
theorem dX9_swings_52 : decode cX9_swings 52 = .ok (.iload_n 2, 1) := by decide +kernel
theorem dX9_swings_53 : decode cX9_swings 53 = .ok (.ifCond .eq 13, 3) := by decide +kernel
theorem dX9_swings_56 : decode cX9_swings 56 = .ok (.iload 4, 2) := by decide +kernel
theorem dX9_swings_58 : decode cX9_swings 58 = .ok (.iload_n 2, 1) := by decide +kernel
theorem dX9_swings_59 : decode cX9_swings 59 = .ok (.if_icmp .eq 7, 3) := by decide +kernel
theorem dX9_swings_62 : decode cX9_swings 62 = .ok (.iconst 1, 1) := by decide +kernel
theorem dX9_swings_63 : decode cX9_swings 63 = .ok (.goto 4, 3) := by decide +kernel
theorem dX9_swings_66 : decode cX9_swings 66 = .ok (.iconst 0, 1) := by decide +kernel
theorem dX9_swings_67 : decode cX9_swings 67 = .ok (.iadd, 1) := by decide +kernel
theorem dX9_swings_68 : decode cX9_swings 68 = .ok (.istore_n 1, 1) := by decide +kernel
theorem dX9_swings_69 : decode cX9_swings 69 = .ok (.iload 4, 2) := by decide +kernel
theorem dX9_swings_71 : decode cX9_swings 71 = .ok (.istore_n 2, 1) := by decide +kernel
theorem dX9_swings_72 : decode cX9_swings 72 = .ok (.iinc 3 1, 3) := by decide +kernel
theorem dX9_swings_75 : decode cX9_swings 75 = .ok (.goto (-69), 3) := by decide +kernel
theorem dX9_swings_78 : decode cX9_swings 78 = .ok (.iload_n 1, 1) := by decide +kernel
theorem dX9_swings_79 : decode cX9_swings 79 = .ok (.ireturn, 1) := by decide +kernel
def f_Mo_swings_60_J41 (v1 : Int32) (v2 : Int32) (v3 : Int32) (y0 : Int32) (σ : xS) : Option ((Int32 × Int32 × Int32 × xS) ⊕ (Int32 × Int32 × Int32 × xS)) :=
  if y0 = 0 then
    let w7 := v3 + (1 : Int32)
    some (.inr (v1, v2, w7, σ))
  else
    if v2 = 0 then
      let w1 := (v1 + (0 : Int32))
      let w2 := v3 + (1 : Int32)
      some (.inr (w1, y0, w2, σ))
    else
      if y0 = v2 then
        let w3 := (v1 + (0 : Int32))
        let w4 := v3 + (1 : Int32)
        some (.inr (w3, y0, w4, σ))
      else
        let w5 := (v1 + (1 : Int32))
        let w6 := v3 + (1 : Int32)
        some (.inr (w5, y0, w6, σ))
def f_Mo_swings_60_L6  (a : Int32 × Int32 × Int32 × xS) : Option ((Int32 × Int32 × Int32 × xS) ⊕ (Int32 × Int32 × Int32 × xS)) :=
  let v1 := a.1; let v2 := a.2.1; let v3 := a.2.2.1; let σ := a.2.2.2;
  (f_Mo_last_60  σ).bind fun q8 =>
  if q8.1 < v3 then
    some (.inl (v1, v2, v3, q8.2))
  else
    if v3 < 0 ∨ 601 ≤ v3.toNatClampNeg then none else
    if q8.2.1 86 v3.toNatClampNeg ≤ 0 then
      if v3 < 0 ∨ 601 ≤ v3.toNatClampNeg then none else
      if 0 ≤ q8.2.1 86 v3.toNatClampNeg then
        f_Mo_swings_60_J41 v1 v2 v3 (0 : Int32) q8.2
      else
        f_Mo_swings_60_J41 v1 v2 v3 (-1 : Int32) q8.2
    else
      f_Mo_swings_60_J41 v1 v2 v3 (1 : Int32) q8.2
def f_Mo_swings_60  (σ : xS) : Option (Int32 × xS) :=
  (x_it (f_Mo_swings_60_L6 ) 10000 ((0 : Int32), (0 : Int32), (0 : Int32), σ)).bind fun b9 =>
  some (b9.1, b9.2.2.2)
set_option maxHeartbeats 4000000 in
set_option maxRecDepth 100000 in
theorem j_Mo_swings_60_J41 {l : Launch} {s0 : State} {a0 : Array Value} {D : va_G} {cA : Nat → ClassId} {sp : Nat → Nat} (E : x_En CL l s0 a0 D cA sp) (v1 : Int32) (v2 : Int32) (v3 : Int32) (y0 : Int32)  (σ : xS) {r : Int32} {σ1 : xS} (o : (Int32 × Int32 × Int32 × xS) ⊕ (Int32 × Int32 × Int32 × xS)) (h : f_Mo_swings_60_J41 v1 v2 v3 y0 σ = some o) (hK : ∀ b, o = .inl b → zW l s0 D cA sp (zQ s0 D cA sp (some (.int r)) σ1) (x_rm 1 0 0) M_Mo_swings 0 0 78 [none, some (.int b.1), none, none, none] [] b.2.2.2) (hG : ∀ a', o = .inr a' → zW l s0 D cA sp (zQ s0 D cA sp (some (.int r)) σ1) (x_rm 1 0 0) M_Mo_swings 0 0 6 [some (.ref 60), some (.int a'.1), some (.int a'.2.1), some (.int a'.2.2.1), none] [] a'.2.2.2) : zW l s0 D cA sp (zQ s0 D cA sp (some (.int r)) σ1) (x_rm 1 0 0) M_Mo_swings 0 0 41 [some (.ref 60), some (.int v1), some (.int v2), some (.int v3), none] [.int y0] σ := by
  unfold f_Mo_swings_60_J41 at h
  try dsimp only at h
  refine x_istore 43 rfl dX9_swings_41 (by decide) [some (.ref 60), some (.int _), some (.int _), some (.int _), some (.int _)] rfl ?_
  refine x_iload 45 rfl dX9_swings_43 rfl ?_
  refine x_if_ne 48 rfl 51 dX9_swings_45 (by decide) (fun hc => ?_) (fun hc => ?_)
  · replace h := x_ifF hc h
    refine x_iload_n 52 rfl 1 dX9_swings_51 rfl rfl ?_
    refine x_iload_n 53 rfl 2 dX9_swings_52 rfl rfl ?_
    refine x_if_eq 56 rfl 66 dX9_swings_53 (by decide) (fun hc => ?_) (fun hc => ?_)
    · replace h := x_ifT hc h
      refine x_iconst 67 rfl (v := 0) dX9_swings_66 (by decide) ?_
      refine x_iadd 68 rfl dX9_swings_67 ?_
      refine x_istore_n 69 rfl 1 dX9_swings_68 rfl (by decide) [some (.ref 60), some (.int _), some (.int _), some (.int _), some (.int _)] rfl ?_
      refine x_iload 71 rfl dX9_swings_69 rfl ?_
      refine x_istore_n 72 rfl 2 dX9_swings_71 rfl (by decide) [some (.ref 60), some (.int _), some (.int _), some (.int _), some (.int _)] rfl ?_
      refine x_iinc 75 rfl (1) dX9_swings_72 rfl (by decide) (by decide) [some (.ref 60), some (.int _), some (.int _), some (.int _), some (.int _)] rfl ?_
      refine x_goto 6 dX9_swings_75 (by decide) ?_
      cases h
      exact x_wk (x_le_s (x_le_s (x_le_s (x_le_s (x_le_n x_le_0))))) (hG (_, _, _, _) rfl)
    · replace h := x_ifF hc h
      refine x_iload 58 rfl dX9_swings_56 rfl ?_
      refine x_iload_n 59 rfl 2 dX9_swings_58 rfl rfl ?_
      refine x_icmp_eq 62 rfl 66 dX9_swings_59 (by decide) (fun hc => ?_) (fun hc => ?_)
      · replace h := x_ifT hc h
        refine x_iconst 67 rfl (v := 0) dX9_swings_66 (by decide) ?_
        refine x_iadd 68 rfl dX9_swings_67 ?_
        refine x_istore_n 69 rfl 1 dX9_swings_68 rfl (by decide) [some (.ref 60), some (.int _), some (.int _), some (.int _), some (.int _)] rfl ?_
        refine x_iload 71 rfl dX9_swings_69 rfl ?_
        refine x_istore_n 72 rfl 2 dX9_swings_71 rfl (by decide) [some (.ref 60), some (.int _), some (.int _), some (.int _), some (.int _)] rfl ?_
        refine x_iinc 75 rfl (1) dX9_swings_72 rfl (by decide) (by decide) [some (.ref 60), some (.int _), some (.int _), some (.int _), some (.int _)] rfl ?_
        refine x_goto 6 dX9_swings_75 (by decide) ?_
        cases h
        exact x_wk (x_le_s (x_le_s (x_le_s (x_le_s (x_le_n x_le_0))))) (hG (_, _, _, _) rfl)
      · replace h := x_ifF hc h
        refine x_iconst 63 rfl (v := 1) dX9_swings_62 (by decide) ?_
        refine x_goto 67 dX9_swings_63 (by decide) ?_
        refine x_iadd 68 rfl dX9_swings_67 ?_
        refine x_istore_n 69 rfl 1 dX9_swings_68 rfl (by decide) [some (.ref 60), some (.int _), some (.int _), some (.int _), some (.int _)] rfl ?_
        refine x_iload 71 rfl dX9_swings_69 rfl ?_
        refine x_istore_n 72 rfl 2 dX9_swings_71 rfl (by decide) [some (.ref 60), some (.int _), some (.int _), some (.int _), some (.int _)] rfl ?_
        refine x_iinc 75 rfl (1) dX9_swings_72 rfl (by decide) (by decide) [some (.ref 60), some (.int _), some (.int _), some (.int _), some (.int _)] rfl ?_
        refine x_goto 6 dX9_swings_75 (by decide) ?_
        cases h
        exact x_wk (x_le_s (x_le_s (x_le_s (x_le_s (x_le_n x_le_0))))) (hG (_, _, _, _) rfl)
  · replace h := x_ifT hc h
    refine x_goto 72 dX9_swings_48 (by decide) ?_
    refine x_iinc 75 rfl (1) dX9_swings_72 rfl (by decide) (by decide) [some (.ref 60), some (.int _), some (.int _), some (.int _), some (.int _)] rfl ?_
    refine x_goto 6 dX9_swings_75 (by decide) ?_
    cases h
    exact x_wk (x_le_s (x_le_s (x_le_s (x_le_s (x_le_n x_le_0))))) (hG (_, _, _, _) rfl)
set_option maxHeartbeats 4000000 in
set_option maxRecDepth 100000 in
theorem b_Mo_swings_60_L6 {l : Launch} {s0 : State} {a0 : Array Value} {D : va_G} {cA : Nat → ClassId} {sp : Nat → Nat} (E : x_En CL l s0 a0 D cA sp)  {r : Int32} {σ1 : xS} (a : Int32 × Int32 × Int32 × xS) (o : (Int32 × Int32 × Int32 × xS) ⊕ (Int32 × Int32 × Int32 × xS)) (h : f_Mo_swings_60_L6  a = some o) (hK : ∀ b, o = .inl b → zW l s0 D cA sp (zQ s0 D cA sp (some (.int r)) σ1) (x_rm 1 0 0) M_Mo_swings 0 0 78 [none, some (.int b.1), none, none, none] [] b.2.2.2) (hG : ∀ a', o = .inr a' → zW l s0 D cA sp (zQ s0 D cA sp (some (.int r)) σ1) (x_rm 1 0 0) M_Mo_swings 0 0 6 [some (.ref 60), some (.int a'.1), some (.int a'.2.1), some (.int a'.2.2.1), none] [] a'.2.2.2) : zW l s0 D cA sp (zQ s0 D cA sp (some (.int r)) σ1) (x_rm 1 0 0) M_Mo_swings 0 0 6 [some (.ref 60), some (.int a.1), some (.int a.2.1), some (.int a.2.2.1), none] [] a.2.2.2 := by
  obtain ⟨v1, v2, v3, σ⟩ := a
  unfold f_Mo_swings_60_L6 at h
  try dsimp only at h ⊢
  refine x_iload_n 7 rfl 3 dX9_swings_6 rfl rfl ?_
  refine x_aload_n 8 rfl 0 dX9_swings_7 rfl rfl ?_
  obtain ⟨⟨q8r, q8s⟩, q8h, h⟩ := x_bind h
  try dsimp only at h
  refine z_callV E [] [.int _] dX9_swings_8 K_RX9_390 ⟨Nat.le_of_ble_eq_true rfl, Nat.le_of_ble_eq_true rfl⟩ sh_60 (by decide) rfl (c_Mo_last_60 E  q8h) rfl rfl (Nat.le_of_ble_eq_true rfl) 11 rfl [.int _, .int _] rfl ?_
  refine x_icmp_gt 14 rfl 78 dX9_swings_11 (by decide) (fun hc => ?_) (fun hc => ?_)
  · replace h := x_ifT hc h
    cases h
    exact x_wk (x_le_n (x_le_s (x_le_n (x_le_n (x_le_n x_le_0))))) (hK (_, _, _, _) rfl)
  · replace h := x_ifF hc h
    refine x_aload_n 15 rfl 0 dX9_swings_14 rfl rfl ?_
    refine x_getR E dX9_swings_15 F_RX9_99 sh_60 rf_60_63 18 rfl ?_
    refine x_iload_n 19 rfl 3 dX9_swings_18 rfl rfl ?_
    obtain ⟨hz, h⟩ := x_ifn h
    refine x_iald E dX9_swings_19 sh_86 _ rfl hz 20 rfl ?_
    refine x_if_le 23 rfl 27 dX9_swings_20 (by decide) (fun hc => ?_) (fun hc => ?_)
    · replace h := x_ifT hc h
      refine x_aload_n 28 rfl 0 dX9_swings_27 rfl rfl ?_
      refine x_getR E dX9_swings_28 F_RX9_99 sh_60 rf_60_63 31 rfl ?_
      refine x_iload_n 32 rfl 3 dX9_swings_31 rfl rfl ?_
      obtain ⟨hz, h⟩ := x_ifn h
      refine x_iald E dX9_swings_32 sh_86 _ rfl hz 33 rfl ?_
      refine x_if_ge 36 rfl 40 dX9_swings_33 (by decide) (fun hc => ?_) (fun hc => ?_)
      · replace h := x_ifT hc h
        refine x_iconst 41 rfl (v := 0) dX9_swings_40 (by decide) ?_
        exact x_wk (x_le_s (x_le_s (x_le_s (x_le_s (x_le_n x_le_0))))) (j_Mo_swings_60_J41 (r := r) (σ1 := σ1) E _ _ _ _  _ _ h hK hG)
      · replace h := x_ifF hc h
        refine x_iconst 37 rfl (v := -1) dX9_swings_36 (by decide) ?_
        refine x_goto 41 dX9_swings_37 (by decide) ?_
        exact x_wk (x_le_s (x_le_s (x_le_s (x_le_s (x_le_n x_le_0))))) (j_Mo_swings_60_J41 (r := r) (σ1 := σ1) E _ _ _ _  _ _ h hK hG)
    · replace h := x_ifF hc h
      refine x_iconst 24 rfl (v := 1) dX9_swings_23 (by decide) ?_
      refine x_goto 41 dX9_swings_24 (by decide) ?_
      exact x_wk (x_le_s (x_le_s (x_le_s (x_le_s (x_le_n x_le_0))))) (j_Mo_swings_60_J41 (r := r) (σ1 := σ1) E _ _ _ _  _ _ h hK hG)
set_option maxHeartbeats 4000000 in
set_option maxRecDepth 100000 in
theorem c_Mo_swings_60 {l : Launch} {s0 : State} {a0 : Array Value} {D : va_G} {cA : Nat → ClassId} {sp : Nat → Nat} (E : x_En CL l s0 a0 D cA sp)  {σ : xS} {r : Int32} {σ1 : xS} (h : f_Mo_swings_60  σ = some (r, σ1)) : zC l s0 D cA sp 1 M_Mo_swings [.ref 60] σ (some (.int r)) σ1 := by
  unfold f_Mo_swings_60 at h
  try dsimp only at h
  refine x_enter [some (.ref 60), none, none, none, none] rfl (Nat.le_of_ble_eq_true rfl) (by decide +kernel) rfl ?_
  refine x_iconst 1 rfl (v := 0) dX9_swings_0 (by decide) ?_
  refine x_istore_n 2 rfl 1 dX9_swings_1 rfl (by decide) [some (.ref 60), some (.int _), none, none, none] rfl ?_
  refine x_iconst 3 rfl (v := 0) dX9_swings_2 (by decide) ?_
  refine x_istore_n 4 rfl 2 dX9_swings_3 rfl (by decide) [some (.ref 60), some (.int _), some (.int _), none, none] rfl ?_
  refine x_iconst 5 rfl (v := 0) dX9_swings_4 (by decide) ?_
  refine x_istore_n 6 rfl 3 dX9_swings_5 rfl (by decide) [some (.ref 60), some (.int _), some (.int _), some (.int _), none] rfl ?_
  obtain ⟨b9, b9h, h⟩ := x_bind h
  try dsimp only at h
  refine x_wk (x_le_s (x_le_s (x_le_s (x_le_s (x_le_n x_le_0))))) (x_loop (fun a o h hK hG => b_Mo_swings_60_L6 (r := r) (σ1 := σ1) E  a o h hK hG) _ _ _ b9h ?_)
  refine x_iload_n 79 rfl 1 dX9_swings_78 rfl rfl ?_
  cases h
  exact x_iret dX9_swings_79 rfl rfl rfl
theorem K_RX9_427 : x_KV RX9 427 M_Mo_mostOff 0 := ⟨⟨(List.mem_append_right _ (List.mem_of_getElem? (i := 1730) (by decide +kernel))), (List.mem_append_right _ (List.mem_of_getElem? (i := 1733) (by decide +kernel))), (List.mem_append_right _ (List.mem_of_getElem? (i := 9) (by decide +kernel))), ⟨by decide +kernel, by decide +kernel⟩, by decide +kernel⟩, (List.mem_append_right _ (List.mem_of_getElem? (i := 1732) (by decide +kernel))), (List.mem_append_left _ (List.mem_of_getElem? (i := 93) (by decide +kernel)))⟩
theorem K_RX9_430 : x_KV RX9 430 M_Mo_longestSoft 0 := ⟨⟨(List.mem_append_right _ (List.mem_of_getElem? (i := 1734) (by decide +kernel))), (List.mem_append_right _ (List.mem_of_getElem? (i := 1737) (by decide +kernel))), (List.mem_append_right _ (List.mem_of_getElem? (i := 9) (by decide +kernel))), ⟨by decide +kernel, by decide +kernel⟩, by decide +kernel⟩, (List.mem_append_right _ (List.mem_of_getElem? (i := 1736) (by decide +kernel))), (List.mem_append_left _ (List.mem_of_getElem? (i := 94) (by decide +kernel)))⟩
theorem K_RX9_433 : x_KV RX9 433 M_Mo_firstSoft 0 := ⟨⟨(List.mem_append_right _ (List.mem_of_getElem? (i := 1738) (by decide +kernel))), (List.mem_append_right _ (List.mem_of_getElem? (i := 1741) (by decide +kernel))), (List.mem_append_right _ (List.mem_of_getElem? (i := 9) (by decide +kernel))), ⟨by decide +kernel, by decide +kernel⟩, by decide +kernel⟩, (List.mem_append_right _ (List.mem_of_getElem? (i := 1740) (by decide +kernel))), (List.mem_append_left _ (List.mem_of_getElem? (i := 95) (by decide +kernel)))⟩
theorem K_RX9_436 : x_KV RX9 436 M_Mo_swings 0 := ⟨⟨(List.mem_append_right _ (List.mem_of_getElem? (i := 1742) (by decide +kernel))), (List.mem_append_right _ (List.mem_of_getElem? (i := 1745) (by decide +kernel))), (List.mem_append_right _ (List.mem_of_getElem? (i := 9) (by decide +kernel))), ⟨by decide +kernel, by decide +kernel⟩, by decide +kernel⟩, (List.mem_append_right _ (List.mem_of_getElem? (i := 1744) (by decide +kernel))), (List.mem_append_left _ (List.mem_of_getElem? (i := 96) (by decide +kernel)))⟩
abbrev M_Mo_all : xM := (yX9_all, cX9_all, 4, some .int, [])
theorem dX9_all_0 : decode cX9_all 0 = .ok (.aload_n 0, 1) := by decide +kernel
theorem dX9_all_1 : decode cX9_all 1 = .ok (.iconst 0, 1) := by decide +kernel
theorem dX9_all_2 : decode cX9_all 2 = .ok (.putfield 132, 3) := by decide +kernel
theorem dX9_all_5 : decode cX9_all 5 = .ok (.aload_n 0, 1) := by decide +kernel
theorem dX9_all_6 : decode cX9_all 6 = .ok (.iload_n 1, 1) := by decide +kernel
theorem dX9_all_7 : decode cX9_all 7 = .ok (.bipush 6, 2) := by decide +kernel
theorem dX9_all_9 : decode cX9_all 9 = .ok (.invokevirtual 421, 3) := by decide +kernel
theorem dX9_all_12 : decode cX9_all 12 = .ok (.ifCond .ne 5, 3) := by decide +kernel
theorem dX9_all_15 : decode cX9_all 15 = .ok (.iconst 0, 1) := by decide +kernel
theorem dX9_all_16 : decode cX9_all 16 = .ok (.ireturn, 1) := by decide +kernel
theorem dX9_all_17 : decode cX9_all 17 = .ok (.aload_n 0, 1) := by decide +kernel
theorem dX9_all_18 : decode cX9_all 18 = .ok (.invokevirtual 408, 3) := by decide +kernel
theorem dX9_all_21 : decode cX9_all 21 = .ok (.iload_n 1, 1) := by decide +kernel
theorem dX9_all_22 : decode cX9_all 22 = .ok (.ifCond .ne 8, 3) := by decide +kernel
theorem dX9_all_25 : decode cX9_all 25 = .ok (.aload_n 0, 1) := by decide +kernel
theorem dX9_all_26 : decode cX9_all 26 = .ok (.invokevirtual 411, 3) := by decide +kernel
theorem dX9_all_29 : decode cX9_all 29 = .ok (.ireturn, 1) := by decide +kernel
theorem dX9_all_30 : decode cX9_all 30 = .ok (.iload_n 1, 1) := by decide +kernel
theorem dX9_all_31 : decode cX9_all 31 = .ok (.iconst 1, 1) := by decide +kernel
theorem dX9_all_32 : decode cX9_all 32 = .ok (.if_icmp .ne 8, 3) := by decide +kernel
theorem dX9_all_35 : decode cX9_all 35 = .ok (.aload_n 0, 1) := by decide +kernel
theorem dX9_all_36 : decode cX9_all 36 = .ok (.invokevirtual 427, 3) := by decide +kernel
theorem dX9_all_39 : decode cX9_all 39 = .ok (.ireturn, 1) := by decide +kernel
theorem dX9_all_40 : decode cX9_all 40 = .ok (.iload_n 1, 1) := by decide +kernel
theorem dX9_all_41 : decode cX9_all 41 = .ok (.iconst 2, 1) := by decide +kernel
theorem dX9_all_42 : decode cX9_all 42 = .ok (.if_icmp .ne 8, 3) := by decide +kernel
theorem dX9_all_45 : decode cX9_all 45 = .ok (.aload_n 0, 1) := by decide +kernel
theorem dX9_all_46 : decode cX9_all 46 = .ok (.invokevirtual 430, 3) := by decide +kernel
theorem dX9_all_49 : decode cX9_all 49 = .ok (.ireturn, 1) := by decide +kernel
theorem dX9_all_50 : decode cX9_all 50 = .ok (.iload_n 1, 1) := by decide +kernel
theorem dX9_all_51 : decode cX9_all 51 = .ok (.iconst 3, 1) := by decide +kernel
theorem dX9_all_52 : decode cX9_all 52 = .ok (.if_icmp .ne 8, 3) := by decide +kernel
theorem dX9_all_55 : decode cX9_all 55 = .ok (.aload_n 0, 1) := by decide +kernel
theorem dX9_all_56 : decode cX9_all 56 = .ok (.invokevirtual 433, 3) := by decide +kernel
theorem dX9_all_59 : decode cX9_all 59 = .ok (.ireturn, 1) := by decide +kernel
theorem dX9_all_60 : decode cX9_all 60 = .ok (.iload_n 1, 1) := by decide +kernel
theorem dX9_all_61 : decode cX9_all 61 = .ok (.iconst 4, 1) := by decide +kernel
theorem dX9_all_62 : decode cX9_all 62 = .ok (.if_icmp .ne 8, 3) := by decide +kernel
theorem dX9_all_65 : decode cX9_all 65 = .ok (.aload_n 0, 1) := by decide +kernel
theorem dX9_all_66 : decode cX9_all 66 = .ok (.invokevirtual 436, 3) := by decide +kernel
theorem dX9_all_69 : decode cX9_all 69 = .ok (.ireturn, 1) := by decide +kernel
theorem dX9_all_70 : decode cX9_all 70 = .ok (.iconst 0, 1) := by decide +kernel
theorem dX9_all_71 : decode cX9_all 71 = .ok (.istore_n 2, 1) := by decide +kernel
theorem dX9_all_72 : decode cX9_all 72 = .ok (.iconst 0, 1) := by decide +kernel
theorem dX9_all_73 : decode cX9_all 73 = .ok (.istore_n 3, 1) := by decide +kernel
theorem dX9_all_74 : decode cX9_all 74 = .ok (.iload_n 3, 1) := by decide +kernel
theorem dX9_all_75 : decode cX9_all 75 = .ok (.aload_n 0, 1) := by decide +kernel
theorem dX9_all_76 : decode cX9_all 76 = .ok (.invokevirtual 390, 3) := by decide +kernel
theorem dX9_all_79 : decode cX9_all 79 = .ok (.if_icmp .gt 61, 3) := by decide +kernel
theorem dX9_all_82 : decode cX9_all 82 = .ok (.iload_n 1, 1) := by decide +kernel
theorem dX9_all_83 : decode cX9_all 83 = .ok (.iconst 5, 1) := by decide +kernel
theorem dX9_all_84 : decode cX9_all 84 = .ok (.if_icmp .ne 22, 3) := by decide +kernel
theorem dX9_all_87 : decode cX9_all 87 = .ok (.iload_n 2, 1) := by decide +kernel
theorem dX9_all_88 : decode cX9_all 88 = .ok (.aload_n 0, 1) := by decide +kernel
theorem dX9_all_89 : decode cX9_all 89 = .ok (.iload_n 3, 1) := by decide +kernel
theorem dX9_all_90 : decode cX9_all 90 = .ok (.invokevirtual 424, 3) := by decide +kernel
theorem dX9_all_93 : decode cX9_all 93 = .ok (.ifCond .eq 7, 3) := by decide +kernel
theorem dX9_all_96 : decode cX9_all 96 = .ok (.iconst 1, 1) := by decide +kernel
theorem dX9_all_97 : decode cX9_all 97 = .ok (.goto 4, 3) := by decide +kernel
theorem dX9_all_100 : decode cX9_all 100 = .ok (.iconst 0, 1) := by decide +kernel
theorem dX9_all_101 : decode cX9_all 101 = .ok (.iadd, 1) := by decide +kernel
theorem dX9_all_102 : decode cX9_all 102 = .ok (.istore_n 2, 1) := by decide +kernel
theorem dX9_all_103 : decode cX9_all 103 = .ok (.goto 31, 3) := by decide +kernel
theorem dX9_all_106 : decode cX9_all 106 = .ok (.iload_n 2, 1) := by decide +kernel
theorem dX9_all_107 : decode cX9_all 107 = .ok (.iload_n 3, 1) := by decide +kernel
theorem dX9_all_108 : decode cX9_all 108 = .ok (.ifCond .ne 7, 3) := by decide +kernel
theorem dX9_all_111 : decode cX9_all 111 = .ok (.iconst 0, 1) := by decide +kernel
theorem dX9_all_112 : decode cX9_all 112 = .ok (.goto 20, 3) := by decide +kernel
theorem dX9_all_115 : decode cX9_all 115 = .ok (.aload_n 0, 1) := by decide +kernel
theorem dX9_all_116 : decode cX9_all 116 = .ok (.getfield 96, 3) := by decide +kernel
theorem dX9_all_119 : decode cX9_all 119 = .ok (.iload_n 3, 1) := by decide +kernel
theorem dX9_all_120 : decode cX9_all 120 = .ok (.iaload, 1) := by decide +kernel
theorem dX9_all_121 : decode cX9_all 121 = .ok (.aload_n 0, 1) := by decide +kernel
theorem dX9_all_122 : decode cX9_all 122 = .ok (.getfield 96, 3) := by decide +kernel
theorem dX9_all_125 : decode cX9_all 125 = .ok (.iload_n 3, 1) := by decide +kernel
theorem dX9_all_126 : decode cX9_all 126 = .ok (.iconst 1, 1) := by decide +kernel
theorem dX9_all_127 : decode cX9_all 127 = .ok (.isub, 1) := by decide +kernel
theorem dX9_all_128 : decode cX9_all 128 = .ok (.iaload, 1) := by decide +kernel
theorem dX9_all_129 : decode cX9_all 129 = .ok (.invokestatic 372, 3) := by decide +kernel
theorem dX9_all_132 : decode cX9_all 132 = .ok (.iadd, 1) := by decide +kernel
theorem dX9_all_133 : decode cX9_all 133 = .ok (.istore_n 2, 1) := by decide +kernel
theorem dX9_all_134 : decode cX9_all 134 = .ok (.iinc 3 1, 3) := by decide +kernel
theorem dX9_all_137 : decode cX9_all 137 = .ok (.goto (-63), 3) := by decide +kernel
theorem dX9_all_140 : decode cX9_all 140 = .ok (.iload_n 2, 1) := by decide +kernel
theorem dX9_all_141 : decode cX9_all 141 = .ok (.ireturn, 1) := by decide +kernel
def f_Mo_all_60_L74 (v1 : Int32) (a : Int32 × Int32 × xS) : Option ((Int32 × Int32 × xS) ⊕ (Int32 × Int32 × xS)) :=
  let v2 := a.1; let v3 := a.2.1; let σ := a.2.2;
  (f_Mo_last_60  σ).bind fun q1 =>
  if q1.1 < v3 then
    some (.inl (v2, v3, q1.2))
  else
    if v1 = (5 : Int32) then
      (f_Mo_isShown_60 v3 q1.2).bind fun q7 =>
      if q7.1 = 0 then
        let w8 := (v2 + (0 : Int32))
        let w9 := v3 + (1 : Int32)
        some (.inr (w8, w9, q7.2))
      else
        let w10 := (v2 + (1 : Int32))
        let w11 := v3 + (1 : Int32)
        some (.inr (w10, w11, q7.2))
    else
      if v3 = 0 then
        let w5 := (v2 + (0 : Int32))
        let w6 := v3 + (1 : Int32)
        some (.inr (w5, w6, q1.2))
      else
        if v3 < 0 ∨ 601 ≤ v3.toNatClampNeg then none else
        if (v3 - (1 : Int32)) < 0 ∨ 601 ≤ (v3 - (1 : Int32)).toNatClampNeg then none else
        (f_Mo_off (q1.2.1 85 v3.toNatClampNeg) (q1.2.1 85 (v3 - (1 : Int32)).toNatClampNeg) q1.2).bind fun q2 =>
        let w3 := (v2 + q2.1)
        let w4 := v3 + (1 : Int32)
        some (.inr (w3, w4, q2.2))
def f_Mo_all_60 (v1 : Int32) (σ : xS) : Option (Int32 × xS) :=
  let σ12 := x_pI σ 60 0 (0 : Int32)
  (f_Mo_isWhat_60 v1 (6 : Int32) σ12).bind fun q13 =>
  if q13.1 = 0 then
    some ((0 : Int32), q13.2)
  else
    (f_Mo_goesThrough_60  q13.2).bind fun q14 =>
    if v1 = 0 then
      (f_Mo_sharpMany_60  q14.2).bind fun q20 =>
      some (q20.1, q20.2)
    else
      if v1 = (1 : Int32) then
        (f_Mo_mostOff_60  q14.2).bind fun q19 =>
        some (q19.1, q19.2)
      else
        if v1 = (2 : Int32) then
          (f_Mo_longestSoft_60  q14.2).bind fun q18 =>
          some (q18.1, q18.2)
        else
          if v1 = (3 : Int32) then
            (f_Mo_firstSoft_60  q14.2).bind fun q17 =>
            some (q17.1, q17.2)
          else
            if v1 = (4 : Int32) then
              (f_Mo_swings_60  q14.2).bind fun q16 =>
              some (q16.1, q16.2)
            else
              (x_it (f_Mo_all_60_L74 v1) 10000 ((0 : Int32), (0 : Int32), q14.2)).bind fun b15 =>
              some (b15.1, b15.2.2)
set_option maxHeartbeats 4000000 in
set_option maxRecDepth 100000 in
theorem b_Mo_all_60_L74 {l : Launch} {s0 : State} {a0 : Array Value} {D : va_G} {cA : Nat → ClassId} {sp : Nat → Nat} (E : x_En CL l s0 a0 D cA sp) (v1 : Int32) {r : Int32} {σ1 : xS} (a : Int32 × Int32 × xS) (o : (Int32 × Int32 × xS) ⊕ (Int32 × Int32 × xS)) (h : f_Mo_all_60_L74 v1 a = some o) (hK : ∀ b, o = .inl b → zW l s0 D cA sp (zQ s0 D cA sp (some (.int r)) σ1) (x_rm 5 0 0) M_Mo_all 0 0 140 [none, none, some (.int b.1), none] [] b.2.2) (hG : ∀ a', o = .inr a' → zW l s0 D cA sp (zQ s0 D cA sp (some (.int r)) σ1) (x_rm 5 0 0) M_Mo_all 0 0 74 [some (.ref 60), some (.int v1), some (.int a'.1), some (.int a'.2.1)] [] a'.2.2) : zW l s0 D cA sp (zQ s0 D cA sp (some (.int r)) σ1) (x_rm 5 0 0) M_Mo_all 0 0 74 [some (.ref 60), some (.int v1), some (.int a.1), some (.int a.2.1)] [] a.2.2 := by
  obtain ⟨v2, v3, σ⟩ := a
  unfold f_Mo_all_60_L74 at h
  try dsimp only at h ⊢
  refine x_iload_n 75 rfl 3 dX9_all_74 rfl rfl ?_
  refine x_aload_n 76 rfl 0 dX9_all_75 rfl rfl ?_
  obtain ⟨⟨q1r, q1s⟩, q1h, h⟩ := x_bind h
  try dsimp only at h
  refine z_callV E [] [.int _] dX9_all_76 K_RX9_390 ⟨Nat.le_of_ble_eq_true rfl, Nat.le_of_ble_eq_true rfl⟩ sh_60 (by decide) rfl (c_Mo_last_60 E  q1h) rfl rfl (Nat.le_of_ble_eq_true rfl) 79 rfl [.int _, .int _] rfl ?_
  refine x_icmp_gt 82 rfl 140 dX9_all_79 (by decide) (fun hc => ?_) (fun hc => ?_)
  · replace h := x_ifT hc h
    cases h
    exact x_wk (x_le_n (x_le_n (x_le_s (x_le_n x_le_0)))) (hK (_, _, _) rfl)
  · replace h := x_ifF hc h
    refine x_iload_n 83 rfl 1 dX9_all_82 rfl rfl ?_
    refine x_iconst 84 rfl (v := 5) dX9_all_83 (by decide) ?_
    refine x_icmp_ne 87 rfl 106 dX9_all_84 (by decide) (fun hc => ?_) (fun hc => ?_)
    · replace h := x_ifF hc h
      refine x_iload_n 107 rfl 2 dX9_all_106 rfl rfl ?_
      refine x_iload_n 108 rfl 3 dX9_all_107 rfl rfl ?_
      refine x_if_ne 111 rfl 115 dX9_all_108 (by decide) (fun hc => ?_) (fun hc => ?_)
      · replace h := x_ifF hc h
        refine x_aload_n 116 rfl 0 dX9_all_115 rfl rfl ?_
        refine x_getR E dX9_all_116 F_RX9_96 sh_60 rf_60_62 119 rfl ?_
        refine x_iload_n 120 rfl 3 dX9_all_119 rfl rfl ?_
        obtain ⟨hz, h⟩ := x_ifn h
        refine x_iald E dX9_all_120 sh_85 _ rfl hz 121 rfl ?_
        refine x_aload_n 122 rfl 0 dX9_all_121 rfl rfl ?_
        refine x_getR E dX9_all_122 F_RX9_96 sh_60 rf_60_62 125 rfl ?_
        refine x_iload_n 126 rfl 3 dX9_all_125 rfl rfl ?_
        refine x_iconst 127 rfl (v := 1) dX9_all_126 (by decide) ?_
        refine x_isub 128 rfl dX9_all_127 ?_
        obtain ⟨hz, h⟩ := x_ifn h
        refine x_iald E dX9_all_128 sh_85 _ rfl hz 129 rfl ?_
        obtain ⟨⟨q2r, q2s⟩, q2h, h⟩ := x_bind h
        try dsimp only at h
        refine z_callS E [.int _, .int _] [.int _] dX9_all_129 K_RX9_372 ⟨Nat.le_of_ble_eq_true rfl, Nat.le_of_ble_eq_true rfl⟩ (c_Mo_off E _ _ q2h) rfl rfl (Nat.le_of_ble_eq_true rfl) 132 rfl [.int _, .int _] rfl ?_
        refine x_iadd 133 rfl dX9_all_132 ?_
        refine x_istore_n 134 rfl 2 dX9_all_133 rfl (by decide) [some (.ref 60), some (.int _), some (.int _), some (.int _)] rfl ?_
        refine x_iinc 137 rfl (1) dX9_all_134 rfl (by decide) (by decide) [some (.ref 60), some (.int _), some (.int _), some (.int _)] rfl ?_
        refine x_goto 74 dX9_all_137 (by decide) ?_
        cases h
        exact x_wk (x_le_s (x_le_s (x_le_s (x_le_s x_le_0)))) (hG (_, _, _) rfl)
      · replace h := x_ifT hc h
        refine x_iconst 112 rfl (v := 0) dX9_all_111 (by decide) ?_
        refine x_goto 132 dX9_all_112 (by decide) ?_
        refine x_iadd 133 rfl dX9_all_132 ?_
        refine x_istore_n 134 rfl 2 dX9_all_133 rfl (by decide) [some (.ref 60), some (.int _), some (.int _), some (.int _)] rfl ?_
        refine x_iinc 137 rfl (1) dX9_all_134 rfl (by decide) (by decide) [some (.ref 60), some (.int _), some (.int _), some (.int _)] rfl ?_
        refine x_goto 74 dX9_all_137 (by decide) ?_
        cases h
        exact x_wk (x_le_s (x_le_s (x_le_s (x_le_s x_le_0)))) (hG (_, _, _) rfl)
    · replace h := x_ifT hc h
      refine x_iload_n 88 rfl 2 dX9_all_87 rfl rfl ?_
      refine x_aload_n 89 rfl 0 dX9_all_88 rfl rfl ?_
      refine x_iload_n 90 rfl 3 dX9_all_89 rfl rfl ?_
      obtain ⟨⟨q7r, q7s⟩, q7h, h⟩ := x_bind h
      try dsimp only at h
      refine z_callV E [.int _] [.int _] dX9_all_90 K_RX9_424 ⟨Nat.le_of_ble_eq_true rfl, Nat.le_of_ble_eq_true rfl⟩ sh_60 (by decide) rfl (c_Mo_isShown_60 E _ q7h) rfl rfl (Nat.le_of_ble_eq_true rfl) 93 rfl [.int _, .int _] rfl ?_
      refine x_if_eq 96 rfl 100 dX9_all_93 (by decide) (fun hc => ?_) (fun hc => ?_)
      · replace h := x_ifT hc h
        refine x_iconst 101 rfl (v := 0) dX9_all_100 (by decide) ?_
        refine x_iadd 102 rfl dX9_all_101 ?_
        refine x_istore_n 103 rfl 2 dX9_all_102 rfl (by decide) [some (.ref 60), some (.int _), some (.int _), some (.int _)] rfl ?_
        refine x_goto 134 dX9_all_103 (by decide) ?_
        refine x_iinc 137 rfl (1) dX9_all_134 rfl (by decide) (by decide) [some (.ref 60), some (.int _), some (.int _), some (.int _)] rfl ?_
        refine x_goto 74 dX9_all_137 (by decide) ?_
        cases h
        exact x_wk (x_le_s (x_le_s (x_le_s (x_le_s x_le_0)))) (hG (_, _, _) rfl)
      · replace h := x_ifF hc h
        refine x_iconst 97 rfl (v := 1) dX9_all_96 (by decide) ?_
        refine x_goto 101 dX9_all_97 (by decide) ?_
        refine x_iadd 102 rfl dX9_all_101 ?_
        refine x_istore_n 103 rfl 2 dX9_all_102 rfl (by decide) [some (.ref 60), some (.int _), some (.int _), some (.int _)] rfl ?_
        refine x_goto 134 dX9_all_103 (by decide) ?_
        refine x_iinc 137 rfl (1) dX9_all_134 rfl (by decide) (by decide) [some (.ref 60), some (.int _), some (.int _), some (.int _)] rfl ?_
        refine x_goto 74 dX9_all_137 (by decide) ?_
        cases h
        exact x_wk (x_le_s (x_le_s (x_le_s (x_le_s x_le_0)))) (hG (_, _, _) rfl)
set_option maxHeartbeats 4000000 in
set_option maxRecDepth 100000 in
theorem c_Mo_all_60 {l : Launch} {s0 : State} {a0 : Array Value} {D : va_G} {cA : Nat → ClassId} {sp : Nat → Nat} (E : x_En CL l s0 a0 D cA sp) (v1 : Int32) {σ : xS} {r : Int32} {σ1 : xS} (h : f_Mo_all_60 v1 σ = some (r, σ1)) : zC l s0 D cA sp 5 M_Mo_all [.ref 60, .int v1] σ (some (.int r)) σ1 := by
  unfold f_Mo_all_60 at h
  try dsimp only at h
  refine x_enter [some (.ref 60), some (.int v1), none, none] rfl (Nat.le_of_ble_eq_true rfl) (by decide +kernel) rfl ?_
  refine x_aload_n 1 rfl 0 dX9_all_0 rfl rfl ?_
  refine x_iconst 2 rfl (v := 0) dX9_all_1 (by decide) ?_
  refine x_putI E dX9_all_2 F_RX9_132 sh_60 5 rfl ?_
  refine x_aload_n 6 rfl 0 dX9_all_5 rfl rfl ?_
  refine x_iload_n 7 rfl 1 dX9_all_6 rfl rfl ?_
  refine x_bipush 9 rfl (v := 6) dX9_all_7 (by decide) ?_
  obtain ⟨⟨q13r, q13s⟩, q13h, h⟩ := x_bind h
  try dsimp only at h
  refine z_callV E [.int _, .int _] [] dX9_all_9 K_RX9_421 ⟨Nat.le_of_ble_eq_true rfl, Nat.le_of_ble_eq_true rfl⟩ sh_60 (by decide) rfl (c_Mo_isWhat_60 E _ _ q13h) rfl rfl (Nat.le_of_ble_eq_true rfl) 12 rfl [.int _] rfl ?_
  refine x_if_ne 15 rfl 17 dX9_all_12 (by decide) (fun hc => ?_) (fun hc => ?_)
  · replace h := x_ifF hc h
    refine x_aload_n 18 rfl 0 dX9_all_17 rfl rfl ?_
    obtain ⟨⟨q14r, q14s⟩, q14h, h⟩ := x_bind h
    try dsimp only at h
    refine z_callV E [] [] dX9_all_18 K_RX9_408 ⟨Nat.le_of_ble_eq_true rfl, Nat.le_of_ble_eq_true rfl⟩ sh_60 (by decide) rfl (c_Mo_goesThrough_60 E  q14h) rfl rfl (Nat.le_of_ble_eq_true rfl) 21 rfl [] rfl ?_
    refine x_iload_n 22 rfl 1 dX9_all_21 rfl rfl ?_
    refine x_if_ne 25 rfl 30 dX9_all_22 (by decide) (fun hc => ?_) (fun hc => ?_)
    · replace h := x_ifF hc h
      refine x_iload_n 31 rfl 1 dX9_all_30 rfl rfl ?_
      refine x_iconst 32 rfl (v := 1) dX9_all_31 (by decide) ?_
      refine x_icmp_ne 35 rfl 40 dX9_all_32 (by decide) (fun hc => ?_) (fun hc => ?_)
      · replace h := x_ifF hc h
        refine x_iload_n 41 rfl 1 dX9_all_40 rfl rfl ?_
        refine x_iconst 42 rfl (v := 2) dX9_all_41 (by decide) ?_
        refine x_icmp_ne 45 rfl 50 dX9_all_42 (by decide) (fun hc => ?_) (fun hc => ?_)
        · replace h := x_ifF hc h
          refine x_iload_n 51 rfl 1 dX9_all_50 rfl rfl ?_
          refine x_iconst 52 rfl (v := 3) dX9_all_51 (by decide) ?_
          refine x_icmp_ne 55 rfl 60 dX9_all_52 (by decide) (fun hc => ?_) (fun hc => ?_)
          · replace h := x_ifF hc h
            refine x_iload_n 61 rfl 1 dX9_all_60 rfl rfl ?_
            refine x_iconst 62 rfl (v := 4) dX9_all_61 (by decide) ?_
            refine x_icmp_ne 65 rfl 70 dX9_all_62 (by decide) (fun hc => ?_) (fun hc => ?_)
            · replace h := x_ifF hc h
              refine x_iconst 71 rfl (v := 0) dX9_all_70 (by decide) ?_
              refine x_istore_n 72 rfl 2 dX9_all_71 rfl (by decide) [some (.ref 60), some (.int _), some (.int _), none] rfl ?_
              refine x_iconst 73 rfl (v := 0) dX9_all_72 (by decide) ?_
              refine x_istore_n 74 rfl 3 dX9_all_73 rfl (by decide) [some (.ref 60), some (.int _), some (.int _), some (.int _)] rfl ?_
              obtain ⟨b15, b15h, h⟩ := x_bind h
              try dsimp only at h
              refine x_wk (x_le_s (x_le_s (x_le_s (x_le_s x_le_0)))) (x_loop (fun a o h hK hG => b_Mo_all_60_L74 (r := r) (σ1 := σ1) E _ a o h hK hG) _ _ _ b15h ?_)
              refine x_iload_n 141 rfl 2 dX9_all_140 rfl rfl ?_
              cases h
              exact x_iret dX9_all_141 rfl rfl rfl
            · replace h := x_ifT hc h
              refine x_aload_n 66 rfl 0 dX9_all_65 rfl rfl ?_
              obtain ⟨⟨q16r, q16s⟩, q16h, h⟩ := x_bind h
              try dsimp only at h
              refine z_callV E [] [] dX9_all_66 K_RX9_436 ⟨Nat.le_of_ble_eq_true rfl, Nat.le_of_ble_eq_true rfl⟩ sh_60 (by decide) rfl (c_Mo_swings_60 E  q16h) rfl rfl (Nat.le_of_ble_eq_true rfl) 69 rfl [.int _] rfl ?_
              cases h
              exact x_iret dX9_all_69 rfl rfl rfl
          · replace h := x_ifT hc h
            refine x_aload_n 56 rfl 0 dX9_all_55 rfl rfl ?_
            obtain ⟨⟨q17r, q17s⟩, q17h, h⟩ := x_bind h
            try dsimp only at h
            refine z_callV E [] [] dX9_all_56 K_RX9_433 ⟨Nat.le_of_ble_eq_true rfl, Nat.le_of_ble_eq_true rfl⟩ sh_60 (by decide) rfl (c_Mo_firstSoft_60 E  q17h) rfl rfl (Nat.le_of_ble_eq_true rfl) 59 rfl [.int _] rfl ?_
            cases h
            exact x_iret dX9_all_59 rfl rfl rfl
        · replace h := x_ifT hc h
          refine x_aload_n 46 rfl 0 dX9_all_45 rfl rfl ?_
          obtain ⟨⟨q18r, q18s⟩, q18h, h⟩ := x_bind h
          try dsimp only at h
          refine z_callV E [] [] dX9_all_46 K_RX9_430 ⟨Nat.le_of_ble_eq_true rfl, Nat.le_of_ble_eq_true rfl⟩ sh_60 (by decide) rfl (c_Mo_longestSoft_60 E  q18h) rfl rfl (Nat.le_of_ble_eq_true rfl) 49 rfl [.int _] rfl ?_
          cases h
          exact x_iret dX9_all_49 rfl rfl rfl
      · replace h := x_ifT hc h
        refine x_aload_n 36 rfl 0 dX9_all_35 rfl rfl ?_
        obtain ⟨⟨q19r, q19s⟩, q19h, h⟩ := x_bind h
        try dsimp only at h
        refine z_callV E [] [] dX9_all_36 K_RX9_427 ⟨Nat.le_of_ble_eq_true rfl, Nat.le_of_ble_eq_true rfl⟩ sh_60 (by decide) rfl (c_Mo_mostOff_60 E  q19h) rfl rfl (Nat.le_of_ble_eq_true rfl) 39 rfl [.int _] rfl ?_
        cases h
        exact x_iret dX9_all_39 rfl rfl rfl
    · replace h := x_ifT hc h
      refine x_aload_n 26 rfl 0 dX9_all_25 rfl rfl ?_
      obtain ⟨⟨q20r, q20s⟩, q20h, h⟩ := x_bind h
      try dsimp only at h
      refine z_callV E [] [] dX9_all_26 K_RX9_411 ⟨Nat.le_of_ble_eq_true rfl, Nat.le_of_ble_eq_true rfl⟩ sh_60 (by decide) rfl (c_Mo_sharpMany_60 E  q20h) rfl rfl (Nat.le_of_ble_eq_true rfl) 29 rfl [.int _] rfl ?_
      cases h
      exact x_iret dX9_all_29 rfl rfl rfl
  · replace h := x_ifT hc h
    refine x_iconst 16 rfl (v := 0) dX9_all_15 (by decide) ?_
    cases h
    exact x_iret dX9_all_16 rfl rfl rfl
theorem K_RX9_439 : x_KV RX9 439 M_Mo_becomes 2 := ⟨⟨(List.mem_append_right _ (List.mem_of_getElem? (i := 1750) (by decide +kernel))), (List.mem_append_right _ (List.mem_of_getElem? (i := 1753) (by decide +kernel))), (List.mem_append_right _ (List.mem_of_getElem? (i := 9) (by decide +kernel))), ⟨by decide +kernel, by decide +kernel⟩, by decide +kernel⟩, (List.mem_append_right _ (List.mem_of_getElem? (i := 1752) (by decide +kernel))), (List.mem_append_left _ (List.mem_of_getElem? (i := 97) (by decide +kernel)))⟩
theorem K_RX9_442 : x_KV RX9 442 M_Mo_refuses 2 := ⟨⟨(List.mem_append_right _ (List.mem_of_getElem? (i := 1754) (by decide +kernel))), (List.mem_append_right _ (List.mem_of_getElem? (i := 1757) (by decide +kernel))), (List.mem_append_right _ (List.mem_of_getElem? (i := 9) (by decide +kernel))), ⟨by decide +kernel, by decide +kernel⟩, by decide +kernel⟩, (List.mem_append_right _ (List.mem_of_getElem? (i := 1756) (by decide +kernel))), (List.mem_append_left _ (List.mem_of_getElem? (i := 98) (by decide +kernel)))⟩
abbrev M_Mo_hole : xM := (yX9_hole, cX9_hole, 2, some .int, [])
theorem dX9_hole_0 : decode cX9_hole 0 = .ok (.aload_n 0, 1) := by decide +kernel
theorem dX9_hole_1 : decode cX9_hole 1 = .ok (.iconst 0, 1) := by decide +kernel
theorem dX9_hole_2 : decode cX9_hole 2 = .ok (.putfield 132, 3) := by decide +kernel
theorem dX9_hole_5 : decode cX9_hole 5 = .ok (.iload_n 1, 1) := by decide +kernel
theorem dX9_hole_6 : decode cX9_hole 6 = .ok (.iconst 1, 1) := by decide +kernel
theorem dX9_hole_7 : decode cX9_hole 7 = .ok (.bipush 60, 2) := by decide +kernel
theorem dX9_hole_9 : decode cX9_hole 9 = .ok (.invokestatic 414, 3) := by decide +kernel
theorem dX9_hole_12 : decode cX9_hole 12 = .ok (.ifCond .eq 12, 3) := by decide +kernel
theorem dX9_hole_15 : decode cX9_hole 15 = .ok (.aload_n 0, 1) := by decide +kernel
theorem dX9_hole_16 : decode cX9_hole 16 = .ok (.iconst 0, 1) := by decide +kernel
theorem dX9_hole_17 : decode cX9_hole 17 = .ok (.iload_n 1, 1) := by decide +kernel
theorem dX9_hole_18 : decode cX9_hole 18 = .ok (.invokevirtual 439, 3) := by decide +kernel
theorem dX9_hole_21 : decode cX9_hole 21 = .ok (.goto 9, 3) := by decide +kernel
theorem dX9_hole_24 : decode cX9_hole 24 = .ok (.aload_n 0, 1) := by decide +kernel
theorem dX9_hole_25 : decode cX9_hole 25 = .ok (.iconst 1, 1) := by decide +kernel
theorem dX9_hole_26 : decode cX9_hole 26 = .ok (.iconst (-1), 1) := by decide +kernel
theorem dX9_hole_27 : decode cX9_hole 27 = .ok (.invokevirtual 442, 3) := by decide +kernel
theorem dX9_hole_30 : decode cX9_hole 30 = .ok (.ireturn, 1) := by decide +kernel
def f_Mo_hole_60 (v1 : Int32) (σ : xS) : Option (Int32 × xS) :=
  let σ1 := x_pI σ 60 0 (0 : Int32)
  (f_Mo_within v1 (1 : Int32) (60 : Int32) σ1).bind fun q2 =>
  if q2.1 = 0 then
    (f_Mo_refuses_60 (1 : Int32) (-1 : Int32) q2.2).bind fun q3 =>
    some (q3.1, q3.2)
  else
    (f_Mo_becomes_60 (0 : Int32) v1 q2.2).bind fun q4 =>
    some (q4.1, q4.2)
set_option maxHeartbeats 4000000 in
set_option maxRecDepth 100000 in
theorem c_Mo_hole_60 {l : Launch} {s0 : State} {a0 : Array Value} {D : va_G} {cA : Nat → ClassId} {sp : Nat → Nat} (E : x_En CL l s0 a0 D cA sp) (v1 : Int32) {σ : xS} {r : Int32} {σ1 : xS} (h : f_Mo_hole_60 v1 σ = some (r, σ1)) : zC l s0 D cA sp 1 M_Mo_hole [.ref 60, .int v1] σ (some (.int r)) σ1 := by
  unfold f_Mo_hole_60 at h
  try dsimp only at h
  refine x_enter [some (.ref 60), some (.int v1)] rfl (Nat.le_of_ble_eq_true rfl) (by decide +kernel) rfl ?_
  refine x_aload_n 1 rfl 0 dX9_hole_0 rfl rfl ?_
  refine x_iconst 2 rfl (v := 0) dX9_hole_1 (by decide) ?_
  refine x_putI E dX9_hole_2 F_RX9_132 sh_60 5 rfl ?_
  refine x_iload_n 6 rfl 1 dX9_hole_5 rfl rfl ?_
  refine x_iconst 7 rfl (v := 1) dX9_hole_6 (by decide) ?_
  refine x_bipush 9 rfl (v := 60) dX9_hole_7 (by decide) ?_
  obtain ⟨⟨q2r, q2s⟩, q2h, h⟩ := x_bind h
  try dsimp only at h
  refine z_callS E [.int _, .int _, .int _] [] dX9_hole_9 K_RX9_414 ⟨Nat.le_of_ble_eq_true rfl, Nat.le_of_ble_eq_true rfl⟩ (c_Mo_within E _ _ _ q2h) rfl rfl (Nat.le_of_ble_eq_true rfl) 12 rfl [.int _] rfl ?_
  refine x_if_eq 15 rfl 24 dX9_hole_12 (by decide) (fun hc => ?_) (fun hc => ?_)
  · replace h := x_ifT hc h
    refine x_aload_n 25 rfl 0 dX9_hole_24 rfl rfl ?_
    refine x_iconst 26 rfl (v := 1) dX9_hole_25 (by decide) ?_
    refine x_iconst 27 rfl (v := -1) dX9_hole_26 (by decide) ?_
    obtain ⟨⟨q3r, q3s⟩, q3h, h⟩ := x_bind h
    try dsimp only at h
    refine z_callV E [.int _, .int _] [] dX9_hole_27 K_RX9_442 ⟨Nat.le_of_ble_eq_true rfl, Nat.le_of_ble_eq_true rfl⟩ sh_60 (by decide) rfl (c_Mo_refuses_60 E _ _ q3h) rfl rfl (Nat.le_of_ble_eq_true rfl) 30 rfl [.int _] rfl ?_
    cases h
    exact x_iret dX9_hole_30 rfl rfl rfl
  · replace h := x_ifF hc h
    refine x_aload_n 16 rfl 0 dX9_hole_15 rfl rfl ?_
    refine x_iconst 17 rfl (v := 0) dX9_hole_16 (by decide) ?_
    refine x_iload_n 18 rfl 1 dX9_hole_17 rfl rfl ?_
    obtain ⟨⟨q4r, q4s⟩, q4h, h⟩ := x_bind h
    try dsimp only at h
    refine z_callV E [.int _, .int _] [] dX9_hole_18 K_RX9_439 ⟨Nat.le_of_ble_eq_true rfl, Nat.le_of_ble_eq_true rfl⟩ sh_60 (by decide) rfl (c_Mo_becomes_60 E _ _ q4h) rfl rfl (Nat.le_of_ble_eq_true rfl) 21 rfl [.int _] rfl ?_
    refine x_goto 30 dX9_hole_21 (by decide) ?_
    cases h
    exact x_iret dX9_hole_30 rfl rfl rfl
abbrev M_Mo_lag : xM := (yX9_lag, cX9_lag, 2, some .int, [])
theorem dX9_lag_0 : decode cX9_lag 0 = .ok (.aload_n 0, 1) := by decide +kernel
theorem dX9_lag_1 : decode cX9_lag 1 = .ok (.iconst 0, 1) := by decide +kernel
theorem dX9_lag_2 : decode cX9_lag 2 = .ok (.putfield 132, 3) := by decide +kernel
theorem dX9_lag_5 : decode cX9_lag 5 = .ok (.iload_n 1, 1) := by decide +kernel
theorem dX9_lag_6 : decode cX9_lag 6 = .ok (.iconst 0, 1) := by decide +kernel
theorem dX9_lag_7 : decode cX9_lag 7 = .ok (.bipush 24, 2) := by decide +kernel
theorem dX9_lag_9 : decode cX9_lag 9 = .ok (.invokestatic 414, 3) := by decide +kernel
theorem dX9_lag_12 : decode cX9_lag 12 = .ok (.ifCond .eq 12, 3) := by decide +kernel
theorem dX9_lag_15 : decode cX9_lag 15 = .ok (.aload_n 0, 1) := by decide +kernel
theorem dX9_lag_16 : decode cX9_lag 16 = .ok (.iconst 1, 1) := by decide +kernel
theorem dX9_lag_17 : decode cX9_lag 17 = .ok (.iload_n 1, 1) := by decide +kernel
theorem dX9_lag_18 : decode cX9_lag 18 = .ok (.invokevirtual 439, 3) := by decide +kernel
theorem dX9_lag_21 : decode cX9_lag 21 = .ok (.goto 9, 3) := by decide +kernel
theorem dX9_lag_24 : decode cX9_lag 24 = .ok (.aload_n 0, 1) := by decide +kernel
theorem dX9_lag_25 : decode cX9_lag 25 = .ok (.iconst 1, 1) := by decide +kernel
theorem dX9_lag_26 : decode cX9_lag 26 = .ok (.iconst (-1), 1) := by decide +kernel
theorem dX9_lag_27 : decode cX9_lag 27 = .ok (.invokevirtual 442, 3) := by decide +kernel
theorem dX9_lag_30 : decode cX9_lag 30 = .ok (.ireturn, 1) := by decide +kernel
def f_Mo_lag_60 (v1 : Int32) (σ : xS) : Option (Int32 × xS) :=
  let σ1 := x_pI σ 60 0 (0 : Int32)
  (f_Mo_within v1 (0 : Int32) (24 : Int32) σ1).bind fun q2 =>
  if q2.1 = 0 then
    (f_Mo_refuses_60 (1 : Int32) (-1 : Int32) q2.2).bind fun q3 =>
    some (q3.1, q3.2)
  else
    (f_Mo_becomes_60 (1 : Int32) v1 q2.2).bind fun q4 =>
    some (q4.1, q4.2)
set_option maxHeartbeats 4000000 in
set_option maxRecDepth 100000 in
theorem c_Mo_lag_60 {l : Launch} {s0 : State} {a0 : Array Value} {D : va_G} {cA : Nat → ClassId} {sp : Nat → Nat} (E : x_En CL l s0 a0 D cA sp) (v1 : Int32) {σ : xS} {r : Int32} {σ1 : xS} (h : f_Mo_lag_60 v1 σ = some (r, σ1)) : zC l s0 D cA sp 1 M_Mo_lag [.ref 60, .int v1] σ (some (.int r)) σ1 := by
  unfold f_Mo_lag_60 at h
  try dsimp only at h
  refine x_enter [some (.ref 60), some (.int v1)] rfl (Nat.le_of_ble_eq_true rfl) (by decide +kernel) rfl ?_
  refine x_aload_n 1 rfl 0 dX9_lag_0 rfl rfl ?_
  refine x_iconst 2 rfl (v := 0) dX9_lag_1 (by decide) ?_
  refine x_putI E dX9_lag_2 F_RX9_132 sh_60 5 rfl ?_
  refine x_iload_n 6 rfl 1 dX9_lag_5 rfl rfl ?_
  refine x_iconst 7 rfl (v := 0) dX9_lag_6 (by decide) ?_
  refine x_bipush 9 rfl (v := 24) dX9_lag_7 (by decide) ?_
  obtain ⟨⟨q2r, q2s⟩, q2h, h⟩ := x_bind h
  try dsimp only at h
  refine z_callS E [.int _, .int _, .int _] [] dX9_lag_9 K_RX9_414 ⟨Nat.le_of_ble_eq_true rfl, Nat.le_of_ble_eq_true rfl⟩ (c_Mo_within E _ _ _ q2h) rfl rfl (Nat.le_of_ble_eq_true rfl) 12 rfl [.int _] rfl ?_
  refine x_if_eq 15 rfl 24 dX9_lag_12 (by decide) (fun hc => ?_) (fun hc => ?_)
  · replace h := x_ifT hc h
    refine x_aload_n 25 rfl 0 dX9_lag_24 rfl rfl ?_
    refine x_iconst 26 rfl (v := 1) dX9_lag_25 (by decide) ?_
    refine x_iconst 27 rfl (v := -1) dX9_lag_26 (by decide) ?_
    obtain ⟨⟨q3r, q3s⟩, q3h, h⟩ := x_bind h
    try dsimp only at h
    refine z_callV E [.int _, .int _] [] dX9_lag_27 K_RX9_442 ⟨Nat.le_of_ble_eq_true rfl, Nat.le_of_ble_eq_true rfl⟩ sh_60 (by decide) rfl (c_Mo_refuses_60 E _ _ q3h) rfl rfl (Nat.le_of_ble_eq_true rfl) 30 rfl [.int _] rfl ?_
    cases h
    exact x_iret dX9_lag_30 rfl rfl rfl
  · replace h := x_ifF hc h
    refine x_aload_n 16 rfl 0 dX9_lag_15 rfl rfl ?_
    refine x_iconst 17 rfl (v := 1) dX9_lag_16 (by decide) ?_
    refine x_iload_n 18 rfl 1 dX9_lag_17 rfl rfl ?_
    obtain ⟨⟨q4r, q4s⟩, q4h, h⟩ := x_bind h
    try dsimp only at h
    refine z_callV E [.int _, .int _] [] dX9_lag_18 K_RX9_439 ⟨Nat.le_of_ble_eq_true rfl, Nat.le_of_ble_eq_true rfl⟩ sh_60 (by decide) rfl (c_Mo_becomes_60 E _ _ q4h) rfl rfl (Nat.le_of_ble_eq_true rfl) 21 rfl [.int _] rfl ?_
    refine x_goto 30 dX9_lag_21 (by decide) ?_
    cases h
    exact x_iret dX9_lag_30 rfl rfl rfl
abbrev M_Mo_wrist : xM := (yX9_wrist, cX9_wrist, 2, some .int, [])
theorem dX9_wrist_0 : decode cX9_wrist 0 = .ok (.aload_n 0, 1) := by decide +kernel
theorem dX9_wrist_1 : decode cX9_wrist 1 = .ok (.iconst 0, 1) := by decide +kernel
theorem dX9_wrist_2 : decode cX9_wrist 2 = .ok (.putfield 132, 3) := by decide +kernel
theorem dX9_wrist_5 : decode cX9_wrist 5 = .ok (.iload_n 1, 1) := by decide +kernel
theorem dX9_wrist_6 : decode cX9_wrist 6 = .ok (.iconst 1, 1) := by decide +kernel
theorem dX9_wrist_7 : decode cX9_wrist 7 = .ok (.bipush 90, 2) := by decide +kernel
theorem dX9_wrist_9 : decode cX9_wrist 9 = .ok (.invokestatic 414, 3) := by decide +kernel
theorem dX9_wrist_12 : decode cX9_wrist 12 = .ok (.ifCond .eq 12, 3) := by decide +kernel
theorem dX9_wrist_15 : decode cX9_wrist 15 = .ok (.aload_n 0, 1) := by decide +kernel
theorem dX9_wrist_16 : decode cX9_wrist 16 = .ok (.iconst 2, 1) := by decide +kernel
theorem dX9_wrist_17 : decode cX9_wrist 17 = .ok (.iload_n 1, 1) := by decide +kernel
theorem dX9_wrist_18 : decode cX9_wrist 18 = .ok (.invokevirtual 439, 3) := by decide +kernel
theorem dX9_wrist_21 : decode cX9_wrist 21 = .ok (.goto 9, 3) := by decide +kernel
theorem dX9_wrist_24 : decode cX9_wrist 24 = .ok (.aload_n 0, 1) := by decide +kernel
theorem dX9_wrist_25 : decode cX9_wrist 25 = .ok (.iconst 1, 1) := by decide +kernel
theorem dX9_wrist_26 : decode cX9_wrist 26 = .ok (.iconst (-1), 1) := by decide +kernel
theorem dX9_wrist_27 : decode cX9_wrist 27 = .ok (.invokevirtual 442, 3) := by decide +kernel
theorem dX9_wrist_30 : decode cX9_wrist 30 = .ok (.ireturn, 1) := by decide +kernel
def f_Mo_wrist_60 (v1 : Int32) (σ : xS) : Option (Int32 × xS) :=
  let σ1 := x_pI σ 60 0 (0 : Int32)
  (f_Mo_within v1 (1 : Int32) (90 : Int32) σ1).bind fun q2 =>
  if q2.1 = 0 then
    (f_Mo_refuses_60 (1 : Int32) (-1 : Int32) q2.2).bind fun q3 =>
    some (q3.1, q3.2)
  else
    (f_Mo_becomes_60 (2 : Int32) v1 q2.2).bind fun q4 =>
    some (q4.1, q4.2)
set_option maxHeartbeats 4000000 in
set_option maxRecDepth 100000 in
theorem c_Mo_wrist_60 {l : Launch} {s0 : State} {a0 : Array Value} {D : va_G} {cA : Nat → ClassId} {sp : Nat → Nat} (E : x_En CL l s0 a0 D cA sp) (v1 : Int32) {σ : xS} {r : Int32} {σ1 : xS} (h : f_Mo_wrist_60 v1 σ = some (r, σ1)) : zC l s0 D cA sp 1 M_Mo_wrist [.ref 60, .int v1] σ (some (.int r)) σ1 := by
  unfold f_Mo_wrist_60 at h
  try dsimp only at h
  refine x_enter [some (.ref 60), some (.int v1)] rfl (Nat.le_of_ble_eq_true rfl) (by decide +kernel) rfl ?_
  refine x_aload_n 1 rfl 0 dX9_wrist_0 rfl rfl ?_
  refine x_iconst 2 rfl (v := 0) dX9_wrist_1 (by decide) ?_
  refine x_putI E dX9_wrist_2 F_RX9_132 sh_60 5 rfl ?_
  refine x_iload_n 6 rfl 1 dX9_wrist_5 rfl rfl ?_
  refine x_iconst 7 rfl (v := 1) dX9_wrist_6 (by decide) ?_
  refine x_bipush 9 rfl (v := 90) dX9_wrist_7 (by decide) ?_
  obtain ⟨⟨q2r, q2s⟩, q2h, h⟩ := x_bind h
  try dsimp only at h
  refine z_callS E [.int _, .int _, .int _] [] dX9_wrist_9 K_RX9_414 ⟨Nat.le_of_ble_eq_true rfl, Nat.le_of_ble_eq_true rfl⟩ (c_Mo_within E _ _ _ q2h) rfl rfl (Nat.le_of_ble_eq_true rfl) 12 rfl [.int _] rfl ?_
  refine x_if_eq 15 rfl 24 dX9_wrist_12 (by decide) (fun hc => ?_) (fun hc => ?_)
  · replace h := x_ifT hc h
    refine x_aload_n 25 rfl 0 dX9_wrist_24 rfl rfl ?_
    refine x_iconst 26 rfl (v := 1) dX9_wrist_25 (by decide) ?_
    refine x_iconst 27 rfl (v := -1) dX9_wrist_26 (by decide) ?_
    obtain ⟨⟨q3r, q3s⟩, q3h, h⟩ := x_bind h
    try dsimp only at h
    refine z_callV E [.int _, .int _] [] dX9_wrist_27 K_RX9_442 ⟨Nat.le_of_ble_eq_true rfl, Nat.le_of_ble_eq_true rfl⟩ sh_60 (by decide) rfl (c_Mo_refuses_60 E _ _ q3h) rfl rfl (Nat.le_of_ble_eq_true rfl) 30 rfl [.int _] rfl ?_
    cases h
    exact x_iret dX9_wrist_30 rfl rfl rfl
  · replace h := x_ifF hc h
    refine x_aload_n 16 rfl 0 dX9_wrist_15 rfl rfl ?_
    refine x_iconst 17 rfl (v := 2) dX9_wrist_16 (by decide) ?_
    refine x_iload_n 18 rfl 1 dX9_wrist_17 rfl rfl ?_
    obtain ⟨⟨q4r, q4s⟩, q4h, h⟩ := x_bind h
    try dsimp only at h
    refine z_callV E [.int _, .int _] [] dX9_wrist_18 K_RX9_439 ⟨Nat.le_of_ble_eq_true rfl, Nat.le_of_ble_eq_true rfl⟩ sh_60 (by decide) rfl (c_Mo_becomes_60 E _ _ q4h) rfl rfl (Nat.le_of_ble_eq_true rfl) 21 rfl [.int _] rfl ?_
    refine x_goto 30 dX9_wrist_21 (by decide) ?_
    cases h
    exact x_iret dX9_wrist_30 rfl rfl rfl
abbrev M_Mo_eye : xM := (yX9_eye, cX9_eye, 2, some .int, [])
theorem dX9_eye_0 : decode cX9_eye 0 = .ok (.aload_n 0, 1) := by decide +kernel
theorem dX9_eye_1 : decode cX9_eye 1 = .ok (.iconst 0, 1) := by decide +kernel
theorem dX9_eye_2 : decode cX9_eye 2 = .ok (.putfield 132, 3) := by decide +kernel
theorem dX9_eye_5 : decode cX9_eye 5 = .ok (.iload_n 1, 1) := by decide +kernel
theorem dX9_eye_6 : decode cX9_eye 6 = .ok (.bipush (-30), 2) := by decide +kernel
theorem dX9_eye_8 : decode cX9_eye 8 = .ok (.bipush 30, 2) := by decide +kernel
theorem dX9_eye_10 : decode cX9_eye 10 = .ok (.invokestatic 414, 3) := by decide +kernel
theorem dX9_eye_13 : decode cX9_eye 13 = .ok (.ifCond .eq 12, 3) := by decide +kernel
theorem dX9_eye_16 : decode cX9_eye 16 = .ok (.aload_n 0, 1) := by decide +kernel
theorem dX9_eye_17 : decode cX9_eye 17 = .ok (.iconst 3, 1) := by decide +kernel
theorem dX9_eye_18 : decode cX9_eye 18 = .ok (.iload_n 1, 1) := by decide +kernel
theorem dX9_eye_19 : decode cX9_eye 19 = .ok (.invokevirtual 439, 3) := by decide +kernel
theorem dX9_eye_22 : decode cX9_eye 22 = .ok (.goto 10, 3) := by decide +kernel
theorem dX9_eye_25 : decode cX9_eye 25 = .ok (.aload_n 0, 1) := by decide +kernel
theorem dX9_eye_26 : decode cX9_eye 26 = .ok (.iconst 1, 1) := by decide +kernel
theorem dX9_eye_27 : decode cX9_eye 27 = .ok (.bipush (-99), 2) := by decide +kernel
theorem dX9_eye_29 : decode cX9_eye 29 = .ok (.invokevirtual 442, 3) := by decide +kernel
theorem dX9_eye_32 : decode cX9_eye 32 = .ok (.ireturn, 1) := by decide +kernel
def f_Mo_eye_60 (v1 : Int32) (σ : xS) : Option (Int32 × xS) :=
  let σ1 := x_pI σ 60 0 (0 : Int32)
  (f_Mo_within v1 (-30 : Int32) (30 : Int32) σ1).bind fun q2 =>
  if q2.1 = 0 then
    (f_Mo_refuses_60 (1 : Int32) (-99 : Int32) q2.2).bind fun q3 =>
    some (q3.1, q3.2)
  else
    (f_Mo_becomes_60 (3 : Int32) v1 q2.2).bind fun q4 =>
    some (q4.1, q4.2)
set_option maxHeartbeats 4000000 in
set_option maxRecDepth 100000 in
theorem c_Mo_eye_60 {l : Launch} {s0 : State} {a0 : Array Value} {D : va_G} {cA : Nat → ClassId} {sp : Nat → Nat} (E : x_En CL l s0 a0 D cA sp) (v1 : Int32) {σ : xS} {r : Int32} {σ1 : xS} (h : f_Mo_eye_60 v1 σ = some (r, σ1)) : zC l s0 D cA sp 1 M_Mo_eye [.ref 60, .int v1] σ (some (.int r)) σ1 := by
  unfold f_Mo_eye_60 at h
  try dsimp only at h
  refine x_enter [some (.ref 60), some (.int v1)] rfl (Nat.le_of_ble_eq_true rfl) (by decide +kernel) rfl ?_
  refine x_aload_n 1 rfl 0 dX9_eye_0 rfl rfl ?_
  refine x_iconst 2 rfl (v := 0) dX9_eye_1 (by decide) ?_
  refine x_putI E dX9_eye_2 F_RX9_132 sh_60 5 rfl ?_
  refine x_iload_n 6 rfl 1 dX9_eye_5 rfl rfl ?_
  refine x_bipush 8 rfl (v := -30) dX9_eye_6 (by decide) ?_
  refine x_bipush 10 rfl (v := 30) dX9_eye_8 (by decide) ?_
  obtain ⟨⟨q2r, q2s⟩, q2h, h⟩ := x_bind h
  try dsimp only at h
  refine z_callS E [.int _, .int _, .int _] [] dX9_eye_10 K_RX9_414 ⟨Nat.le_of_ble_eq_true rfl, Nat.le_of_ble_eq_true rfl⟩ (c_Mo_within E _ _ _ q2h) rfl rfl (Nat.le_of_ble_eq_true rfl) 13 rfl [.int _] rfl ?_
  refine x_if_eq 16 rfl 25 dX9_eye_13 (by decide) (fun hc => ?_) (fun hc => ?_)
  · replace h := x_ifT hc h
    refine x_aload_n 26 rfl 0 dX9_eye_25 rfl rfl ?_
    refine x_iconst 27 rfl (v := 1) dX9_eye_26 (by decide) ?_
    refine x_bipush 29 rfl (v := -99) dX9_eye_27 (by decide) ?_
    obtain ⟨⟨q3r, q3s⟩, q3h, h⟩ := x_bind h
    try dsimp only at h
    refine z_callV E [.int _, .int _] [] dX9_eye_29 K_RX9_442 ⟨Nat.le_of_ble_eq_true rfl, Nat.le_of_ble_eq_true rfl⟩ sh_60 (by decide) rfl (c_Mo_refuses_60 E _ _ q3h) rfl rfl (Nat.le_of_ble_eq_true rfl) 32 rfl [.int _] rfl ?_
    cases h
    exact x_iret dX9_eye_32 rfl rfl rfl
  · replace h := x_ifF hc h
    refine x_aload_n 17 rfl 0 dX9_eye_16 rfl rfl ?_
    refine x_iconst 18 rfl (v := 3) dX9_eye_17 (by decide) ?_
    refine x_iload_n 19 rfl 1 dX9_eye_18 rfl rfl ?_
    obtain ⟨⟨q4r, q4s⟩, q4h, h⟩ := x_bind h
    try dsimp only at h
    refine z_callV E [.int _, .int _] [] dX9_eye_19 K_RX9_439 ⟨Nat.le_of_ble_eq_true rfl, Nat.le_of_ble_eq_true rfl⟩ sh_60 (by decide) rfl (c_Mo_becomes_60 E _ _ q4h) rfl rfl (Nat.le_of_ble_eq_true rfl) 22 rfl [.int _] rfl ?_
    refine x_goto 32 dX9_eye_22 (by decide) ?_
    cases h
    exact x_iret dX9_eye_32 rfl rfl rfl
abbrev M_Mo_hand : xM := (yX9_hand, cX9_hand, 2, some .boolean, [])
theorem dX9_hand_0 : decode cX9_hand 0 = .ok (.aload_n 0, 1) := by decide +kernel
theorem dX9_hand_1 : decode cX9_hand 1 = .ok (.iconst 0, 1) := by decide +kernel
theorem dX9_hand_2 : decode cX9_hand 2 = .ok (.putfield 132, 3) := by decide +kernel
theorem dX9_hand_5 : decode cX9_hand 5 = .ok (.iload_n 1, 1) := by decide +kernel
theorem dX9_hand_6 : decode cX9_hand 6 = .ok (.iconst (-1), 1) := by decide +kernel
theorem dX9_hand_7 : decode cX9_hand 7 = .ok (.if_icmp .lt 11, 3) := by decide +kernel
theorem dX9_hand_10 : decode cX9_hand 10 = .ok (.iload_n 1, 1) := by decide +kernel
theorem dX9_hand_11 : decode cX9_hand 11 = .ok (.aload_n 0, 1) := by decide +kernel
theorem dX9_hand_12 : decode cX9_hand 12 = .ok (.getfield 333, 3) := by decide +kernel
theorem dX9_hand_15 : decode cX9_hand 15 = .ok (.if_icmp .lt 18, 3) := by decide +kernel
theorem dX9_hand_18 : decode cX9_hand 18 = .ok (.aload_n 0, 1) := by decide +kernel
theorem dX9_hand_19 : decode cX9_hand 19 = .ok (.iconst 1, 1) := by decide +kernel
theorem dX9_hand_20 : decode cX9_hand 20 = .ok (.iconst 0, 1) := by decide +kernel
theorem dX9_hand_21 : decode cX9_hand 21 = .ok (.invokevirtual 442, 3) := by decide +kernel
theorem dX9_hand_24 : decode cX9_hand 24 = .ok (.ifCond .le 7, 3) := by decide +kernel
theorem dX9_hand_27 : decode cX9_hand 27 = .ok (.iconst 1, 1) := by decide +kernel
theorem dX9_hand_28 : decode cX9_hand 28 = .ok (.goto 4, 3) := by decide +kernel
theorem dX9_hand_31 : decode cX9_hand 31 = .ok (.iconst 0, 1) := by decide +kernel
theorem dX9_hand_32 : decode cX9_hand 32 = .ok (.ireturn, 1) := by decide +kernel
theorem dX9_hand_33 : decode cX9_hand 33 = .ok (.aload_n 0, 1) := by decide +kernel
theorem dX9_hand_34 : decode cX9_hand 34 = .ok (.iconst 5, 1) := by decide +kernel
theorem dX9_hand_35 : decode cX9_hand 35 = .ok (.iload_n 1, 1) := by decide +kernel
theorem dX9_hand_36 : decode cX9_hand 36 = .ok (.invokevirtual 439, 3) := by decide +kernel
theorem dX9_hand_39 : decode cX9_hand 39 = .ok (.pop, 1) := by decide +kernel
theorem dX9_hand_40 : decode cX9_hand 40 = .ok (.iconst 1, 1) := by decide +kernel
theorem dX9_hand_41 : decode cX9_hand 41 = .ok (.ireturn, 1) := by decide +kernel
def f_Mo_hand_60 (v1 : Int32) (σ : xS) : Option (Int32 × xS) :=
  let σ1 := x_pI σ 60 0 (0 : Int32)
  if v1 < (-1 : Int32) then
    (f_Mo_refuses_60 (1 : Int32) (0 : Int32) σ1).bind fun q2 =>
    if q2.1 ≤ 0 then
      some ((0 : Int32), q2.2)
    else
      some ((1 : Int32), q2.2)
  else
    if v1 < σ1.1 60 5 then
      (f_Mo_becomes_60 (5 : Int32) v1 σ1).bind fun q3 =>
      some ((1 : Int32), q3.2)
    else
      (f_Mo_refuses_60 (1 : Int32) (0 : Int32) σ1).bind fun q4 =>
      if q4.1 ≤ 0 then
        some ((0 : Int32), q4.2)
      else
        some ((1 : Int32), q4.2)
set_option maxHeartbeats 4000000 in
set_option maxRecDepth 100000 in
theorem c_Mo_hand_60 {l : Launch} {s0 : State} {a0 : Array Value} {D : va_G} {cA : Nat → ClassId} {sp : Nat → Nat} (E : x_En CL l s0 a0 D cA sp) (v1 : Int32) {σ : xS} {r : Int32} {σ1 : xS} (h : f_Mo_hand_60 v1 σ = some (r, σ1)) : zC l s0 D cA sp 1 M_Mo_hand [.ref 60, .int v1] σ (some (.int r)) σ1 := by
  unfold f_Mo_hand_60 at h
  try dsimp only at h
  refine x_enter [some (.ref 60), some (.int v1)] rfl (Nat.le_of_ble_eq_true rfl) (by decide +kernel) rfl ?_
  refine x_aload_n 1 rfl 0 dX9_hand_0 rfl rfl ?_
  refine x_iconst 2 rfl (v := 0) dX9_hand_1 (by decide) ?_
  refine x_putI E dX9_hand_2 F_RX9_132 sh_60 5 rfl ?_
  refine x_iload_n 6 rfl 1 dX9_hand_5 rfl rfl ?_
  refine x_iconst 7 rfl (v := -1) dX9_hand_6 (by decide) ?_
  refine x_icmp_lt 10 rfl 18 dX9_hand_7 (by decide) (fun hc => ?_) (fun hc => ?_)
  · replace h := x_ifT hc h
    refine x_aload_n 19 rfl 0 dX9_hand_18 rfl rfl ?_
    refine x_iconst 20 rfl (v := 1) dX9_hand_19 (by decide) ?_
    refine x_iconst 21 rfl (v := 0) dX9_hand_20 (by decide) ?_
    obtain ⟨⟨q2r, q2s⟩, q2h, h⟩ := x_bind h
    try dsimp only at h
    refine z_callV E [.int _, .int _] [] dX9_hand_21 K_RX9_442 ⟨Nat.le_of_ble_eq_true rfl, Nat.le_of_ble_eq_true rfl⟩ sh_60 (by decide) rfl (c_Mo_refuses_60 E _ _ q2h) rfl rfl (Nat.le_of_ble_eq_true rfl) 24 rfl [.int _] rfl ?_
    refine x_if_le 27 rfl 31 dX9_hand_24 (by decide) (fun hc => ?_) (fun hc => ?_)
    · replace h := x_ifT hc h
      refine x_iconst 32 rfl (v := 0) dX9_hand_31 (by decide) ?_
      cases h
      exact x_zret (Or.inl rfl) dX9_hand_32 rfl rfl rfl
    · replace h := x_ifF hc h
      refine x_iconst 28 rfl (v := 1) dX9_hand_27 (by decide) ?_
      refine x_goto 32 dX9_hand_28 (by decide) ?_
      cases h
      exact x_zret (Or.inr rfl) dX9_hand_32 rfl rfl rfl
  · replace h := x_ifF hc h
    refine x_iload_n 11 rfl 1 dX9_hand_10 rfl rfl ?_
    refine x_aload_n 12 rfl 0 dX9_hand_11 rfl rfl ?_
    refine x_getI E dX9_hand_12 F_RX9_333 sh_60 15 rfl ?_
    refine x_icmp_lt 18 rfl 33 dX9_hand_15 (by decide) (fun hc => ?_) (fun hc => ?_)
    · replace h := x_ifT hc h
      refine x_aload_n 34 rfl 0 dX9_hand_33 rfl rfl ?_
      refine x_iconst 35 rfl (v := 5) dX9_hand_34 (by decide) ?_
      refine x_iload_n 36 rfl 1 dX9_hand_35 rfl rfl ?_
      obtain ⟨⟨q3r, q3s⟩, q3h, h⟩ := x_bind h
      try dsimp only at h
      refine z_callV E [.int _, .int _] [] dX9_hand_36 K_RX9_439 ⟨Nat.le_of_ble_eq_true rfl, Nat.le_of_ble_eq_true rfl⟩ sh_60 (by decide) rfl (c_Mo_becomes_60 E _ _ q3h) rfl rfl (Nat.le_of_ble_eq_true rfl) 39 rfl [.int _] rfl ?_
      refine x_pop 40 rfl dX9_hand_39 rfl ?_
      refine x_iconst 41 rfl (v := 1) dX9_hand_40 (by decide) ?_
      cases h
      exact x_zret (Or.inr rfl) dX9_hand_41 rfl rfl rfl
    · replace h := x_ifF hc h
      refine x_aload_n 19 rfl 0 dX9_hand_18 rfl rfl ?_
      refine x_iconst 20 rfl (v := 1) dX9_hand_19 (by decide) ?_
      refine x_iconst 21 rfl (v := 0) dX9_hand_20 (by decide) ?_
      obtain ⟨⟨q4r, q4s⟩, q4h, h⟩ := x_bind h
      try dsimp only at h
      refine z_callV E [.int _, .int _] [] dX9_hand_21 K_RX9_442 ⟨Nat.le_of_ble_eq_true rfl, Nat.le_of_ble_eq_true rfl⟩ sh_60 (by decide) rfl (c_Mo_refuses_60 E _ _ q4h) rfl rfl (Nat.le_of_ble_eq_true rfl) 24 rfl [.int _] rfl ?_
      refine x_if_le 27 rfl 31 dX9_hand_24 (by decide) (fun hc => ?_) (fun hc => ?_)
      · replace h := x_ifT hc h
        refine x_iconst 32 rfl (v := 0) dX9_hand_31 (by decide) ?_
        cases h
        exact x_zret (Or.inl rfl) dX9_hand_32 rfl rfl rfl
      · replace h := x_ifF hc h
        refine x_iconst 28 rfl (v := 1) dX9_hand_27 (by decide) ?_
        refine x_goto 32 dX9_hand_28 (by decide) ?_
        cases h
        exact x_zret (Or.inr rfl) dX9_hand_32 rfl rfl rfl
abbrev M_Mo_behind : xM := (yX9_behind, cX9_behind, 2, some .int, [])
theorem dX9_behind_0 : decode cX9_behind 0 = .ok (.aload_n 0, 1) := by decide +kernel
theorem dX9_behind_1 : decode cX9_behind 1 = .ok (.iconst 0, 1) := by decide +kernel
theorem dX9_behind_2 : decode cX9_behind 2 = .ok (.putfield 132, 3) := by decide +kernel
theorem dX9_behind_5 : decode cX9_behind 5 = .ok (.iload_n 1, 1) := by decide +kernel
theorem dX9_behind_6 : decode cX9_behind 6 = .ok (.iconst 0, 1) := by decide +kernel
theorem dX9_behind_7 : decode cX9_behind 7 = .ok (.sipush 200, 3) := by decide +kernel
theorem dX9_behind_10 : decode cX9_behind 10 = .ok (.invokestatic 414, 3) := by decide +kernel
theorem dX9_behind_13 : decode cX9_behind 13 = .ok (.ifCond .eq 12, 3) := by decide +kernel
theorem dX9_behind_16 : decode cX9_behind 16 = .ok (.aload_n 0, 1) := by decide +kernel
theorem dX9_behind_17 : decode cX9_behind 17 = .ok (.iconst 4, 1) := by decide +kernel
theorem dX9_behind_18 : decode cX9_behind 18 = .ok (.iload_n 1, 1) := by decide +kernel
theorem dX9_behind_19 : decode cX9_behind 19 = .ok (.invokevirtual 439, 3) := by decide +kernel
theorem dX9_behind_22 : decode cX9_behind 22 = .ok (.goto 9, 3) := by decide +kernel
theorem dX9_behind_25 : decode cX9_behind 25 = .ok (.aload_n 0, 1) := by decide +kernel
theorem dX9_behind_26 : decode cX9_behind 26 = .ok (.iconst 1, 1) := by decide +kernel
theorem dX9_behind_27 : decode cX9_behind 27 = .ok (.iconst (-1), 1) := by decide +kernel
theorem dX9_behind_28 : decode cX9_behind 28 = .ok (.invokevirtual 442, 3) := by decide +kernel
theorem dX9_behind_31 : decode cX9_behind 31 = .ok (.ireturn, 1) := by decide +kernel
def f_Mo_behind_60 (v1 : Int32) (σ : xS) : Option (Int32 × xS) :=
  let σ1 := x_pI σ 60 0 (0 : Int32)
  (f_Mo_within v1 (0 : Int32) (200 : Int32) σ1).bind fun q2 =>
  if q2.1 = 0 then
    (f_Mo_refuses_60 (1 : Int32) (-1 : Int32) q2.2).bind fun q3 =>
    some (q3.1, q3.2)
  else
    (f_Mo_becomes_60 (4 : Int32) v1 q2.2).bind fun q4 =>
    some (q4.1, q4.2)
set_option maxHeartbeats 4000000 in
set_option maxRecDepth 100000 in
theorem c_Mo_behind_60 {l : Launch} {s0 : State} {a0 : Array Value} {D : va_G} {cA : Nat → ClassId} {sp : Nat → Nat} (E : x_En CL l s0 a0 D cA sp) (v1 : Int32) {σ : xS} {r : Int32} {σ1 : xS} (h : f_Mo_behind_60 v1 σ = some (r, σ1)) : zC l s0 D cA sp 1 M_Mo_behind [.ref 60, .int v1] σ (some (.int r)) σ1 := by
  unfold f_Mo_behind_60 at h
  try dsimp only at h
  refine x_enter [some (.ref 60), some (.int v1)] rfl (Nat.le_of_ble_eq_true rfl) (by decide +kernel) rfl ?_
  refine x_aload_n 1 rfl 0 dX9_behind_0 rfl rfl ?_
  refine x_iconst 2 rfl (v := 0) dX9_behind_1 (by decide) ?_
  refine x_putI E dX9_behind_2 F_RX9_132 sh_60 5 rfl ?_
  refine x_iload_n 6 rfl 1 dX9_behind_5 rfl rfl ?_
  refine x_iconst 7 rfl (v := 0) dX9_behind_6 (by decide) ?_
  refine x_sipush 10 rfl (v := 200) dX9_behind_7 (by decide) ?_
  obtain ⟨⟨q2r, q2s⟩, q2h, h⟩ := x_bind h
  try dsimp only at h
  refine z_callS E [.int _, .int _, .int _] [] dX9_behind_10 K_RX9_414 ⟨Nat.le_of_ble_eq_true rfl, Nat.le_of_ble_eq_true rfl⟩ (c_Mo_within E _ _ _ q2h) rfl rfl (Nat.le_of_ble_eq_true rfl) 13 rfl [.int _] rfl ?_
  refine x_if_eq 16 rfl 25 dX9_behind_13 (by decide) (fun hc => ?_) (fun hc => ?_)
  · replace h := x_ifT hc h
    refine x_aload_n 26 rfl 0 dX9_behind_25 rfl rfl ?_
    refine x_iconst 27 rfl (v := 1) dX9_behind_26 (by decide) ?_
    refine x_iconst 28 rfl (v := -1) dX9_behind_27 (by decide) ?_
    obtain ⟨⟨q3r, q3s⟩, q3h, h⟩ := x_bind h
    try dsimp only at h
    refine z_callV E [.int _, .int _] [] dX9_behind_28 K_RX9_442 ⟨Nat.le_of_ble_eq_true rfl, Nat.le_of_ble_eq_true rfl⟩ sh_60 (by decide) rfl (c_Mo_refuses_60 E _ _ q3h) rfl rfl (Nat.le_of_ble_eq_true rfl) 31 rfl [.int _] rfl ?_
    cases h
    exact x_iret dX9_behind_31 rfl rfl rfl
  · replace h := x_ifF hc h
    refine x_aload_n 17 rfl 0 dX9_behind_16 rfl rfl ?_
    refine x_iconst 18 rfl (v := 4) dX9_behind_17 (by decide) ?_
    refine x_iload_n 19 rfl 1 dX9_behind_18 rfl rfl ?_
    obtain ⟨⟨q4r, q4s⟩, q4h, h⟩ := x_bind h
    try dsimp only at h
    refine z_callV E [.int _, .int _] [] dX9_behind_19 K_RX9_439 ⟨Nat.le_of_ble_eq_true rfl, Nat.le_of_ble_eq_true rfl⟩ sh_60 (by decide) rfl (c_Mo_becomes_60 E _ _ q4h) rfl rfl (Nat.le_of_ble_eq_true rfl) 22 rfl [.int _] rfl ?_
    refine x_goto 31 dX9_behind_22 (by decide) ?_
    cases h
    exact x_iret dX9_behind_31 rfl rfl rfl
