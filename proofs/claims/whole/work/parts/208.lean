/-! The class's methods: functions and contracts. Written by wip/gen/emit.py. -/
theorem KX_RX8_365 : x_KN2 RX8 130 365 134 (x_Xn 2) "nothing such of THE QUICKEST" := ⟨by decide +kernel, (List.mem_append_right _ (List.mem_of_getElem? (i := 881) (by decide +kernel))), (List.mem_append_right _ (List.mem_of_getElem? (i := 22) (by decide +kernel))), (List.mem_append_right _ (List.mem_of_getElem? (i := 1209) (by decide +kernel))), (List.mem_of_getElem? (i := 1085) (by decide +kernel)), AX_134, AO_130_134⟩
theorem K_RX8_367 : x_KV RX8 367 M_Tr_rightIn 2 := ⟨⟨(List.mem_append_right _ (List.mem_of_getElem? (i := 1210) (by decide +kernel))), (List.mem_append_right _ (List.mem_of_getElem? (i := 499) (by decide +kernel))), (List.mem_append_right _ (List.mem_of_getElem? (i := 6) (by decide +kernel))), ⟨by decide +kernel, by decide +kernel⟩, by decide +kernel⟩, (List.mem_append_right _ (List.mem_of_getElem? (i := 497) (by decide +kernel))), (List.mem_append_right _ (List.mem_of_getElem? (i := 498) (by decide +kernel)))⟩
abbrev M_RH_quickest : xM := (yX8_quickest, cX8_quickest, 6, some .int, [])
theorem dX8_quickest_0 : decode cX8_quickest 0 = .ok (.iload_n 1, 1) := by decide +kernel
theorem dX8_quickest_1 : decode cX8_quickest 1 = .ok (.ifCond .lt 8, 3) := by decide +kernel
theorem dX8_quickest_4 : decode cX8_quickest 4 = .ok (.iload_n 1, 1) := by decide +kernel
theorem dX8_quickest_5 : decode cX8_quickest 5 = .ok (.iconst 1, 1) := by decide +kernel
theorem dX8_quickest_6 : decode cX8_quickest 6 = .ok (.if_icmp .le 14, 3) := by decide +kernel
theorem dX8_quickest_9 : decode cX8_quickest 9 = .ok (.new 130, 3) := by decide +kernel
theorem dX8_quickest_12 : decode cX8_quickest 12 = .ok (.dup, 1) := by decide +kernel
theorem dX8_quickest_13 : decode cX8_quickest 13 = .ok (.ldc_w 365, 3) := by decide +kernel
theorem dX8_quickest_16 : decode cX8_quickest 16 = .ok (.invokespecial 134, 3) := by decide +kernel
theorem dX8_quickest_19 : decode cX8_quickest 19 = .ok (.athrow, 1) := by decide +kernel
theorem dX8_quickest_20 : decode cX8_quickest 20 = .ok (.aload_n 0, 1) := by decide +kernel
theorem dX8_quickest_21 : decode cX8_quickest 21 = .ok (.invokevirtual 187, 3) := by decide +kernel
theorem dX8_quickest_24 : decode cX8_quickest 24 = .ok (.iconst 0, 1) := by decide +kernel
theorem dX8_quickest_25 : decode cX8_quickest 25 = .ok (.istore_n 2, 1) := by decide +kernel
theorem dX8_quickest_26 : decode cX8_quickest 26 = .ok (.iconst 0, 1) := by decide +kernel
theorem dX8_quickest_27 : decode cX8_quickest 27 = .ok (.istore_n 3, 1) := by decide +kernel
theorem dX8_quickest_28 : decode cX8_quickest 28 = .ok (.iconst 1, 1) := by decide +kernel
theorem dX8_quickest_29 : decode cX8_quickest 29 = .ok (.istore 4, 2) := by decide +kernel
theorem dX8_quickest_31 : decode cX8_quickest 31 = .ok (.iload 4, 2) := by decide +kernel
theorem dX8_quickest_33 : decode cX8_quickest 33 = .ok (.aload_n 0, 1) := by decide +kernel
theorem dX8_quickest_34 : decode cX8_quickest 34 = .ok (.getfield 27, 3) := by decide +kernel
theorem dX8_quickest_37 : decode cX8_quickest 37 = .ok (.getfield 103, 3) := by decide +kernel
theorem dX8_quickest_40 : decode cX8_quickest 40 = .ok (.if_icmp .gt 59, 3) := by decide +kernel
theorem dX8_quickest_43 : decode cX8_quickest 43 = .ok (.aload_n 0, 1) := by decide +kernel
theorem dX8_quickest_44 : decode cX8_quickest 44 = .ok (.getfield 51, 3) := by decide +kernel
theorem dX8_quickest_47 : decode cX8_quickest 47 = .ok (.aload_n 0, 1) := by decide +kernel
theorem dX8_quickest_48 : decode cX8_quickest 48 = .ok (.getfield 27, 3) := by decide +kernel
theorem dX8_quickest_51 : decode cX8_quickest 51 = .ok (.iload 4, 2) := by decide +kernel
theorem dX8_quickest_53 : decode cX8_quickest 53 = .ok (.invokevirtual 367, 3) := by decide +kernel
theorem dX8_quickest_56 : decode cX8_quickest 56 = .ok (.aload_n 0, 1) := by decide +kernel
theorem dX8_quickest_57 : decode cX8_quickest 57 = .ok (.getfield 51, 3) := by decide +kernel
theorem dX8_quickest_60 : decode cX8_quickest 60 = .ok (.aload_n 0, 1) := by decide +kernel
theorem dX8_quickest_61 : decode cX8_quickest 61 = .ok (.getfield 27, 3) := by decide +kernel
theorem dX8_quickest_64 : decode cX8_quickest 64 = .ok (.iload 4, 2) := by decide +kernel
theorem dX8_quickest_66 : decode cX8_quickest 66 = .ok (.iconst 1, 1) := by decide +kernel
theorem dX8_quickest_67 : decode cX8_quickest 67 = .ok (.isub, 1) := by decide +kernel
theorem dX8_quickest_68 : decode cX8_quickest 68 = .ok (.invokevirtual 367, 3) := by decide +kernel
theorem dX8_quickest_71 : decode cX8_quickest 71 = .ok (.isub, 1) := by decide +kernel
theorem dX8_quickest_72 : decode cX8_quickest 72 = .ok (.invokestatic 256, 3) := by decide +kernel
theorem dX8_quickest_75 : decode cX8_quickest 75 = .ok (.istore 5, 2) := by decide +kernel
theorem dX8_quickest_77 : decode cX8_quickest 77 = .ok (.iload 5, 2) := by decide +kernel
theorem dX8_quickest_79 : decode cX8_quickest 79 = .ok (.iload_n 2, 1) := by decide +kernel
theorem dX8_quickest_80 : decode cX8_quickest 80 = .ok (.if_icmp .gt 7, 3) := by decide +kernel
theorem dX8_quickest_83 : decode cX8_quickest 83 = .ok (.iload_n 3, 1) := by decide +kernel
theorem dX8_quickest_84 : decode cX8_quickest 84 = .ok (.ifCond .ne 9, 3) := by decide +kernel
theorem dX8_quickest_87 : decode cX8_quickest 87 = .ok (.iload 5, 2) := by decide +kernel
theorem dX8_quickest_89 : decode cX8_quickest 89 = .ok (.istore_n 2, 1) := by decide +kernel
theorem dX8_quickest_90 : decode cX8_quickest 90 = .ok (.iload 4, 2) := by decide +kernel
theorem dX8_quickest_92 : decode cX8_quickest 92 = .ok (.istore_n 3, 1) := by decide +kernel
theorem dX8_quickest_93 : decode cX8_quickest 93 = .ok (.iinc 4 1, 3) := by decide +kernel
theorem dX8_quickest_96 : decode cX8_quickest 96 = .ok (.goto (-65), 3) := by decide +kernel
theorem dX8_quickest_99 : decode cX8_quickest 99 = .ok (.iload_n 1, 1) := by decide +kernel
theorem dX8_quickest_100 : decode cX8_quickest 100 = .ok (.ifCond .ne 7, 3) := by decide +kernel
theorem dX8_quickest_103 : decode cX8_quickest 103 = .ok (.iload_n 2, 1) := by decide +kernel
theorem dX8_quickest_104 : decode cX8_quickest 104 = .ok (.goto 4, 3) := by decide +kernel
theorem dX8_quickest_107 : decode cX8_quickest 107 = .ok (.iload_n 3, 1) := by decide +kernel
theorem dX8_quickest_108 : decode cX8_quickest 108 = .ok (.ireturn, 1) := by decide +kernel
def f_RH_quickest_0_L31 (v1 : Int32) (a : Int32 × Int32 × Int32 × xS) : Option ((Int32 × Int32 × Int32 × xS) ⊕ (Int32 × Int32 × Int32 × xS)) :=
  let v2 := a.1; let v3 := a.2.1; let v4 := a.2.2.1; let σ := a.2.2.2;
  if σ.1 7 4 < v4 then
    some (.inl (v2, v3, v4, σ))
  else
    (f_Tr_rightIn_49_7 v4 σ).bind fun q1 =>
    (f_Tr_rightIn_49_7 (v4 - (1 : Int32)) q1.2).bind fun q2 =>
    let w3 := (if 0 ≤ (q1.1 - q2.1) then (q1.1 - q2.1) else 0 - (q1.1 - q2.1))
    if v2 < w3 then
      let w4 := v4 + (1 : Int32)
      some (.inr (w3, v4, w4, q2.2))
    else
      if v3 = 0 then
        let w6 := v4 + (1 : Int32)
        some (.inr (w3, v4, w6, q2.2))
      else
        let w5 := v4 + (1 : Int32)
        some (.inr (v2, v3, w5, q2.2))
def f_RH_quickest_0 (v1 : Int32) (σ : xS) : Option ((Int32 ⊕ Nat) × xS) :=
  if v1 < 0 then
    some (.inr 2, σ)
  else
    if v1 ≤ (1 : Int32) then
      (f_RH_takeSettings_0  σ).bind fun q7 =>
      (x_it (f_RH_quickest_0_L31 v1) 10000 ((0 : Int32), (0 : Int32), (1 : Int32), q7.2)).bind fun b8 =>
      if v1 = 0 then
        some (.inl b8.1, b8.2.2.2)
      else
        some (.inl b8.2.1, b8.2.2.2)
    else
      some (.inr 2, σ)
set_option maxHeartbeats 4000000 in
set_option maxRecDepth 100000 in
theorem b_RH_quickest_0_L31 {l : Launch} {s0 : State} {a0 : Array Value} {D : va_G} {cA : Nat → ClassId} {sp : Nat → Nat} (E : x_En CL l s0 a0 D cA sp) (v1 : Int32) {r : Int32 ⊕ Nat} {σ1 : xS} (a : Int32 × Int32 × Int32 × xS) (o : (Int32 × Int32 × Int32 × xS) ⊕ (Int32 × Int32 × Int32 × xS)) (h : f_RH_quickest_0_L31 v1 a = some o) (hK : ∀ b, o = .inl b → zW l s0 D cA sp (oQ s0 D cA sp (x_oi r) σ1) (x_rm 4 1 6) M_RH_quickest 1 6 99 [none, some (.int v1), some (.int b.1), some (.int b.2.1), none, none] [] b.2.2.2) (hG : ∀ a', o = .inr a' → zW l s0 D cA sp (oQ s0 D cA sp (x_oi r) σ1) (x_rm 4 1 6) M_RH_quickest 1 6 31 [some (.ref 0), some (.int v1), some (.int a'.1), some (.int a'.2.1), some (.int a'.2.2.1), none] [] a'.2.2.2) : zW l s0 D cA sp (oQ s0 D cA sp (x_oi r) σ1) (x_rm 4 1 6) M_RH_quickest 1 6 31 [some (.ref 0), some (.int v1), some (.int a.1), some (.int a.2.1), some (.int a.2.2.1), none] [] a.2.2.2 := by
  obtain ⟨v2, v3, v4, σ⟩ := a
  unfold f_RH_quickest_0_L31 at h
  try dsimp only at h ⊢
  refine x_iload 33 rfl dX8_quickest_31 rfl ?_
  refine x_aload_n 34 rfl 0 dX8_quickest_33 rfl rfl ?_
  refine x_getR E dX8_quickest_34 F_RX8_27 sh_0 rf_0_3 37 rfl ?_
  refine x_getI E dX8_quickest_37 F_RX8_103 sh_7 40 rfl ?_
  refine x_icmp_gt 43 rfl 99 dX8_quickest_40 (by decide) (fun hc => ?_) (fun hc => ?_)
  · replace h := x_ifT hc h
    cases h
    exact x_wk (x_le_n (x_le_s (x_le_s (x_le_s (x_le_n (x_le_n x_le_0)))))) (hK (_, _, _, _) rfl)
  · replace h := x_ifF hc h
    refine x_aload_n 44 rfl 0 dX8_quickest_43 rfl rfl ?_
    refine x_getR E dX8_quickest_44 F_RX8_51 sh_0 rf_0_8 47 rfl ?_
    refine x_aload_n 48 rfl 0 dX8_quickest_47 rfl rfl ?_
    refine x_getR E dX8_quickest_48 F_RX8_27 sh_0 rf_0_3 51 rfl ?_
    refine x_iload 53 rfl dX8_quickest_51 rfl ?_
    obtain ⟨⟨q1r, q1s⟩, q1h, h⟩ := x_bind h
    try dsimp only at h
    refine z_callV E [.ref 7, .int _] [] dX8_quickest_53 K_RX8_367 ⟨Nat.le_of_ble_eq_true rfl, Nat.le_of_ble_eq_true rfl⟩ sh_49 (by decide) rfl (c_Tr_rightIn_49_7 E _ q1h) rfl rfl (Nat.le_of_ble_eq_true rfl) 56 rfl [.int _] rfl ?_
    refine x_aload_n 57 rfl 0 dX8_quickest_56 rfl rfl ?_
    refine x_getR E dX8_quickest_57 F_RX8_51 sh_0 rf_0_8 60 rfl ?_
    refine x_aload_n 61 rfl 0 dX8_quickest_60 rfl rfl ?_
    refine x_getR E dX8_quickest_61 F_RX8_27 sh_0 rf_0_3 64 rfl ?_
    refine x_iload 66 rfl dX8_quickest_64 rfl ?_
    refine x_iconst 67 rfl (v := 1) dX8_quickest_66 (by decide) ?_
    refine x_isub 68 rfl dX8_quickest_67 ?_
    obtain ⟨⟨q2r, q2s⟩, q2h, h⟩ := x_bind h
    try dsimp only at h
    refine z_callV E [.ref 7, .int _] [.int _] dX8_quickest_68 K_RX8_367 ⟨Nat.le_of_ble_eq_true rfl, Nat.le_of_ble_eq_true rfl⟩ sh_49 (by decide) rfl (c_Tr_rightIn_49_7 E _ q2h) rfl rfl (Nat.le_of_ble_eq_true rfl) 71 rfl [.int _, .int _] rfl ?_
    refine x_isub 72 rfl dX8_quickest_71 ?_
    refine x_mabs E dX8_quickest_72 K_RX8_256 (Nat.le_of_ble_eq_true rfl) (Nat.le_of_ble_eq_true rfl) 75 rfl ?_
    refine x_istore 77 rfl dX8_quickest_75 (by decide) [some (.ref 0), some (.int _), some (.int _), some (.int _), some (.int _), some (.int _)] rfl ?_
    refine x_iload 79 rfl dX8_quickest_77 rfl ?_
    refine x_iload_n 80 rfl 2 dX8_quickest_79 rfl rfl ?_
    refine x_icmp_gt 83 rfl 87 dX8_quickest_80 (by decide) (fun hc => ?_) (fun hc => ?_)
    · replace h := x_ifT hc h
      refine x_iload 89 rfl dX8_quickest_87 rfl ?_
      refine x_istore_n 90 rfl 2 dX8_quickest_89 rfl (by decide) [some (.ref 0), some (.int _), some (.int _), some (.int _), some (.int _), some (.int _)] rfl ?_
      refine x_iload 92 rfl dX8_quickest_90 rfl ?_
      refine x_istore_n 93 rfl 3 dX8_quickest_92 rfl (by decide) [some (.ref 0), some (.int _), some (.int _), some (.int _), some (.int _), some (.int _)] rfl ?_
      refine x_iinc 96 rfl (1) dX8_quickest_93 rfl (by decide) (by decide) [some (.ref 0), some (.int _), some (.int _), some (.int _), some (.int _), some (.int _)] rfl ?_
      refine x_goto 31 dX8_quickest_96 (by decide) ?_
      cases h
      exact x_wk (x_le_s (x_le_s (x_le_s (x_le_s (x_le_s (x_le_n x_le_0)))))) (hG (_, _, _, _) rfl)
    · replace h := x_ifF hc h
      refine x_iload_n 84 rfl 3 dX8_quickest_83 rfl rfl ?_
      refine x_if_ne 87 rfl 93 dX8_quickest_84 (by decide) (fun hc => ?_) (fun hc => ?_)
      · replace h := x_ifF hc h
        refine x_iinc 96 rfl (1) dX8_quickest_93 rfl (by decide) (by decide) [some (.ref 0), some (.int _), some (.int _), some (.int _), some (.int _), some (.int _)] rfl ?_
        refine x_goto 31 dX8_quickest_96 (by decide) ?_
        cases h
        exact x_wk (x_le_s (x_le_s (x_le_s (x_le_s (x_le_s (x_le_n x_le_0)))))) (hG (_, _, _, _) rfl)
      · replace h := x_ifT hc h
        refine x_iload 89 rfl dX8_quickest_87 rfl ?_
        refine x_istore_n 90 rfl 2 dX8_quickest_89 rfl (by decide) [some (.ref 0), some (.int _), some (.int _), some (.int _), some (.int _), some (.int _)] rfl ?_
        refine x_iload 92 rfl dX8_quickest_90 rfl ?_
        refine x_istore_n 93 rfl 3 dX8_quickest_92 rfl (by decide) [some (.ref 0), some (.int _), some (.int _), some (.int _), some (.int _), some (.int _)] rfl ?_
        refine x_iinc 96 rfl (1) dX8_quickest_93 rfl (by decide) (by decide) [some (.ref 0), some (.int _), some (.int _), some (.int _), some (.int _), some (.int _)] rfl ?_
        refine x_goto 31 dX8_quickest_96 (by decide) ?_
        cases h
        exact x_wk (x_le_s (x_le_s (x_le_s (x_le_s (x_le_s (x_le_n x_le_0)))))) (hG (_, _, _, _) rfl)
set_option maxHeartbeats 4000000 in
set_option maxRecDepth 100000 in
theorem c_RH_quickest_0 {l : Launch} {s0 : State} {a0 : Array Value} {D : va_G} {cA : Nat → ClassId} {sp : Nat → Nat} (E : x_En CL l s0 a0 D cA sp) (v1 : Int32) {σ : xS} {r : Int32 ⊕ Nat} {σ1 : xS} (h : f_RH_quickest_0 v1 σ = some (r, σ1)) : oC l s0 D cA sp 4 M_RH_quickest [.ref 0, .int v1] σ (x_oi r) σ1 := by
  unfold f_RH_quickest_0 at h
  try dsimp only at h
  refine x_enterO [some (.ref 0), some (.int v1), none, none, none, none] rfl (Nat.le_of_ble_eq_true rfl) (by decide +kernel) rfl ?_
  refine x_iload_n 1 rfl 1 dX8_quickest_0 rfl rfl ?_
  refine x_if_lt 4 rfl 9 dX8_quickest_1 (by decide) (fun hc => ?_) (fun hc => ?_)
  · replace h := x_ifT hc h
    cases h
    exact x_throwNW2 E KU_ (k := 2) KX_RX8_365 rfl dX8_quickest_9 dX8_quickest_12 dX8_quickest_13 dX8_quickest_16 dX8_quickest_19 (Nat.le_of_ble_eq_true rfl)
  · replace h := x_ifF hc h
    refine x_iload_n 5 rfl 1 dX8_quickest_4 rfl rfl ?_
    refine x_iconst 6 rfl (v := 1) dX8_quickest_5 (by decide) ?_
    refine x_icmp_le 9 rfl 20 dX8_quickest_6 (by decide) (fun hc => ?_) (fun hc => ?_)
    · replace h := x_ifT hc h
      refine x_aload_n 21 rfl 0 dX8_quickest_20 rfl rfl ?_
      obtain ⟨⟨q7r, q7s⟩, q7h, h⟩ := x_bind h
      try dsimp only at h
      refine z_callV E [] [] dX8_quickest_21 K_RX8_187 ⟨Nat.le_of_ble_eq_true rfl, Nat.le_of_ble_eq_true rfl⟩ sh_0 (by decide) rfl (c_RH_takeSettings_0 E  q7h) rfl rfl (Nat.le_of_ble_eq_true rfl) 24 rfl [] rfl ?_
      refine x_iconst 25 rfl (v := 0) dX8_quickest_24 (by decide) ?_
      refine x_istore_n 26 rfl 2 dX8_quickest_25 rfl (by decide) [some (.ref 0), some (.int _), some (.int _), none, none, none] rfl ?_
      refine x_iconst 27 rfl (v := 0) dX8_quickest_26 (by decide) ?_
      refine x_istore_n 28 rfl 3 dX8_quickest_27 rfl (by decide) [some (.ref 0), some (.int _), some (.int _), some (.int _), none, none] rfl ?_
      refine x_iconst 29 rfl (v := 1) dX8_quickest_28 (by decide) ?_
      refine x_istore 31 rfl dX8_quickest_29 (by decide) [some (.ref 0), some (.int _), some (.int _), some (.int _), some (.int _), none] rfl ?_
      obtain ⟨b8, b8h, h⟩ := x_bind h
      try dsimp only at h
      refine x_wk (x_le_s (x_le_s (x_le_s (x_le_s (x_le_s (x_le_n x_le_0)))))) (x_loop (fun a o h hK hG => b_RH_quickest_0_L31 (r := r) (σ1 := σ1) E _ a o h hK hG) _ _ _ b8h ?_)
      refine x_iload_n 100 rfl 1 dX8_quickest_99 rfl rfl ?_
      refine x_if_ne 103 rfl 107 dX8_quickest_100 (by decide) (fun hc => ?_) (fun hc => ?_)
      · replace h := x_ifF hc h
        refine x_iload_n 108 rfl 3 dX8_quickest_107 rfl rfl ?_
        cases h
        exact x_Oret (x_iret dX8_quickest_108 rfl rfl rfl)
      · replace h := x_ifT hc h
        refine x_iload_n 104 rfl 2 dX8_quickest_103 rfl rfl ?_
        refine x_goto 108 dX8_quickest_104 (by decide) ?_
        cases h
        exact x_Oret (x_iret dX8_quickest_108 rfl rfl rfl)
    · replace h := x_ifF hc h
      cases h
      exact x_throwNW2 E KU_ (k := 2) KX_RX8_365 rfl dX8_quickest_9 dX8_quickest_12 dX8_quickest_13 dX8_quickest_16 dX8_quickest_19 (Nat.le_of_ble_eq_true rfl)
theorem K_RX5_43 : x_KY RX5 43 := ⟨(List.mem_append_right _ (List.mem_of_getElem? (i := 308) (by decide +kernel))), (List.mem_append_right _ (List.mem_of_getElem? (i := 310) (by decide +kernel))), (List.mem_append_right _ (List.mem_of_getElem? (i := 309) (by decide +kernel))), (List.mem_append_right _ (List.mem_of_getElem? (i := 8) (by decide +kernel)))⟩
abbrev M_Se_copyOf : xM := (yX5_copyOf, cX5_copyOf, 2, none, [])
theorem dX5_copyOf_0 : decode cX5_copyOf 0 = .ok (.aload_n 1, 1) := by decide +kernel
theorem dX5_copyOf_1 : decode cX5_copyOf 1 = .ok (.getfield 9, 3) := by decide +kernel
theorem dX5_copyOf_4 : decode cX5_copyOf 4 = .ok (.iconst 0, 1) := by decide +kernel
theorem dX5_copyOf_5 : decode cX5_copyOf 5 = .ok (.aload_n 0, 1) := by decide +kernel
theorem dX5_copyOf_6 : decode cX5_copyOf 6 = .ok (.getfield 9, 3) := by decide +kernel
theorem dX5_copyOf_9 : decode cX5_copyOf 9 = .ok (.iconst 0, 1) := by decide +kernel
theorem dX5_copyOf_10 : decode cX5_copyOf 10 = .ok (.bipush 12, 2) := by decide +kernel
theorem dX5_copyOf_12 : decode cX5_copyOf 12 = .ok (.invokestatic 43, 3) := by decide +kernel
theorem dX5_copyOf_15 : decode cX5_copyOf 15 = .ok (.aload_n 1, 1) := by decide +kernel
theorem dX5_copyOf_16 : decode cX5_copyOf 16 = .ok (.getfield 15, 3) := by decide +kernel
theorem dX5_copyOf_19 : decode cX5_copyOf 19 = .ok (.iconst 0, 1) := by decide +kernel
theorem dX5_copyOf_20 : decode cX5_copyOf 20 = .ok (.aload_n 0, 1) := by decide +kernel
theorem dX5_copyOf_21 : decode cX5_copyOf 21 = .ok (.getfield 15, 3) := by decide +kernel
theorem dX5_copyOf_24 : decode cX5_copyOf 24 = .ok (.iconst 0, 1) := by decide +kernel
theorem dX5_copyOf_25 : decode cX5_copyOf 25 = .ok (.bipush 40, 2) := by decide +kernel
theorem dX5_copyOf_27 : decode cX5_copyOf 27 = .ok (.invokestatic 43, 3) := by decide +kernel
theorem dX5_copyOf_30 : decode cX5_copyOf 30 = .ok (.aload_n 1, 1) := by decide +kernel
theorem dX5_copyOf_31 : decode cX5_copyOf 31 = .ok (.getfield 18, 3) := by decide +kernel
theorem dX5_copyOf_34 : decode cX5_copyOf 34 = .ok (.iconst 0, 1) := by decide +kernel
theorem dX5_copyOf_35 : decode cX5_copyOf 35 = .ok (.aload_n 0, 1) := by decide +kernel
theorem dX5_copyOf_36 : decode cX5_copyOf 36 = .ok (.getfield 18, 3) := by decide +kernel
theorem dX5_copyOf_39 : decode cX5_copyOf 39 = .ok (.iconst 0, 1) := by decide +kernel
theorem dX5_copyOf_40 : decode cX5_copyOf 40 = .ok (.bipush 40, 2) := by decide +kernel
theorem dX5_copyOf_42 : decode cX5_copyOf 42 = .ok (.invokestatic 43, 3) := by decide +kernel
theorem dX5_copyOf_45 : decode cX5_copyOf 45 = .ok (.aload_n 0, 1) := by decide +kernel
theorem dX5_copyOf_46 : decode cX5_copyOf 46 = .ok (.aload_n 1, 1) := by decide +kernel
theorem dX5_copyOf_47 : decode cX5_copyOf 47 = .ok (.getfield 21, 3) := by decide +kernel
theorem dX5_copyOf_50 : decode cX5_copyOf 50 = .ok (.putfield 21, 3) := by decide +kernel
theorem dX5_copyOf_53 : decode cX5_copyOf 53 = .ok (.aload_n 1, 1) := by decide +kernel
theorem dX5_copyOf_54 : decode cX5_copyOf 54 = .ok (.getfield 25, 3) := by decide +kernel
theorem dX5_copyOf_57 : decode cX5_copyOf 57 = .ok (.iconst 0, 1) := by decide +kernel
theorem dX5_copyOf_58 : decode cX5_copyOf 58 = .ok (.aload_n 0, 1) := by decide +kernel
theorem dX5_copyOf_59 : decode cX5_copyOf 59 = .ok (.getfield 25, 3) := by decide +kernel
theorem dX5_copyOf_62 : decode cX5_copyOf 62 = .ok (.iconst 0, 1) := by decide +kernel
theorem dX5_copyOf_63 : decode cX5_copyOf 63 = .ok (.bipush 8, 2) := by decide +kernel
theorem dX5_copyOf_65 : decode cX5_copyOf 65 = .ok (.invokestatic 43, 3) := by decide +kernel
theorem dX5_copyOf_68 : decode cX5_copyOf 68 = .ok (.aload_n 1, 1) := by decide +kernel
theorem dX5_copyOf_69 : decode cX5_copyOf 69 = .ok (.getfield 28, 3) := by decide +kernel
theorem dX5_copyOf_72 : decode cX5_copyOf 72 = .ok (.iconst 0, 1) := by decide +kernel
theorem dX5_copyOf_73 : decode cX5_copyOf 73 = .ok (.aload_n 0, 1) := by decide +kernel
theorem dX5_copyOf_74 : decode cX5_copyOf 74 = .ok (.getfield 28, 3) := by decide +kernel
theorem dX5_copyOf_77 : decode cX5_copyOf 77 = .ok (.iconst 0, 1) := by decide +kernel
theorem dX5_copyOf_78 : decode cX5_copyOf 78 = .ok (.bipush 8, 2) := by decide +kernel
theorem dX5_copyOf_80 : decode cX5_copyOf 80 = .ok (.invokestatic 43, 3) := by decide +kernel
theorem dX5_copyOf_83 : decode cX5_copyOf 83 = .ok (.aload_n 0, 1) := by decide +kernel
theorem dX5_copyOf_84 : decode cX5_copyOf 84 = .ok (.aload_n 1, 1) := by decide +kernel
theorem dX5_copyOf_85 : decode cX5_copyOf 85 = .ok (.getfield 31, 3) := by decide +kernel
theorem dX5_copyOf_88 : decode cX5_copyOf 88 = .ok (.putfield 31, 3) := by decide +kernel
theorem dX5_copyOf_91 : decode cX5_copyOf 91 = .ok (.aload_n 1, 1) := by decide +kernel
theorem dX5_copyOf_92 : decode cX5_copyOf 92 = .ok (.getfield 34, 3) := by decide +kernel
theorem dX5_copyOf_95 : decode cX5_copyOf 95 = .ok (.iconst 0, 1) := by decide +kernel
theorem dX5_copyOf_96 : decode cX5_copyOf 96 = .ok (.aload_n 0, 1) := by decide +kernel
theorem dX5_copyOf_97 : decode cX5_copyOf 97 = .ok (.getfield 34, 3) := by decide +kernel
theorem dX5_copyOf_100 : decode cX5_copyOf 100 = .ok (.iconst 0, 1) := by decide +kernel
theorem dX5_copyOf_101 : decode cX5_copyOf 101 = .ok (.bipush 16, 2) := by decide +kernel
theorem dX5_copyOf_103 : decode cX5_copyOf 103 = .ok (.invokestatic 43, 3) := by decide +kernel
theorem dX5_copyOf_106 : decode cX5_copyOf 106 = .ok (.aload_n 0, 1) := by decide +kernel
theorem dX5_copyOf_107 : decode cX5_copyOf 107 = .ok (.aload_n 1, 1) := by decide +kernel
theorem dX5_copyOf_108 : decode cX5_copyOf 108 = .ok (.getfield 37, 3) := by decide +kernel
theorem dX5_copyOf_111 : decode cX5_copyOf 111 = .ok (.putfield 37, 3) := by decide +kernel
theorem dX5_copyOf_114 : decode cX5_copyOf 114 = .ok (.return_, 1) := by decide +kernel
def f_Se_copyOf_42_35  (σ : xS) : Option (Unit × xS) :=
  let σ1 := x_cp σ 36 43 12
  let σ2 := x_cp σ1 37 44 40
  let σ3 := x_cp σ2 38 45 40
  let σ4 := x_pI σ3 42 3 (σ3.1 35 3)
  let σ5 := x_cp σ4 39 46 8
  let σ6 := x_cp σ5 40 47 8
  let σ7 := x_pI σ6 42 6 (σ6.1 35 6)
  let σ8 := x_cp σ7 41 48 16
  let σ9 := x_pI σ8 42 8 (σ8.1 35 8)
  some ((), σ9)
set_option maxHeartbeats 4000000 in
set_option maxRecDepth 100000 in
theorem c_Se_copyOf_42_35 {l : Launch} {s0 : State} {a0 : Array Value} {D : va_G} {cA : Nat → ClassId} {sp : Nat → Nat} (E : x_En CL l s0 a0 D cA sp)  {σ : xS} {r : Unit} {σ1 : xS} (h : f_Se_copyOf_42_35  σ = some (r, σ1)) : zC l s0 D cA sp 0 M_Se_copyOf [.ref 42, .ref 35] σ none σ1 := by
  unfold f_Se_copyOf_42_35 at h
  try dsimp only at h
  refine x_enter [some (.ref 42), some (.ref 35)] rfl (Nat.le_of_ble_eq_true rfl) (by decide +kernel) rfl ?_
  refine x_aload_n 1 rfl 1 dX5_copyOf_0 rfl rfl ?_
  refine x_getR E dX5_copyOf_1 F_RX5_9 sh_35 rf_35_0 4 rfl ?_
  refine x_iconst 5 rfl (v := 0) dX5_copyOf_4 (by decide) ?_
  refine x_aload_n 6 rfl 0 dX5_copyOf_5 rfl rfl ?_
  refine x_getR E dX5_copyOf_6 F_RX5_9 sh_42 rf_42_0 9 rfl ?_
  refine x_iconst 10 rfl (v := 0) dX5_copyOf_9 (by decide) ?_
  refine x_bipush 12 rfl (v := 12) dX5_copyOf_10 (by decide) ?_
  refine x_copy E dX5_copyOf_12 K_RX5_43 sh_36 sh_43 12 (by decide) (by decide) (by decide) (by decide) (Nat.le_of_ble_eq_true rfl) (Nat.le_of_ble_eq_true rfl) 15 rfl ?_
  refine x_aload_n 16 rfl 1 dX5_copyOf_15 rfl rfl ?_
  refine x_getR E dX5_copyOf_16 F_RX5_15 sh_35 rf_35_1 19 rfl ?_
  refine x_iconst 20 rfl (v := 0) dX5_copyOf_19 (by decide) ?_
  refine x_aload_n 21 rfl 0 dX5_copyOf_20 rfl rfl ?_
  refine x_getR E dX5_copyOf_21 F_RX5_15 sh_42 rf_42_1 24 rfl ?_
  refine x_iconst 25 rfl (v := 0) dX5_copyOf_24 (by decide) ?_
  refine x_bipush 27 rfl (v := 40) dX5_copyOf_25 (by decide) ?_
  refine x_copy E dX5_copyOf_27 K_RX5_43 sh_37 sh_44 40 (by decide) (by decide) (by decide) (by decide) (Nat.le_of_ble_eq_true rfl) (Nat.le_of_ble_eq_true rfl) 30 rfl ?_
  refine x_aload_n 31 rfl 1 dX5_copyOf_30 rfl rfl ?_
  refine x_getR E dX5_copyOf_31 F_RX5_18 sh_35 rf_35_2 34 rfl ?_
  refine x_iconst 35 rfl (v := 0) dX5_copyOf_34 (by decide) ?_
  refine x_aload_n 36 rfl 0 dX5_copyOf_35 rfl rfl ?_
  refine x_getR E dX5_copyOf_36 F_RX5_18 sh_42 rf_42_2 39 rfl ?_
  refine x_iconst 40 rfl (v := 0) dX5_copyOf_39 (by decide) ?_
  refine x_bipush 42 rfl (v := 40) dX5_copyOf_40 (by decide) ?_
  refine x_copy E dX5_copyOf_42 K_RX5_43 sh_38 sh_45 40 (by decide) (by decide) (by decide) (by decide) (Nat.le_of_ble_eq_true rfl) (Nat.le_of_ble_eq_true rfl) 45 rfl ?_
  refine x_aload_n 46 rfl 0 dX5_copyOf_45 rfl rfl ?_
  refine x_aload_n 47 rfl 1 dX5_copyOf_46 rfl rfl ?_
  refine x_getI E dX5_copyOf_47 F_RX5_21 sh_35 50 rfl ?_
  refine x_putI E dX5_copyOf_50 F_RX5_21 sh_42 53 rfl ?_
  refine x_aload_n 54 rfl 1 dX5_copyOf_53 rfl rfl ?_
  refine x_getR E dX5_copyOf_54 F_RX5_25 sh_35 rf_35_4 57 rfl ?_
  refine x_iconst 58 rfl (v := 0) dX5_copyOf_57 (by decide) ?_
  refine x_aload_n 59 rfl 0 dX5_copyOf_58 rfl rfl ?_
  refine x_getR E dX5_copyOf_59 F_RX5_25 sh_42 rf_42_4 62 rfl ?_
  refine x_iconst 63 rfl (v := 0) dX5_copyOf_62 (by decide) ?_
  refine x_bipush 65 rfl (v := 8) dX5_copyOf_63 (by decide) ?_
  refine x_copy E dX5_copyOf_65 K_RX5_43 sh_39 sh_46 8 (by decide) (by decide) (by decide) (by decide) (Nat.le_of_ble_eq_true rfl) (Nat.le_of_ble_eq_true rfl) 68 rfl ?_
  refine x_aload_n 69 rfl 1 dX5_copyOf_68 rfl rfl ?_
  refine x_getR E dX5_copyOf_69 F_RX5_28 sh_35 rf_35_5 72 rfl ?_
  refine x_iconst 73 rfl (v := 0) dX5_copyOf_72 (by decide) ?_
  refine x_aload_n 74 rfl 0 dX5_copyOf_73 rfl rfl ?_
  refine x_getR E dX5_copyOf_74 F_RX5_28 sh_42 rf_42_5 77 rfl ?_
  refine x_iconst 78 rfl (v := 0) dX5_copyOf_77 (by decide) ?_
  refine x_bipush 80 rfl (v := 8) dX5_copyOf_78 (by decide) ?_
  refine x_copy E dX5_copyOf_80 K_RX5_43 sh_40 sh_47 8 (by decide) (by decide) (by decide) (by decide) (Nat.le_of_ble_eq_true rfl) (Nat.le_of_ble_eq_true rfl) 83 rfl ?_
  refine x_aload_n 84 rfl 0 dX5_copyOf_83 rfl rfl ?_
  refine x_aload_n 85 rfl 1 dX5_copyOf_84 rfl rfl ?_
  refine x_getI E dX5_copyOf_85 F_RX5_31 sh_35 88 rfl ?_
  refine x_putI E dX5_copyOf_88 F_RX5_31 sh_42 91 rfl ?_
  refine x_aload_n 92 rfl 1 dX5_copyOf_91 rfl rfl ?_
  refine x_getR E dX5_copyOf_92 F_RX5_34 sh_35 rf_35_7 95 rfl ?_
  refine x_iconst 96 rfl (v := 0) dX5_copyOf_95 (by decide) ?_
  refine x_aload_n 97 rfl 0 dX5_copyOf_96 rfl rfl ?_
  refine x_getR E dX5_copyOf_97 F_RX5_34 sh_42 rf_42_7 100 rfl ?_
  refine x_iconst 101 rfl (v := 0) dX5_copyOf_100 (by decide) ?_
  refine x_bipush 103 rfl (v := 16) dX5_copyOf_101 (by decide) ?_
  refine x_copy E dX5_copyOf_103 K_RX5_43 sh_41 sh_48 16 (by decide) (by decide) (by decide) (by decide) (Nat.le_of_ble_eq_true rfl) (Nat.le_of_ble_eq_true rfl) 106 rfl ?_
  refine x_aload_n 107 rfl 0 dX5_copyOf_106 rfl rfl ?_
  refine x_aload_n 108 rfl 1 dX5_copyOf_107 rfl rfl ?_
  refine x_getI E dX5_copyOf_108 F_RX5_37 sh_35 111 rfl ?_
  refine x_putI E dX5_copyOf_111 F_RX5_37 sh_42 114 rfl ?_
  cases h
  exact x_vret dX5_copyOf_114 rfl rfl rfl
theorem K_RX8_371 : x_KV RX8 371 M_Se_copyOf 1 := ⟨⟨(List.mem_append_right _ (List.mem_of_getElem? (i := 528) (by decide +kernel))), (List.mem_append_right _ (List.mem_of_getElem? (i := 531) (by decide +kernel))), (List.mem_append_right _ (List.mem_of_getElem? (i := 5) (by decide +kernel))), ⟨by decide +kernel, by decide +kernel⟩, by decide +kernel⟩, (List.mem_append_right _ (List.mem_of_getElem? (i := 529) (by decide +kernel))), (List.mem_append_right _ (List.mem_of_getElem? (i := 530) (by decide +kernel)))⟩
abbrev M_RH_image : xM := (yX8_image, cX8_image, 1, none, [])
theorem dX8_image_0 : decode cX8_image 0 = .ok (.aload_n 0, 1) := by decide +kernel
theorem dX8_image_1 : decode cX8_image 1 = .ok (.getfield 41, 3) := by decide +kernel
theorem dX8_image_4 : decode cX8_image 4 = .ok (.aload_n 0, 1) := by decide +kernel
theorem dX8_image_5 : decode cX8_image 5 = .ok (.getfield 37, 3) := by decide +kernel
theorem dX8_image_8 : decode cX8_image 8 = .ok (.invokevirtual 371, 3) := by decide +kernel
theorem dX8_image_11 : decode cX8_image 11 = .ok (.aload_n 0, 1) := by decide +kernel
theorem dX8_image_12 : decode cX8_image 12 = .ok (.iconst 1, 1) := by decide +kernel
theorem dX8_image_13 : decode cX8_image 13 = .ok (.putfield 44, 3) := by decide +kernel
theorem dX8_image_16 : decode cX8_image 16 = .ok (.return_, 1) := by decide +kernel
def f_RH_image_0  (σ : xS) : Option (Unit × xS) :=
  (f_Se_copyOf_42_35  σ).bind fun q1 =>
  let σ2 := x_pI q1.2 0 7 (1 : Int32)
  some ((), σ2)
set_option maxHeartbeats 4000000 in
set_option maxRecDepth 100000 in
theorem c_RH_image_0 {l : Launch} {s0 : State} {a0 : Array Value} {D : va_G} {cA : Nat → ClassId} {sp : Nat → Nat} (E : x_En CL l s0 a0 D cA sp)  {σ : xS} {r : Unit} {σ1 : xS} (h : f_RH_image_0  σ = some (r, σ1)) : zC l s0 D cA sp 1 M_RH_image [.ref 0] σ none σ1 := by
  unfold f_RH_image_0 at h
  try dsimp only at h
  refine x_enter [some (.ref 0)] rfl (Nat.le_of_ble_eq_true rfl) (by decide +kernel) rfl ?_
  refine x_aload_n 1 rfl 0 dX8_image_0 rfl rfl ?_
  refine x_getR E dX8_image_1 F_RX8_41 sh_0 rf_0_6 4 rfl ?_
  refine x_aload_n 5 rfl 0 dX8_image_4 rfl rfl ?_
  refine x_getR E dX8_image_5 F_RX8_37 sh_0 rf_0_5 8 rfl ?_
  obtain ⟨⟨q1r, q1s⟩, q1h, h⟩ := x_bind h
  try dsimp only at h
  refine z_callV E [.ref 35] [] dX8_image_8 K_RX8_371 ⟨Nat.le_of_ble_eq_true rfl, Nat.le_of_ble_eq_true rfl⟩ sh_42 (by decide) rfl (c_Se_copyOf_42_35 E  q1h) rfl rfl (Nat.le_of_ble_eq_true rfl) 11 rfl [] rfl ?_
  refine x_aload_n 12 rfl 0 dX8_image_11 rfl rfl ?_
  refine x_iconst 13 rfl (v := 1) dX8_image_12 (by decide) ?_
  refine x_putZ E (Or.inr rfl) dX8_image_13 F_RX8_44 sh_0 16 rfl ?_
  cases h
  exact x_vret dX8_image_16 rfl rfl rfl
def f_Se_copyOf_35_42  (σ : xS) : Option (Unit × xS) :=
  let σ1 := x_cp σ 43 36 12
  let σ2 := x_cp σ1 44 37 40
  let σ3 := x_cp σ2 45 38 40
  let σ4 := x_pI σ3 35 3 (σ3.1 42 3)
  let σ5 := x_cp σ4 46 39 8
  let σ6 := x_cp σ5 47 40 8
  let σ7 := x_pI σ6 35 6 (σ6.1 42 6)
  let σ8 := x_cp σ7 48 41 16
  let σ9 := x_pI σ8 35 8 (σ8.1 42 8)
  some ((), σ9)
set_option maxHeartbeats 4000000 in
set_option maxRecDepth 100000 in
theorem c_Se_copyOf_35_42 {l : Launch} {s0 : State} {a0 : Array Value} {D : va_G} {cA : Nat → ClassId} {sp : Nat → Nat} (E : x_En CL l s0 a0 D cA sp)  {σ : xS} {r : Unit} {σ1 : xS} (h : f_Se_copyOf_35_42  σ = some (r, σ1)) : zC l s0 D cA sp 0 M_Se_copyOf [.ref 35, .ref 42] σ none σ1 := by
  unfold f_Se_copyOf_35_42 at h
  try dsimp only at h
  refine x_enter [some (.ref 35), some (.ref 42)] rfl (Nat.le_of_ble_eq_true rfl) (by decide +kernel) rfl ?_
  refine x_aload_n 1 rfl 1 dX5_copyOf_0 rfl rfl ?_
  refine x_getR E dX5_copyOf_1 F_RX5_9 sh_42 rf_42_0 4 rfl ?_
  refine x_iconst 5 rfl (v := 0) dX5_copyOf_4 (by decide) ?_
  refine x_aload_n 6 rfl 0 dX5_copyOf_5 rfl rfl ?_
  refine x_getR E dX5_copyOf_6 F_RX5_9 sh_35 rf_35_0 9 rfl ?_
  refine x_iconst 10 rfl (v := 0) dX5_copyOf_9 (by decide) ?_
  refine x_bipush 12 rfl (v := 12) dX5_copyOf_10 (by decide) ?_
  refine x_copy E dX5_copyOf_12 K_RX5_43 sh_43 sh_36 12 (by decide) (by decide) (by decide) (by decide) (Nat.le_of_ble_eq_true rfl) (Nat.le_of_ble_eq_true rfl) 15 rfl ?_
  refine x_aload_n 16 rfl 1 dX5_copyOf_15 rfl rfl ?_
  refine x_getR E dX5_copyOf_16 F_RX5_15 sh_42 rf_42_1 19 rfl ?_
  refine x_iconst 20 rfl (v := 0) dX5_copyOf_19 (by decide) ?_
  refine x_aload_n 21 rfl 0 dX5_copyOf_20 rfl rfl ?_
  refine x_getR E dX5_copyOf_21 F_RX5_15 sh_35 rf_35_1 24 rfl ?_
  refine x_iconst 25 rfl (v := 0) dX5_copyOf_24 (by decide) ?_
  refine x_bipush 27 rfl (v := 40) dX5_copyOf_25 (by decide) ?_
  refine x_copy E dX5_copyOf_27 K_RX5_43 sh_44 sh_37 40 (by decide) (by decide) (by decide) (by decide) (Nat.le_of_ble_eq_true rfl) (Nat.le_of_ble_eq_true rfl) 30 rfl ?_
  refine x_aload_n 31 rfl 1 dX5_copyOf_30 rfl rfl ?_
  refine x_getR E dX5_copyOf_31 F_RX5_18 sh_42 rf_42_2 34 rfl ?_
  refine x_iconst 35 rfl (v := 0) dX5_copyOf_34 (by decide) ?_
  refine x_aload_n 36 rfl 0 dX5_copyOf_35 rfl rfl ?_
  refine x_getR E dX5_copyOf_36 F_RX5_18 sh_35 rf_35_2 39 rfl ?_
  refine x_iconst 40 rfl (v := 0) dX5_copyOf_39 (by decide) ?_
  refine x_bipush 42 rfl (v := 40) dX5_copyOf_40 (by decide) ?_
  refine x_copy E dX5_copyOf_42 K_RX5_43 sh_45 sh_38 40 (by decide) (by decide) (by decide) (by decide) (Nat.le_of_ble_eq_true rfl) (Nat.le_of_ble_eq_true rfl) 45 rfl ?_
  refine x_aload_n 46 rfl 0 dX5_copyOf_45 rfl rfl ?_
  refine x_aload_n 47 rfl 1 dX5_copyOf_46 rfl rfl ?_
  refine x_getI E dX5_copyOf_47 F_RX5_21 sh_42 50 rfl ?_
  refine x_putI E dX5_copyOf_50 F_RX5_21 sh_35 53 rfl ?_
  refine x_aload_n 54 rfl 1 dX5_copyOf_53 rfl rfl ?_
  refine x_getR E dX5_copyOf_54 F_RX5_25 sh_42 rf_42_4 57 rfl ?_
  refine x_iconst 58 rfl (v := 0) dX5_copyOf_57 (by decide) ?_
  refine x_aload_n 59 rfl 0 dX5_copyOf_58 rfl rfl ?_
  refine x_getR E dX5_copyOf_59 F_RX5_25 sh_35 rf_35_4 62 rfl ?_
  refine x_iconst 63 rfl (v := 0) dX5_copyOf_62 (by decide) ?_
  refine x_bipush 65 rfl (v := 8) dX5_copyOf_63 (by decide) ?_
  refine x_copy E dX5_copyOf_65 K_RX5_43 sh_46 sh_39 8 (by decide) (by decide) (by decide) (by decide) (Nat.le_of_ble_eq_true rfl) (Nat.le_of_ble_eq_true rfl) 68 rfl ?_
  refine x_aload_n 69 rfl 1 dX5_copyOf_68 rfl rfl ?_
  refine x_getR E dX5_copyOf_69 F_RX5_28 sh_42 rf_42_5 72 rfl ?_
  refine x_iconst 73 rfl (v := 0) dX5_copyOf_72 (by decide) ?_
  refine x_aload_n 74 rfl 0 dX5_copyOf_73 rfl rfl ?_
  refine x_getR E dX5_copyOf_74 F_RX5_28 sh_35 rf_35_5 77 rfl ?_
  refine x_iconst 78 rfl (v := 0) dX5_copyOf_77 (by decide) ?_
  refine x_bipush 80 rfl (v := 8) dX5_copyOf_78 (by decide) ?_
  refine x_copy E dX5_copyOf_80 K_RX5_43 sh_47 sh_40 8 (by decide) (by decide) (by decide) (by decide) (Nat.le_of_ble_eq_true rfl) (Nat.le_of_ble_eq_true rfl) 83 rfl ?_
  refine x_aload_n 84 rfl 0 dX5_copyOf_83 rfl rfl ?_
  refine x_aload_n 85 rfl 1 dX5_copyOf_84 rfl rfl ?_
  refine x_getI E dX5_copyOf_85 F_RX5_31 sh_42 88 rfl ?_
  refine x_putI E dX5_copyOf_88 F_RX5_31 sh_35 91 rfl ?_
  refine x_aload_n 92 rfl 1 dX5_copyOf_91 rfl rfl ?_
  refine x_getR E dX5_copyOf_92 F_RX5_34 sh_42 rf_42_7 95 rfl ?_
  refine x_iconst 96 rfl (v := 0) dX5_copyOf_95 (by decide) ?_
  refine x_aload_n 97 rfl 0 dX5_copyOf_96 rfl rfl ?_
  refine x_getR E dX5_copyOf_97 F_RX5_34 sh_35 rf_35_7 100 rfl ?_
  refine x_iconst 101 rfl (v := 0) dX5_copyOf_100 (by decide) ?_
  refine x_bipush 103 rfl (v := 16) dX5_copyOf_101 (by decide) ?_
  refine x_copy E dX5_copyOf_103 K_RX5_43 sh_48 sh_41 16 (by decide) (by decide) (by decide) (by decide) (Nat.le_of_ble_eq_true rfl) (Nat.le_of_ble_eq_true rfl) 106 rfl ?_
  refine x_aload_n 107 rfl 0 dX5_copyOf_106 rfl rfl ?_
  refine x_aload_n 108 rfl 1 dX5_copyOf_107 rfl rfl ?_
  refine x_getI E dX5_copyOf_108 F_RX5_37 sh_42 111 rfl ?_
  refine x_putI E dX5_copyOf_111 F_RX5_37 sh_35 114 rfl ?_
  cases h
  exact x_vret dX5_copyOf_114 rfl rfl rfl
abbrev M_RH_restore : xM := (yX8_restore, cX8_restore, 1, some .boolean, [])
theorem dX8_restore_0 : decode cX8_restore 0 = .ok (.aload_n 0, 1) := by decide +kernel
theorem dX8_restore_1 : decode cX8_restore 1 = .ok (.getfield 44, 3) := by decide +kernel
theorem dX8_restore_4 : decode cX8_restore 4 = .ok (.ifCond .ne 5, 3) := by decide +kernel
theorem dX8_restore_7 : decode cX8_restore 7 = .ok (.iconst 0, 1) := by decide +kernel
theorem dX8_restore_8 : decode cX8_restore 8 = .ok (.ireturn, 1) := by decide +kernel
theorem dX8_restore_9 : decode cX8_restore 9 = .ok (.aload_n 0, 1) := by decide +kernel
theorem dX8_restore_10 : decode cX8_restore 10 = .ok (.getfield 37, 3) := by decide +kernel
theorem dX8_restore_13 : decode cX8_restore 13 = .ok (.aload_n 0, 1) := by decide +kernel
theorem dX8_restore_14 : decode cX8_restore 14 = .ok (.getfield 41, 3) := by decide +kernel
theorem dX8_restore_17 : decode cX8_restore 17 = .ok (.invokevirtual 371, 3) := by decide +kernel
theorem dX8_restore_20 : decode cX8_restore 20 = .ok (.aload_n 0, 1) := by decide +kernel
theorem dX8_restore_21 : decode cX8_restore 21 = .ok (.iconst 0, 1) := by decide +kernel
theorem dX8_restore_22 : decode cX8_restore 22 = .ok (.putfield 55, 3) := by decide +kernel
theorem dX8_restore_25 : decode cX8_restore 25 = .ok (.iconst 1, 1) := by decide +kernel
theorem dX8_restore_26 : decode cX8_restore 26 = .ok (.ireturn, 1) := by decide +kernel
def f_RH_restore_0  (σ : xS) : Option (Int32 × xS) :=
  if σ.1 0 7 = 0 then
    some ((0 : Int32), σ)
  else
    (f_Se_copyOf_35_42  σ).bind fun q1 =>
    let σ2 := x_pI q1.2 0 9 (0 : Int32)
    some ((1 : Int32), σ2)
set_option maxHeartbeats 4000000 in
set_option maxRecDepth 100000 in
theorem c_RH_restore_0 {l : Launch} {s0 : State} {a0 : Array Value} {D : va_G} {cA : Nat → ClassId} {sp : Nat → Nat} (E : x_En CL l s0 a0 D cA sp)  {σ : xS} {r : Int32} {σ1 : xS} (h : f_RH_restore_0  σ = some (r, σ1)) : zC l s0 D cA sp 1 M_RH_restore [.ref 0] σ (some (.int r)) σ1 := by
  unfold f_RH_restore_0 at h
  try dsimp only at h
  refine x_enter [some (.ref 0)] rfl (Nat.le_of_ble_eq_true rfl) (by decide +kernel) rfl ?_
  refine x_aload_n 1 rfl 0 dX8_restore_0 rfl rfl ?_
  refine x_getI E dX8_restore_1 F_RX8_44 sh_0 4 rfl ?_
  refine x_if_ne 7 rfl 9 dX8_restore_4 (by decide) (fun hc => ?_) (fun hc => ?_)
  · replace h := x_ifF hc h
    refine x_aload_n 10 rfl 0 dX8_restore_9 rfl rfl ?_
    refine x_getR E dX8_restore_10 F_RX8_37 sh_0 rf_0_5 13 rfl ?_
    refine x_aload_n 14 rfl 0 dX8_restore_13 rfl rfl ?_
    refine x_getR E dX8_restore_14 F_RX8_41 sh_0 rf_0_6 17 rfl ?_
    obtain ⟨⟨q1r, q1s⟩, q1h, h⟩ := x_bind h
    try dsimp only at h
    refine z_callV E [.ref 42] [] dX8_restore_17 K_RX8_371 ⟨Nat.le_of_ble_eq_true rfl, Nat.le_of_ble_eq_true rfl⟩ sh_35 (by decide) rfl (c_Se_copyOf_35_42 E  q1h) rfl rfl (Nat.le_of_ble_eq_true rfl) 20 rfl [] rfl ?_
    refine x_aload_n 21 rfl 0 dX8_restore_20 rfl rfl ?_
    refine x_iconst 22 rfl (v := 0) dX8_restore_21 (by decide) ?_
    refine x_putZ E (Or.inl rfl) dX8_restore_22 F_RX8_55 sh_0 25 rfl ?_
    refine x_iconst 26 rfl (v := 1) dX8_restore_25 (by decide) ?_
    cases h
    exact x_zret (Or.inr rfl) dX8_restore_26 rfl rfl rfl
  · replace h := x_ifT hc h
    refine x_iconst 8 rfl (v := 0) dX8_restore_7 (by decide) ?_
    cases h
    exact x_zret (Or.inl rfl) dX8_restore_8 rfl rfl rfl
