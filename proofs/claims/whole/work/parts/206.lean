/-! The class's methods: functions and contracts. Written by wip/gen/emit.py. -/
theorem KX_RX8_313 : x_KN2 RX8 130 313 134 (x_Xn 2) "nothing such of FITS" := ⟨by decide +kernel, (List.mem_append_right _ (List.mem_of_getElem? (i := 881) (by decide +kernel))), (List.mem_append_right _ (List.mem_of_getElem? (i := 22) (by decide +kernel))), (List.mem_append_right _ (List.mem_of_getElem? (i := 1103) (by decide +kernel))), (List.mem_of_getElem? (i := 809) (by decide +kernel)), AX_134, AO_130_134⟩
theorem K_RX8_315 : x_KV RX8 315 M_RH_fitsFilm 2 := ⟨⟨(List.mem_append_right _ (List.mem_of_getElem? (i := 1104) (by decide +kernel))), (List.mem_append_right _ (List.mem_of_getElem? (i := 1107) (by decide +kernel))), (List.mem_append_right _ (List.mem_of_getElem? (i := 1) (by decide +kernel))), ⟨by decide +kernel, by decide +kernel⟩, by decide +kernel⟩, (List.mem_append_right _ (List.mem_of_getElem? (i := 1106) (by decide +kernel))), (List.mem_append_left _ (List.mem_of_getElem? (i := 47) (by decide +kernel)))⟩
abbrev M_RH_fits : xM := (yX8_fits, cX8_fits, 6, some .int, [])
theorem dX8_fits_0 : decode cX8_fits 0 = .ok (.iload_n 1, 1) := by decide +kernel
theorem dX8_fits_1 : decode cX8_fits 1 = .ok (.ifCond .lt 8, 3) := by decide +kernel
theorem dX8_fits_4 : decode cX8_fits 4 = .ok (.iload_n 1, 1) := by decide +kernel
theorem dX8_fits_5 : decode cX8_fits 5 = .ok (.iconst 1, 1) := by decide +kernel
theorem dX8_fits_6 : decode cX8_fits 6 = .ok (.if_icmp .le 14, 3) := by decide +kernel
theorem dX8_fits_9 : decode cX8_fits 9 = .ok (.new 130, 3) := by decide +kernel
theorem dX8_fits_12 : decode cX8_fits 12 = .ok (.dup, 1) := by decide +kernel
theorem dX8_fits_13 : decode cX8_fits 13 = .ok (.ldc_w 313, 3) := by decide +kernel
theorem dX8_fits_16 : decode cX8_fits 16 = .ok (.invokespecial 134, 3) := by decide +kernel
theorem dX8_fits_19 : decode cX8_fits 19 = .ok (.athrow, 1) := by decide +kernel
theorem dX8_fits_20 : decode cX8_fits 20 = .ok (.iconst 0, 1) := by decide +kernel
theorem dX8_fits_21 : decode cX8_fits 21 = .ok (.istore_n 2, 1) := by decide +kernel
theorem dX8_fits_22 : decode cX8_fits 22 = .ok (.iconst (-1), 1) := by decide +kernel
theorem dX8_fits_23 : decode cX8_fits 23 = .ok (.istore_n 3, 1) := by decide +kernel
theorem dX8_fits_24 : decode cX8_fits 24 = .ok (.iconst (-1), 1) := by decide +kernel
theorem dX8_fits_25 : decode cX8_fits 25 = .ok (.istore 4, 2) := by decide +kernel
theorem dX8_fits_27 : decode cX8_fits 27 = .ok (.iload 4, 2) := by decide +kernel
theorem dX8_fits_29 : decode cX8_fits 29 = .ok (.aload_n 0, 1) := by decide +kernel
theorem dX8_fits_30 : decode cX8_fits 30 = .ok (.getfield 27, 3) := by decide +kernel
theorem dX8_fits_33 : decode cX8_fits 33 = .ok (.getfield 115, 3) := by decide +kernel
theorem dX8_fits_36 : decode cX8_fits 36 = .ok (.if_icmp .ge 59, 3) := by decide +kernel
theorem dX8_fits_39 : decode cX8_fits 39 = .ok (.iconst 0, 1) := by decide +kernel
theorem dX8_fits_40 : decode cX8_fits 40 = .ok (.istore 5, 2) := by decide +kernel
theorem dX8_fits_42 : decode cX8_fits 42 = .ok (.iload 5, 2) := by decide +kernel
theorem dX8_fits_44 : decode cX8_fits 44 = .ok (.bipush 20, 2) := by decide +kernel
theorem dX8_fits_46 : decode cX8_fits 46 = .ok (.if_icmp .gt 43, 3) := by decide +kernel
theorem dX8_fits_49 : decode cX8_fits 49 = .ok (.aload_n 0, 1) := by decide +kernel
theorem dX8_fits_50 : decode cX8_fits 50 = .ok (.iload 4, 2) := by decide +kernel
theorem dX8_fits_52 : decode cX8_fits 52 = .ok (.iload 5, 2) := by decide +kernel
theorem dX8_fits_54 : decode cX8_fits 54 = .ok (.invokevirtual 315, 3) := by decide +kernel
theorem dX8_fits_57 : decode cX8_fits 57 = .ok (.ifCond .eq 26, 3) := by decide +kernel
theorem dX8_fits_60 : decode cX8_fits 60 = .ok (.iinc 2 1, 3) := by decide +kernel
theorem dX8_fits_63 : decode cX8_fits 63 = .ok (.iload_n 3, 1) := by decide +kernel
theorem dX8_fits_64 : decode cX8_fits 64 = .ok (.iconst (-1), 1) := by decide +kernel
theorem dX8_fits_65 : decode cX8_fits 65 = .ok (.if_icmp .ne 16, 3) := by decide +kernel
theorem dX8_fits_68 : decode cX8_fits 68 = .ok (.bipush 100, 2) := by decide +kernel
theorem dX8_fits_70 : decode cX8_fits 70 = .ok (.iload 4, 2) := by decide +kernel
theorem dX8_fits_72 : decode cX8_fits 72 = .ok (.iconst 1, 1) := by decide +kernel
theorem dX8_fits_73 : decode cX8_fits 73 = .ok (.iadd, 1) := by decide +kernel
theorem dX8_fits_74 : decode cX8_fits 74 = .ok (.imul, 1) := by decide +kernel
theorem dX8_fits_75 : decode cX8_fits 75 = .ok (.iload 5, 2) := by decide +kernel
theorem dX8_fits_77 : decode cX8_fits 77 = .ok (.iadd, 1) := by decide +kernel
theorem dX8_fits_78 : decode cX8_fits 78 = .ok (.goto 4, 3) := by decide +kernel
theorem dX8_fits_81 : decode cX8_fits 81 = .ok (.iload_n 3, 1) := by decide +kernel
theorem dX8_fits_82 : decode cX8_fits 82 = .ok (.istore_n 3, 1) := by decide +kernel
theorem dX8_fits_83 : decode cX8_fits 83 = .ok (.iinc 5 1, 3) := by decide +kernel
theorem dX8_fits_86 : decode cX8_fits 86 = .ok (.goto (-44), 3) := by decide +kernel
theorem dX8_fits_89 : decode cX8_fits 89 = .ok (.iinc 4 1, 3) := by decide +kernel
theorem dX8_fits_92 : decode cX8_fits 92 = .ok (.goto (-65), 3) := by decide +kernel
theorem dX8_fits_95 : decode cX8_fits 95 = .ok (.iload_n 1, 1) := by decide +kernel
theorem dX8_fits_96 : decode cX8_fits 96 = .ok (.ifCond .ne 7, 3) := by decide +kernel
theorem dX8_fits_99 : decode cX8_fits 99 = .ok (.iload_n 2, 1) := by decide +kernel
theorem dX8_fits_100 : decode cX8_fits 100 = .ok (.goto 4, 3) := by decide +kernel
theorem dX8_fits_103 : decode cX8_fits 103 = .ok (.iload_n 3, 1) := by decide +kernel
theorem dX8_fits_104 : decode cX8_fits 104 = .ok (.ireturn, 1) := by decide +kernel
def f_RH_fits_0_L42 (v1 : Int32) (v4 : Int32) (a : Int32 × Int32 × Int32 × xS) : Option ((Int32 × Int32 × Int32 × xS) ⊕ (Int32 × Int32 × Int32 × xS)) :=
  let v2 := a.1; let v3 := a.2.1; let v5 := a.2.2.1; let σ := a.2.2.2;
  if (20 : Int32) < v5 then
    some (.inl (v2, v3, v5, σ))
  else
    (f_RH_fitsFilm_0 v4 v5 σ).bind fun q1 =>
    if q1.1 = 0 then
      let w2 := v5 + (1 : Int32)
      some (.inr (v2, v3, w2, q1.2))
    else
      let w3 := v2 + (1 : Int32)
      if v3 = (-1 : Int32) then
        let w5 := (((100 : Int32) * (v4 + (1 : Int32))) + v5)
        let w6 := v5 + (1 : Int32)
        some (.inr (w3, w5, w6, q1.2))
      else
        let w4 := v5 + (1 : Int32)
        some (.inr (w3, v3, w4, q1.2))
def f_RH_fits_0_L27 (v1 : Int32) (a : Int32 × Int32 × Int32 × xS) : Option ((Int32 × Int32 × Int32 × xS) ⊕ (Int32 × Int32 × Int32 × xS)) :=
  let v2 := a.1; let v3 := a.2.1; let v4 := a.2.2.1; let σ := a.2.2.2;
  if σ.1 7 9 ≤ v4 then
    some (.inl (v2, v3, v4, σ))
  else
    (x_it (f_RH_fits_0_L42 v1 v4) 10000 (v2, v3, (0 : Int32), σ)).bind fun b7 =>
    let w8 := v4 + (1 : Int32)
    some (.inr (b7.1, b7.2.1, w8, b7.2.2.2))
def f_RH_fits_0 (v1 : Int32) (σ : xS) : Option ((Int32 ⊕ Nat) × xS) :=
  if v1 < 0 then
    some (.inr 2, σ)
  else
    if v1 ≤ (1 : Int32) then
      (x_it (f_RH_fits_0_L27 v1) 10000 ((0 : Int32), (-1 : Int32), (-1 : Int32), σ)).bind fun b9 =>
      if v1 = 0 then
        some (.inl b9.1, b9.2.2.2)
      else
        some (.inl b9.2.1, b9.2.2.2)
    else
      some (.inr 2, σ)
set_option maxHeartbeats 4000000 in
set_option maxRecDepth 100000 in
theorem b_RH_fits_0_L42 {l : Launch} {s0 : State} {a0 : Array Value} {D : va_G} {cA : Nat → ClassId} {sp : Nat → Nat} (E : x_En CL l s0 a0 D cA sp) (v1 : Int32) (v4 : Int32) {r : Int32 ⊕ Nat} {σ1 : xS} (a : Int32 × Int32 × Int32 × xS) (o : (Int32 × Int32 × Int32 × xS) ⊕ (Int32 × Int32 × Int32 × xS)) (h : f_RH_fits_0_L42 v1 v4 a = some o) (hK : ∀ b, o = .inl b → zW l s0 D cA sp (oQ s0 D cA sp (x_oi r) σ1) (x_rm 7 1 6) M_RH_fits 1 6 89 [some (.ref 0), some (.int v1), some (.int b.1), some (.int b.2.1), some (.int v4), none] [] b.2.2.2) (hG : ∀ a', o = .inr a' → zW l s0 D cA sp (oQ s0 D cA sp (x_oi r) σ1) (x_rm 7 1 6) M_RH_fits 1 6 42 [some (.ref 0), some (.int v1), some (.int a'.1), some (.int a'.2.1), some (.int v4), some (.int a'.2.2.1)] [] a'.2.2.2) : zW l s0 D cA sp (oQ s0 D cA sp (x_oi r) σ1) (x_rm 7 1 6) M_RH_fits 1 6 42 [some (.ref 0), some (.int v1), some (.int a.1), some (.int a.2.1), some (.int v4), some (.int a.2.2.1)] [] a.2.2.2 := by
  obtain ⟨v2, v3, v5, σ⟩ := a
  unfold f_RH_fits_0_L42 at h
  try dsimp only at h ⊢
  refine x_iload 44 rfl dX8_fits_42 rfl ?_
  refine x_bipush 46 rfl (v := 20) dX8_fits_44 (by decide) ?_
  refine x_icmp_gt 49 rfl 89 dX8_fits_46 (by decide) (fun hc => ?_) (fun hc => ?_)
  · replace h := x_ifT hc h
    cases h
    exact x_wk (x_le_s (x_le_s (x_le_s (x_le_s (x_le_s (x_le_n x_le_0)))))) (hK (_, _, _, _) rfl)
  · replace h := x_ifF hc h
    refine x_aload_n 50 rfl 0 dX8_fits_49 rfl rfl ?_
    refine x_iload 52 rfl dX8_fits_50 rfl ?_
    refine x_iload 54 rfl dX8_fits_52 rfl ?_
    obtain ⟨⟨q1r, q1s⟩, q1h, h⟩ := x_bind h
    try dsimp only at h
    refine z_callV E [.int _, .int _] [] dX8_fits_54 K_RX8_315 ⟨Nat.le_of_ble_eq_true rfl, Nat.le_of_ble_eq_true rfl⟩ sh_0 (by decide) rfl (c_RH_fitsFilm_0 E _ _ q1h) rfl rfl (Nat.le_of_ble_eq_true rfl) 57 rfl [.int _] rfl ?_
    refine x_if_eq 60 rfl 83 dX8_fits_57 (by decide) (fun hc => ?_) (fun hc => ?_)
    · replace h := x_ifT hc h
      refine x_iinc 86 rfl (1) dX8_fits_83 rfl (by decide) (by decide) [some (.ref 0), some (.int _), some (.int _), some (.int _), some (.int _), some (.int _)] rfl ?_
      refine x_goto 42 dX8_fits_86 (by decide) ?_
      cases h
      exact x_wk (x_le_s (x_le_s (x_le_s (x_le_s (x_le_s (x_le_s x_le_0)))))) (hG (_, _, _, _) rfl)
    · replace h := x_ifF hc h
      refine x_iinc 63 rfl (1) dX8_fits_60 rfl (by decide) (by decide) [some (.ref 0), some (.int _), some (.int _), some (.int _), some (.int _), some (.int _)] rfl ?_
      refine x_iload_n 64 rfl 3 dX8_fits_63 rfl rfl ?_
      refine x_iconst 65 rfl (v := -1) dX8_fits_64 (by decide) ?_
      refine x_icmp_ne 68 rfl 81 dX8_fits_65 (by decide) (fun hc => ?_) (fun hc => ?_)
      · replace h := x_ifF hc h
        refine x_iload_n 82 rfl 3 dX8_fits_81 rfl rfl ?_
        refine x_istore_n 83 rfl 3 dX8_fits_82 rfl (by decide) [some (.ref 0), some (.int _), some (.int _), some (.int _), some (.int _), some (.int _)] rfl ?_
        refine x_iinc 86 rfl (1) dX8_fits_83 rfl (by decide) (by decide) [some (.ref 0), some (.int _), some (.int _), some (.int _), some (.int _), some (.int _)] rfl ?_
        refine x_goto 42 dX8_fits_86 (by decide) ?_
        cases h
        exact x_wk (x_le_s (x_le_s (x_le_s (x_le_s (x_le_s (x_le_s x_le_0)))))) (hG (_, _, _, _) rfl)
      · replace h := x_ifT hc h
        refine x_bipush 70 rfl (v := 100) dX8_fits_68 (by decide) ?_
        refine x_iload 72 rfl dX8_fits_70 rfl ?_
        refine x_iconst 73 rfl (v := 1) dX8_fits_72 (by decide) ?_
        refine x_iadd 74 rfl dX8_fits_73 ?_
        refine x_imul 75 rfl dX8_fits_74 ?_
        refine x_iload 77 rfl dX8_fits_75 rfl ?_
        refine x_iadd 78 rfl dX8_fits_77 ?_
        refine x_goto 82 dX8_fits_78 (by decide) ?_
        refine x_istore_n 83 rfl 3 dX8_fits_82 rfl (by decide) [some (.ref 0), some (.int _), some (.int _), some (.int _), some (.int _), some (.int _)] rfl ?_
        refine x_iinc 86 rfl (1) dX8_fits_83 rfl (by decide) (by decide) [some (.ref 0), some (.int _), some (.int _), some (.int _), some (.int _), some (.int _)] rfl ?_
        refine x_goto 42 dX8_fits_86 (by decide) ?_
        cases h
        exact x_wk (x_le_s (x_le_s (x_le_s (x_le_s (x_le_s (x_le_s x_le_0)))))) (hG (_, _, _, _) rfl)
set_option maxHeartbeats 4000000 in
set_option maxRecDepth 100000 in
theorem b_RH_fits_0_L27 {l : Launch} {s0 : State} {a0 : Array Value} {D : va_G} {cA : Nat → ClassId} {sp : Nat → Nat} (E : x_En CL l s0 a0 D cA sp) (v1 : Int32) {r : Int32 ⊕ Nat} {σ1 : xS} (a : Int32 × Int32 × Int32 × xS) (o : (Int32 × Int32 × Int32 × xS) ⊕ (Int32 × Int32 × Int32 × xS)) (h : f_RH_fits_0_L27 v1 a = some o) (hK : ∀ b, o = .inl b → zW l s0 D cA sp (oQ s0 D cA sp (x_oi r) σ1) (x_rm 7 1 6) M_RH_fits 1 6 95 [none, some (.int v1), some (.int b.1), some (.int b.2.1), none, none] [] b.2.2.2) (hG : ∀ a', o = .inr a' → zW l s0 D cA sp (oQ s0 D cA sp (x_oi r) σ1) (x_rm 7 1 6) M_RH_fits 1 6 27 [some (.ref 0), some (.int v1), some (.int a'.1), some (.int a'.2.1), some (.int a'.2.2.1), none] [] a'.2.2.2) : zW l s0 D cA sp (oQ s0 D cA sp (x_oi r) σ1) (x_rm 7 1 6) M_RH_fits 1 6 27 [some (.ref 0), some (.int v1), some (.int a.1), some (.int a.2.1), some (.int a.2.2.1), none] [] a.2.2.2 := by
  obtain ⟨v2, v3, v4, σ⟩ := a
  unfold f_RH_fits_0_L27 at h
  try dsimp only at h ⊢
  refine x_iload 29 rfl dX8_fits_27 rfl ?_
  refine x_aload_n 30 rfl 0 dX8_fits_29 rfl rfl ?_
  refine x_getR E dX8_fits_30 F_RX8_27 sh_0 rf_0_3 33 rfl ?_
  refine x_getI E dX8_fits_33 F_RX8_115 sh_7 36 rfl ?_
  refine x_icmp_ge 39 rfl 95 dX8_fits_36 (by decide) (fun hc => ?_) (fun hc => ?_)
  · replace h := x_ifT hc h
    cases h
    exact x_wk (x_le_n (x_le_s (x_le_s (x_le_s (x_le_n (x_le_n x_le_0)))))) (hK (_, _, _, _) rfl)
  · replace h := x_ifF hc h
    refine x_iconst 40 rfl (v := 0) dX8_fits_39 (by decide) ?_
    refine x_istore 42 rfl dX8_fits_40 (by decide) [some (.ref 0), some (.int _), some (.int _), some (.int _), some (.int _), some (.int _)] rfl ?_
    obtain ⟨b7, b7h, h⟩ := x_bind h
    try dsimp only at h
    refine x_wk (x_le_s (x_le_s (x_le_s (x_le_s (x_le_s (x_le_s x_le_0)))))) (x_loop (fun a o h hK hG => b_RH_fits_0_L42 (r := r) (σ1 := σ1) E _ _ a o h hK hG) _ _ _ b7h ?_)
    refine x_iinc 92 rfl (1) dX8_fits_89 rfl (by decide) (by decide) [some (.ref 0), some (.int _), some (.int _), some (.int _), some (.int _), none] rfl ?_
    refine x_goto 27 dX8_fits_92 (by decide) ?_
    cases h
    exact x_wk (x_le_s (x_le_s (x_le_s (x_le_s (x_le_s (x_le_n x_le_0)))))) (hG (_, _, _, _) rfl)
set_option maxHeartbeats 4000000 in
set_option maxRecDepth 100000 in
theorem c_RH_fits_0 {l : Launch} {s0 : State} {a0 : Array Value} {D : va_G} {cA : Nat → ClassId} {sp : Nat → Nat} (E : x_En CL l s0 a0 D cA sp) (v1 : Int32) {σ : xS} {r : Int32 ⊕ Nat} {σ1 : xS} (h : f_RH_fits_0 v1 σ = some (r, σ1)) : oC l s0 D cA sp 7 M_RH_fits [.ref 0, .int v1] σ (x_oi r) σ1 := by
  unfold f_RH_fits_0 at h
  try dsimp only at h
  refine x_enterO [some (.ref 0), some (.int v1), none, none, none, none] rfl (Nat.le_of_ble_eq_true rfl) (by decide +kernel) rfl ?_
  refine x_iload_n 1 rfl 1 dX8_fits_0 rfl rfl ?_
  refine x_if_lt 4 rfl 9 dX8_fits_1 (by decide) (fun hc => ?_) (fun hc => ?_)
  · replace h := x_ifT hc h
    cases h
    exact x_throwNW2 E KU_ (k := 2) KX_RX8_313 rfl dX8_fits_9 dX8_fits_12 dX8_fits_13 dX8_fits_16 dX8_fits_19 (Nat.le_of_ble_eq_true rfl)
  · replace h := x_ifF hc h
    refine x_iload_n 5 rfl 1 dX8_fits_4 rfl rfl ?_
    refine x_iconst 6 rfl (v := 1) dX8_fits_5 (by decide) ?_
    refine x_icmp_le 9 rfl 20 dX8_fits_6 (by decide) (fun hc => ?_) (fun hc => ?_)
    · replace h := x_ifT hc h
      refine x_iconst 21 rfl (v := 0) dX8_fits_20 (by decide) ?_
      refine x_istore_n 22 rfl 2 dX8_fits_21 rfl (by decide) [some (.ref 0), some (.int _), some (.int _), none, none, none] rfl ?_
      refine x_iconst 23 rfl (v := -1) dX8_fits_22 (by decide) ?_
      refine x_istore_n 24 rfl 3 dX8_fits_23 rfl (by decide) [some (.ref 0), some (.int _), some (.int _), some (.int _), none, none] rfl ?_
      refine x_iconst 25 rfl (v := -1) dX8_fits_24 (by decide) ?_
      refine x_istore 27 rfl dX8_fits_25 (by decide) [some (.ref 0), some (.int _), some (.int _), some (.int _), some (.int _), none] rfl ?_
      obtain ⟨b9, b9h, h⟩ := x_bind h
      try dsimp only at h
      refine x_wk (x_le_s (x_le_s (x_le_s (x_le_s (x_le_s (x_le_n x_le_0)))))) (x_loop (fun a o h hK hG => b_RH_fits_0_L27 (r := r) (σ1 := σ1) E _ a o h hK hG) _ _ _ b9h ?_)
      refine x_iload_n 96 rfl 1 dX8_fits_95 rfl rfl ?_
      refine x_if_ne 99 rfl 103 dX8_fits_96 (by decide) (fun hc => ?_) (fun hc => ?_)
      · replace h := x_ifF hc h
        refine x_iload_n 104 rfl 3 dX8_fits_103 rfl rfl ?_
        cases h
        exact x_Oret (x_iret dX8_fits_104 rfl rfl rfl)
      · replace h := x_ifT hc h
        refine x_iload_n 100 rfl 2 dX8_fits_99 rfl rfl ?_
        refine x_goto 104 dX8_fits_100 (by decide) ?_
        cases h
        exact x_Oret (x_iret dX8_fits_104 rfl rfl rfl)
    · replace h := x_ifF hc h
      cases h
      exact x_throwNW2 E KU_ (k := 2) KX_RX8_313 rfl dX8_fits_9 dX8_fits_12 dX8_fits_13 dX8_fits_16 dX8_fits_19 (Nat.le_of_ble_eq_true rfl)
abbrev M_Se_write : xM := (yX5_write, cX5_write, 2, some .boolean, [])
theorem dX5_write_0 : decode cX5_write 0 = .ok (.aload_n 0, 1) := by decide +kernel
theorem dX5_write_1 : decode cX5_write 1 = .ok (.getfield 37, 3) := by decide +kernel
theorem dX5_write_4 : decode cX5_write 4 = .ok (.bipush 16, 2) := by decide +kernel
theorem dX5_write_6 : decode cX5_write 6 = .ok (.if_icmp .lt 5, 3) := by decide +kernel
theorem dX5_write_9 : decode cX5_write 9 = .ok (.iconst 0, 1) := by decide +kernel
theorem dX5_write_10 : decode cX5_write 10 = .ok (.ireturn, 1) := by decide +kernel
theorem dX5_write_11 : decode cX5_write 11 = .ok (.aload_n 0, 1) := by decide +kernel
theorem dX5_write_12 : decode cX5_write 12 = .ok (.getfield 34, 3) := by decide +kernel
theorem dX5_write_15 : decode cX5_write 15 = .ok (.aload_n 0, 1) := by decide +kernel
theorem dX5_write_16 : decode cX5_write 16 = .ok (.getfield 37, 3) := by decide +kernel
theorem dX5_write_19 : decode cX5_write 19 = .ok (.iload_n 1, 1) := by decide +kernel
theorem dX5_write_20 : decode cX5_write 20 = .ok (.iastore, 1) := by decide +kernel
theorem dX5_write_21 : decode cX5_write 21 = .ok (.aload_n 0, 1) := by decide +kernel
theorem dX5_write_22 : decode cX5_write 22 = .ok (.dup, 1) := by decide +kernel
theorem dX5_write_23 : decode cX5_write 23 = .ok (.getfield 37, 3) := by decide +kernel
theorem dX5_write_26 : decode cX5_write 26 = .ok (.iconst 1, 1) := by decide +kernel
theorem dX5_write_27 : decode cX5_write 27 = .ok (.iadd, 1) := by decide +kernel
theorem dX5_write_28 : decode cX5_write 28 = .ok (.putfield 37, 3) := by decide +kernel
theorem dX5_write_31 : decode cX5_write 31 = .ok (.iconst 1, 1) := by decide +kernel
theorem dX5_write_32 : decode cX5_write 32 = .ok (.ireturn, 1) := by decide +kernel
def f_Se_write_35 (v1 : Int32) (σ : xS) : Option (Int32 × xS) :=
  if σ.1 35 8 < (16 : Int32) then
    if σ.1 35 8 < 0 ∨ 16 ≤ (σ.1 35 8).toNatClampNeg then none else
    let σ1 := x_pI σ 41 (σ.1 35 8).toNatClampNeg v1
    let σ2 := x_pI σ1 35 8 (σ1.1 35 8 + (1 : Int32))
    some ((1 : Int32), σ2)
  else
    some ((0 : Int32), σ)
set_option maxHeartbeats 4000000 in
set_option maxRecDepth 100000 in
theorem c_Se_write_35 {l : Launch} {s0 : State} {a0 : Array Value} {D : va_G} {cA : Nat → ClassId} {sp : Nat → Nat} (E : x_En CL l s0 a0 D cA sp) (v1 : Int32) {σ : xS} {r : Int32} {σ1 : xS} (h : f_Se_write_35 v1 σ = some (r, σ1)) : zC l s0 D cA sp 0 M_Se_write [.ref 35, .int v1] σ (some (.int r)) σ1 := by
  unfold f_Se_write_35 at h
  try dsimp only at h
  refine x_enter [some (.ref 35), some (.int v1)] rfl (Nat.le_of_ble_eq_true rfl) (by decide +kernel) rfl ?_
  refine x_aload_n 1 rfl 0 dX5_write_0 rfl rfl ?_
  refine x_getI E dX5_write_1 F_RX5_37 sh_35 4 rfl ?_
  refine x_bipush 6 rfl (v := 16) dX5_write_4 (by decide) ?_
  refine x_icmp_lt 9 rfl 11 dX5_write_6 (by decide) (fun hc => ?_) (fun hc => ?_)
  · replace h := x_ifT hc h
    refine x_aload_n 12 rfl 0 dX5_write_11 rfl rfl ?_
    refine x_getR E dX5_write_12 F_RX5_34 sh_35 rf_35_7 15 rfl ?_
    refine x_aload_n 16 rfl 0 dX5_write_15 rfl rfl ?_
    refine x_getI E dX5_write_16 F_RX5_37 sh_35 19 rfl ?_
    refine x_iload_n 20 rfl 1 dX5_write_19 rfl rfl ?_
    obtain ⟨hz, h⟩ := x_ifn h
    refine x_iast E dX5_write_20 sh_41 _ rfl hz 21 rfl ?_
    refine x_aload_n 22 rfl 0 dX5_write_21 rfl rfl ?_
    refine x_dup 23 rfl dX5_write_22 rfl ?_
    refine x_getI E dX5_write_23 F_RX5_37 sh_35 26 rfl ?_
    refine x_iconst 27 rfl (v := 1) dX5_write_26 (by decide) ?_
    refine x_iadd 28 rfl dX5_write_27 ?_
    refine x_putI E dX5_write_28 F_RX5_37 sh_35 31 rfl ?_
    refine x_iconst 32 rfl (v := 1) dX5_write_31 (by decide) ?_
    cases h
    exact x_zret (Or.inr rfl) dX5_write_32 rfl rfl rfl
  · replace h := x_ifF hc h
    refine x_iconst 10 rfl (v := 0) dX5_write_9 (by decide) ?_
    cases h
    exact x_zret (Or.inl rfl) dX5_write_10 rfl rfl rfl
theorem K_RX8_323 : x_KV RX8 323 M_Se_write 1 := ⟨⟨(List.mem_append_right _ (List.mem_of_getElem? (i := 436) (by decide +kernel))), (List.mem_append_right _ (List.mem_of_getElem? (i := 439) (by decide +kernel))), (List.mem_append_right _ (List.mem_of_getElem? (i := 5) (by decide +kernel))), ⟨by decide +kernel, by decide +kernel⟩, by decide +kernel⟩, (List.mem_append_right _ (List.mem_of_getElem? (i := 437) (by decide +kernel))), (List.mem_append_right _ (List.mem_of_getElem? (i := 438) (by decide +kernel)))⟩
abbrev M_RH_book : xM := (yX8_book, cX8_book, 2, some .int, [])
theorem dX8_book_0 : decode cX8_book 0 = .ok (.iload_n 1, 1) := by decide +kernel
theorem dX8_book_1 : decode cX8_book 1 = .ok (.invokestatic 154, 3) := by decide +kernel
theorem dX8_book_4 : decode cX8_book 4 = .ok (.ifCond .eq 14, 3) := by decide +kernel
theorem dX8_book_7 : decode cX8_book 7 = .ok (.aload_n 0, 1) := by decide +kernel
theorem dX8_book_8 : decode cX8_book 8 = .ok (.getfield 37, 3) := by decide +kernel
theorem dX8_book_11 : decode cX8_book 11 = .ok (.iload_n 1, 1) := by decide +kernel
theorem dX8_book_12 : decode cX8_book 12 = .ok (.invokevirtual 323, 3) := by decide +kernel
theorem dX8_book_15 : decode cX8_book 15 = .ok (.ifCond .ne 15, 3) := by decide +kernel
theorem dX8_book_18 : decode cX8_book 18 = .ok (.aload_n 0, 1) := by decide +kernel
theorem dX8_book_19 : decode cX8_book 19 = .ok (.getfield 68, 3) := by decide +kernel
theorem dX8_book_22 : decode cX8_book 22 = .ok (.iconst 2, 1) := by decide +kernel
theorem dX8_book_23 : decode cX8_book 23 = .ok (.dup2, 1) := by decide +kernel
theorem dX8_book_24 : decode cX8_book 24 = .ok (.iaload, 1) := by decide +kernel
theorem dX8_book_25 : decode cX8_book 25 = .ok (.iconst 1, 1) := by decide +kernel
theorem dX8_book_26 : decode cX8_book 26 = .ok (.iadd, 1) := by decide +kernel
theorem dX8_book_27 : decode cX8_book 27 = .ok (.iastore, 1) := by decide +kernel
theorem dX8_book_28 : decode cX8_book 28 = .ok (.iconst (-1), 1) := by decide +kernel
theorem dX8_book_29 : decode cX8_book 29 = .ok (.ireturn, 1) := by decide +kernel
theorem dX8_book_30 : decode cX8_book 30 = .ok (.aload_n 0, 1) := by decide +kernel
theorem dX8_book_31 : decode cX8_book 31 = .ok (.getfield 37, 3) := by decide +kernel
theorem dX8_book_34 : decode cX8_book 34 = .ok (.getfield 127, 3) := by decide +kernel
theorem dX8_book_37 : decode cX8_book 37 = .ok (.ireturn, 1) := by decide +kernel
def f_RH_book_0 (v1 : Int32) (σ : xS) : Option (Int32 × xS) :=
  (f_RH_isInches v1 σ).bind fun q1 =>
  if q1.1 = 0 then
    let σ2 := x_pI q1.2 59 2 (q1.2.1 59 2 + (1 : Int32))
    some ((-1 : Int32), σ2)
  else
    (f_Se_write_35 v1 q1.2).bind fun q3 =>
    if q3.1 = 0 then
      let σ4 := x_pI q3.2 59 2 (q3.2.1 59 2 + (1 : Int32))
      some ((-1 : Int32), σ4)
    else
      some (q3.2.1 35 8, q3.2)
set_option maxHeartbeats 4000000 in
set_option maxRecDepth 100000 in
theorem c_RH_book_0 {l : Launch} {s0 : State} {a0 : Array Value} {D : va_G} {cA : Nat → ClassId} {sp : Nat → Nat} (E : x_En CL l s0 a0 D cA sp) (v1 : Int32) {σ : xS} {r : Int32} {σ1 : xS} (h : f_RH_book_0 v1 σ = some (r, σ1)) : zC l s0 D cA sp 1 M_RH_book [.ref 0, .int v1] σ (some (.int r)) σ1 := by
  unfold f_RH_book_0 at h
  try dsimp only at h
  refine x_enter [some (.ref 0), some (.int v1)] rfl (Nat.le_of_ble_eq_true rfl) (by decide +kernel) rfl ?_
  refine x_iload_n 1 rfl 1 dX8_book_0 rfl rfl ?_
  obtain ⟨⟨q1r, q1s⟩, q1h, h⟩ := x_bind h
  try dsimp only at h
  refine z_callS E [.int _] [] dX8_book_1 K_RX8_154 ⟨Nat.le_of_ble_eq_true rfl, Nat.le_of_ble_eq_true rfl⟩ (c_RH_isInches E _ q1h) rfl rfl (Nat.le_of_ble_eq_true rfl) 4 rfl [.int _] rfl ?_
  refine x_if_eq 7 rfl 18 dX8_book_4 (by decide) (fun hc => ?_) (fun hc => ?_)
  · replace h := x_ifT hc h
    refine x_aload_n 19 rfl 0 dX8_book_18 rfl rfl ?_
    refine x_getR E dX8_book_19 F_RX8_68 sh_0 rf_0_12 22 rfl ?_
    refine x_iconst 23 rfl (v := 2) dX8_book_22 (by decide) ?_
    refine x_dup2 24 rfl dX8_book_23 rfl rfl ?_
    refine x_iald E dX8_book_24 sh_59 2 (by decide) (by decide) 25 rfl ?_
    refine x_iconst 26 rfl (v := 1) dX8_book_25 (by decide) ?_
    refine x_iadd 27 rfl dX8_book_26 ?_
    refine x_iast E dX8_book_27 sh_59 2 (by decide) (by decide) 28 rfl ?_
    refine x_iconst 29 rfl (v := -1) dX8_book_28 (by decide) ?_
    cases h
    exact x_iret dX8_book_29 rfl rfl rfl
  · replace h := x_ifF hc h
    refine x_aload_n 8 rfl 0 dX8_book_7 rfl rfl ?_
    refine x_getR E dX8_book_8 F_RX8_37 sh_0 rf_0_5 11 rfl ?_
    refine x_iload_n 12 rfl 1 dX8_book_11 rfl rfl ?_
    obtain ⟨⟨q3r, q3s⟩, q3h, h⟩ := x_bind h
    try dsimp only at h
    refine z_callV E [.int _] [] dX8_book_12 K_RX8_323 ⟨Nat.le_of_ble_eq_true rfl, Nat.le_of_ble_eq_true rfl⟩ sh_35 (by decide) rfl (c_Se_write_35 E _ q3h) rfl rfl (Nat.le_of_ble_eq_true rfl) 15 rfl [.int _] rfl ?_
    refine x_if_ne 18 rfl 30 dX8_book_15 (by decide) (fun hc => ?_) (fun hc => ?_)
    · replace h := x_ifF hc h
      refine x_aload_n 31 rfl 0 dX8_book_30 rfl rfl ?_
      refine x_getR E dX8_book_31 F_RX8_37 sh_0 rf_0_5 34 rfl ?_
      refine x_getI E dX8_book_34 F_RX8_127 sh_35 37 rfl ?_
      cases h
      exact x_iret dX8_book_37 rfl rfl rfl
    · replace h := x_ifT hc h
      refine x_aload_n 19 rfl 0 dX8_book_18 rfl rfl ?_
      refine x_getR E dX8_book_19 F_RX8_68 sh_0 rf_0_12 22 rfl ?_
      refine x_iconst 23 rfl (v := 2) dX8_book_22 (by decide) ?_
      refine x_dup2 24 rfl dX8_book_23 rfl rfl ?_
      refine x_iald E dX8_book_24 sh_59 2 (by decide) (by decide) 25 rfl ?_
      refine x_iconst 26 rfl (v := 1) dX8_book_25 (by decide) ?_
      refine x_iadd 27 rfl dX8_book_26 ?_
      refine x_iast E dX8_book_27 sh_59 2 (by decide) (by decide) 28 rfl ?_
      refine x_iconst 29 rfl (v := -1) dX8_book_28 (by decide) ?_
      cases h
      exact x_iret dX8_book_29 rfl rfl rfl
abbrev M_Se_stoppedWithin : xM := (yX5_stoppedWithin, cX5_stoppedWithin, 4, some .int, [])
theorem dX5_stoppedWithin_0 : decode cX5_stoppedWithin 0 = .ok (.iconst 0, 1) := by decide +kernel
theorem dX5_stoppedWithin_1 : decode cX5_stoppedWithin 1 = .ok (.istore_n 2, 1) := by decide +kernel
theorem dX5_stoppedWithin_2 : decode cX5_stoppedWithin 2 = .ok (.iconst 0, 1) := by decide +kernel
theorem dX5_stoppedWithin_3 : decode cX5_stoppedWithin 3 = .ok (.istore_n 3, 1) := by decide +kernel
theorem dX5_stoppedWithin_4 : decode cX5_stoppedWithin 4 = .ok (.iload_n 3, 1) := by decide +kernel
theorem dX5_stoppedWithin_5 : decode cX5_stoppedWithin 5 = .ok (.aload_n 0, 1) := by decide +kernel
theorem dX5_stoppedWithin_6 : decode cX5_stoppedWithin 6 = .ok (.getfield 37, 3) := by decide +kernel
theorem dX5_stoppedWithin_9 : decode cX5_stoppedWithin 9 = .ok (.if_icmp .ge 33, 3) := by decide +kernel
theorem dX5_stoppedWithin_12 : decode cX5_stoppedWithin 12 = .ok (.iload_n 3, 1) := by decide +kernel
theorem dX5_stoppedWithin_13 : decode cX5_stoppedWithin 13 = .ok (.bipush 16, 2) := by decide +kernel
theorem dX5_stoppedWithin_15 : decode cX5_stoppedWithin 15 = .ok (.if_icmp .ge 27, 3) := by decide +kernel
theorem dX5_stoppedWithin_18 : decode cX5_stoppedWithin 18 = .ok (.iload_n 2, 1) := by decide +kernel
theorem dX5_stoppedWithin_19 : decode cX5_stoppedWithin 19 = .ok (.aload_n 0, 1) := by decide +kernel
theorem dX5_stoppedWithin_20 : decode cX5_stoppedWithin 20 = .ok (.getfield 34, 3) := by decide +kernel
theorem dX5_stoppedWithin_23 : decode cX5_stoppedWithin 23 = .ok (.iload_n 3, 1) := by decide +kernel
theorem dX5_stoppedWithin_24 : decode cX5_stoppedWithin 24 = .ok (.iaload, 1) := by decide +kernel
theorem dX5_stoppedWithin_25 : decode cX5_stoppedWithin 25 = .ok (.iload_n 1, 1) := by decide +kernel
theorem dX5_stoppedWithin_26 : decode cX5_stoppedWithin 26 = .ok (.if_icmp .gt 7, 3) := by decide +kernel
theorem dX5_stoppedWithin_29 : decode cX5_stoppedWithin 29 = .ok (.iconst 1, 1) := by decide +kernel
theorem dX5_stoppedWithin_30 : decode cX5_stoppedWithin 30 = .ok (.goto 4, 3) := by decide +kernel
theorem dX5_stoppedWithin_33 : decode cX5_stoppedWithin 33 = .ok (.iconst 0, 1) := by decide +kernel
theorem dX5_stoppedWithin_34 : decode cX5_stoppedWithin 34 = .ok (.iadd, 1) := by decide +kernel
theorem dX5_stoppedWithin_35 : decode cX5_stoppedWithin 35 = .ok (.istore_n 2, 1) := by decide +kernel
theorem dX5_stoppedWithin_36 : decode cX5_stoppedWithin 36 = .ok (.iinc 3 1, 3) := by decide +kernel
theorem dX5_stoppedWithin_39 : decode cX5_stoppedWithin 39 = .ok (.goto (-35), 3) := by decide +kernel
theorem dX5_stoppedWithin_42 : decode cX5_stoppedWithin 42 = .ok (.iload_n 2, 1) := by decide +kernel
theorem dX5_stoppedWithin_43 : decode cX5_stoppedWithin 43 = .ok (.ireturn, 1) := by decide +kernel
def f_Se_stoppedWithin_35_L4 (v1 : Int32) (a : Int32 × Int32 × xS) : Option ((Int32 × Int32 × xS) ⊕ (Int32 × Int32 × xS)) :=
  let v2 := a.1; let v3 := a.2.1; let σ := a.2.2;
  if σ.1 35 8 ≤ v3 then
    some (.inl (v2, v3, σ))
  else
    if (16 : Int32) ≤ v3 then
      some (.inl (v2, v3, σ))
    else
      if v3 < 0 ∨ 16 ≤ v3.toNatClampNeg then none else
      if v1 < σ.1 41 v3.toNatClampNeg then
        let w1 := (v2 + (0 : Int32))
        let w2 := v3 + (1 : Int32)
        some (.inr (w1, w2, σ))
      else
        let w3 := (v2 + (1 : Int32))
        let w4 := v3 + (1 : Int32)
        some (.inr (w3, w4, σ))
def f_Se_stoppedWithin_35 (v1 : Int32) (σ : xS) : Option (Int32 × xS) :=
  (x_it (f_Se_stoppedWithin_35_L4 v1) 10000 ((0 : Int32), (0 : Int32), σ)).bind fun b5 =>
  some (b5.1, b5.2.2)
set_option maxHeartbeats 4000000 in
set_option maxRecDepth 100000 in
theorem b_Se_stoppedWithin_35_L4 {l : Launch} {s0 : State} {a0 : Array Value} {D : va_G} {cA : Nat → ClassId} {sp : Nat → Nat} (E : x_En CL l s0 a0 D cA sp) (v1 : Int32) {r : Int32} {σ1 : xS} (a : Int32 × Int32 × xS) (o : (Int32 × Int32 × xS) ⊕ (Int32 × Int32 × xS)) (h : f_Se_stoppedWithin_35_L4 v1 a = some o) (hK : ∀ b, o = .inl b → zW l s0 D cA sp (zQ s0 D cA sp (some (.int r)) σ1) (x_rm 0 0 0) M_Se_stoppedWithin 0 0 42 [none, none, some (.int b.1), none] [] b.2.2) (hG : ∀ a', o = .inr a' → zW l s0 D cA sp (zQ s0 D cA sp (some (.int r)) σ1) (x_rm 0 0 0) M_Se_stoppedWithin 0 0 4 [some (.ref 35), some (.int v1), some (.int a'.1), some (.int a'.2.1)] [] a'.2.2) : zW l s0 D cA sp (zQ s0 D cA sp (some (.int r)) σ1) (x_rm 0 0 0) M_Se_stoppedWithin 0 0 4 [some (.ref 35), some (.int v1), some (.int a.1), some (.int a.2.1)] [] a.2.2 := by
  obtain ⟨v2, v3, σ⟩ := a
  unfold f_Se_stoppedWithin_35_L4 at h
  try dsimp only at h ⊢
  refine x_iload_n 5 rfl 3 dX5_stoppedWithin_4 rfl rfl ?_
  refine x_aload_n 6 rfl 0 dX5_stoppedWithin_5 rfl rfl ?_
  refine x_getI E dX5_stoppedWithin_6 F_RX5_37 sh_35 9 rfl ?_
  refine x_icmp_ge 12 rfl 42 dX5_stoppedWithin_9 (by decide) (fun hc => ?_) (fun hc => ?_)
  · replace h := x_ifT hc h
    cases h
    exact x_wk (x_le_n (x_le_n (x_le_s (x_le_n x_le_0)))) (hK (_, _, _) rfl)
  · replace h := x_ifF hc h
    refine x_iload_n 13 rfl 3 dX5_stoppedWithin_12 rfl rfl ?_
    refine x_bipush 15 rfl (v := 16) dX5_stoppedWithin_13 (by decide) ?_
    refine x_icmp_ge 18 rfl 42 dX5_stoppedWithin_15 (by decide) (fun hc => ?_) (fun hc => ?_)
    · replace h := x_ifT hc h
      cases h
      exact x_wk (x_le_n (x_le_n (x_le_s (x_le_n x_le_0)))) (hK (_, _, _) rfl)
    · replace h := x_ifF hc h
      refine x_iload_n 19 rfl 2 dX5_stoppedWithin_18 rfl rfl ?_
      refine x_aload_n 20 rfl 0 dX5_stoppedWithin_19 rfl rfl ?_
      refine x_getR E dX5_stoppedWithin_20 F_RX5_34 sh_35 rf_35_7 23 rfl ?_
      refine x_iload_n 24 rfl 3 dX5_stoppedWithin_23 rfl rfl ?_
      obtain ⟨hz, h⟩ := x_ifn h
      refine x_iald E dX5_stoppedWithin_24 sh_41 _ rfl hz 25 rfl ?_
      refine x_iload_n 26 rfl 1 dX5_stoppedWithin_25 rfl rfl ?_
      refine x_icmp_gt 29 rfl 33 dX5_stoppedWithin_26 (by decide) (fun hc => ?_) (fun hc => ?_)
      · replace h := x_ifT hc h
        refine x_iconst 34 rfl (v := 0) dX5_stoppedWithin_33 (by decide) ?_
        refine x_iadd 35 rfl dX5_stoppedWithin_34 ?_
        refine x_istore_n 36 rfl 2 dX5_stoppedWithin_35 rfl (by decide) [some (.ref 35), some (.int _), some (.int _), some (.int _)] rfl ?_
        refine x_iinc 39 rfl (1) dX5_stoppedWithin_36 rfl (by decide) (by decide) [some (.ref 35), some (.int _), some (.int _), some (.int _)] rfl ?_
        refine x_goto 4 dX5_stoppedWithin_39 (by decide) ?_
        cases h
        exact x_wk (x_le_s (x_le_s (x_le_s (x_le_s x_le_0)))) (hG (_, _, _) rfl)
      · replace h := x_ifF hc h
        refine x_iconst 30 rfl (v := 1) dX5_stoppedWithin_29 (by decide) ?_
        refine x_goto 34 dX5_stoppedWithin_30 (by decide) ?_
        refine x_iadd 35 rfl dX5_stoppedWithin_34 ?_
        refine x_istore_n 36 rfl 2 dX5_stoppedWithin_35 rfl (by decide) [some (.ref 35), some (.int _), some (.int _), some (.int _)] rfl ?_
        refine x_iinc 39 rfl (1) dX5_stoppedWithin_36 rfl (by decide) (by decide) [some (.ref 35), some (.int _), some (.int _), some (.int _)] rfl ?_
        refine x_goto 4 dX5_stoppedWithin_39 (by decide) ?_
        cases h
        exact x_wk (x_le_s (x_le_s (x_le_s (x_le_s x_le_0)))) (hG (_, _, _) rfl)
set_option maxHeartbeats 4000000 in
set_option maxRecDepth 100000 in
theorem c_Se_stoppedWithin_35 {l : Launch} {s0 : State} {a0 : Array Value} {D : va_G} {cA : Nat → ClassId} {sp : Nat → Nat} (E : x_En CL l s0 a0 D cA sp) (v1 : Int32) {σ : xS} {r : Int32} {σ1 : xS} (h : f_Se_stoppedWithin_35 v1 σ = some (r, σ1)) : zC l s0 D cA sp 0 M_Se_stoppedWithin [.ref 35, .int v1] σ (some (.int r)) σ1 := by
  unfold f_Se_stoppedWithin_35 at h
  try dsimp only at h
  refine x_enter [some (.ref 35), some (.int v1), none, none] rfl (Nat.le_of_ble_eq_true rfl) (by decide +kernel) rfl ?_
  refine x_iconst 1 rfl (v := 0) dX5_stoppedWithin_0 (by decide) ?_
  refine x_istore_n 2 rfl 2 dX5_stoppedWithin_1 rfl (by decide) [some (.ref 35), some (.int _), some (.int _), none] rfl ?_
  refine x_iconst 3 rfl (v := 0) dX5_stoppedWithin_2 (by decide) ?_
  refine x_istore_n 4 rfl 3 dX5_stoppedWithin_3 rfl (by decide) [some (.ref 35), some (.int _), some (.int _), some (.int _)] rfl ?_
  obtain ⟨b5, b5h, h⟩ := x_bind h
  try dsimp only at h
  refine x_wk (x_le_s (x_le_s (x_le_s (x_le_s x_le_0)))) (x_loop (fun a o h hK hG => b_Se_stoppedWithin_35_L4 (r := r) (σ1 := σ1) E _ a o h hK hG) _ _ _ b5h ?_)
  refine x_iload_n 43 rfl 2 dX5_stoppedWithin_42 rfl rfl ?_
  cases h
  exact x_iret dX5_stoppedWithin_43 rfl rfl rfl
abbrev M_RH_commonOf : xM := (yX8_commonOf, cX8_commonOf, 6, some .int, [])
theorem dX8_commonOf_0 : decode cX8_commonOf 0 = .ok (.iload_n 0, 1) := by decide +kernel
theorem dX8_commonOf_1 : decode cX8_commonOf 1 = .ok (.istore_n 2, 1) := by decide +kernel
theorem dX8_commonOf_2 : decode cX8_commonOf 2 = .ok (.iload_n 1, 1) := by decide +kernel
theorem dX8_commonOf_3 : decode cX8_commonOf 3 = .ok (.istore_n 3, 1) := by decide +kernel
theorem dX8_commonOf_4 : decode cX8_commonOf 4 = .ok (.iconst 0, 1) := by decide +kernel
theorem dX8_commonOf_5 : decode cX8_commonOf 5 = .ok (.istore 4, 2) := by decide +kernel
theorem dX8_commonOf_7 : decode cX8_commonOf 7 = .ok (.iload 4, 2) := by decide +kernel
theorem dX8_commonOf_9 : decode cX8_commonOf 9 = .ok (.bipush 64, 2) := by decide +kernel
theorem dX8_commonOf_11 : decode cX8_commonOf 11 = .ok (.if_icmp .ge 23, 3) := by decide +kernel
theorem dX8_commonOf_14 : decode cX8_commonOf 14 = .ok (.iload_n 3, 1) := by decide +kernel
theorem dX8_commonOf_15 : decode cX8_commonOf 15 = .ok (.ifCond .eq 19, 3) := by decide +kernel
theorem dX8_commonOf_18 : decode cX8_commonOf 18 = .ok (.iload_n 2, 1) := by decide +kernel
theorem dX8_commonOf_19 : decode cX8_commonOf 19 = .ok (.iload_n 3, 1) := by decide +kernel
theorem dX8_commonOf_20 : decode cX8_commonOf 20 = .ok (.irem, 1) := by decide +kernel
theorem dX8_commonOf_21 : decode cX8_commonOf 21 = .ok (.istore 5, 2) := by decide +kernel
theorem dX8_commonOf_23 : decode cX8_commonOf 23 = .ok (.iload_n 3, 1) := by decide +kernel
theorem dX8_commonOf_24 : decode cX8_commonOf 24 = .ok (.istore_n 2, 1) := by decide +kernel
theorem dX8_commonOf_25 : decode cX8_commonOf 25 = .ok (.iload 5, 2) := by decide +kernel
theorem dX8_commonOf_27 : decode cX8_commonOf 27 = .ok (.istore_n 3, 1) := by decide +kernel
theorem dX8_commonOf_28 : decode cX8_commonOf 28 = .ok (.iinc 4 1, 3) := by decide +kernel
theorem dX8_commonOf_31 : decode cX8_commonOf 31 = .ok (.goto (-24), 3) := by decide +kernel
theorem dX8_commonOf_34 : decode cX8_commonOf 34 = .ok (.iload_n 2, 1) := by decide +kernel
theorem dX8_commonOf_35 : decode cX8_commonOf 35 = .ok (.ireturn, 1) := by decide +kernel
def f_RH_commonOf_L7  (a : Int32 × Int32 × Int32 × xS) : Option ((Int32 × Int32 × Int32 × xS) ⊕ (Int32 × Int32 × Int32 × xS)) :=
  let v2 := a.1; let v3 := a.2.1; let v4 := a.2.2.1; let σ := a.2.2.2;
  if (64 : Int32) ≤ v4 then
    some (.inl (v2, v3, v4, σ))
  else
    if v3 = 0 then
      some (.inl (v2, v3, v4, σ))
    else
      if v3 = 0 then none else
      let w1 := (v2 - v2 / v3 * v3)
      let w2 := v4 + (1 : Int32)
      some (.inr (v3, w1, w2, σ))
def f_RH_commonOf (v0 : Int32) (v1 : Int32) (σ : xS) : Option (Int32 × xS) :=
  (x_it (f_RH_commonOf_L7 ) 10000 (v0, v1, (0 : Int32), σ)).bind fun b3 =>
  some (b3.1, b3.2.2.2)
set_option maxHeartbeats 4000000 in
set_option maxRecDepth 100000 in
theorem b_RH_commonOf_L7 {l : Launch} {s0 : State} {a0 : Array Value} {D : va_G} {cA : Nat → ClassId} {sp : Nat → Nat} (E : x_En CL l s0 a0 D cA sp)  {r : Int32} {σ1 : xS} (a : Int32 × Int32 × Int32 × xS) (o : (Int32 × Int32 × Int32 × xS) ⊕ (Int32 × Int32 × Int32 × xS)) (h : f_RH_commonOf_L7  a = some o) (hK : ∀ b, o = .inl b → zW l s0 D cA sp (zQ s0 D cA sp (some (.int r)) σ1) (x_rm 0 0 0) M_RH_commonOf 0 0 34 [none, none, some (.int b.1), none, none, none] [] b.2.2.2) (hG : ∀ a', o = .inr a' → zW l s0 D cA sp (zQ s0 D cA sp (some (.int r)) σ1) (x_rm 0 0 0) M_RH_commonOf 0 0 7 [none, none, some (.int a'.1), some (.int a'.2.1), some (.int a'.2.2.1), none] [] a'.2.2.2) : zW l s0 D cA sp (zQ s0 D cA sp (some (.int r)) σ1) (x_rm 0 0 0) M_RH_commonOf 0 0 7 [none, none, some (.int a.1), some (.int a.2.1), some (.int a.2.2.1), none] [] a.2.2.2 := by
  obtain ⟨v2, v3, v4, σ⟩ := a
  unfold f_RH_commonOf_L7 at h
  try dsimp only at h ⊢
  refine x_iload 9 rfl dX8_commonOf_7 rfl ?_
  refine x_bipush 11 rfl (v := 64) dX8_commonOf_9 (by decide) ?_
  refine x_icmp_ge 14 rfl 34 dX8_commonOf_11 (by decide) (fun hc => ?_) (fun hc => ?_)
  · replace h := x_ifT hc h
    cases h
    exact x_wk (x_le_n (x_le_n (x_le_s (x_le_n (x_le_n (x_le_n x_le_0)))))) (hK (_, _, _, _) rfl)
  · replace h := x_ifF hc h
    refine x_iload_n 15 rfl 3 dX8_commonOf_14 rfl rfl ?_
    refine x_if_eq 18 rfl 34 dX8_commonOf_15 (by decide) (fun hc => ?_) (fun hc => ?_)
    · replace h := x_ifT hc h
      cases h
      exact x_wk (x_le_n (x_le_n (x_le_s (x_le_n (x_le_n (x_le_n x_le_0)))))) (hK (_, _, _, _) rfl)
    · replace h := x_ifF hc h
      refine x_iload_n 19 rfl 2 dX8_commonOf_18 rfl rfl ?_
      refine x_iload_n 20 rfl 3 dX8_commonOf_19 rfl rfl ?_
      obtain ⟨hz, h⟩ := x_ifn h
      refine x_irem 21 rfl dX8_commonOf_20 hz ?_
      refine x_istore 23 rfl dX8_commonOf_21 (by decide) [none, none, some (.int _), some (.int _), some (.int _), some (.int _)] rfl ?_
      refine x_iload_n 24 rfl 3 dX8_commonOf_23 rfl rfl ?_
      refine x_istore_n 25 rfl 2 dX8_commonOf_24 rfl (by decide) [none, none, some (.int _), some (.int _), some (.int _), some (.int _)] rfl ?_
      refine x_iload 27 rfl dX8_commonOf_25 rfl ?_
      refine x_istore_n 28 rfl 3 dX8_commonOf_27 rfl (by decide) [none, none, some (.int _), some (.int _), some (.int _), some (.int _)] rfl ?_
      refine x_iinc 31 rfl (1) dX8_commonOf_28 rfl (by decide) (by decide) [none, none, some (.int _), some (.int _), some (.int _), some (.int _)] rfl ?_
      refine x_goto 7 dX8_commonOf_31 (by decide) ?_
      cases h
      exact x_wk (x_le_n (x_le_n (x_le_s (x_le_s (x_le_s (x_le_n x_le_0)))))) (hG (_, _, _, _) rfl)
set_option maxHeartbeats 4000000 in
set_option maxRecDepth 100000 in
theorem c_RH_commonOf {l : Launch} {s0 : State} {a0 : Array Value} {D : va_G} {cA : Nat → ClassId} {sp : Nat → Nat} (E : x_En CL l s0 a0 D cA sp) (v0 : Int32) (v1 : Int32) {σ : xS} {r : Int32} {σ1 : xS} (h : f_RH_commonOf v0 v1 σ = some (r, σ1)) : zC l s0 D cA sp 0 M_RH_commonOf [.int v0, .int v1] σ (some (.int r)) σ1 := by
  unfold f_RH_commonOf at h
  try dsimp only at h
  refine x_enter [some (.int v0), some (.int v1), none, none, none, none] rfl (Nat.le_of_ble_eq_true rfl) (by decide +kernel) rfl ?_
  refine x_iload_n 1 rfl 0 dX8_commonOf_0 rfl rfl ?_
  refine x_istore_n 2 rfl 2 dX8_commonOf_1 rfl (by decide) [some (.int _), some (.int _), some (.int _), none, none, none] rfl ?_
  refine x_iload_n 3 rfl 1 dX8_commonOf_2 rfl rfl ?_
  refine x_istore_n 4 rfl 3 dX8_commonOf_3 rfl (by decide) [some (.int _), some (.int _), some (.int _), some (.int _), none, none] rfl ?_
  refine x_iconst 5 rfl (v := 0) dX8_commonOf_4 (by decide) ?_
  refine x_istore 7 rfl dX8_commonOf_5 (by decide) [some (.int _), some (.int _), some (.int _), some (.int _), some (.int _), none] rfl ?_
  obtain ⟨b3, b3h, h⟩ := x_bind h
  try dsimp only at h
  refine x_wk (x_le_n (x_le_n (x_le_s (x_le_s (x_le_s (x_le_n x_le_0)))))) (x_loop (fun a o h hK hG => b_RH_commonOf_L7 (r := r) (σ1 := σ1) E  a o h hK hG) _ _ _ b3h ?_)
  refine x_iload_n 35 rfl 2 dX8_commonOf_34 rfl rfl ?_
  cases h
  exact x_iret dX8_commonOf_35 rfl rfl rfl
theorem K_RX8_342 : x_KS RX8 342 M_RH_commonOf 2 := ⟨⟨(List.mem_append_right _ (List.mem_of_getElem? (i := 1128) (by decide +kernel))), (List.mem_append_right _ (List.mem_of_getElem? (i := 1130) (by decide +kernel))), (List.mem_append_right _ (List.mem_of_getElem? (i := 1) (by decide +kernel))), ⟨by decide +kernel, by decide +kernel⟩, by decide +kernel⟩, (List.mem_append_right _ (List.mem_of_getElem? (i := 1129) (by decide +kernel)))⟩
abbrev M_RH_partOf : xM := (yX8_partOf, cX8_partOf, 4, some .int, [])
theorem dX8_partOf_0 : decode cX8_partOf 0 = .ok (.iload_n 0, 1) := by decide +kernel
theorem dX8_partOf_1 : decode cX8_partOf 1 = .ok (.iload_n 1, 1) := by decide +kernel
theorem dX8_partOf_2 : decode cX8_partOf 2 = .ok (.invokestatic 342, 3) := by decide +kernel
theorem dX8_partOf_5 : decode cX8_partOf 5 = .ok (.istore_n 3, 1) := by decide +kernel
theorem dX8_partOf_6 : decode cX8_partOf 6 = .ok (.iload_n 1, 1) := by decide +kernel
theorem dX8_partOf_7 : decode cX8_partOf 7 = .ok (.iconst 1, 1) := by decide +kernel
theorem dX8_partOf_8 : decode cX8_partOf 8 = .ok (.if_icmp .lt 8, 3) := by decide +kernel
theorem dX8_partOf_11 : decode cX8_partOf 11 = .ok (.iload_n 3, 1) := by decide +kernel
theorem dX8_partOf_12 : decode cX8_partOf 12 = .ok (.iconst 1, 1) := by decide +kernel
theorem dX8_partOf_13 : decode cX8_partOf 13 = .ok (.if_icmp .ge 13, 3) := by decide +kernel
theorem dX8_partOf_16 : decode cX8_partOf 16 = .ok (.iload_n 2, 1) := by decide +kernel
theorem dX8_partOf_17 : decode cX8_partOf 17 = .ok (.ifCond .ne 7, 3) := by decide +kernel
theorem dX8_partOf_20 : decode cX8_partOf 20 = .ok (.iconst 0, 1) := by decide +kernel
theorem dX8_partOf_21 : decode cX8_partOf 21 = .ok (.goto 4, 3) := by decide +kernel
theorem dX8_partOf_24 : decode cX8_partOf 24 = .ok (.iconst 1, 1) := by decide +kernel
theorem dX8_partOf_25 : decode cX8_partOf 25 = .ok (.ireturn, 1) := by decide +kernel
theorem dX8_partOf_26 : decode cX8_partOf 26 = .ok (.iload_n 2, 1) := by decide +kernel
theorem dX8_partOf_27 : decode cX8_partOf 27 = .ok (.ifCond .ne 9, 3) := by decide +kernel
theorem dX8_partOf_30 : decode cX8_partOf 30 = .ok (.iload_n 0, 1) := by decide +kernel
theorem dX8_partOf_31 : decode cX8_partOf 31 = .ok (.iload_n 3, 1) := by decide +kernel
theorem dX8_partOf_32 : decode cX8_partOf 32 = .ok (.idiv, 1) := by decide +kernel
theorem dX8_partOf_33 : decode cX8_partOf 33 = .ok (.goto 6, 3) := by decide +kernel
theorem dX8_partOf_36 : decode cX8_partOf 36 = .ok (.iload_n 1, 1) := by decide +kernel
theorem dX8_partOf_37 : decode cX8_partOf 37 = .ok (.iload_n 3, 1) := by decide +kernel
theorem dX8_partOf_38 : decode cX8_partOf 38 = .ok (.idiv, 1) := by decide +kernel
theorem dX8_partOf_39 : decode cX8_partOf 39 = .ok (.ireturn, 1) := by decide +kernel
def f_RH_partOf (v0 : Int32) (v1 : Int32) (v2 : Int32) (σ : xS) : Option (Int32 × xS) :=
  (f_RH_commonOf v0 v1 σ).bind fun q1 =>
  let w2 := q1.1
  if v1 < (1 : Int32) then
    if v2 = 0 then
      some ((0 : Int32), q1.2)
    else
      some ((1 : Int32), q1.2)
  else
    if (1 : Int32) ≤ w2 then
      if v2 = 0 then
        if w2 = 0 then none else
        some ((v0 / w2), q1.2)
      else
        if w2 = 0 then none else
        some ((v1 / w2), q1.2)
    else
      if v2 = 0 then
        some ((0 : Int32), q1.2)
      else
        some ((1 : Int32), q1.2)
set_option maxHeartbeats 4000000 in
set_option maxRecDepth 100000 in
theorem c_RH_partOf {l : Launch} {s0 : State} {a0 : Array Value} {D : va_G} {cA : Nat → ClassId} {sp : Nat → Nat} (E : x_En CL l s0 a0 D cA sp) (v0 : Int32) (v1 : Int32) (v2 : Int32) {σ : xS} {r : Int32} {σ1 : xS} (h : f_RH_partOf v0 v1 v2 σ = some (r, σ1)) : zC l s0 D cA sp 1 M_RH_partOf [.int v0, .int v1, .int v2] σ (some (.int r)) σ1 := by
  unfold f_RH_partOf at h
  try dsimp only at h
  refine x_enter [some (.int v0), some (.int v1), some (.int v2), none] rfl (Nat.le_of_ble_eq_true rfl) (by decide +kernel) rfl ?_
  refine x_iload_n 1 rfl 0 dX8_partOf_0 rfl rfl ?_
  refine x_iload_n 2 rfl 1 dX8_partOf_1 rfl rfl ?_
  obtain ⟨⟨q1r, q1s⟩, q1h, h⟩ := x_bind h
  try dsimp only at h
  refine z_callS E [.int _, .int _] [] dX8_partOf_2 K_RX8_342 ⟨Nat.le_of_ble_eq_true rfl, Nat.le_of_ble_eq_true rfl⟩ (c_RH_commonOf E _ _ q1h) rfl rfl (Nat.le_of_ble_eq_true rfl) 5 rfl [.int _] rfl ?_
  refine x_istore_n 6 rfl 3 dX8_partOf_5 rfl (by decide) [some (.int _), some (.int _), some (.int _), some (.int _)] rfl ?_
  refine x_iload_n 7 rfl 1 dX8_partOf_6 rfl rfl ?_
  refine x_iconst 8 rfl (v := 1) dX8_partOf_7 (by decide) ?_
  refine x_icmp_lt 11 rfl 16 dX8_partOf_8 (by decide) (fun hc => ?_) (fun hc => ?_)
  · replace h := x_ifT hc h
    refine x_iload_n 17 rfl 2 dX8_partOf_16 rfl rfl ?_
    refine x_if_ne 20 rfl 24 dX8_partOf_17 (by decide) (fun hc => ?_) (fun hc => ?_)
    · replace h := x_ifF hc h
      refine x_iconst 25 rfl (v := 1) dX8_partOf_24 (by decide) ?_
      cases h
      exact x_iret dX8_partOf_25 rfl rfl rfl
    · replace h := x_ifT hc h
      refine x_iconst 21 rfl (v := 0) dX8_partOf_20 (by decide) ?_
      refine x_goto 25 dX8_partOf_21 (by decide) ?_
      cases h
      exact x_iret dX8_partOf_25 rfl rfl rfl
  · replace h := x_ifF hc h
    refine x_iload_n 12 rfl 3 dX8_partOf_11 rfl rfl ?_
    refine x_iconst 13 rfl (v := 1) dX8_partOf_12 (by decide) ?_
    refine x_icmp_ge 16 rfl 26 dX8_partOf_13 (by decide) (fun hc => ?_) (fun hc => ?_)
    · replace h := x_ifT hc h
      refine x_iload_n 27 rfl 2 dX8_partOf_26 rfl rfl ?_
      refine x_if_ne 30 rfl 36 dX8_partOf_27 (by decide) (fun hc => ?_) (fun hc => ?_)
      · replace h := x_ifF hc h
        refine x_iload_n 37 rfl 1 dX8_partOf_36 rfl rfl ?_
        refine x_iload_n 38 rfl 3 dX8_partOf_37 rfl rfl ?_
        obtain ⟨hz, h⟩ := x_ifn h
        refine x_idiv 39 rfl dX8_partOf_38 hz ?_
        cases h
        exact x_iret dX8_partOf_39 rfl rfl rfl
      · replace h := x_ifT hc h
        refine x_iload_n 31 rfl 0 dX8_partOf_30 rfl rfl ?_
        refine x_iload_n 32 rfl 3 dX8_partOf_31 rfl rfl ?_
        obtain ⟨hz, h⟩ := x_ifn h
        refine x_idiv 33 rfl dX8_partOf_32 hz ?_
        refine x_goto 39 dX8_partOf_33 (by decide) ?_
        cases h
        exact x_iret dX8_partOf_39 rfl rfl rfl
    · replace h := x_ifF hc h
      refine x_iload_n 17 rfl 2 dX8_partOf_16 rfl rfl ?_
      refine x_if_ne 20 rfl 24 dX8_partOf_17 (by decide) (fun hc => ?_) (fun hc => ?_)
      · replace h := x_ifF hc h
        refine x_iconst 25 rfl (v := 1) dX8_partOf_24 (by decide) ?_
        cases h
        exact x_iret dX8_partOf_25 rfl rfl rfl
      · replace h := x_ifT hc h
        refine x_iconst 21 rfl (v := 0) dX8_partOf_20 (by decide) ?_
        refine x_goto 25 dX8_partOf_21 (by decide) ?_
        cases h
        exact x_iret dX8_partOf_25 rfl rfl rfl
theorem KX_RX8_326 : x_KN2 RX8 130 326 134 (x_Xn 2) "no such part of a fraction" := ⟨by decide +kernel, (List.mem_append_right _ (List.mem_of_getElem? (i := 881) (by decide +kernel))), (List.mem_append_right _ (List.mem_of_getElem? (i := 22) (by decide +kernel))), (List.mem_append_right _ (List.mem_of_getElem? (i := 1120) (by decide +kernel))), (List.mem_of_getElem? (i := 833) (by decide +kernel)), AX_134, AO_130_134⟩
theorem K_RX8_328 : x_KV RX8 328 M_Se_stoppedWithin 1 := ⟨⟨(List.mem_append_right _ (List.mem_of_getElem? (i := 1121) (by decide +kernel))), (List.mem_append_right _ (List.mem_of_getElem? (i := 1124) (by decide +kernel))), (List.mem_append_right _ (List.mem_of_getElem? (i := 5) (by decide +kernel))), ⟨by decide +kernel, by decide +kernel⟩, by decide +kernel⟩, (List.mem_append_right _ (List.mem_of_getElem? (i := 1122) (by decide +kernel))), (List.mem_append_right _ (List.mem_of_getElem? (i := 1123) (by decide +kernel)))⟩
theorem K_RX8_331 : x_KS RX8 331 M_RH_partOf 3 := ⟨⟨(List.mem_append_right _ (List.mem_of_getElem? (i := 1125) (by decide +kernel))), (List.mem_append_right _ (List.mem_of_getElem? (i := 1127) (by decide +kernel))), (List.mem_append_right _ (List.mem_of_getElem? (i := 1) (by decide +kernel))), ⟨by decide +kernel, by decide +kernel⟩, by decide +kernel⟩, (List.mem_append_right _ (List.mem_of_getElem? (i := 1126) (by decide +kernel)))⟩
abbrev M_RH_next : xM := (yX8_next, cX8_next, 3, some .int, [])
theorem dX8_next_0 : decode cX8_next 0 = .ok (.iload_n 2, 1) := by decide +kernel
theorem dX8_next_1 : decode cX8_next 1 = .ok (.ifCond .lt 8, 3) := by decide +kernel
theorem dX8_next_4 : decode cX8_next 4 = .ok (.iload_n 2, 1) := by decide +kernel
theorem dX8_next_5 : decode cX8_next 5 = .ok (.iconst 1, 1) := by decide +kernel
theorem dX8_next_6 : decode cX8_next 6 = .ok (.if_icmp .le 14, 3) := by decide +kernel
theorem dX8_next_9 : decode cX8_next 9 = .ok (.new 130, 3) := by decide +kernel
theorem dX8_next_12 : decode cX8_next 12 = .ok (.dup, 1) := by decide +kernel
theorem dX8_next_13 : decode cX8_next 13 = .ok (.ldc_w 326, 3) := by decide +kernel
theorem dX8_next_16 : decode cX8_next 16 = .ok (.invokespecial 134, 3) := by decide +kernel
theorem dX8_next_19 : decode cX8_next 19 = .ok (.athrow, 1) := by decide +kernel
theorem dX8_next_20 : decode cX8_next 20 = .ok (.aload_n 0, 1) := by decide +kernel
theorem dX8_next_21 : decode cX8_next 21 = .ok (.getfield 37, 3) := by decide +kernel
theorem dX8_next_24 : decode cX8_next 24 = .ok (.iload_n 1, 1) := by decide +kernel
theorem dX8_next_25 : decode cX8_next 25 = .ok (.invokevirtual 328, 3) := by decide +kernel
theorem dX8_next_28 : decode cX8_next 28 = .ok (.aload_n 0, 1) := by decide +kernel
theorem dX8_next_29 : decode cX8_next 29 = .ok (.getfield 37, 3) := by decide +kernel
theorem dX8_next_32 : decode cX8_next 32 = .ok (.getfield 127, 3) := by decide +kernel
theorem dX8_next_35 : decode cX8_next 35 = .ok (.iload_n 2, 1) := by decide +kernel
theorem dX8_next_36 : decode cX8_next 36 = .ok (.invokestatic 331, 3) := by decide +kernel
theorem dX8_next_39 : decode cX8_next 39 = .ok (.ireturn, 1) := by decide +kernel
def f_RH_next_0 (v1 : Int32) (v2 : Int32) (σ : xS) : Option ((Int32 ⊕ Nat) × xS) :=
  if v2 < 0 then
    some (.inr 2, σ)
  else
    if v2 ≤ (1 : Int32) then
      (f_Se_stoppedWithin_35 v1 σ).bind fun q1 =>
      (f_RH_partOf q1.1 (q1.2.1 35 8) v2 q1.2).bind fun q2 =>
      some (.inl q2.1, q2.2)
    else
      some (.inr 2, σ)
set_option maxHeartbeats 4000000 in
set_option maxRecDepth 100000 in
theorem c_RH_next_0 {l : Launch} {s0 : State} {a0 : Array Value} {D : va_G} {cA : Nat → ClassId} {sp : Nat → Nat} (E : x_En CL l s0 a0 D cA sp) (v1 : Int32) (v2 : Int32) {σ : xS} {r : Int32 ⊕ Nat} {σ1 : xS} (h : f_RH_next_0 v1 v2 σ = some (r, σ1)) : oC l s0 D cA sp 2 M_RH_next [.ref 0, .int v1, .int v2] σ (x_oi r) σ1 := by
  unfold f_RH_next_0 at h
  try dsimp only at h
  refine x_enterO [some (.ref 0), some (.int v1), some (.int v2)] rfl (Nat.le_of_ble_eq_true rfl) (by decide +kernel) rfl ?_
  refine x_iload_n 1 rfl 2 dX8_next_0 rfl rfl ?_
  refine x_if_lt 4 rfl 9 dX8_next_1 (by decide) (fun hc => ?_) (fun hc => ?_)
  · replace h := x_ifT hc h
    cases h
    exact x_throwNW2 E KU_ (k := 2) KX_RX8_326 rfl dX8_next_9 dX8_next_12 dX8_next_13 dX8_next_16 dX8_next_19 (Nat.le_of_ble_eq_true rfl)
  · replace h := x_ifF hc h
    refine x_iload_n 5 rfl 2 dX8_next_4 rfl rfl ?_
    refine x_iconst 6 rfl (v := 1) dX8_next_5 (by decide) ?_
    refine x_icmp_le 9 rfl 20 dX8_next_6 (by decide) (fun hc => ?_) (fun hc => ?_)
    · replace h := x_ifT hc h
      refine x_aload_n 21 rfl 0 dX8_next_20 rfl rfl ?_
      refine x_getR E dX8_next_21 F_RX8_37 sh_0 rf_0_5 24 rfl ?_
      refine x_iload_n 25 rfl 1 dX8_next_24 rfl rfl ?_
      obtain ⟨⟨q1r, q1s⟩, q1h, h⟩ := x_bind h
      try dsimp only at h
      refine z_callV E [.int _] [] dX8_next_25 K_RX8_328 ⟨Nat.le_of_ble_eq_true rfl, Nat.le_of_ble_eq_true rfl⟩ sh_35 (by decide) rfl (c_Se_stoppedWithin_35 E _ q1h) rfl rfl (Nat.le_of_ble_eq_true rfl) 28 rfl [.int _] rfl ?_
      refine x_aload_n 29 rfl 0 dX8_next_28 rfl rfl ?_
      refine x_getR E dX8_next_29 F_RX8_37 sh_0 rf_0_5 32 rfl ?_
      refine x_getI E dX8_next_32 F_RX8_127 sh_35 35 rfl ?_
      refine x_iload_n 36 rfl 2 dX8_next_35 rfl rfl ?_
      obtain ⟨⟨q2r, q2s⟩, q2h, h⟩ := x_bind h
      try dsimp only at h
      refine z_callS E [.int _, .int _, .int _] [] dX8_next_36 K_RX8_331 ⟨Nat.le_of_ble_eq_true rfl, Nat.le_of_ble_eq_true rfl⟩ (c_RH_partOf E _ _ _ q2h) rfl rfl (Nat.le_of_ble_eq_true rfl) 39 rfl [.int _] rfl ?_
      cases h
      exact x_Oret (x_iret dX8_next_39 rfl rfl rfl)
    · replace h := x_ifF hc h
      cases h
      exact x_throwNW2 E KU_ (k := 2) KX_RX8_326 rfl dX8_next_9 dX8_next_12 dX8_next_13 dX8_next_16 dX8_next_19 (Nat.le_of_ble_eq_true rfl)
abbrev M_Se_together : xM := (yX5_together, cX5_together, 3, some .int, [])
theorem dX5_together_0 : decode cX5_together 0 = .ok (.iconst 0, 1) := by decide +kernel
theorem dX5_together_1 : decode cX5_together 1 = .ok (.istore_n 1, 1) := by decide +kernel
theorem dX5_together_2 : decode cX5_together 2 = .ok (.iconst 0, 1) := by decide +kernel
theorem dX5_together_3 : decode cX5_together 3 = .ok (.istore_n 2, 1) := by decide +kernel
theorem dX5_together_4 : decode cX5_together 4 = .ok (.iload_n 2, 1) := by decide +kernel
theorem dX5_together_5 : decode cX5_together 5 = .ok (.aload_n 0, 1) := by decide +kernel
theorem dX5_together_6 : decode cX5_together 6 = .ok (.getfield 37, 3) := by decide +kernel
theorem dX5_together_9 : decode cX5_together 9 = .ok (.if_icmp .ge 24, 3) := by decide +kernel
theorem dX5_together_12 : decode cX5_together 12 = .ok (.iload_n 2, 1) := by decide +kernel
theorem dX5_together_13 : decode cX5_together 13 = .ok (.bipush 16, 2) := by decide +kernel
theorem dX5_together_15 : decode cX5_together 15 = .ok (.if_icmp .ge 18, 3) := by decide +kernel
theorem dX5_together_18 : decode cX5_together 18 = .ok (.iload_n 1, 1) := by decide +kernel
theorem dX5_together_19 : decode cX5_together 19 = .ok (.aload_n 0, 1) := by decide +kernel
theorem dX5_together_20 : decode cX5_together 20 = .ok (.getfield 34, 3) := by decide +kernel
theorem dX5_together_23 : decode cX5_together 23 = .ok (.iload_n 2, 1) := by decide +kernel
theorem dX5_together_24 : decode cX5_together 24 = .ok (.iaload, 1) := by decide +kernel
theorem dX5_together_25 : decode cX5_together 25 = .ok (.iadd, 1) := by decide +kernel
theorem dX5_together_26 : decode cX5_together 26 = .ok (.istore_n 1, 1) := by decide +kernel
theorem dX5_together_27 : decode cX5_together 27 = .ok (.iinc 2 1, 3) := by decide +kernel
theorem dX5_together_30 : decode cX5_together 30 = .ok (.goto (-26), 3) := by decide +kernel
theorem dX5_together_33 : decode cX5_together 33 = .ok (.iload_n 1, 1) := by decide +kernel
theorem dX5_together_34 : decode cX5_together 34 = .ok (.ireturn, 1) := by decide +kernel
def f_Se_together_35_L4  (a : Int32 × Int32 × xS) : Option ((Int32 × Int32 × xS) ⊕ (Int32 × Int32 × xS)) :=
  let v1 := a.1; let v2 := a.2.1; let σ := a.2.2;
  if σ.1 35 8 ≤ v2 then
    some (.inl (v1, v2, σ))
  else
    if (16 : Int32) ≤ v2 then
      some (.inl (v1, v2, σ))
    else
      if v2 < 0 ∨ 16 ≤ v2.toNatClampNeg then none else
      let w1 := (v1 + σ.1 41 v2.toNatClampNeg)
      let w2 := v2 + (1 : Int32)
      some (.inr (w1, w2, σ))
def f_Se_together_35  (σ : xS) : Option (Int32 × xS) :=
  (x_it (f_Se_together_35_L4 ) 10000 ((0 : Int32), (0 : Int32), σ)).bind fun b3 =>
  some (b3.1, b3.2.2)
set_option maxHeartbeats 4000000 in
set_option maxRecDepth 100000 in
theorem b_Se_together_35_L4 {l : Launch} {s0 : State} {a0 : Array Value} {D : va_G} {cA : Nat → ClassId} {sp : Nat → Nat} (E : x_En CL l s0 a0 D cA sp)  {r : Int32} {σ1 : xS} (a : Int32 × Int32 × xS) (o : (Int32 × Int32 × xS) ⊕ (Int32 × Int32 × xS)) (h : f_Se_together_35_L4  a = some o) (hK : ∀ b, o = .inl b → zW l s0 D cA sp (zQ s0 D cA sp (some (.int r)) σ1) (x_rm 0 0 0) M_Se_together 0 0 33 [none, some (.int b.1), none] [] b.2.2) (hG : ∀ a', o = .inr a' → zW l s0 D cA sp (zQ s0 D cA sp (some (.int r)) σ1) (x_rm 0 0 0) M_Se_together 0 0 4 [some (.ref 35), some (.int a'.1), some (.int a'.2.1)] [] a'.2.2) : zW l s0 D cA sp (zQ s0 D cA sp (some (.int r)) σ1) (x_rm 0 0 0) M_Se_together 0 0 4 [some (.ref 35), some (.int a.1), some (.int a.2.1)] [] a.2.2 := by
  obtain ⟨v1, v2, σ⟩ := a
  unfold f_Se_together_35_L4 at h
  try dsimp only at h ⊢
  refine x_iload_n 5 rfl 2 dX5_together_4 rfl rfl ?_
  refine x_aload_n 6 rfl 0 dX5_together_5 rfl rfl ?_
  refine x_getI E dX5_together_6 F_RX5_37 sh_35 9 rfl ?_
  refine x_icmp_ge 12 rfl 33 dX5_together_9 (by decide) (fun hc => ?_) (fun hc => ?_)
  · replace h := x_ifT hc h
    cases h
    exact x_wk (x_le_n (x_le_s (x_le_n x_le_0))) (hK (_, _, _) rfl)
  · replace h := x_ifF hc h
    refine x_iload_n 13 rfl 2 dX5_together_12 rfl rfl ?_
    refine x_bipush 15 rfl (v := 16) dX5_together_13 (by decide) ?_
    refine x_icmp_ge 18 rfl 33 dX5_together_15 (by decide) (fun hc => ?_) (fun hc => ?_)
    · replace h := x_ifT hc h
      cases h
      exact x_wk (x_le_n (x_le_s (x_le_n x_le_0))) (hK (_, _, _) rfl)
    · replace h := x_ifF hc h
      refine x_iload_n 19 rfl 1 dX5_together_18 rfl rfl ?_
      refine x_aload_n 20 rfl 0 dX5_together_19 rfl rfl ?_
      refine x_getR E dX5_together_20 F_RX5_34 sh_35 rf_35_7 23 rfl ?_
      refine x_iload_n 24 rfl 2 dX5_together_23 rfl rfl ?_
      obtain ⟨hz, h⟩ := x_ifn h
      refine x_iald E dX5_together_24 sh_41 _ rfl hz 25 rfl ?_
      refine x_iadd 26 rfl dX5_together_25 ?_
      refine x_istore_n 27 rfl 1 dX5_together_26 rfl (by decide) [some (.ref 35), some (.int _), some (.int _)] rfl ?_
      refine x_iinc 30 rfl (1) dX5_together_27 rfl (by decide) (by decide) [some (.ref 35), some (.int _), some (.int _)] rfl ?_
      refine x_goto 4 dX5_together_30 (by decide) ?_
      cases h
      exact x_wk (x_le_s (x_le_s (x_le_s x_le_0))) (hG (_, _, _) rfl)
set_option maxHeartbeats 4000000 in
set_option maxRecDepth 100000 in
theorem c_Se_together_35 {l : Launch} {s0 : State} {a0 : Array Value} {D : va_G} {cA : Nat → ClassId} {sp : Nat → Nat} (E : x_En CL l s0 a0 D cA sp)  {σ : xS} {r : Int32} {σ1 : xS} (h : f_Se_together_35  σ = some (r, σ1)) : zC l s0 D cA sp 0 M_Se_together [.ref 35] σ (some (.int r)) σ1 := by
  unfold f_Se_together_35 at h
  try dsimp only at h
  refine x_enter [some (.ref 35), none, none] rfl (Nat.le_of_ble_eq_true rfl) (by decide +kernel) rfl ?_
  refine x_iconst 1 rfl (v := 0) dX5_together_0 (by decide) ?_
  refine x_istore_n 2 rfl 1 dX5_together_1 rfl (by decide) [some (.ref 35), some (.int _), none] rfl ?_
  refine x_iconst 3 rfl (v := 0) dX5_together_2 (by decide) ?_
  refine x_istore_n 4 rfl 2 dX5_together_3 rfl (by decide) [some (.ref 35), some (.int _), some (.int _)] rfl ?_
  obtain ⟨b3, b3h, h⟩ := x_bind h
  try dsimp only at h
  refine x_wk (x_le_s (x_le_s (x_le_s x_le_0))) (x_loop (fun a o h hK hG => b_Se_together_35_L4 (r := r) (σ1 := σ1) E  a o h hK hG) _ _ _ b3h ?_)
  refine x_iload_n 34 rfl 1 dX5_together_33 rfl rfl ?_
  cases h
  exact x_iret dX5_together_34 rfl rfl rfl
theorem K_RX5_58 : x_KM RX5 58 Lib.Math.max.name Lib.Math.max.code 2 := ⟨(List.mem_append_right _ (List.mem_of_getElem? (i := 1143) (by decide +kernel))), (List.mem_append_right _ (List.mem_of_getElem? (i := 427) (by decide +kernel))), (List.mem_append_right _ (List.mem_of_getElem? (i := 14) (by decide +kernel))), (List.mem_append_right _ (List.mem_of_getElem? (i := 428) (by decide +kernel)))⟩
theorem K_RX5_64 : x_KM RX5 64 Lib.Math.min.name Lib.Math.min.code 2 := ⟨(List.mem_append_right _ (List.mem_of_getElem? (i := 1144) (by decide +kernel))), (List.mem_append_right _ (List.mem_of_getElem? (i := 461) (by decide +kernel))), (List.mem_append_right _ (List.mem_of_getElem? (i := 14) (by decide +kernel))), (List.mem_append_right _ (List.mem_of_getElem? (i := 462) (by decide +kernel)))⟩
abbrev M_Se_span : xM := (yX5_span, cX5_span, 4, some .int, [])
theorem dX5_span_0 : decode cX5_span 0 = .ok (.aload_n 0, 1) := by decide +kernel
theorem dX5_span_1 : decode cX5_span 1 = .ok (.getfield 37, 3) := by decide +kernel
theorem dX5_span_4 : decode cX5_span 4 = .ok (.iconst 1, 1) := by decide +kernel
theorem dX5_span_5 : decode cX5_span 5 = .ok (.if_icmp .ge 5, 3) := by decide +kernel
theorem dX5_span_8 : decode cX5_span 8 = .ok (.iconst 0, 1) := by decide +kernel
theorem dX5_span_9 : decode cX5_span 9 = .ok (.ireturn, 1) := by decide +kernel
theorem dX5_span_10 : decode cX5_span 10 = .ok (.aload_n 0, 1) := by decide +kernel
theorem dX5_span_11 : decode cX5_span 11 = .ok (.getfield 34, 3) := by decide +kernel
theorem dX5_span_14 : decode cX5_span 14 = .ok (.iconst 0, 1) := by decide +kernel
theorem dX5_span_15 : decode cX5_span 15 = .ok (.iaload, 1) := by decide +kernel
theorem dX5_span_16 : decode cX5_span 16 = .ok (.istore_n 1, 1) := by decide +kernel
theorem dX5_span_17 : decode cX5_span 17 = .ok (.aload_n 0, 1) := by decide +kernel
theorem dX5_span_18 : decode cX5_span 18 = .ok (.getfield 34, 3) := by decide +kernel
theorem dX5_span_21 : decode cX5_span 21 = .ok (.iconst 0, 1) := by decide +kernel
theorem dX5_span_22 : decode cX5_span 22 = .ok (.iaload, 1) := by decide +kernel
theorem dX5_span_23 : decode cX5_span 23 = .ok (.istore_n 2, 1) := by decide +kernel
theorem dX5_span_24 : decode cX5_span 24 = .ok (.iconst 1, 1) := by decide +kernel
theorem dX5_span_25 : decode cX5_span 25 = .ok (.istore_n 3, 1) := by decide +kernel
theorem dX5_span_26 : decode cX5_span 26 = .ok (.iload_n 3, 1) := by decide +kernel
theorem dX5_span_27 : decode cX5_span 27 = .ok (.aload_n 0, 1) := by decide +kernel
theorem dX5_span_28 : decode cX5_span 28 = .ok (.getfield 37, 3) := by decide +kernel
theorem dX5_span_31 : decode cX5_span 31 = .ok (.if_icmp .ge 37, 3) := by decide +kernel
theorem dX5_span_34 : decode cX5_span 34 = .ok (.iload_n 3, 1) := by decide +kernel
theorem dX5_span_35 : decode cX5_span 35 = .ok (.bipush 16, 2) := by decide +kernel
theorem dX5_span_37 : decode cX5_span 37 = .ok (.if_icmp .ge 31, 3) := by decide +kernel
theorem dX5_span_40 : decode cX5_span 40 = .ok (.iload_n 1, 1) := by decide +kernel
theorem dX5_span_41 : decode cX5_span 41 = .ok (.aload_n 0, 1) := by decide +kernel
theorem dX5_span_42 : decode cX5_span 42 = .ok (.getfield 34, 3) := by decide +kernel
theorem dX5_span_45 : decode cX5_span 45 = .ok (.iload_n 3, 1) := by decide +kernel
theorem dX5_span_46 : decode cX5_span 46 = .ok (.iaload, 1) := by decide +kernel
theorem dX5_span_47 : decode cX5_span 47 = .ok (.invokestatic 58, 3) := by decide +kernel
theorem dX5_span_50 : decode cX5_span 50 = .ok (.istore_n 1, 1) := by decide +kernel
theorem dX5_span_51 : decode cX5_span 51 = .ok (.iload_n 2, 1) := by decide +kernel
theorem dX5_span_52 : decode cX5_span 52 = .ok (.aload_n 0, 1) := by decide +kernel
theorem dX5_span_53 : decode cX5_span 53 = .ok (.getfield 34, 3) := by decide +kernel
theorem dX5_span_56 : decode cX5_span 56 = .ok (.iload_n 3, 1) := by decide +kernel
theorem dX5_span_57 : decode cX5_span 57 = .ok (.iaload, 1) := by decide +kernel
theorem dX5_span_58 : decode cX5_span 58 = .ok (.invokestatic 64, 3) := by decide +kernel
theorem dX5_span_61 : decode cX5_span 61 = .ok (.istore_n 2, 1) := by decide +kernel
theorem dX5_span_62 : decode cX5_span 62 = .ok (.iinc 3 1, 3) := by decide +kernel
theorem dX5_span_65 : decode cX5_span 65 = .ok (.goto (-39), 3) := by decide +kernel
theorem dX5_span_68 : decode cX5_span 68 = .ok (.iload_n 1, 1) := by decide +kernel
theorem dX5_span_69 : decode cX5_span 69 = .ok (.iload_n 2, 1) := by decide +kernel
theorem dX5_span_70 : decode cX5_span 70 = .ok (.isub, 1) := by decide +kernel
theorem dX5_span_71 : decode cX5_span 71 = .ok (.ireturn, 1) := by decide +kernel
def f_Se_span_35_L26  (a : Int32 × Int32 × Int32 × xS) : Option ((Int32 × Int32 × Int32 × xS) ⊕ (Int32 × Int32 × Int32 × xS)) :=
  let v1 := a.1; let v2 := a.2.1; let v3 := a.2.2.1; let σ := a.2.2.2;
  if σ.1 35 8 ≤ v3 then
    some (.inl (v1, v2, v3, σ))
  else
    if (16 : Int32) ≤ v3 then
      some (.inl (v1, v2, v3, σ))
    else
      if v3 < 0 ∨ 16 ≤ v3.toNatClampNeg then none else
      let w1 := (if v1 < σ.1 41 v3.toNatClampNeg then σ.1 41 v3.toNatClampNeg else v1)
      if v3 < 0 ∨ 16 ≤ v3.toNatClampNeg then none else
      let w2 := (if σ.1 41 v3.toNatClampNeg < v2 then σ.1 41 v3.toNatClampNeg else v2)
      let w3 := v3 + (1 : Int32)
      some (.inr (w1, w2, w3, σ))
def f_Se_span_35  (σ : xS) : Option (Int32 × xS) :=
  if (1 : Int32) ≤ σ.1 35 8 then
    let w4 := σ.1 41 0
    let w5 := σ.1 41 0
    (x_it (f_Se_span_35_L26 ) 10000 (w4, w5, (1 : Int32), σ)).bind fun b6 =>
    some ((b6.1 - b6.2.1), b6.2.2.2)
  else
    some ((0 : Int32), σ)
set_option maxHeartbeats 4000000 in
set_option maxRecDepth 100000 in
theorem b_Se_span_35_L26 {l : Launch} {s0 : State} {a0 : Array Value} {D : va_G} {cA : Nat → ClassId} {sp : Nat → Nat} (E : x_En CL l s0 a0 D cA sp)  {r : Int32} {σ1 : xS} (a : Int32 × Int32 × Int32 × xS) (o : (Int32 × Int32 × Int32 × xS) ⊕ (Int32 × Int32 × Int32 × xS)) (h : f_Se_span_35_L26  a = some o) (hK : ∀ b, o = .inl b → zW l s0 D cA sp (zQ s0 D cA sp (some (.int r)) σ1) (x_rm 0 0 0) M_Se_span 0 0 68 [none, some (.int b.1), some (.int b.2.1), none] [] b.2.2.2) (hG : ∀ a', o = .inr a' → zW l s0 D cA sp (zQ s0 D cA sp (some (.int r)) σ1) (x_rm 0 0 0) M_Se_span 0 0 26 [some (.ref 35), some (.int a'.1), some (.int a'.2.1), some (.int a'.2.2.1)] [] a'.2.2.2) : zW l s0 D cA sp (zQ s0 D cA sp (some (.int r)) σ1) (x_rm 0 0 0) M_Se_span 0 0 26 [some (.ref 35), some (.int a.1), some (.int a.2.1), some (.int a.2.2.1)] [] a.2.2.2 := by
  obtain ⟨v1, v2, v3, σ⟩ := a
  unfold f_Se_span_35_L26 at h
  try dsimp only at h ⊢
  refine x_iload_n 27 rfl 3 dX5_span_26 rfl rfl ?_
  refine x_aload_n 28 rfl 0 dX5_span_27 rfl rfl ?_
  refine x_getI E dX5_span_28 F_RX5_37 sh_35 31 rfl ?_
  refine x_icmp_ge 34 rfl 68 dX5_span_31 (by decide) (fun hc => ?_) (fun hc => ?_)
  · replace h := x_ifT hc h
    cases h
    exact x_wk (x_le_n (x_le_s (x_le_s (x_le_n x_le_0)))) (hK (_, _, _, _) rfl)
  · replace h := x_ifF hc h
    refine x_iload_n 35 rfl 3 dX5_span_34 rfl rfl ?_
    refine x_bipush 37 rfl (v := 16) dX5_span_35 (by decide) ?_
    refine x_icmp_ge 40 rfl 68 dX5_span_37 (by decide) (fun hc => ?_) (fun hc => ?_)
    · replace h := x_ifT hc h
      cases h
      exact x_wk (x_le_n (x_le_s (x_le_s (x_le_n x_le_0)))) (hK (_, _, _, _) rfl)
    · replace h := x_ifF hc h
      refine x_iload_n 41 rfl 1 dX5_span_40 rfl rfl ?_
      refine x_aload_n 42 rfl 0 dX5_span_41 rfl rfl ?_
      refine x_getR E dX5_span_42 F_RX5_34 sh_35 rf_35_7 45 rfl ?_
      refine x_iload_n 46 rfl 3 dX5_span_45 rfl rfl ?_
      obtain ⟨hz, h⟩ := x_ifn h
      refine x_iald E dX5_span_46 sh_41 _ rfl hz 47 rfl ?_
      refine x_mmax E dX5_span_47 K_RX5_58 (Nat.le_of_ble_eq_true rfl) (Nat.le_of_ble_eq_true rfl) 50 rfl ?_
      refine x_istore_n 51 rfl 1 dX5_span_50 rfl (by decide) [some (.ref 35), some (.int _), some (.int _), some (.int _)] rfl ?_
      refine x_iload_n 52 rfl 2 dX5_span_51 rfl rfl ?_
      refine x_aload_n 53 rfl 0 dX5_span_52 rfl rfl ?_
      refine x_getR E dX5_span_53 F_RX5_34 sh_35 rf_35_7 56 rfl ?_
      refine x_iload_n 57 rfl 3 dX5_span_56 rfl rfl ?_
      obtain ⟨hz, h⟩ := x_ifn h
      refine x_iald E dX5_span_57 sh_41 _ rfl hz 58 rfl ?_
      refine x_mmin E dX5_span_58 K_RX5_64 (Nat.le_of_ble_eq_true rfl) (Nat.le_of_ble_eq_true rfl) 61 rfl ?_
      refine x_istore_n 62 rfl 2 dX5_span_61 rfl (by decide) [some (.ref 35), some (.int _), some (.int _), some (.int _)] rfl ?_
      refine x_iinc 65 rfl (1) dX5_span_62 rfl (by decide) (by decide) [some (.ref 35), some (.int _), some (.int _), some (.int _)] rfl ?_
      refine x_goto 26 dX5_span_65 (by decide) ?_
      cases h
      exact x_wk (x_le_s (x_le_s (x_le_s (x_le_s x_le_0)))) (hG (_, _, _, _) rfl)
set_option maxHeartbeats 4000000 in
set_option maxRecDepth 100000 in
theorem c_Se_span_35 {l : Launch} {s0 : State} {a0 : Array Value} {D : va_G} {cA : Nat → ClassId} {sp : Nat → Nat} (E : x_En CL l s0 a0 D cA sp)  {σ : xS} {r : Int32} {σ1 : xS} (h : f_Se_span_35  σ = some (r, σ1)) : zC l s0 D cA sp 0 M_Se_span [.ref 35] σ (some (.int r)) σ1 := by
  unfold f_Se_span_35 at h
  try dsimp only at h
  refine x_enter [some (.ref 35), none, none, none] rfl (Nat.le_of_ble_eq_true rfl) (by decide +kernel) rfl ?_
  refine x_aload_n 1 rfl 0 dX5_span_0 rfl rfl ?_
  refine x_getI E dX5_span_1 F_RX5_37 sh_35 4 rfl ?_
  refine x_iconst 5 rfl (v := 1) dX5_span_4 (by decide) ?_
  refine x_icmp_ge 8 rfl 10 dX5_span_5 (by decide) (fun hc => ?_) (fun hc => ?_)
  · replace h := x_ifT hc h
    refine x_aload_n 11 rfl 0 dX5_span_10 rfl rfl ?_
    refine x_getR E dX5_span_11 F_RX5_34 sh_35 rf_35_7 14 rfl ?_
    refine x_iconst 15 rfl (v := 0) dX5_span_14 (by decide) ?_
    refine x_iald E dX5_span_15 sh_41 0 (by decide) (by decide) 16 rfl ?_
    refine x_istore_n 17 rfl 1 dX5_span_16 rfl (by decide) [some (.ref 35), some (.int _), none, none] rfl ?_
    refine x_aload_n 18 rfl 0 dX5_span_17 rfl rfl ?_
    refine x_getR E dX5_span_18 F_RX5_34 sh_35 rf_35_7 21 rfl ?_
    refine x_iconst 22 rfl (v := 0) dX5_span_21 (by decide) ?_
    refine x_iald E dX5_span_22 sh_41 0 (by decide) (by decide) 23 rfl ?_
    refine x_istore_n 24 rfl 2 dX5_span_23 rfl (by decide) [some (.ref 35), some (.int _), some (.int _), none] rfl ?_
    refine x_iconst 25 rfl (v := 1) dX5_span_24 (by decide) ?_
    refine x_istore_n 26 rfl 3 dX5_span_25 rfl (by decide) [some (.ref 35), some (.int _), some (.int _), some (.int _)] rfl ?_
    obtain ⟨b6, b6h, h⟩ := x_bind h
    try dsimp only at h
    refine x_wk (x_le_s (x_le_s (x_le_s (x_le_s x_le_0)))) (x_loop (fun a o h hK hG => b_Se_span_35_L26 (r := r) (σ1 := σ1) E  a o h hK hG) _ _ _ b6h ?_)
    refine x_iload_n 69 rfl 1 dX5_span_68 rfl rfl ?_
    refine x_iload_n 70 rfl 2 dX5_span_69 rfl rfl ?_
    refine x_isub 71 rfl dX5_span_70 ?_
    cases h
    exact x_iret dX5_span_71 rfl rfl rfl
  · replace h := x_ifF hc h
    refine x_iconst 9 rfl (v := 0) dX5_span_8 (by decide) ?_
    cases h
    exact x_iret dX5_span_9 rfl rfl rfl
theorem KX_RX8_334 : x_KN2 RX8 130 334 134 (x_Xn 2) "nothing such of THE MIDDLE" := ⟨by decide +kernel, (List.mem_append_right _ (List.mem_of_getElem? (i := 881) (by decide +kernel))), (List.mem_append_right _ (List.mem_of_getElem? (i := 22) (by decide +kernel))), (List.mem_append_right _ (List.mem_of_getElem? (i := 1138) (by decide +kernel))), (List.mem_of_getElem? (i := 863) (by decide +kernel)), AX_134, AO_130_134⟩
theorem K_RX8_336 : x_KV RX8 336 M_Se_span 0 := ⟨⟨(List.mem_append_right _ (List.mem_of_getElem? (i := 1139) (by decide +kernel))), (List.mem_append_right _ (List.mem_of_getElem? (i := 1142) (by decide +kernel))), (List.mem_append_right _ (List.mem_of_getElem? (i := 5) (by decide +kernel))), ⟨by decide +kernel, by decide +kernel⟩, by decide +kernel⟩, (List.mem_append_right _ (List.mem_of_getElem? (i := 1140) (by decide +kernel))), (List.mem_append_right _ (List.mem_of_getElem? (i := 1141) (by decide +kernel)))⟩
theorem K_RX8_339 : x_KV RX8 339 M_Se_together 0 := ⟨⟨(List.mem_append_right _ (List.mem_of_getElem? (i := 1145) (by decide +kernel))), (List.mem_append_right _ (List.mem_of_getElem? (i := 1148) (by decide +kernel))), (List.mem_append_right _ (List.mem_of_getElem? (i := 5) (by decide +kernel))), ⟨by decide +kernel, by decide +kernel⟩, by decide +kernel⟩, (List.mem_append_right _ (List.mem_of_getElem? (i := 1146) (by decide +kernel))), (List.mem_append_right _ (List.mem_of_getElem? (i := 1147) (by decide +kernel)))⟩
abbrev M_RH_middle : xM := (yX8_middle, cX8_middle, 2, some .int, [])
theorem dX8_middle_0 : decode cX8_middle 0 = .ok (.iload_n 1, 1) := by decide +kernel
theorem dX8_middle_1 : decode cX8_middle 1 = .ok (.ifCond .lt 8, 3) := by decide +kernel
theorem dX8_middle_4 : decode cX8_middle 4 = .ok (.iload_n 1, 1) := by decide +kernel
theorem dX8_middle_5 : decode cX8_middle 5 = .ok (.iconst 2, 1) := by decide +kernel
theorem dX8_middle_6 : decode cX8_middle 6 = .ok (.if_icmp .le 14, 3) := by decide +kernel
theorem dX8_middle_9 : decode cX8_middle 9 = .ok (.new 130, 3) := by decide +kernel
theorem dX8_middle_12 : decode cX8_middle 12 = .ok (.dup, 1) := by decide +kernel
theorem dX8_middle_13 : decode cX8_middle 13 = .ok (.ldc_w 334, 3) := by decide +kernel
theorem dX8_middle_16 : decode cX8_middle 16 = .ok (.invokespecial 134, 3) := by decide +kernel
theorem dX8_middle_19 : decode cX8_middle 19 = .ok (.athrow, 1) := by decide +kernel
theorem dX8_middle_20 : decode cX8_middle 20 = .ok (.iload_n 1, 1) := by decide +kernel
theorem dX8_middle_21 : decode cX8_middle 21 = .ok (.iconst 2, 1) := by decide +kernel
theorem dX8_middle_22 : decode cX8_middle 22 = .ok (.if_icmp .ne 11, 3) := by decide +kernel
theorem dX8_middle_25 : decode cX8_middle 25 = .ok (.aload_n 0, 1) := by decide +kernel
theorem dX8_middle_26 : decode cX8_middle 26 = .ok (.getfield 37, 3) := by decide +kernel
theorem dX8_middle_29 : decode cX8_middle 29 = .ok (.invokevirtual 336, 3) := by decide +kernel
theorem dX8_middle_32 : decode cX8_middle 32 = .ok (.ireturn, 1) := by decide +kernel
theorem dX8_middle_33 : decode cX8_middle 33 = .ok (.aload_n 0, 1) := by decide +kernel
theorem dX8_middle_34 : decode cX8_middle 34 = .ok (.getfield 37, 3) := by decide +kernel
theorem dX8_middle_37 : decode cX8_middle 37 = .ok (.invokevirtual 339, 3) := by decide +kernel
theorem dX8_middle_40 : decode cX8_middle 40 = .ok (.aload_n 0, 1) := by decide +kernel
theorem dX8_middle_41 : decode cX8_middle 41 = .ok (.getfield 37, 3) := by decide +kernel
theorem dX8_middle_44 : decode cX8_middle 44 = .ok (.getfield 127, 3) := by decide +kernel
theorem dX8_middle_47 : decode cX8_middle 47 = .ok (.iload_n 1, 1) := by decide +kernel
theorem dX8_middle_48 : decode cX8_middle 48 = .ok (.invokestatic 331, 3) := by decide +kernel
theorem dX8_middle_51 : decode cX8_middle 51 = .ok (.ireturn, 1) := by decide +kernel
def f_RH_middle_0 (v1 : Int32) (σ : xS) : Option ((Int32 ⊕ Nat) × xS) :=
  if v1 < 0 then
    some (.inr 2, σ)
  else
    if v1 ≤ (2 : Int32) then
      if v1 = (2 : Int32) then
        (f_Se_span_35  σ).bind fun q3 =>
        some (.inl q3.1, q3.2)
      else
        (f_Se_together_35  σ).bind fun q1 =>
        (f_RH_partOf q1.1 (q1.2.1 35 8) v1 q1.2).bind fun q2 =>
        some (.inl q2.1, q2.2)
    else
      some (.inr 2, σ)
set_option maxHeartbeats 4000000 in
set_option maxRecDepth 100000 in
theorem c_RH_middle_0 {l : Launch} {s0 : State} {a0 : Array Value} {D : va_G} {cA : Nat → ClassId} {sp : Nat → Nat} (E : x_En CL l s0 a0 D cA sp) (v1 : Int32) {σ : xS} {r : Int32 ⊕ Nat} {σ1 : xS} (h : f_RH_middle_0 v1 σ = some (r, σ1)) : oC l s0 D cA sp 2 M_RH_middle [.ref 0, .int v1] σ (x_oi r) σ1 := by
  unfold f_RH_middle_0 at h
  try dsimp only at h
  refine x_enterO [some (.ref 0), some (.int v1)] rfl (Nat.le_of_ble_eq_true rfl) (by decide +kernel) rfl ?_
  refine x_iload_n 1 rfl 1 dX8_middle_0 rfl rfl ?_
  refine x_if_lt 4 rfl 9 dX8_middle_1 (by decide) (fun hc => ?_) (fun hc => ?_)
  · replace h := x_ifT hc h
    cases h
    exact x_throwNW2 E KU_ (k := 2) KX_RX8_334 rfl dX8_middle_9 dX8_middle_12 dX8_middle_13 dX8_middle_16 dX8_middle_19 (Nat.le_of_ble_eq_true rfl)
  · replace h := x_ifF hc h
    refine x_iload_n 5 rfl 1 dX8_middle_4 rfl rfl ?_
    refine x_iconst 6 rfl (v := 2) dX8_middle_5 (by decide) ?_
    refine x_icmp_le 9 rfl 20 dX8_middle_6 (by decide) (fun hc => ?_) (fun hc => ?_)
    · replace h := x_ifT hc h
      refine x_iload_n 21 rfl 1 dX8_middle_20 rfl rfl ?_
      refine x_iconst 22 rfl (v := 2) dX8_middle_21 (by decide) ?_
      refine x_icmp_ne 25 rfl 33 dX8_middle_22 (by decide) (fun hc => ?_) (fun hc => ?_)
      · replace h := x_ifF hc h
        refine x_aload_n 34 rfl 0 dX8_middle_33 rfl rfl ?_
        refine x_getR E dX8_middle_34 F_RX8_37 sh_0 rf_0_5 37 rfl ?_
        obtain ⟨⟨q1r, q1s⟩, q1h, h⟩ := x_bind h
        try dsimp only at h
        refine z_callV E [] [] dX8_middle_37 K_RX8_339 ⟨Nat.le_of_ble_eq_true rfl, Nat.le_of_ble_eq_true rfl⟩ sh_35 (by decide) rfl (c_Se_together_35 E  q1h) rfl rfl (Nat.le_of_ble_eq_true rfl) 40 rfl [.int _] rfl ?_
        refine x_aload_n 41 rfl 0 dX8_middle_40 rfl rfl ?_
        refine x_getR E dX8_middle_41 F_RX8_37 sh_0 rf_0_5 44 rfl ?_
        refine x_getI E dX8_middle_44 F_RX8_127 sh_35 47 rfl ?_
        refine x_iload_n 48 rfl 1 dX8_middle_47 rfl rfl ?_
        obtain ⟨⟨q2r, q2s⟩, q2h, h⟩ := x_bind h
        try dsimp only at h
        refine z_callS E [.int _, .int _, .int _] [] dX8_middle_48 K_RX8_331 ⟨Nat.le_of_ble_eq_true rfl, Nat.le_of_ble_eq_true rfl⟩ (c_RH_partOf E _ _ _ q2h) rfl rfl (Nat.le_of_ble_eq_true rfl) 51 rfl [.int _] rfl ?_
        cases h
        exact x_Oret (x_iret dX8_middle_51 rfl rfl rfl)
      · replace h := x_ifT hc h
        refine x_aload_n 26 rfl 0 dX8_middle_25 rfl rfl ?_
        refine x_getR E dX8_middle_26 F_RX8_37 sh_0 rf_0_5 29 rfl ?_
        obtain ⟨⟨q3r, q3s⟩, q3h, h⟩ := x_bind h
        try dsimp only at h
        refine z_callV E [] [] dX8_middle_29 K_RX8_336 ⟨Nat.le_of_ble_eq_true rfl, Nat.le_of_ble_eq_true rfl⟩ sh_35 (by decide) rfl (c_Se_span_35 E  q3h) rfl rfl (Nat.le_of_ble_eq_true rfl) 32 rfl [.int _] rfl ?_
        cases h
        exact x_Oret (x_iret dX8_middle_32 rfl rfl rfl)
    · replace h := x_ifF hc h
      cases h
      exact x_throwNW2 E KU_ (k := 2) KX_RX8_334 rfl dX8_middle_9 dX8_middle_12 dX8_middle_13 dX8_middle_16 dX8_middle_19 (Nat.le_of_ble_eq_true rfl)
abbrev M_RH_forget : xM := (yX8_forget, cX8_forget, 1, none, [])
theorem dX8_forget_0 : decode cX8_forget 0 = .ok (.aload_n 0, 1) := by decide +kernel
theorem dX8_forget_1 : decode cX8_forget 1 = .ok (.getfield 37, 3) := by decide +kernel
theorem dX8_forget_4 : decode cX8_forget 4 = .ok (.iconst 0, 1) := by decide +kernel
theorem dX8_forget_5 : decode cX8_forget 5 = .ok (.putfield 124, 3) := by decide +kernel
theorem dX8_forget_8 : decode cX8_forget 8 = .ok (.aload_n 0, 1) := by decide +kernel
theorem dX8_forget_9 : decode cX8_forget 9 = .ok (.getfield 37, 3) := by decide +kernel
theorem dX8_forget_12 : decode cX8_forget 12 = .ok (.iconst 0, 1) := by decide +kernel
theorem dX8_forget_13 : decode cX8_forget 13 = .ok (.putfield 127, 3) := by decide +kernel
theorem dX8_forget_16 : decode cX8_forget 16 = .ok (.return_, 1) := by decide +kernel
def f_RH_forget_0  (σ : xS) : Option (Unit × xS) :=
  let σ1 := x_pI σ 35 6 (0 : Int32)
  let σ2 := x_pI σ1 35 8 (0 : Int32)
  some ((), σ2)
set_option maxHeartbeats 4000000 in
set_option maxRecDepth 100000 in
theorem c_RH_forget_0 {l : Launch} {s0 : State} {a0 : Array Value} {D : va_G} {cA : Nat → ClassId} {sp : Nat → Nat} (E : x_En CL l s0 a0 D cA sp)  {σ : xS} {r : Unit} {σ1 : xS} (h : f_RH_forget_0  σ = some (r, σ1)) : zC l s0 D cA sp 0 M_RH_forget [.ref 0] σ none σ1 := by
  unfold f_RH_forget_0 at h
  try dsimp only at h
  refine x_enter [some (.ref 0)] rfl (Nat.le_of_ble_eq_true rfl) (by decide +kernel) rfl ?_
  refine x_aload_n 1 rfl 0 dX8_forget_0 rfl rfl ?_
  refine x_getR E dX8_forget_1 F_RX8_37 sh_0 rf_0_5 4 rfl ?_
  refine x_iconst 5 rfl (v := 0) dX8_forget_4 (by decide) ?_
  refine x_putI E dX8_forget_5 F_RX8_124 sh_35 8 rfl ?_
  refine x_aload_n 9 rfl 0 dX8_forget_8 rfl rfl ?_
  refine x_getR E dX8_forget_9 F_RX8_37 sh_0 rf_0_5 12 rfl ?_
  refine x_iconst 13 rfl (v := 0) dX8_forget_12 (by decide) ?_
  refine x_putI E dX8_forget_13 F_RX8_127 sh_35 16 rfl ?_
  cases h
  exact x_vret dX8_forget_16 rfl rfl rfl
abbrev M_Tr_softFrom : xM := (yX6_softFrom, cX6_softFrom, 4, some .int, [])
theorem dX6_softFrom_0 : decode cX6_softFrom 0 = .ok (.iconst 0, 1) := by decide +kernel
theorem dX6_softFrom_1 : decode cX6_softFrom 1 = .ok (.istore_n 2, 1) := by decide +kernel
theorem dX6_softFrom_2 : decode cX6_softFrom 2 = .ok (.iload_n 1, 1) := by decide +kernel
theorem dX6_softFrom_3 : decode cX6_softFrom 3 = .ok (.istore_n 3, 1) := by decide +kernel
theorem dX6_softFrom_4 : decode cX6_softFrom 4 = .ok (.iload_n 3, 1) := by decide +kernel
theorem dX6_softFrom_5 : decode cX6_softFrom 5 = .ok (.aload_n 0, 1) := by decide +kernel
theorem dX6_softFrom_6 : decode cX6_softFrom 6 = .ok (.getfield 28, 3) := by decide +kernel
theorem dX6_softFrom_9 : decode cX6_softFrom 9 = .ok (.if_icmp .gt 20, 3) := by decide +kernel
theorem dX6_softFrom_12 : decode cX6_softFrom 12 = .ok (.aload_n 0, 1) := by decide +kernel
theorem dX6_softFrom_13 : decode cX6_softFrom 13 = .ok (.iload_n 3, 1) := by decide +kernel
theorem dX6_softFrom_14 : decode cX6_softFrom 14 = .ok (.invokevirtual 119, 3) := by decide +kernel
theorem dX6_softFrom_17 : decode cX6_softFrom 17 = .ok (.ifCond .ne 12, 3) := by decide +kernel
theorem dX6_softFrom_20 : decode cX6_softFrom 20 = .ok (.iinc 2 1, 3) := by decide +kernel
theorem dX6_softFrom_23 : decode cX6_softFrom 23 = .ok (.iinc 3 1, 3) := by decide +kernel
theorem dX6_softFrom_26 : decode cX6_softFrom 26 = .ok (.goto (-22), 3) := by decide +kernel
theorem dX6_softFrom_29 : decode cX6_softFrom 29 = .ok (.iload_n 2, 1) := by decide +kernel
theorem dX6_softFrom_30 : decode cX6_softFrom 30 = .ok (.ireturn, 1) := by decide +kernel
def f_Tr_softFrom_49_L4  (a : Int32 × Int32 × xS) : Option ((Int32 × Int32 × xS) ⊕ (Int32 × Int32 × xS)) :=
  let v2 := a.1; let v3 := a.2.1; let σ := a.2.2;
  if σ.1 49 5 < v3 then
    some (.inl (v2, v3, σ))
  else
    (f_Tr_isSharp_49 v3 σ).bind fun q1 =>
    if q1.1 = 0 then
      let w2 := v2 + (1 : Int32)
      let w3 := v3 + (1 : Int32)
      some (.inr (w2, w3, q1.2))
    else
      some (.inl (v2, v3, q1.2))
def f_Tr_softFrom_49 (v1 : Int32) (σ : xS) : Option (Int32 × xS) :=
  (x_it (f_Tr_softFrom_49_L4 ) 10000 ((0 : Int32), v1, σ)).bind fun b4 =>
  some (b4.1, b4.2.2)
set_option maxHeartbeats 4000000 in
set_option maxRecDepth 100000 in
theorem b_Tr_softFrom_49_L4 {l : Launch} {s0 : State} {a0 : Array Value} {D : va_G} {cA : Nat → ClassId} {sp : Nat → Nat} (E : x_En CL l s0 a0 D cA sp)  {r : Int32} {σ1 : xS} (a : Int32 × Int32 × xS) (o : (Int32 × Int32 × xS) ⊕ (Int32 × Int32 × xS)) (h : f_Tr_softFrom_49_L4  a = some o) (hK : ∀ b, o = .inl b → zW l s0 D cA sp (zQ s0 D cA sp (some (.int r)) σ1) (x_rm 1 0 0) M_Tr_softFrom 0 0 29 [none, none, some (.int b.1), none] [] b.2.2) (hG : ∀ a', o = .inr a' → zW l s0 D cA sp (zQ s0 D cA sp (some (.int r)) σ1) (x_rm 1 0 0) M_Tr_softFrom 0 0 4 [some (.ref 49), none, some (.int a'.1), some (.int a'.2.1)] [] a'.2.2) : zW l s0 D cA sp (zQ s0 D cA sp (some (.int r)) σ1) (x_rm 1 0 0) M_Tr_softFrom 0 0 4 [some (.ref 49), none, some (.int a.1), some (.int a.2.1)] [] a.2.2 := by
  obtain ⟨v2, v3, σ⟩ := a
  unfold f_Tr_softFrom_49_L4 at h
  try dsimp only at h ⊢
  refine x_iload_n 5 rfl 3 dX6_softFrom_4 rfl rfl ?_
  refine x_aload_n 6 rfl 0 dX6_softFrom_5 rfl rfl ?_
  refine x_getI E dX6_softFrom_6 F_RX6_28 sh_49 9 rfl ?_
  refine x_icmp_gt 12 rfl 29 dX6_softFrom_9 (by decide) (fun hc => ?_) (fun hc => ?_)
  · replace h := x_ifT hc h
    cases h
    exact x_wk (x_le_n (x_le_n (x_le_s (x_le_n x_le_0)))) (hK (_, _, _) rfl)
  · replace h := x_ifF hc h
    refine x_aload_n 13 rfl 0 dX6_softFrom_12 rfl rfl ?_
    refine x_iload_n 14 rfl 3 dX6_softFrom_13 rfl rfl ?_
    obtain ⟨⟨q1r, q1s⟩, q1h, h⟩ := x_bind h
    try dsimp only at h
    refine z_callV E [.int _] [] dX6_softFrom_14 K_RX6_119 ⟨Nat.le_of_ble_eq_true rfl, Nat.le_of_ble_eq_true rfl⟩ sh_49 (by decide) rfl (c_Tr_isSharp_49 E _ q1h) rfl rfl (Nat.le_of_ble_eq_true rfl) 17 rfl [.int _] rfl ?_
    refine x_if_ne 20 rfl 29 dX6_softFrom_17 (by decide) (fun hc => ?_) (fun hc => ?_)
    · replace h := x_ifF hc h
      cases h
      exact x_wk (x_le_n (x_le_n (x_le_s (x_le_n x_le_0)))) (hK (_, _, _) rfl)
    · replace h := x_ifT hc h
      refine x_iinc 23 rfl (1) dX6_softFrom_20 rfl (by decide) (by decide) [some (.ref 49), none, some (.int _), some (.int _)] rfl ?_
      refine x_iinc 26 rfl (1) dX6_softFrom_23 rfl (by decide) (by decide) [some (.ref 49), none, some (.int _), some (.int _)] rfl ?_
      refine x_goto 4 dX6_softFrom_26 (by decide) ?_
      cases h
      exact x_wk (x_le_s (x_le_n (x_le_s (x_le_s x_le_0)))) (hG (_, _, _) rfl)
set_option maxHeartbeats 4000000 in
set_option maxRecDepth 100000 in
theorem c_Tr_softFrom_49 {l : Launch} {s0 : State} {a0 : Array Value} {D : va_G} {cA : Nat → ClassId} {sp : Nat → Nat} (E : x_En CL l s0 a0 D cA sp) (v1 : Int32) {σ : xS} {r : Int32} {σ1 : xS} (h : f_Tr_softFrom_49 v1 σ = some (r, σ1)) : zC l s0 D cA sp 1 M_Tr_softFrom [.ref 49, .int v1] σ (some (.int r)) σ1 := by
  unfold f_Tr_softFrom_49 at h
  try dsimp only at h
  refine x_enter [some (.ref 49), some (.int v1), none, none] rfl (Nat.le_of_ble_eq_true rfl) (by decide +kernel) rfl ?_
  refine x_iconst 1 rfl (v := 0) dX6_softFrom_0 (by decide) ?_
  refine x_istore_n 2 rfl 2 dX6_softFrom_1 rfl (by decide) [some (.ref 49), some (.int _), some (.int _), none] rfl ?_
  refine x_iload_n 3 rfl 1 dX6_softFrom_2 rfl rfl ?_
  refine x_istore_n 4 rfl 3 dX6_softFrom_3 rfl (by decide) [some (.ref 49), some (.int _), some (.int _), some (.int _)] rfl ?_
  obtain ⟨b4, b4h, h⟩ := x_bind h
  try dsimp only at h
  refine x_wk (x_le_s (x_le_n (x_le_s (x_le_s x_le_0)))) (x_loop (fun a o h hK hG => b_Tr_softFrom_49_L4 (r := r) (σ1 := σ1) E  a o h hK hG) _ _ _ b4h ?_)
  refine x_iload_n 30 rfl 2 dX6_softFrom_29 rfl rfl ?_
  cases h
  exact x_iret dX6_softFrom_30 rfl rfl rfl
theorem KX_RX8_345 : x_KN2 RX8 130 345 134 (x_Xn 2) "no such run, or nothing such of it" := ⟨by decide +kernel, (List.mem_append_right _ (List.mem_of_getElem? (i := 881) (by decide +kernel))), (List.mem_append_right _ (List.mem_of_getElem? (i := 22) (by decide +kernel))), (List.mem_append_right _ (List.mem_of_getElem? (i := 1156) (by decide +kernel))), (List.mem_of_getElem? (i := 893) (by decide +kernel)), AX_134, AO_130_134⟩
theorem KX_RX8_350 : x_KN2 RX8 130 350 134 (x_Xn 2) "no such run" := ⟨by decide +kernel, (List.mem_append_right _ (List.mem_of_getElem? (i := 881) (by decide +kernel))), (List.mem_append_right _ (List.mem_of_getElem? (i := 22) (by decide +kernel))), (List.mem_append_right _ (List.mem_of_getElem? (i := 1161) (by decide +kernel))), (List.mem_of_getElem? (i := 931) (by decide +kernel)), AX_134, AO_130_134⟩
theorem K_RX8_347 : x_KV RX8 347 M_Tr_softFrom 1 := ⟨⟨(List.mem_append_right _ (List.mem_of_getElem? (i := 1157) (by decide +kernel))), (List.mem_append_right _ (List.mem_of_getElem? (i := 1160) (by decide +kernel))), (List.mem_append_right _ (List.mem_of_getElem? (i := 6) (by decide +kernel))), ⟨by decide +kernel, by decide +kernel⟩, by decide +kernel⟩, (List.mem_append_right _ (List.mem_of_getElem? (i := 1158) (by decide +kernel))), (List.mem_append_right _ (List.mem_of_getElem? (i := 1159) (by decide +kernel)))⟩
abbrev M_RH_runs : xM := (yX8_runs, cX8_runs, 5, some .int, [])
theorem dX8_runs_0 : decode cX8_runs 0 = .ok (.iload_n 1, 1) := by decide +kernel
theorem dX8_runs_1 : decode cX8_runs 1 = .ok (.iconst (-1), 1) := by decide +kernel
theorem dX8_runs_2 : decode cX8_runs 2 = .ok (.if_icmp .lt 12, 3) := by decide +kernel
theorem dX8_runs_5 : decode cX8_runs 5 = .ok (.iload_n 2, 1) := by decide +kernel
theorem dX8_runs_6 : decode cX8_runs 6 = .ok (.ifCond .lt 8, 3) := by decide +kernel
theorem dX8_runs_9 : decode cX8_runs 9 = .ok (.iload_n 2, 1) := by decide +kernel
theorem dX8_runs_10 : decode cX8_runs 10 = .ok (.iconst 1, 1) := by decide +kernel
theorem dX8_runs_11 : decode cX8_runs 11 = .ok (.if_icmp .le 14, 3) := by decide +kernel
theorem dX8_runs_14 : decode cX8_runs 14 = .ok (.new 130, 3) := by decide +kernel
theorem dX8_runs_17 : decode cX8_runs 17 = .ok (.dup, 1) := by decide +kernel
theorem dX8_runs_18 : decode cX8_runs 18 = .ok (.ldc_w 345, 3) := by decide +kernel
theorem dX8_runs_21 : decode cX8_runs 21 = .ok (.invokespecial 134, 3) := by decide +kernel
theorem dX8_runs_24 : decode cX8_runs 24 = .ok (.athrow, 1) := by decide +kernel
theorem dX8_runs_25 : decode cX8_runs 25 = .ok (.aload_n 0, 1) := by decide +kernel
theorem dX8_runs_26 : decode cX8_runs 26 = .ok (.invokevirtual 164, 3) := by decide +kernel
theorem dX8_runs_29 : decode cX8_runs 29 = .ok (.iconst 0, 1) := by decide +kernel
theorem dX8_runs_30 : decode cX8_runs 30 = .ok (.istore_n 3, 1) := by decide +kernel
theorem dX8_runs_31 : decode cX8_runs 31 = .ok (.iconst 0, 1) := by decide +kernel
theorem dX8_runs_32 : decode cX8_runs 32 = .ok (.istore 4, 2) := by decide +kernel
theorem dX8_runs_34 : decode cX8_runs 34 = .ok (.iload 4, 2) := by decide +kernel
theorem dX8_runs_36 : decode cX8_runs 36 = .ok (.aload_n 0, 1) := by decide +kernel
theorem dX8_runs_37 : decode cX8_runs 37 = .ok (.getfield 27, 3) := by decide +kernel
theorem dX8_runs_40 : decode cX8_runs 40 = .ok (.getfield 103, 3) := by decide +kernel
theorem dX8_runs_43 : decode cX8_runs 43 = .ok (.if_icmp .gt 70, 3) := by decide +kernel
theorem dX8_runs_46 : decode cX8_runs 46 = .ok (.aload_n 0, 1) := by decide +kernel
theorem dX8_runs_47 : decode cX8_runs 47 = .ok (.getfield 51, 3) := by decide +kernel
theorem dX8_runs_50 : decode cX8_runs 50 = .ok (.iload 4, 2) := by decide +kernel
theorem dX8_runs_52 : decode cX8_runs 52 = .ok (.invokevirtual 180, 3) := by decide +kernel
theorem dX8_runs_55 : decode cX8_runs 55 = .ok (.ifCond .ne 52, 3) := by decide +kernel
theorem dX8_runs_58 : decode cX8_runs 58 = .ok (.iload 4, 2) := by decide +kernel
theorem dX8_runs_60 : decode cX8_runs 60 = .ok (.ifCond .le 20, 3) := by decide +kernel
theorem dX8_runs_63 : decode cX8_runs 63 = .ok (.aload_n 0, 1) := by decide +kernel
theorem dX8_runs_64 : decode cX8_runs 64 = .ok (.getfield 51, 3) := by decide +kernel
theorem dX8_runs_67 : decode cX8_runs 67 = .ok (.iload 4, 2) := by decide +kernel
theorem dX8_runs_69 : decode cX8_runs 69 = .ok (.iconst 1, 1) := by decide +kernel
theorem dX8_runs_70 : decode cX8_runs 70 = .ok (.isub, 1) := by decide +kernel
theorem dX8_runs_71 : decode cX8_runs 71 = .ok (.invokevirtual 180, 3) := by decide +kernel
theorem dX8_runs_74 : decode cX8_runs 74 = .ok (.ifCond .ne 6, 3) := by decide +kernel
theorem dX8_runs_77 : decode cX8_runs 77 = .ok (.goto 30, 3) := by decide +kernel
theorem dX8_runs_80 : decode cX8_runs 80 = .ok (.iload_n 3, 1) := by decide +kernel
theorem dX8_runs_81 : decode cX8_runs 81 = .ok (.iload_n 1, 1) := by decide +kernel
theorem dX8_runs_82 : decode cX8_runs 82 = .ok (.if_icmp .ne 22, 3) := by decide +kernel
theorem dX8_runs_85 : decode cX8_runs 85 = .ok (.iload_n 2, 1) := by decide +kernel
theorem dX8_runs_86 : decode cX8_runs 86 = .ok (.ifCond .ne 8, 3) := by decide +kernel
theorem dX8_runs_89 : decode cX8_runs 89 = .ok (.iload 4, 2) := by decide +kernel
theorem dX8_runs_91 : decode cX8_runs 91 = .ok (.goto 12, 3) := by decide +kernel
theorem dX8_runs_94 : decode cX8_runs 94 = .ok (.aload_n 0, 1) := by decide +kernel
theorem dX8_runs_95 : decode cX8_runs 95 = .ok (.getfield 51, 3) := by decide +kernel
theorem dX8_runs_98 : decode cX8_runs 98 = .ok (.iload 4, 2) := by decide +kernel
theorem dX8_runs_100 : decode cX8_runs 100 = .ok (.invokevirtual 347, 3) := by decide +kernel
theorem dX8_runs_103 : decode cX8_runs 103 = .ok (.ireturn, 1) := by decide +kernel
theorem dX8_runs_104 : decode cX8_runs 104 = .ok (.iinc 3 1, 3) := by decide +kernel
theorem dX8_runs_107 : decode cX8_runs 107 = .ok (.iinc 4 1, 3) := by decide +kernel
theorem dX8_runs_110 : decode cX8_runs 110 = .ok (.goto (-76), 3) := by decide +kernel
theorem dX8_runs_113 : decode cX8_runs 113 = .ok (.iload_n 1, 1) := by decide +kernel
theorem dX8_runs_114 : decode cX8_runs 114 = .ok (.iconst (-1), 1) := by decide +kernel
theorem dX8_runs_115 : decode cX8_runs 115 = .ok (.if_icmp .eq 14, 3) := by decide +kernel
theorem dX8_runs_118 : decode cX8_runs 118 = .ok (.new 130, 3) := by decide +kernel
theorem dX8_runs_121 : decode cX8_runs 121 = .ok (.dup, 1) := by decide +kernel
theorem dX8_runs_122 : decode cX8_runs 122 = .ok (.ldc_w 350, 3) := by decide +kernel
theorem dX8_runs_125 : decode cX8_runs 125 = .ok (.invokespecial 134, 3) := by decide +kernel
theorem dX8_runs_128 : decode cX8_runs 128 = .ok (.athrow, 1) := by decide +kernel
theorem dX8_runs_129 : decode cX8_runs 129 = .ok (.iload_n 3, 1) := by decide +kernel
theorem dX8_runs_130 : decode cX8_runs 130 = .ok (.ireturn, 1) := by decide +kernel
def f_RH_runs_0_J80 (v1 : Int32) (v2 : Int32) (v3 : Int32) (v4 : Int32) (σ : xS) : Option ((((Int32 ⊕ Nat) × xS) ⊕ (Int32 × Int32 × xS)) ⊕ (Int32 × Int32 × xS)) :=
  if v3 = v1 then
    if v2 = 0 then
      some (.inl (.inl (.inl v4, σ)))
    else
      (f_Tr_softFrom_49 v4 σ).bind fun q3 =>
      some (.inl (.inl (.inl q3.1, q3.2)))
  else
    let w1 := v3 + (1 : Int32)
    let w2 := v4 + (1 : Int32)
    some (.inr (w1, w2, σ))
def f_RH_runs_0_L34 (v1 : Int32) (v2 : Int32) (a : Int32 × Int32 × xS) : Option ((((Int32 ⊕ Nat) × xS) ⊕ (Int32 × Int32 × xS)) ⊕ (Int32 × Int32 × xS)) :=
  let v3 := a.1; let v4 := a.2.1; let σ := a.2.2;
  if σ.1 7 4 < v4 then
    some (.inl (.inr (v3, v4, σ)))
  else
    (f_Tr_isSharp_49 v4 σ).bind fun q4 =>
    if q4.1 = 0 then
      if v4 ≤ 0 then
        f_RH_runs_0_J80 v1 v2 v3 v4 q4.2
      else
        (f_Tr_isSharp_49 (v4 - (1 : Int32)) q4.2).bind fun q6 =>
        if q6.1 = 0 then
          let w7 := v4 + (1 : Int32)
          some (.inr (v3, w7, q6.2))
        else
          f_RH_runs_0_J80 v1 v2 v3 v4 q6.2
    else
      let w5 := v4 + (1 : Int32)
      some (.inr (v3, w5, q4.2))
def f_RH_runs_0 (v1 : Int32) (v2 : Int32) (σ : xS) : Option ((Int32 ⊕ Nat) × xS) :=
  if v1 < (-1 : Int32) then
    some (.inr 2, σ)
  else
    if v2 < 0 then
      some (.inr 2, σ)
    else
      if v2 ≤ (1 : Int32) then
        (f_RH_walkAsSet_0  σ).bind fun q8 =>
        (x_it (f_RH_runs_0_L34 v1 v2) 10000 ((0 : Int32), (0 : Int32), q8.2)).bind fun b9 =>
        match b9 with
        | .inl b9r => some b9r
        | .inr b9e =>
          if v1 = (-1 : Int32) then
            some (.inl b9e.1, b9e.2.2)
          else
            some (.inr 2, b9e.2.2)
      else
        some (.inr 2, σ)
set_option maxHeartbeats 4000000 in
set_option maxRecDepth 100000 in
theorem j_RH_runs_0_J80 {l : Launch} {s0 : State} {a0 : Array Value} {D : va_G} {cA : Nat → ClassId} {sp : Nat → Nat} (E : x_En CL l s0 a0 D cA sp) (v1 : Int32) (v2 : Int32) (v3 : Int32) (v4 : Int32)  (σ : xS) {r : Int32 ⊕ Nat} {σ1 : xS} (o : (((Int32 ⊕ Nat) × xS) ⊕ (Int32 × Int32 × xS)) ⊕ (Int32 × Int32 × xS)) (h : f_RH_runs_0_J80 v1 v2 v3 v4 σ = some o) (hK : ∀ b, o = .inl b → (∀ q, b = .inl q → q = (r, σ1)) ∧ ∀ e, b = .inr e → zW l s0 D cA sp (oQ s0 D cA sp (x_oi r) σ1) (x_rm 7 1 6) M_RH_runs 1 6 113 [none, some (.int v1), none, some (.int e.1), none] [] e.2.2) (hG : ∀ a', o = .inr a' → zW l s0 D cA sp (oQ s0 D cA sp (x_oi r) σ1) (x_rm 7 1 6) M_RH_runs 1 6 34 [some (.ref 0), some (.int v1), some (.int v2), some (.int a'.1), some (.int a'.2.1)] [] a'.2.2) : zW l s0 D cA sp (oQ s0 D cA sp (x_oi r) σ1) (x_rm 7 1 6) M_RH_runs 1 6 80 [some (.ref 0), some (.int v1), some (.int v2), some (.int v3), some (.int v4)] [] σ := by
  unfold f_RH_runs_0_J80 at h
  try dsimp only at h
  refine x_iload_n 81 rfl 3 dX8_runs_80 rfl rfl ?_
  refine x_iload_n 82 rfl 1 dX8_runs_81 rfl rfl ?_
  refine x_icmp_ne 85 rfl 104 dX8_runs_82 (by decide) (fun hc => ?_) (fun hc => ?_)
  · replace h := x_ifF hc h
    refine x_iinc 107 rfl (1) dX8_runs_104 rfl (by decide) (by decide) [some (.ref 0), some (.int _), some (.int _), some (.int _), some (.int _)] rfl ?_
    refine x_iinc 110 rfl (1) dX8_runs_107 rfl (by decide) (by decide) [some (.ref 0), some (.int _), some (.int _), some (.int _), some (.int _)] rfl ?_
    refine x_goto 34 dX8_runs_110 (by decide) ?_
    cases h
    exact x_wk (x_le_s (x_le_s (x_le_s (x_le_s (x_le_s x_le_0))))) (hG (_, _, _) rfl)
  · replace h := x_ifT hc h
    refine x_iload_n 86 rfl 2 dX8_runs_85 rfl rfl ?_
    refine x_if_ne 89 rfl 94 dX8_runs_86 (by decide) (fun hc => ?_) (fun hc => ?_)
    · replace h := x_ifF hc h
      refine x_aload_n 95 rfl 0 dX8_runs_94 rfl rfl ?_
      refine x_getR E dX8_runs_95 F_RX8_51 sh_0 rf_0_8 98 rfl ?_
      refine x_iload 100 rfl dX8_runs_98 rfl ?_
      obtain ⟨⟨q3r, q3s⟩, q3h, h⟩ := x_bind h
      try dsimp only at h
      refine z_callV E [.int _] [] dX8_runs_100 K_RX8_347 ⟨Nat.le_of_ble_eq_true rfl, Nat.le_of_ble_eq_true rfl⟩ sh_49 (by decide) rfl (c_Tr_softFrom_49 E _ q3h) rfl rfl (Nat.le_of_ble_eq_true rfl) 103 rfl [.int _] rfl ?_
      cases h
      cases (hK (.inl (_, _)) rfl).1 (_, _) rfl
      exact x_Oret (x_iret dX8_runs_103 rfl rfl rfl)
    · replace h := x_ifT hc h
      refine x_iload 91 rfl dX8_runs_89 rfl ?_
      refine x_goto 103 dX8_runs_91 (by decide) ?_
      cases h
      cases (hK (.inl (_, _)) rfl).1 (_, _) rfl
      exact x_Oret (x_iret dX8_runs_103 rfl rfl rfl)
set_option maxHeartbeats 4000000 in
set_option maxRecDepth 100000 in
theorem b_RH_runs_0_L34 {l : Launch} {s0 : State} {a0 : Array Value} {D : va_G} {cA : Nat → ClassId} {sp : Nat → Nat} (E : x_En CL l s0 a0 D cA sp) (v1 : Int32) (v2 : Int32) {r : Int32 ⊕ Nat} {σ1 : xS} (a : Int32 × Int32 × xS) (o : (((Int32 ⊕ Nat) × xS) ⊕ (Int32 × Int32 × xS)) ⊕ (Int32 × Int32 × xS)) (h : f_RH_runs_0_L34 v1 v2 a = some o) (hK : ∀ b, o = .inl b → (∀ q, b = .inl q → q = (r, σ1)) ∧ ∀ e, b = .inr e → zW l s0 D cA sp (oQ s0 D cA sp (x_oi r) σ1) (x_rm 7 1 6) M_RH_runs 1 6 113 [none, some (.int v1), none, some (.int e.1), none] [] e.2.2) (hG : ∀ a', o = .inr a' → zW l s0 D cA sp (oQ s0 D cA sp (x_oi r) σ1) (x_rm 7 1 6) M_RH_runs 1 6 34 [some (.ref 0), some (.int v1), some (.int v2), some (.int a'.1), some (.int a'.2.1)] [] a'.2.2) : zW l s0 D cA sp (oQ s0 D cA sp (x_oi r) σ1) (x_rm 7 1 6) M_RH_runs 1 6 34 [some (.ref 0), some (.int v1), some (.int v2), some (.int a.1), some (.int a.2.1)] [] a.2.2 := by
  obtain ⟨v3, v4, σ⟩ := a
  unfold f_RH_runs_0_L34 at h
  try dsimp only at h ⊢
  refine x_iload 36 rfl dX8_runs_34 rfl ?_
  refine x_aload_n 37 rfl 0 dX8_runs_36 rfl rfl ?_
  refine x_getR E dX8_runs_37 F_RX8_27 sh_0 rf_0_3 40 rfl ?_
  refine x_getI E dX8_runs_40 F_RX8_103 sh_7 43 rfl ?_
  refine x_icmp_gt 46 rfl 113 dX8_runs_43 (by decide) (fun hc => ?_) (fun hc => ?_)
  · replace h := x_ifT hc h
    cases h
    exact x_wk (x_le_n (x_le_s (x_le_n (x_le_s (x_le_n x_le_0))))) ((hK (.inr (_, _, _)) rfl).2 (_, _, _) rfl)
  · replace h := x_ifF hc h
    refine x_aload_n 47 rfl 0 dX8_runs_46 rfl rfl ?_
    refine x_getR E dX8_runs_47 F_RX8_51 sh_0 rf_0_8 50 rfl ?_
    refine x_iload 52 rfl dX8_runs_50 rfl ?_
    obtain ⟨⟨q4r, q4s⟩, q4h, h⟩ := x_bind h
    try dsimp only at h
    refine z_callV E [.int _] [] dX8_runs_52 K_RX8_180 ⟨Nat.le_of_ble_eq_true rfl, Nat.le_of_ble_eq_true rfl⟩ sh_49 (by decide) rfl (c_Tr_isSharp_49 E _ q4h) rfl rfl (Nat.le_of_ble_eq_true rfl) 55 rfl [.int _] rfl ?_
    refine x_if_ne 58 rfl 107 dX8_runs_55 (by decide) (fun hc => ?_) (fun hc => ?_)
    · replace h := x_ifF hc h
      refine x_iinc 110 rfl (1) dX8_runs_107 rfl (by decide) (by decide) [some (.ref 0), some (.int _), some (.int _), some (.int _), some (.int _)] rfl ?_
      refine x_goto 34 dX8_runs_110 (by decide) ?_
      cases h
      exact x_wk (x_le_s (x_le_s (x_le_s (x_le_s (x_le_s x_le_0))))) (hG (_, _, _) rfl)
    · replace h := x_ifT hc h
      refine x_iload 60 rfl dX8_runs_58 rfl ?_
      refine x_if_le 63 rfl 80 dX8_runs_60 (by decide) (fun hc => ?_) (fun hc => ?_)
      · replace h := x_ifT hc h
        exact x_wk (x_le_s (x_le_s (x_le_s (x_le_s (x_le_s x_le_0))))) (j_RH_runs_0_J80 (r := r) (σ1 := σ1) E _ _ _ _  _ _ h hK hG)
      · replace h := x_ifF hc h
        refine x_aload_n 64 rfl 0 dX8_runs_63 rfl rfl ?_
        refine x_getR E dX8_runs_64 F_RX8_51 sh_0 rf_0_8 67 rfl ?_
        refine x_iload 69 rfl dX8_runs_67 rfl ?_
        refine x_iconst 70 rfl (v := 1) dX8_runs_69 (by decide) ?_
        refine x_isub 71 rfl dX8_runs_70 ?_
        obtain ⟨⟨q6r, q6s⟩, q6h, h⟩ := x_bind h
        try dsimp only at h
        refine z_callV E [.int _] [] dX8_runs_71 K_RX8_180 ⟨Nat.le_of_ble_eq_true rfl, Nat.le_of_ble_eq_true rfl⟩ sh_49 (by decide) rfl (c_Tr_isSharp_49 E _ q6h) rfl rfl (Nat.le_of_ble_eq_true rfl) 74 rfl [.int _] rfl ?_
        refine x_if_ne 77 rfl 80 dX8_runs_74 (by decide) (fun hc => ?_) (fun hc => ?_)
        · replace h := x_ifF hc h
          exact x_wk (x_le_s (x_le_s (x_le_s (x_le_s (x_le_s x_le_0))))) (j_RH_runs_0_J80 (r := r) (σ1 := σ1) E _ _ _ _  _ _ h hK hG)
        · replace h := x_ifT hc h
          refine x_goto 107 dX8_runs_77 (by decide) ?_
          refine x_iinc 110 rfl (1) dX8_runs_107 rfl (by decide) (by decide) [some (.ref 0), some (.int _), some (.int _), some (.int _), some (.int _)] rfl ?_
          refine x_goto 34 dX8_runs_110 (by decide) ?_
          cases h
          exact x_wk (x_le_s (x_le_s (x_le_s (x_le_s (x_le_s x_le_0))))) (hG (_, _, _) rfl)
set_option maxHeartbeats 4000000 in
set_option maxRecDepth 100000 in
theorem c_RH_runs_0 {l : Launch} {s0 : State} {a0 : Array Value} {D : va_G} {cA : Nat → ClassId} {sp : Nat → Nat} (E : x_En CL l s0 a0 D cA sp) (v1 : Int32) (v2 : Int32) {σ : xS} {r : Int32 ⊕ Nat} {σ1 : xS} (h : f_RH_runs_0 v1 v2 σ = some (r, σ1)) : oC l s0 D cA sp 7 M_RH_runs [.ref 0, .int v1, .int v2] σ (x_oi r) σ1 := by
  unfold f_RH_runs_0 at h
  try dsimp only at h
  refine x_enterO [some (.ref 0), some (.int v1), some (.int v2), none, none] rfl (Nat.le_of_ble_eq_true rfl) (by decide +kernel) rfl ?_
  refine x_iload_n 1 rfl 1 dX8_runs_0 rfl rfl ?_
  refine x_iconst 2 rfl (v := -1) dX8_runs_1 (by decide) ?_
  refine x_icmp_lt 5 rfl 14 dX8_runs_2 (by decide) (fun hc => ?_) (fun hc => ?_)
  · replace h := x_ifT hc h
    cases h
    exact x_throwNW2 E KU_ (k := 2) KX_RX8_345 rfl dX8_runs_14 dX8_runs_17 dX8_runs_18 dX8_runs_21 dX8_runs_24 (Nat.le_of_ble_eq_true rfl)
  · replace h := x_ifF hc h
    refine x_iload_n 6 rfl 2 dX8_runs_5 rfl rfl ?_
    refine x_if_lt 9 rfl 14 dX8_runs_6 (by decide) (fun hc => ?_) (fun hc => ?_)
    · replace h := x_ifT hc h
      cases h
      exact x_throwNW2 E KU_ (k := 2) KX_RX8_345 rfl dX8_runs_14 dX8_runs_17 dX8_runs_18 dX8_runs_21 dX8_runs_24 (Nat.le_of_ble_eq_true rfl)
    · replace h := x_ifF hc h
      refine x_iload_n 10 rfl 2 dX8_runs_9 rfl rfl ?_
      refine x_iconst 11 rfl (v := 1) dX8_runs_10 (by decide) ?_
      refine x_icmp_le 14 rfl 25 dX8_runs_11 (by decide) (fun hc => ?_) (fun hc => ?_)
      · replace h := x_ifT hc h
        refine x_aload_n 26 rfl 0 dX8_runs_25 rfl rfl ?_
        obtain ⟨⟨q8r, q8s⟩, q8h, h⟩ := x_bind h
        try dsimp only at h
        refine z_callV E [] [] dX8_runs_26 K_RX8_164 ⟨Nat.le_of_ble_eq_true rfl, Nat.le_of_ble_eq_true rfl⟩ sh_0 (by decide) rfl (c_RH_walkAsSet_0 E  q8h) rfl rfl (Nat.le_of_ble_eq_true rfl) 29 rfl [] rfl ?_
        refine x_iconst 30 rfl (v := 0) dX8_runs_29 (by decide) ?_
        refine x_istore_n 31 rfl 3 dX8_runs_30 rfl (by decide) [some (.ref 0), some (.int _), some (.int _), some (.int _), none] rfl ?_
        refine x_iconst 32 rfl (v := 0) dX8_runs_31 (by decide) ?_
        refine x_istore 34 rfl dX8_runs_32 (by decide) [some (.ref 0), some (.int _), some (.int _), some (.int _), some (.int _)] rfl ?_
        obtain ⟨b9, b9h, h⟩ := x_bind h
        try dsimp only at h
        refine x_wk (x_le_s (x_le_s (x_le_s (x_le_s (x_le_s x_le_0))))) (x_loop (fun a o h hK hG => b_RH_runs_0_L34 (r := r) (σ1 := σ1) E _ _ a o h hK hG) _ _ _ b9h ?_)
        cases b9 with
        | inl b9r =>
          try dsimp only at h
          cases h
          exact ⟨fun q e => (by cases e; rfl), fun e he => (by cases he)⟩
        | inr b9e =>
          try dsimp only at h
          refine ⟨fun q e => (by cases e), fun e he => ?_⟩
          cases he
          refine x_iload_n 114 rfl 1 dX8_runs_113 rfl rfl ?_
          refine x_iconst 115 rfl (v := -1) dX8_runs_114 (by decide) ?_
          refine x_icmp_eq 118 rfl 129 dX8_runs_115 (by decide) (fun hc => ?_) (fun hc => ?_)
          · replace h := x_ifT hc h
            refine x_iload_n 130 rfl 3 dX8_runs_129 rfl rfl ?_
            cases h
            exact x_Oret (x_iret dX8_runs_130 rfl rfl rfl)
          · replace h := x_ifF hc h
            cases h
            exact x_throwNW2 E KU_ (k := 2) KX_RX8_350 rfl dX8_runs_118 dX8_runs_121 dX8_runs_122 dX8_runs_125 dX8_runs_128 (Nat.le_of_ble_eq_true rfl)
      · replace h := x_ifF hc h
        cases h
        exact x_throwNW2 E KU_ (k := 2) KX_RX8_345 rfl dX8_runs_14 dX8_runs_17 dX8_runs_18 dX8_runs_21 dX8_runs_24 (Nat.le_of_ble_eq_true rfl)
