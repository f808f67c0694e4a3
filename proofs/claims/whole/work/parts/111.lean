/-! The reference's methods: functions and contracts. Written by wip/gen/emit.py. -/
abbrev M_Mo_quickest : xM := (yX9_quickest, cX9_quickest, 6, some .int, [])
theorem dX9_quickest_0 : decode cX9_quickest 0 = .ok (.aload_n 0, 1) := by decide +kernel
theorem dX9_quickest_1 : decode cX9_quickest 1 = .ok (.iconst 0, 1) := by decide +kernel
theorem dX9_quickest_2 : decode cX9_quickest 2 = .ok (.putfield 132, 3) := by decide +kernel
theorem dX9_quickest_5 : decode cX9_quickest 5 = .ok (.aload_n 0, 1) := by decide +kernel
theorem dX9_quickest_6 : decode cX9_quickest 6 = .ok (.iload_n 1, 1) := by decide +kernel
theorem dX9_quickest_7 : decode cX9_quickest 7 = .ok (.iconst 1, 1) := by decide +kernel
theorem dX9_quickest_8 : decode cX9_quickest 8 = .ok (.invokevirtual 421, 3) := by decide +kernel
theorem dX9_quickest_11 : decode cX9_quickest 11 = .ok (.ifCond .ne 5, 3) := by decide +kernel
theorem dX9_quickest_14 : decode cX9_quickest 14 = .ok (.iconst 0, 1) := by decide +kernel
theorem dX9_quickest_15 : decode cX9_quickest 15 = .ok (.ireturn, 1) := by decide +kernel
theorem dX9_quickest_16 : decode cX9_quickest 16 = .ok (.iconst 0, 1) := by decide +kernel
theorem dX9_quickest_17 : decode cX9_quickest 17 = .ok (.istore_n 2, 1) := by decide +kernel
theorem dX9_quickest_18 : decode cX9_quickest 18 = .ok (.iconst 0, 1) := by decide +kernel
theorem dX9_quickest_19 : decode cX9_quickest 19 = .ok (.istore_n 3, 1) := by decide +kernel
theorem dX9_quickest_20 : decode cX9_quickest 20 = .ok (.iconst 1, 1) := by decide +kernel
theorem dX9_quickest_21 : decode cX9_quickest 21 = .ok (.istore 4, 2) := by decide +kernel
theorem dX9_quickest_23 : decode cX9_quickest 23 = .ok (.iload 4, 2) := by decide +kernel
theorem dX9_quickest_25 : decode cX9_quickest 25 = .ok (.aload_n 0, 1) := by decide +kernel
theorem dX9_quickest_26 : decode cX9_quickest 26 = .ok (.invokevirtual 390, 3) := by decide +kernel
theorem dX9_quickest_29 : decode cX9_quickest 29 = .ok (.if_icmp .gt 69, 3) := by decide +kernel
theorem dX9_quickest_32 : decode cX9_quickest 32 = .ok (.aload_n 0, 1) := by decide +kernel
theorem dX9_quickest_33 : decode cX9_quickest 33 = .ok (.aload_n 0, 1) := by decide +kernel
theorem dX9_quickest_34 : decode cX9_quickest 34 = .ok (.iload 4, 2) := by decide +kernel
theorem dX9_quickest_36 : decode cX9_quickest 36 = .ok (.aload_n 0, 1) := by decide +kernel
theorem dX9_quickest_37 : decode cX9_quickest 37 = .ok (.iload 4, 2) := by decide +kernel
theorem dX9_quickest_39 : decode cX9_quickest 39 = .ok (.invokevirtual 399, 3) := by decide +kernel
theorem dX9_quickest_42 : decode cX9_quickest 42 = .ok (.invokevirtual 381, 3) := by decide +kernel
theorem dX9_quickest_45 : decode cX9_quickest 45 = .ok (.invokevirtual 396, 3) := by decide +kernel
theorem dX9_quickest_48 : decode cX9_quickest 48 = .ok (.aload_n 0, 1) := by decide +kernel
theorem dX9_quickest_49 : decode cX9_quickest 49 = .ok (.aload_n 0, 1) := by decide +kernel
theorem dX9_quickest_50 : decode cX9_quickest 50 = .ok (.iload 4, 2) := by decide +kernel
theorem dX9_quickest_52 : decode cX9_quickest 52 = .ok (.iconst 1, 1) := by decide +kernel
theorem dX9_quickest_53 : decode cX9_quickest 53 = .ok (.isub, 1) := by decide +kernel
theorem dX9_quickest_54 : decode cX9_quickest 54 = .ok (.aload_n 0, 1) := by decide +kernel
theorem dX9_quickest_55 : decode cX9_quickest 55 = .ok (.iload 4, 2) := by decide +kernel
theorem dX9_quickest_57 : decode cX9_quickest 57 = .ok (.iconst 1, 1) := by decide +kernel
theorem dX9_quickest_58 : decode cX9_quickest 58 = .ok (.isub, 1) := by decide +kernel
theorem dX9_quickest_59 : decode cX9_quickest 59 = .ok (.invokevirtual 399, 3) := by decide +kernel
theorem dX9_quickest_62 : decode cX9_quickest 62 = .ok (.invokevirtual 381, 3) := by decide +kernel
theorem dX9_quickest_65 : decode cX9_quickest 65 = .ok (.invokevirtual 396, 3) := by decide +kernel
theorem dX9_quickest_68 : decode cX9_quickest 68 = .ok (.invokestatic 372, 3) := by decide +kernel
theorem dX9_quickest_71 : decode cX9_quickest 71 = .ok (.istore 5, 2) := by decide +kernel
theorem dX9_quickest_73 : decode cX9_quickest 73 = .ok (.iload_n 3, 1) := by decide +kernel
theorem dX9_quickest_74 : decode cX9_quickest 74 = .ok (.ifCond .le 12, 3) := by decide +kernel
theorem dX9_quickest_77 : decode cX9_quickest 77 = .ok (.iload 5, 2) := by decide +kernel
theorem dX9_quickest_79 : decode cX9_quickest 79 = .ok (.iload_n 2, 1) := by decide +kernel
theorem dX9_quickest_80 : decode cX9_quickest 80 = .ok (.if_icmp .gt 6, 3) := by decide +kernel
theorem dX9_quickest_83 : decode cX9_quickest 83 = .ok (.goto 9, 3) := by decide +kernel
theorem dX9_quickest_86 : decode cX9_quickest 86 = .ok (.iload 5, 2) := by decide +kernel
theorem dX9_quickest_88 : decode cX9_quickest 88 = .ok (.istore_n 2, 1) := by decide +kernel
theorem dX9_quickest_89 : decode cX9_quickest 89 = .ok (.iload 4, 2) := by decide +kernel
theorem dX9_quickest_91 : decode cX9_quickest 91 = .ok (.istore_n 3, 1) := by decide +kernel
theorem dX9_quickest_92 : decode cX9_quickest 92 = .ok (.iinc 4 1, 3) := by decide +kernel
theorem dX9_quickest_95 : decode cX9_quickest 95 = .ok (.goto (-72), 3) := by decide +kernel
theorem dX9_quickest_98 : decode cX9_quickest 98 = .ok (.iload_n 1, 1) := by decide +kernel
theorem dX9_quickest_99 : decode cX9_quickest 99 = .ok (.ifCond .ne 7, 3) := by decide +kernel
theorem dX9_quickest_102 : decode cX9_quickest 102 = .ok (.iload_n 2, 1) := by decide +kernel
theorem dX9_quickest_103 : decode cX9_quickest 103 = .ok (.goto 4, 3) := by decide +kernel
theorem dX9_quickest_106 : decode cX9_quickest 106 = .ok (.iload_n 3, 1) := by decide +kernel
theorem dX9_quickest_107 : decode cX9_quickest 107 = .ok (.ireturn, 1) := by decide +kernel
def f_Mo_quickest_60_L23 (v1 : Int32) (a : Int32 × Int32 × Int32 × xS) : Option ((Int32 × Int32 × Int32 × xS) ⊕ (Int32 × Int32 × Int32 × xS)) :=
  let v2 := a.1; let v3 := a.2.1; let v4 := a.2.2.1; let σ := a.2.2.2;
  (f_Mo_last_60  σ).bind fun q1 =>
  if q1.1 < v4 then
    some (.inl (v2, v3, v4, q1.2))
  else
    (f_Mo_whoseIn_60 v4 q1.2).bind fun q2 =>
    (f_Mo_inchesOf_60 v4 q2.1 q2.2).bind fun q3 =>
    (f_Mo_turnOf_60 q3.1 q3.2).bind fun q4 =>
    (f_Mo_whoseIn_60 (v4 - (1 : Int32)) q4.2).bind fun q5 =>
    (f_Mo_inchesOf_60 (v4 - (1 : Int32)) q5.1 q5.2).bind fun q6 =>
    (f_Mo_turnOf_60 q6.1 q6.2).bind fun q7 =>
    (f_Mo_off q4.1 q7.1 q7.2).bind fun q8 =>
    let w9 := q8.1
    if v3 ≤ 0 then
      let w10 := v4 + (1 : Int32)
      some (.inr (w9, v4, w10, q8.2))
    else
      if v2 < w9 then
        let w11 := v4 + (1 : Int32)
        some (.inr (w9, v4, w11, q8.2))
      else
        let w12 := v4 + (1 : Int32)
        some (.inr (v2, v3, w12, q8.2))
def f_Mo_quickest_60 (v1 : Int32) (σ : xS) : Option (Int32 × xS) :=
  let σ13 := x_pI σ 60 0 (0 : Int32)
  (f_Mo_isWhat_60 v1 (1 : Int32) σ13).bind fun q14 =>
  if q14.1 = 0 then
    some ((0 : Int32), q14.2)
  else
    (x_it (f_Mo_quickest_60_L23 v1) 10000 ((0 : Int32), (0 : Int32), (1 : Int32), q14.2)).bind fun b15 =>
    if v1 = 0 then
      some (b15.1, b15.2.2.2)
    else
      some (b15.2.1, b15.2.2.2)
set_option maxHeartbeats 4000000 in
set_option maxRecDepth 100000 in
theorem b_Mo_quickest_60_L23 {l : Launch} {s0 : State} {a0 : Array Value} {D : va_G} {cA : Nat → ClassId} {sp : Nat → Nat} (E : x_En CL l s0 a0 D cA sp) (v1 : Int32) {r : Int32} {σ1 : xS} (a : Int32 × Int32 × Int32 × xS) (o : (Int32 × Int32 × Int32 × xS) ⊕ (Int32 × Int32 × Int32 × xS)) (h : f_Mo_quickest_60_L23 v1 a = some o) (hK : ∀ b, o = .inl b → zW l s0 D cA sp (zQ s0 D cA sp (some (.int r)) σ1) (x_rm 3 0 0) M_Mo_quickest 0 0 98 [none, some (.int v1), some (.int b.1), some (.int b.2.1), none, none] [] b.2.2.2) (hG : ∀ a', o = .inr a' → zW l s0 D cA sp (zQ s0 D cA sp (some (.int r)) σ1) (x_rm 3 0 0) M_Mo_quickest 0 0 23 [some (.ref 60), some (.int v1), some (.int a'.1), some (.int a'.2.1), some (.int a'.2.2.1), none] [] a'.2.2.2) : zW l s0 D cA sp (zQ s0 D cA sp (some (.int r)) σ1) (x_rm 3 0 0) M_Mo_quickest 0 0 23 [some (.ref 60), some (.int v1), some (.int a.1), some (.int a.2.1), some (.int a.2.2.1), none] [] a.2.2.2 := by
  obtain ⟨v2, v3, v4, σ⟩ := a
  unfold f_Mo_quickest_60_L23 at h
  try dsimp only at h ⊢
  refine x_iload 25 rfl dX9_quickest_23 rfl ?_
  refine x_aload_n 26 rfl 0 dX9_quickest_25 rfl rfl ?_
  obtain ⟨⟨q1r, q1s⟩, q1h, h⟩ := x_bind h
  try dsimp only at h
  refine z_callV E [] [.int _] dX9_quickest_26 K_RX9_390 ⟨Nat.le_of_ble_eq_true rfl, Nat.le_of_ble_eq_true rfl⟩ sh_60 (by decide) rfl (c_Mo_last_60 E  q1h) rfl rfl (Nat.le_of_ble_eq_true rfl) 29 rfl [.int _, .int _] rfl ?_
  refine x_icmp_gt 32 rfl 98 dX9_quickest_29 (by decide) (fun hc => ?_) (fun hc => ?_)
  · replace h := x_ifT hc h
    cases h
    exact x_wk (x_le_n (x_le_s (x_le_s (x_le_s (x_le_n (x_le_n x_le_0)))))) (hK (_, _, _, _) rfl)
  · replace h := x_ifF hc h
    refine x_aload_n 33 rfl 0 dX9_quickest_32 rfl rfl ?_
    refine x_aload_n 34 rfl 0 dX9_quickest_33 rfl rfl ?_
    refine x_iload 36 rfl dX9_quickest_34 rfl ?_
    refine x_aload_n 37 rfl 0 dX9_quickest_36 rfl rfl ?_
    refine x_iload 39 rfl dX9_quickest_37 rfl ?_
    obtain ⟨⟨q2r, q2s⟩, q2h, h⟩ := x_bind h
    try dsimp only at h
    refine z_callV E [.int _] [.int _, .ref 60, .ref 60] dX9_quickest_39 K_RX9_399 ⟨Nat.le_of_ble_eq_true rfl, Nat.le_of_ble_eq_true rfl⟩ sh_60 (by decide) rfl (c_Mo_whoseIn_60 E _ q2h) rfl rfl (Nat.le_of_ble_eq_true rfl) 42 rfl [.int _, .int _, .ref 60, .ref 60] rfl ?_
    obtain ⟨⟨q3r, q3s⟩, q3h, h⟩ := x_bind h
    try dsimp only at h
    refine z_callV E [.int _, .int _] [.ref 60] dX9_quickest_42 K_RX9_381 ⟨Nat.le_of_ble_eq_true rfl, Nat.le_of_ble_eq_true rfl⟩ sh_60 (by decide) rfl (c_Mo_inchesOf_60 E _ _ q3h) rfl rfl (Nat.le_of_ble_eq_true rfl) 45 rfl [.int _, .ref 60] rfl ?_
    obtain ⟨⟨q4r, q4s⟩, q4h, h⟩ := x_bind h
    try dsimp only at h
    refine z_callV E [.int _] [] dX9_quickest_45 K_RX9_396 ⟨Nat.le_of_ble_eq_true rfl, Nat.le_of_ble_eq_true rfl⟩ sh_60 (by decide) rfl (c_Mo_turnOf_60 E _ q4h) rfl rfl (Nat.le_of_ble_eq_true rfl) 48 rfl [.int _] rfl ?_
    refine x_aload_n 49 rfl 0 dX9_quickest_48 rfl rfl ?_
    refine x_aload_n 50 rfl 0 dX9_quickest_49 rfl rfl ?_
    refine x_iload 52 rfl dX9_quickest_50 rfl ?_
    refine x_iconst 53 rfl (v := 1) dX9_quickest_52 (by decide) ?_
    refine x_isub 54 rfl dX9_quickest_53 ?_
    refine x_aload_n 55 rfl 0 dX9_quickest_54 rfl rfl ?_
    refine x_iload 57 rfl dX9_quickest_55 rfl ?_
    refine x_iconst 58 rfl (v := 1) dX9_quickest_57 (by decide) ?_
    refine x_isub 59 rfl dX9_quickest_58 ?_
    obtain ⟨⟨q5r, q5s⟩, q5h, h⟩ := x_bind h
    try dsimp only at h
    refine z_callV E [.int _] [.int _, .ref 60, .ref 60, .int _] dX9_quickest_59 K_RX9_399 ⟨Nat.le_of_ble_eq_true rfl, Nat.le_of_ble_eq_true rfl⟩ sh_60 (by decide) rfl (c_Mo_whoseIn_60 E _ q5h) rfl rfl (Nat.le_of_ble_eq_true rfl) 62 rfl [.int _, .int _, .ref 60, .ref 60, .int _] rfl ?_
    obtain ⟨⟨q6r, q6s⟩, q6h, h⟩ := x_bind h
    try dsimp only at h
    refine z_callV E [.int _, .int _] [.ref 60, .int _] dX9_quickest_62 K_RX9_381 ⟨Nat.le_of_ble_eq_true rfl, Nat.le_of_ble_eq_true rfl⟩ sh_60 (by decide) rfl (c_Mo_inchesOf_60 E _ _ q6h) rfl rfl (Nat.le_of_ble_eq_true rfl) 65 rfl [.int _, .ref 60, .int _] rfl ?_
    obtain ⟨⟨q7r, q7s⟩, q7h, h⟩ := x_bind h
    try dsimp only at h
    refine z_callV E [.int _] [.int _] dX9_quickest_65 K_RX9_396 ⟨Nat.le_of_ble_eq_true rfl, Nat.le_of_ble_eq_true rfl⟩ sh_60 (by decide) rfl (c_Mo_turnOf_60 E _ q7h) rfl rfl (Nat.le_of_ble_eq_true rfl) 68 rfl [.int _, .int _] rfl ?_
    obtain ⟨⟨q8r, q8s⟩, q8h, h⟩ := x_bind h
    try dsimp only at h
    refine z_callS E [.int _, .int _] [] dX9_quickest_68 K_RX9_372 ⟨Nat.le_of_ble_eq_true rfl, Nat.le_of_ble_eq_true rfl⟩ (c_Mo_off E _ _ q8h) rfl rfl (Nat.le_of_ble_eq_true rfl) 71 rfl [.int _] rfl ?_
    refine x_istore 73 rfl dX9_quickest_71 (by decide) [some (.ref 60), some (.int _), some (.int _), some (.int _), some (.int _), some (.int _)] rfl ?_
    refine x_iload_n 74 rfl 3 dX9_quickest_73 rfl rfl ?_
    refine x_if_le 77 rfl 86 dX9_quickest_74 (by decide) (fun hc => ?_) (fun hc => ?_)
    · replace h := x_ifT hc h
      refine x_iload 88 rfl dX9_quickest_86 rfl ?_
      refine x_istore_n 89 rfl 2 dX9_quickest_88 rfl (by decide) [some (.ref 60), some (.int _), some (.int _), some (.int _), some (.int _), some (.int _)] rfl ?_
      refine x_iload 91 rfl dX9_quickest_89 rfl ?_
      refine x_istore_n 92 rfl 3 dX9_quickest_91 rfl (by decide) [some (.ref 60), some (.int _), some (.int _), some (.int _), some (.int _), some (.int _)] rfl ?_
      refine x_iinc 95 rfl (1) dX9_quickest_92 rfl (by decide) (by decide) [some (.ref 60), some (.int _), some (.int _), some (.int _), some (.int _), some (.int _)] rfl ?_
      refine x_goto 23 dX9_quickest_95 (by decide) ?_
      cases h
      exact x_wk (x_le_s (x_le_s (x_le_s (x_le_s (x_le_s (x_le_n x_le_0)))))) (hG (_, _, _, _) rfl)
    · replace h := x_ifF hc h
      refine x_iload 79 rfl dX9_quickest_77 rfl ?_
      refine x_iload_n 80 rfl 2 dX9_quickest_79 rfl rfl ?_
      refine x_icmp_gt 83 rfl 86 dX9_quickest_80 (by decide) (fun hc => ?_) (fun hc => ?_)
      · replace h := x_ifT hc h
        refine x_iload 88 rfl dX9_quickest_86 rfl ?_
        refine x_istore_n 89 rfl 2 dX9_quickest_88 rfl (by decide) [some (.ref 60), some (.int _), some (.int _), some (.int _), some (.int _), some (.int _)] rfl ?_
        refine x_iload 91 rfl dX9_quickest_89 rfl ?_
        refine x_istore_n 92 rfl 3 dX9_quickest_91 rfl (by decide) [some (.ref 60), some (.int _), some (.int _), some (.int _), some (.int _), some (.int _)] rfl ?_
        refine x_iinc 95 rfl (1) dX9_quickest_92 rfl (by decide) (by decide) [some (.ref 60), some (.int _), some (.int _), some (.int _), some (.int _), some (.int _)] rfl ?_
        refine x_goto 23 dX9_quickest_95 (by decide) ?_
        cases h
        exact x_wk (x_le_s (x_le_s (x_le_s (x_le_s (x_le_s (x_le_n x_le_0)))))) (hG (_, _, _, _) rfl)
      · replace h := x_ifF hc h
        refine x_goto 92 dX9_quickest_83 (by decide) ?_
        refine x_iinc 95 rfl (1) dX9_quickest_92 rfl (by decide) (by decide) [some (.ref 60), some (.int _), some (.int _), some (.int _), some (.int _), some (.int _)] rfl ?_
        refine x_goto 23 dX9_quickest_95 (by decide) ?_
        cases h
        exact x_wk (x_le_s (x_le_s (x_le_s (x_le_s (x_le_s (x_le_n x_le_0)))))) (hG (_, _, _, _) rfl)
set_option maxHeartbeats 4000000 in
set_option maxRecDepth 100000 in
theorem c_Mo_quickest_60 {l : Launch} {s0 : State} {a0 : Array Value} {D : va_G} {cA : Nat → ClassId} {sp : Nat → Nat} (E : x_En CL l s0 a0 D cA sp) (v1 : Int32) {σ : xS} {r : Int32} {σ1 : xS} (h : f_Mo_quickest_60 v1 σ = some (r, σ1)) : zC l s0 D cA sp 3 M_Mo_quickest [.ref 60, .int v1] σ (some (.int r)) σ1 := by
  unfold f_Mo_quickest_60 at h
  try dsimp only at h
  refine x_enter [some (.ref 60), some (.int v1), none, none, none, none] rfl (Nat.le_of_ble_eq_true rfl) (by decide +kernel) rfl ?_
  refine x_aload_n 1 rfl 0 dX9_quickest_0 rfl rfl ?_
  refine x_iconst 2 rfl (v := 0) dX9_quickest_1 (by decide) ?_
  refine x_putI E dX9_quickest_2 F_RX9_132 sh_60 5 rfl ?_
  refine x_aload_n 6 rfl 0 dX9_quickest_5 rfl rfl ?_
  refine x_iload_n 7 rfl 1 dX9_quickest_6 rfl rfl ?_
  refine x_iconst 8 rfl (v := 1) dX9_quickest_7 (by decide) ?_
  obtain ⟨⟨q14r, q14s⟩, q14h, h⟩ := x_bind h
  try dsimp only at h
  refine z_callV E [.int _, .int _] [] dX9_quickest_8 K_RX9_421 ⟨Nat.le_of_ble_eq_true rfl, Nat.le_of_ble_eq_true rfl⟩ sh_60 (by decide) rfl (c_Mo_isWhat_60 E _ _ q14h) rfl rfl (Nat.le_of_ble_eq_true rfl) 11 rfl [.int _] rfl ?_
  refine x_if_ne 14 rfl 16 dX9_quickest_11 (by decide) (fun hc => ?_) (fun hc => ?_)
  · replace h := x_ifF hc h
    refine x_iconst 17 rfl (v := 0) dX9_quickest_16 (by decide) ?_
    refine x_istore_n 18 rfl 2 dX9_quickest_17 rfl (by decide) [some (.ref 60), some (.int _), some (.int _), none, none, none] rfl ?_
    refine x_iconst 19 rfl (v := 0) dX9_quickest_18 (by decide) ?_
    refine x_istore_n 20 rfl 3 dX9_quickest_19 rfl (by decide) [some (.ref 60), some (.int _), some (.int _), some (.int _), none, none] rfl ?_
    refine x_iconst 21 rfl (v := 1) dX9_quickest_20 (by decide) ?_
    refine x_istore 23 rfl dX9_quickest_21 (by decide) [some (.ref 60), some (.int _), some (.int _), some (.int _), some (.int _), none] rfl ?_
    obtain ⟨b15, b15h, h⟩ := x_bind h
    try dsimp only at h
    refine x_wk (x_le_s (x_le_s (x_le_s (x_le_s (x_le_s (x_le_n x_le_0)))))) (x_loop (fun a o h hK hG => b_Mo_quickest_60_L23 (r := r) (σ1 := σ1) E _ a o h hK hG) _ _ _ b15h ?_)
    refine x_iload_n 99 rfl 1 dX9_quickest_98 rfl rfl ?_
    refine x_if_ne 102 rfl 106 dX9_quickest_99 (by decide) (fun hc => ?_) (fun hc => ?_)
    · replace h := x_ifF hc h
      refine x_iload_n 107 rfl 3 dX9_quickest_106 rfl rfl ?_
      cases h
      exact x_iret dX9_quickest_107 rfl rfl rfl
    · replace h := x_ifT hc h
      refine x_iload_n 103 rfl 2 dX9_quickest_102 rfl rfl ?_
      refine x_goto 107 dX9_quickest_103 (by decide) ?_
      cases h
      exact x_iret dX9_quickest_107 rfl rfl rfl
  · replace h := x_ifT hc h
    refine x_iconst 15 rfl (v := 0) dX9_quickest_14 (by decide) ?_
    cases h
    exact x_iret dX9_quickest_15 rfl rfl rfl
abbrev M_Mo_holes : xM := (yX9_holes, cX9_holes, 5, some .int, [])
theorem dX9_holes_0 : decode cX9_holes 0 = .ok (.aload_n 0, 1) := by decide +kernel
theorem dX9_holes_1 : decode cX9_holes 1 = .ok (.iconst 0, 1) := by decide +kernel
theorem dX9_holes_2 : decode cX9_holes 2 = .ok (.putfield 132, 3) := by decide +kernel
theorem dX9_holes_5 : decode cX9_holes 5 = .ok (.aload_n 0, 1) := by decide +kernel
theorem dX9_holes_6 : decode cX9_holes 6 = .ok (.iload_n 1, 1) := by decide +kernel
theorem dX9_holes_7 : decode cX9_holes 7 = .ok (.iconst 0, 1) := by decide +kernel
theorem dX9_holes_8 : decode cX9_holes 8 = .ok (.sipush 601, 3) := by decide +kernel
theorem dX9_holes_11 : decode cX9_holes 11 = .ok (.invokestatic 414, 3) := by decide +kernel
theorem dX9_holes_14 : decode cX9_holes 14 = .ok (.iconst 1, 1) := by decide +kernel
theorem dX9_holes_15 : decode cX9_holes 15 = .ok (.invokevirtual 311, 3) := by decide +kernel
theorem dX9_holes_18 : decode cX9_holes 18 = .ok (.ifCond .ne 5, 3) := by decide +kernel
theorem dX9_holes_21 : decode cX9_holes 21 = .ok (.iconst 0, 1) := by decide +kernel
theorem dX9_holes_22 : decode cX9_holes 22 = .ok (.ireturn, 1) := by decide +kernel
theorem dX9_holes_23 : decode cX9_holes 23 = .ok (.aload_n 0, 1) := by decide +kernel
theorem dX9_holes_24 : decode cX9_holes 24 = .ok (.invokevirtual 408, 3) := by decide +kernel
theorem dX9_holes_27 : decode cX9_holes 27 = .ok (.aload_n 0, 1) := by decide +kernel
theorem dX9_holes_28 : decode cX9_holes 28 = .ok (.getfield 78, 3) := by decide +kernel
theorem dX9_holes_31 : decode cX9_holes 31 = .ok (.iconst 0, 1) := by decide +kernel
theorem dX9_holes_32 : decode cX9_holes 32 = .ok (.iaload, 1) := by decide +kernel
theorem dX9_holes_33 : decode cX9_holes 33 = .ok (.istore_n 2, 1) := by decide +kernel
theorem dX9_holes_34 : decode cX9_holes 34 = .ok (.iconst (-1), 1) := by decide +kernel
theorem dX9_holes_35 : decode cX9_holes 35 = .ok (.istore_n 3, 1) := by decide +kernel
theorem dX9_holes_36 : decode cX9_holes 36 = .ok (.bipush 60, 2) := by decide +kernel
theorem dX9_holes_38 : decode cX9_holes 38 = .ok (.istore 4, 2) := by decide +kernel
theorem dX9_holes_40 : decode cX9_holes 40 = .ok (.iload 4, 2) := by decide +kernel
theorem dX9_holes_42 : decode cX9_holes 42 = .ok (.ifCond .le 32, 3) := by decide +kernel
theorem dX9_holes_45 : decode cX9_holes 45 = .ok (.aload_n 0, 1) := by decide +kernel
theorem dX9_holes_46 : decode cX9_holes 46 = .ok (.getfield 78, 3) := by decide +kernel
theorem dX9_holes_49 : decode cX9_holes 49 = .ok (.iconst 0, 1) := by decide +kernel
theorem dX9_holes_50 : decode cX9_holes 50 = .ok (.iload 4, 2) := by decide +kernel
theorem dX9_holes_52 : decode cX9_holes 52 = .ok (.iastore, 1) := by decide +kernel
theorem dX9_holes_53 : decode cX9_holes 53 = .ok (.aload_n 0, 1) := by decide +kernel
theorem dX9_holes_54 : decode cX9_holes 54 = .ok (.invokevirtual 411, 3) := by decide +kernel
theorem dX9_holes_57 : decode cX9_holes 57 = .ok (.iload_n 1, 1) := by decide +kernel
theorem dX9_holes_58 : decode cX9_holes 58 = .ok (.if_icmp .lt 8, 3) := by decide +kernel
theorem dX9_holes_61 : decode cX9_holes 61 = .ok (.iload 4, 2) := by decide +kernel
theorem dX9_holes_63 : decode cX9_holes 63 = .ok (.goto 4, 3) := by decide +kernel
theorem dX9_holes_66 : decode cX9_holes 66 = .ok (.iload_n 3, 1) := by decide +kernel
theorem dX9_holes_67 : decode cX9_holes 67 = .ok (.istore_n 3, 1) := by decide +kernel
theorem dX9_holes_68 : decode cX9_holes 68 = .ok (.iinc 4 (-1), 3) := by decide +kernel
theorem dX9_holes_71 : decode cX9_holes 71 = .ok (.goto (-31), 3) := by decide +kernel
theorem dX9_holes_74 : decode cX9_holes 74 = .ok (.aload_n 0, 1) := by decide +kernel
theorem dX9_holes_75 : decode cX9_holes 75 = .ok (.getfield 78, 3) := by decide +kernel
theorem dX9_holes_78 : decode cX9_holes 78 = .ok (.iconst 0, 1) := by decide +kernel
theorem dX9_holes_79 : decode cX9_holes 79 = .ok (.iload_n 2, 1) := by decide +kernel
theorem dX9_holes_80 : decode cX9_holes 80 = .ok (.iastore, 1) := by decide +kernel
theorem dX9_holes_81 : decode cX9_holes 81 = .ok (.iload_n 3, 1) := by decide +kernel
theorem dX9_holes_82 : decode cX9_holes 82 = .ok (.ireturn, 1) := by decide +kernel
def f_Mo_holes_60_L40 (v1 : Int32) (v2 : Int32) (a : Int32 × Int32 × xS) : Option ((Int32 × Int32 × xS) ⊕ (Int32 × Int32 × xS)) :=
  let v3 := a.1; let v4 := a.2.1; let σ := a.2.2;
  if v4 ≤ 0 then
    some (.inl (v3, v4, σ))
  else
    let σ1 := x_pI σ 79 0 v4
    (f_Mo_sharpMany_60  σ1).bind fun q2 =>
    if q2.1 < v1 then
      let w3 := v4 + (-1 : Int32)
      some (.inr (v3, w3, q2.2))
    else
      let w4 := v4 + (-1 : Int32)
      some (.inr (v4, w4, q2.2))
def f_Mo_holes_60 (v1 : Int32) (σ : xS) : Option (Int32 × xS) :=
  let σ5 := x_pI σ 60 0 (0 : Int32)
  (f_Mo_within v1 (0 : Int32) (601 : Int32) σ5).bind fun q6 =>
  (f_Mo_right_60 q6.1 (1 : Int32) q6.2).bind fun q7 =>
  if q7.1 = 0 then
    some ((0 : Int32), q7.2)
  else
    (f_Mo_goesThrough_60  q7.2).bind fun q8 =>
    let w9 := q8.2.1 79 0
    (x_it (f_Mo_holes_60_L40 v1 w9) 10000 ((-1 : Int32), (60 : Int32), q8.2)).bind fun b10 =>
    let σ11 := x_pI b10.2.2 79 0 w9
    some (b10.1, σ11)
set_option maxHeartbeats 4000000 in
set_option maxRecDepth 100000 in
theorem b_Mo_holes_60_L40 {l : Launch} {s0 : State} {a0 : Array Value} {D : va_G} {cA : Nat → ClassId} {sp : Nat → Nat} (E : x_En CL l s0 a0 D cA sp) (v1 : Int32) (v2 : Int32) {r : Int32} {σ1 : xS} (a : Int32 × Int32 × xS) (o : (Int32 × Int32 × xS) ⊕ (Int32 × Int32 × xS)) (h : f_Mo_holes_60_L40 v1 v2 a = some o) (hK : ∀ b, o = .inl b → zW l s0 D cA sp (zQ s0 D cA sp (some (.int r)) σ1) (x_rm 5 0 0) M_Mo_holes 0 0 74 [some (.ref 60), none, some (.int v2), some (.int b.1), none] [] b.2.2) (hG : ∀ a', o = .inr a' → zW l s0 D cA sp (zQ s0 D cA sp (some (.int r)) σ1) (x_rm 5 0 0) M_Mo_holes 0 0 40 [some (.ref 60), some (.int v1), some (.int v2), some (.int a'.1), some (.int a'.2.1)] [] a'.2.2) : zW l s0 D cA sp (zQ s0 D cA sp (some (.int r)) σ1) (x_rm 5 0 0) M_Mo_holes 0 0 40 [some (.ref 60), some (.int v1), some (.int v2), some (.int a.1), some (.int a.2.1)] [] a.2.2 := by
  obtain ⟨v3, v4, σ⟩ := a
  unfold f_Mo_holes_60_L40 at h
  try dsimp only at h ⊢
  refine x_iload 42 rfl dX9_holes_40 rfl ?_
  refine x_if_le 45 rfl 74 dX9_holes_42 (by decide) (fun hc => ?_) (fun hc => ?_)
  · replace h := x_ifT hc h
    cases h
    exact x_wk (x_le_s (x_le_n (x_le_s (x_le_s (x_le_n x_le_0))))) (hK (_, _, _) rfl)
  · replace h := x_ifF hc h
    refine x_aload_n 46 rfl 0 dX9_holes_45 rfl rfl ?_
    refine x_getR E dX9_holes_46 F_RX9_78 sh_60 rf_60_53 49 rfl ?_
    refine x_iconst 50 rfl (v := 0) dX9_holes_49 (by decide) ?_
    refine x_iload 52 rfl dX9_holes_50 rfl ?_
    refine x_iast E dX9_holes_52 sh_79 0 (by decide) (by decide) 53 rfl ?_
    refine x_aload_n 54 rfl 0 dX9_holes_53 rfl rfl ?_
    obtain ⟨⟨q2r, q2s⟩, q2h, h⟩ := x_bind h
    try dsimp only at h
    refine z_callV E [] [] dX9_holes_54 K_RX9_411 ⟨Nat.le_of_ble_eq_true rfl, Nat.le_of_ble_eq_true rfl⟩ sh_60 (by decide) rfl (c_Mo_sharpMany_60 E  q2h) rfl rfl (Nat.le_of_ble_eq_true rfl) 57 rfl [.int _] rfl ?_
    refine x_iload_n 58 rfl 1 dX9_holes_57 rfl rfl ?_
    refine x_icmp_lt 61 rfl 66 dX9_holes_58 (by decide) (fun hc => ?_) (fun hc => ?_)
    · replace h := x_ifT hc h
      refine x_iload_n 67 rfl 3 dX9_holes_66 rfl rfl ?_
      refine x_istore_n 68 rfl 3 dX9_holes_67 rfl (by decide) [some (.ref 60), some (.int _), some (.int _), some (.int _), some (.int _)] rfl ?_
      refine x_iinc 71 rfl (-1) dX9_holes_68 rfl (by decide) (by decide) [some (.ref 60), some (.int _), some (.int _), some (.int _), some (.int _)] rfl ?_
      refine x_goto 40 dX9_holes_71 (by decide) ?_
      cases h
      exact x_wk (x_le_s (x_le_s (x_le_s (x_le_s (x_le_s x_le_0))))) (hG (_, _, _) rfl)
    · replace h := x_ifF hc h
      refine x_iload 63 rfl dX9_holes_61 rfl ?_
      refine x_goto 67 dX9_holes_63 (by decide) ?_
      refine x_istore_n 68 rfl 3 dX9_holes_67 rfl (by decide) [some (.ref 60), some (.int _), some (.int _), some (.int _), some (.int _)] rfl ?_
      refine x_iinc 71 rfl (-1) dX9_holes_68 rfl (by decide) (by decide) [some (.ref 60), some (.int _), some (.int _), some (.int _), some (.int _)] rfl ?_
      refine x_goto 40 dX9_holes_71 (by decide) ?_
      cases h
      exact x_wk (x_le_s (x_le_s (x_le_s (x_le_s (x_le_s x_le_0))))) (hG (_, _, _) rfl)
set_option maxHeartbeats 4000000 in
set_option maxRecDepth 100000 in
theorem c_Mo_holes_60 {l : Launch} {s0 : State} {a0 : Array Value} {D : va_G} {cA : Nat → ClassId} {sp : Nat → Nat} (E : x_En CL l s0 a0 D cA sp) (v1 : Int32) {σ : xS} {r : Int32} {σ1 : xS} (h : f_Mo_holes_60 v1 σ = some (r, σ1)) : zC l s0 D cA sp 5 M_Mo_holes [.ref 60, .int v1] σ (some (.int r)) σ1 := by
  unfold f_Mo_holes_60 at h
  try dsimp only at h
  refine x_enter [some (.ref 60), some (.int v1), none, none, none] rfl (Nat.le_of_ble_eq_true rfl) (by decide +kernel) rfl ?_
  refine x_aload_n 1 rfl 0 dX9_holes_0 rfl rfl ?_
  refine x_iconst 2 rfl (v := 0) dX9_holes_1 (by decide) ?_
  refine x_putI E dX9_holes_2 F_RX9_132 sh_60 5 rfl ?_
  refine x_aload_n 6 rfl 0 dX9_holes_5 rfl rfl ?_
  refine x_iload_n 7 rfl 1 dX9_holes_6 rfl rfl ?_
  refine x_iconst 8 rfl (v := 0) dX9_holes_7 (by decide) ?_
  refine x_sipush 11 rfl (v := 601) dX9_holes_8 (by decide) ?_
  obtain ⟨⟨q6r, q6s⟩, q6h, h⟩ := x_bind h
  try dsimp only at h
  refine z_callS E [.int _, .int _, .int _] [.ref 60] dX9_holes_11 K_RX9_414 ⟨Nat.le_of_ble_eq_true rfl, Nat.le_of_ble_eq_true rfl⟩ (c_Mo_within E _ _ _ q6h) rfl rfl (Nat.le_of_ble_eq_true rfl) 14 rfl [.int _, .ref 60] rfl ?_
  refine x_iconst 15 rfl (v := 1) dX9_holes_14 (by decide) ?_
  obtain ⟨⟨q7r, q7s⟩, q7h, h⟩ := x_bind h
  try dsimp only at h
  refine z_callV E [.int _, .int _] [] dX9_holes_15 K_RX9_311 ⟨Nat.le_of_ble_eq_true rfl, Nat.le_of_ble_eq_true rfl⟩ sh_60 (by decide) rfl (c_Mo_right_60 E _ _ q7h) rfl rfl (Nat.le_of_ble_eq_true rfl) 18 rfl [.int _] rfl ?_
  refine x_if_ne 21 rfl 23 dX9_holes_18 (by decide) (fun hc => ?_) (fun hc => ?_)
  · replace h := x_ifF hc h
    refine x_aload_n 24 rfl 0 dX9_holes_23 rfl rfl ?_
    obtain ⟨⟨q8r, q8s⟩, q8h, h⟩ := x_bind h
    try dsimp only at h
    refine z_callV E [] [] dX9_holes_24 K_RX9_408 ⟨Nat.le_of_ble_eq_true rfl, Nat.le_of_ble_eq_true rfl⟩ sh_60 (by decide) rfl (c_Mo_goesThrough_60 E  q8h) rfl rfl (Nat.le_of_ble_eq_true rfl) 27 rfl [] rfl ?_
    refine x_aload_n 28 rfl 0 dX9_holes_27 rfl rfl ?_
    refine x_getR E dX9_holes_28 F_RX9_78 sh_60 rf_60_53 31 rfl ?_
    refine x_iconst 32 rfl (v := 0) dX9_holes_31 (by decide) ?_
    refine x_iald E dX9_holes_32 sh_79 0 (by decide) (by decide) 33 rfl ?_
    refine x_istore_n 34 rfl 2 dX9_holes_33 rfl (by decide) [some (.ref 60), some (.int _), some (.int _), none, none] rfl ?_
    refine x_iconst 35 rfl (v := -1) dX9_holes_34 (by decide) ?_
    refine x_istore_n 36 rfl 3 dX9_holes_35 rfl (by decide) [some (.ref 60), some (.int _), some (.int _), some (.int _), none] rfl ?_
    refine x_bipush 38 rfl (v := 60) dX9_holes_36 (by decide) ?_
    refine x_istore 40 rfl dX9_holes_38 (by decide) [some (.ref 60), some (.int _), some (.int _), some (.int _), some (.int _)] rfl ?_
    obtain ⟨b10, b10h, h⟩ := x_bind h
    try dsimp only at h
    refine x_wk (x_le_s (x_le_s (x_le_s (x_le_s (x_le_s x_le_0))))) (x_loop (fun a o h hK hG => b_Mo_holes_60_L40 (r := r) (σ1 := σ1) E _ _ a o h hK hG) _ _ _ b10h ?_)
    refine x_aload_n 75 rfl 0 dX9_holes_74 rfl rfl ?_
    refine x_getR E dX9_holes_75 F_RX9_78 sh_60 rf_60_53 78 rfl ?_
    refine x_iconst 79 rfl (v := 0) dX9_holes_78 (by decide) ?_
    refine x_iload_n 80 rfl 2 dX9_holes_79 rfl rfl ?_
    refine x_iast E dX9_holes_80 sh_79 0 (by decide) (by decide) 81 rfl ?_
    refine x_iload_n 82 rfl 3 dX9_holes_81 rfl rfl ?_
    cases h
    exact x_iret dX9_holes_82 rfl rfl rfl
  · replace h := x_ifT hc h
    refine x_iconst 22 rfl (v := 0) dX9_holes_21 (by decide) ?_
    cases h
    exact x_iret dX9_holes_22 rfl rfl rfl
abbrev M_Mo_light : xM := (yX9_light, cX9_light, 14, some .int, [])
theorem dX9_light_0 : decode cX9_light 0 = .ok (.aload_n 0, 1) := by decide +kernel
theorem dX9_light_1 : decode cX9_light 1 = .ok (.iconst 0, 1) := by decide +kernel
theorem dX9_light_2 : decode cX9_light 2 = .ok (.putfield 132, 3) := by decide +kernel
theorem dX9_light_5 : decode cX9_light 5 = .ok (.aload_n 0, 1) := by decide +kernel
theorem dX9_light_6 : decode cX9_light 6 = .ok (.iload_n 1, 1) := by decide +kernel
theorem dX9_light_7 : decode cX9_light 7 = .ok (.iconst 0, 1) := by decide +kernel
theorem dX9_light_8 : decode cX9_light 8 = .ok (.bipush 99, 2) := by decide +kernel
theorem dX9_light_10 : decode cX9_light 10 = .ok (.invokestatic 414, 3) := by decide +kernel
theorem dX9_light_13 : decode cX9_light 13 = .ok (.ifCond .eq 17, 3) := by decide +kernel
theorem dX9_light_16 : decode cX9_light 16 = .ok (.iload_n 2, 1) := by decide +kernel
theorem dX9_light_17 : decode cX9_light 17 = .ok (.iconst 1, 1) := by decide +kernel
theorem dX9_light_18 : decode cX9_light 18 = .ok (.bipush 99, 2) := by decide +kernel
theorem dX9_light_20 : decode cX9_light 20 = .ok (.invokestatic 414, 3) := by decide +kernel
theorem dX9_light_23 : decode cX9_light 23 = .ok (.ifCond .eq 7, 3) := by decide +kernel
theorem dX9_light_26 : decode cX9_light 26 = .ok (.iconst 1, 1) := by decide +kernel
theorem dX9_light_27 : decode cX9_light 27 = .ok (.goto 4, 3) := by decide +kernel
theorem dX9_light_30 : decode cX9_light 30 = .ok (.iconst 0, 1) := by decide +kernel
theorem dX9_light_31 : decode cX9_light 31 = .ok (.iconst 1, 1) := by decide +kernel
theorem dX9_light_32 : decode cX9_light 32 = .ok (.invokevirtual 311, 3) := by decide +kernel
theorem dX9_light_35 : decode cX9_light 35 = .ok (.ifCond .ne 5, 3) := by decide +kernel
theorem dX9_light_38 : decode cX9_light 38 = .ok (.iconst 0, 1) := by decide +kernel
theorem dX9_light_39 : decode cX9_light 39 = .ok (.ireturn, 1) := by decide +kernel
theorem dX9_light_40 : decode cX9_light 40 = .ok (.aload_n 0, 1) := by decide +kernel
theorem dX9_light_41 : decode cX9_light 41 = .ok (.invokevirtual 408, 3) := by decide +kernel
theorem dX9_light_44 : decode cX9_light 44 = .ok (.aload_n 0, 1) := by decide +kernel
theorem dX9_light_45 : decode cX9_light 45 = .ok (.getfield 78, 3) := by decide +kernel
theorem dX9_light_48 : decode cX9_light 48 = .ok (.iconst 0, 1) := by decide +kernel
theorem dX9_light_49 : decode cX9_light 49 = .ok (.iaload, 1) := by decide +kernel
theorem dX9_light_50 : decode cX9_light 50 = .ok (.istore_n 3, 1) := by decide +kernel
theorem dX9_light_51 : decode cX9_light 51 = .ok (.iconst (-1), 1) := by decide +kernel
theorem dX9_light_52 : decode cX9_light 52 = .ok (.istore 4, 2) := by decide +kernel
theorem dX9_light_54 : decode cX9_light 54 = .ok (.lconst 0, 1) := by decide +kernel
theorem dX9_light_55 : decode cX9_light 55 = .ok (.lstore 5, 2) := by decide +kernel
theorem dX9_light_57 : decode cX9_light 57 = .ok (.lconst 1, 1) := by decide +kernel
theorem dX9_light_58 : decode cX9_light 58 = .ok (.lstore 7, 2) := by decide +kernel
theorem dX9_light_60 : decode cX9_light 60 = .ok (.iconst 0, 1) := by decide +kernel
theorem dX9_light_61 : decode cX9_light 61 = .ok (.istore 9, 2) := by decide +kernel
theorem dX9_light_63 : decode cX9_light 63 = .ok (.iload 9, 2) := by decide +kernel
theorem dX9_light_65 : decode cX9_light 65 = .ok (.bipush 60, 2) := by decide +kernel
theorem dX9_light_67 : decode cX9_light 67 = .ok (.iload_n 3, 1) := by decide +kernel
theorem dX9_light_68 : decode cX9_light 68 = .ok (.isub, 1) := by decide +kernel
theorem dX9_light_69 : decode cX9_light 69 = .ok (.if_icmp .gt 92, 3) := by decide +kernel
theorem dX9_light_72 : decode cX9_light 72 = .ok (.aload_n 0, 1) := by decide +kernel
theorem dX9_light_73 : decode cX9_light 73 = .ok (.getfield 78, 3) := by decide +kernel
theorem dX9_light_76 : decode cX9_light 76 = .ok (.iconst 0, 1) := by decide +kernel
theorem dX9_light_77 : decode cX9_light 77 = .ok (.iload_n 3, 1) := by decide +kernel
theorem dX9_light_78 : decode cX9_light 78 = .ok (.iload 9, 2) := by decide +kernel
theorem dX9_light_80 : decode cX9_light 80 = .ok (.iadd, 1) := by decide +kernel
theorem dX9_light_81 : decode cX9_light 81 = .ok (.iastore, 1) := by decide +kernel
theorem dX9_light_82 : decode cX9_light 82 = .ok (.aload_n 0, 1) := by decide +kernel
theorem dX9_light_83 : decode cX9_light 83 = .ok (.invokevirtual 411, 3) := by decide +kernel
theorem dX9_light_86 : decode cX9_light 86 = .ok (.i2l, 1) := by decide +kernel
theorem dX9_light_87 : decode cX9_light 87 = .ok (.lstore 10, 2) := by decide +kernel
theorem dX9_light_89 : decode cX9_light 89 = .ok (.lload 10, 2) := by decide +kernel
theorem dX9_light_91 : decode cX9_light 91 = .ok (.lconst 0, 1) := by decide +kernel
theorem dX9_light_92 : decode cX9_light 92 = .ok (.lcmp, 1) := by decide +kernel
theorem dX9_light_93 : decode cX9_light 93 = .ok (.ifCond .ne 6, 3) := by decide +kernel
theorem dX9_light_96 : decode cX9_light 96 = .ok (.goto 59, 3) := by decide +kernel
theorem dX9_light_99 : decode cX9_light 99 = .ok (.iload 9, 2) := by decide +kernel
theorem dX9_light_101 : decode cX9_light 101 = .ok (.iload_n 1, 1) := by decide +kernel
theorem dX9_light_102 : decode cX9_light 102 = .ok (.imul, 1) := by decide +kernel
theorem dX9_light_103 : decode cX9_light 103 = .ok (.i2l, 1) := by decide +kernel
theorem dX9_light_104 : decode cX9_light 104 = .ok (.lload 10, 2) := by decide +kernel
theorem dX9_light_106 : decode cX9_light 106 = .ok (.lmul, 1) := by decide +kernel
theorem dX9_light_107 : decode cX9_light 107 = .ok (.iload_n 2, 1) := by decide +kernel
theorem dX9_light_108 : decode cX9_light 108 = .ok (.i2l, 1) := by decide +kernel
theorem dX9_light_109 : decode cX9_light 109 = .ok (.aload_n 0, 1) := by decide +kernel
theorem dX9_light_110 : decode cX9_light 110 = .ok (.invokevirtual 390, 3) := by decide +kernel
theorem dX9_light_113 : decode cX9_light 113 = .ok (.i2l, 1) := by decide +kernel
theorem dX9_light_114 : decode cX9_light 114 = .ok (.lconst 1, 1) := by decide +kernel
theorem dX9_light_115 : decode cX9_light 115 = .ok (.ladd, 1) := by decide +kernel
theorem dX9_light_116 : decode cX9_light 116 = .ok (.lmul, 1) := by decide +kernel
theorem dX9_light_117 : decode cX9_light 117 = .ok (.ladd, 1) := by decide +kernel
theorem dX9_light_118 : decode cX9_light 118 = .ok (.lstore 12, 2) := by decide +kernel
theorem dX9_light_120 : decode cX9_light 120 = .ok (.iload 4, 2) := by decide +kernel
theorem dX9_light_122 : decode cX9_light 122 = .ok (.iconst (-1), 1) := by decide +kernel
theorem dX9_light_123 : decode cX9_light 123 = .ok (.if_icmp .eq 20, 3) := by decide +kernel
theorem dX9_light_126 : decode cX9_light 126 = .ok (.lload 12, 2) := by decide +kernel
theorem dX9_light_128 : decode cX9_light 128 = .ok (.lload 7, 2) := by decide +kernel
theorem dX9_light_130 : decode cX9_light 130 = .ok (.lmul, 1) := by decide +kernel
theorem dX9_light_131 : decode cX9_light 131 = .ok (.lload 5, 2) := by decide +kernel
theorem dX9_light_133 : decode cX9_light 133 = .ok (.lload 10, 2) := by decide +kernel
theorem dX9_light_135 : decode cX9_light 135 = .ok (.lmul, 1) := by decide +kernel
theorem dX9_light_136 : decode cX9_light 136 = .ok (.lcmp, 1) := by decide +kernel
theorem dX9_light_137 : decode cX9_light 137 = .ok (.ifCond .lt 6, 3) := by decide +kernel
theorem dX9_light_140 : decode cX9_light 140 = .ok (.goto 15, 3) := by decide +kernel
theorem dX9_light_143 : decode cX9_light 143 = .ok (.iload 9, 2) := by decide +kernel
theorem dX9_light_145 : decode cX9_light 145 = .ok (.istore 4, 2) := by decide +kernel
theorem dX9_light_147 : decode cX9_light 147 = .ok (.lload 12, 2) := by decide +kernel
theorem dX9_light_149 : decode cX9_light 149 = .ok (.lstore 5, 2) := by decide +kernel
theorem dX9_light_151 : decode cX9_light 151 = .ok (.lload 10, 2) := by decide +kernel
theorem dX9_light_153 : decode cX9_light 153 = .ok (.lstore 7, 2) := by decide +kernel
theorem dX9_light_155 : decode cX9_light 155 = .ok (.iinc 9 1, 3) := by decide +kernel
theorem dX9_light_158 : decode cX9_light 158 = .ok (.goto (-95), 3) := by decide +kernel
theorem dX9_light_161 : decode cX9_light 161 = .ok (.aload_n 0, 1) := by decide +kernel
theorem dX9_light_162 : decode cX9_light 162 = .ok (.getfield 78, 3) := by decide +kernel
theorem dX9_light_165 : decode cX9_light 165 = .ok (.iconst 0, 1) := by decide +kernel
theorem dX9_light_166 : decode cX9_light 166 = .ok (.iload_n 3, 1) := by decide +kernel
theorem dX9_light_167 : decode cX9_light 167 = .ok (.iastore, 1) := by decide +kernel
theorem dX9_light_168 : decode cX9_light 168 = .ok (.iload 4, 2) := by decide +kernel
theorem dX9_light_170 : decode cX9_light 170 = .ok (.ireturn, 1) := by decide +kernel
def f_Mo_light_60_L63 (v1 : Int32) (v2 : Int32) (v3 : Int32) (a : Int32 × Int64 × Int64 × Int32 × xS) : Option ((Int32 × Int64 × Int64 × Int32 × xS) ⊕ (Int32 × Int64 × Int64 × Int32 × xS)) :=
  let v4 := a.1; let v5 := a.2.1; let v7 := a.2.2.1; let v9 := a.2.2.2.1; let σ := a.2.2.2.2;
  if ((60 : Int32) - v3) < v9 then
    some (.inl (v4, v5, v7, v9, σ))
  else
    let σ1 := x_pI σ 79 0 (v3 + v9)
    (f_Mo_sharpMany_60  σ1).bind fun q2 =>
    let w3 := q2.1.toInt64
    if (lg_cmp w3 (0 : Int64)) = 0 then
      let w9 := v9 + (1 : Int32)
      some (.inr (v4, v5, v7, w9, q2.2))
    else
      (f_Mo_last_60  q2.2).bind fun q4 =>
      let w5 := (((v9 * v1).toInt64 * w3) + (v2.toInt64 * (q4.1.toInt64 + (1 : Int64))))
      if v4 = (-1 : Int32) then
        let w6 := v9 + (1 : Int32)
        some (.inr (v9, w5, w3, w6, q4.2))
      else
        if (lg_cmp (w5 * v7) (v5 * w3)) < 0 then
          let w7 := v9 + (1 : Int32)
          some (.inr (v9, w5, w3, w7, q4.2))
        else
          let w8 := v9 + (1 : Int32)
          some (.inr (v4, v5, v7, w8, q4.2))
def f_Mo_light_60_J31 (v1 : Int32) (v2 : Int32) (y1 : Int32) (σ : xS) : Option (Int32 × xS) :=
  (f_Mo_right_60 y1 (1 : Int32) σ).bind fun q10 =>
  if q10.1 = 0 then
    some ((0 : Int32), q10.2)
  else
    (f_Mo_goesThrough_60  q10.2).bind fun q11 =>
    let w12 := q11.2.1 79 0
    let w13 := (0 : Int64)
    let w14 := (1 : Int64)
    (x_it (f_Mo_light_60_L63 v1 v2 w12) 10000 ((-1 : Int32), w13, w14, (0 : Int32), q11.2)).bind fun b15 =>
    let σ16 := x_pI b15.2.2.2.2 79 0 w12
    some (b15.1, σ16)
def f_Mo_light_60_J30 (v1 : Int32) (v2 : Int32) (σ : xS) : Option (Int32 × xS) :=
  f_Mo_light_60_J31 v1 v2 (0 : Int32) σ
def f_Mo_light_60 (v1 : Int32) (v2 : Int32) (σ : xS) : Option (Int32 × xS) :=
  let σ17 := x_pI σ 60 0 (0 : Int32)
  (f_Mo_within v1 (0 : Int32) (99 : Int32) σ17).bind fun q18 =>
  if q18.1 = 0 then
    f_Mo_light_60_J30 v1 v2 q18.2
  else
    (f_Mo_within v2 (1 : Int32) (99 : Int32) q18.2).bind fun q19 =>
    if q19.1 = 0 then
      f_Mo_light_60_J30 v1 v2 q19.2
    else
      f_Mo_light_60_J31 v1 v2 (1 : Int32) q19.2
set_option maxHeartbeats 4000000 in
set_option maxRecDepth 100000 in
theorem b_Mo_light_60_L63 {l : Launch} {s0 : State} {a0 : Array Value} {D : va_G} {cA : Nat → ClassId} {sp : Nat → Nat} (E : x_En CL l s0 a0 D cA sp) (v1 : Int32) (v2 : Int32) (v3 : Int32) {r : Int32} {σ1 : xS} (a : Int32 × Int64 × Int64 × Int32 × xS) (o : (Int32 × Int64 × Int64 × Int32 × xS) ⊕ (Int32 × Int64 × Int64 × Int32 × xS)) (h : f_Mo_light_60_L63 v1 v2 v3 a = some o) (hK : ∀ b, o = .inl b → zW l s0 D cA sp (zQ s0 D cA sp (some (.int r)) σ1) (x_rm 5 0 0) M_Mo_light 0 0 161 [some (.ref 60), none, none, some (.int v3), some (.int b.1), none, none, none, none, none, none, none, none, none] [] b.2.2.2.2) (hG : ∀ a', o = .inr a' → zW l s0 D cA sp (zQ s0 D cA sp (some (.int r)) σ1) (x_rm 5 0 0) M_Mo_light 0 0 63 [some (.ref 60), some (.int v1), some (.int v2), some (.int v3), some (.int a'.1), some (.long a'.2.1), none, some (.long a'.2.2.1), none, some (.int a'.2.2.2.1), none, none, none, none] [] a'.2.2.2.2) : zW l s0 D cA sp (zQ s0 D cA sp (some (.int r)) σ1) (x_rm 5 0 0) M_Mo_light 0 0 63 [some (.ref 60), some (.int v1), some (.int v2), some (.int v3), some (.int a.1), some (.long a.2.1), none, some (.long a.2.2.1), none, some (.int a.2.2.2.1), none, none, none, none] [] a.2.2.2.2 := by
  obtain ⟨v4, v5, v7, v9, σ⟩ := a
  unfold f_Mo_light_60_L63 at h
  try dsimp only at h ⊢
  refine x_iload 65 rfl dX9_light_63 rfl ?_
  refine x_bipush 67 rfl (v := 60) dX9_light_65 (by decide) ?_
  refine x_iload_n 68 rfl 3 dX9_light_67 rfl rfl ?_
  refine x_isub 69 rfl dX9_light_68 ?_
  refine x_icmp_gt 72 rfl 161 dX9_light_69 (by decide) (fun hc => ?_) (fun hc => ?_)
  · replace h := x_ifT hc h
    cases h
    exact x_wk (x_le_s (x_le_n (x_le_n (x_le_s (x_le_s (x_le_n (x_le_n (x_le_n (x_le_n (x_le_n (x_le_n (x_le_n (x_le_n (x_le_n x_le_0)))))))))))))) (hK (_, _, _, _, _) rfl)
  · replace h := x_ifF hc h
    refine x_aload_n 73 rfl 0 dX9_light_72 rfl rfl ?_
    refine x_getR E dX9_light_73 F_RX9_78 sh_60 rf_60_53 76 rfl ?_
    refine x_iconst 77 rfl (v := 0) dX9_light_76 (by decide) ?_
    refine x_iload_n 78 rfl 3 dX9_light_77 rfl rfl ?_
    refine x_iload 80 rfl dX9_light_78 rfl ?_
    refine x_iadd 81 rfl dX9_light_80 ?_
    refine x_iast E dX9_light_81 sh_79 0 (by decide) (by decide) 82 rfl ?_
    refine x_aload_n 83 rfl 0 dX9_light_82 rfl rfl ?_
    obtain ⟨⟨q2r, q2s⟩, q2h, h⟩ := x_bind h
    try dsimp only at h
    refine z_callV E [] [] dX9_light_83 K_RX9_411 ⟨Nat.le_of_ble_eq_true rfl, Nat.le_of_ble_eq_true rfl⟩ sh_60 (by decide) rfl (c_Mo_sharpMany_60 E  q2h) rfl rfl (Nat.le_of_ble_eq_true rfl) 86 rfl [.int _] rfl ?_
    refine x_i2l 87 rfl dX9_light_86 ?_
    refine x_lstore 89 rfl dX9_light_87 (by decide) [some (.ref 60), some (.int _), some (.int _), some (.int _), some (.int _), some (.long _), none, some (.long _), none, some (.int _), some (.long _), none, none, none] rfl ?_
    refine x_lload 91 rfl dX9_light_89 rfl ?_
    refine x_lconst 92 rfl (v := 0) dX9_light_91 (by decide) ?_
    refine x_lcmp 93 rfl dX9_light_92 ?_
    refine x_if_ne 96 rfl 99 dX9_light_93 (by decide) (fun hc => ?_) (fun hc => ?_)
    · replace h := x_ifF hc h
      refine x_iload 101 rfl dX9_light_99 rfl ?_
      refine x_iload_n 102 rfl 1 dX9_light_101 rfl rfl ?_
      refine x_imul 103 rfl dX9_light_102 ?_
      refine x_i2l 104 rfl dX9_light_103 ?_
      refine x_lload 106 rfl dX9_light_104 rfl ?_
      refine x_lmul 107 rfl dX9_light_106 ?_
      refine x_iload_n 108 rfl 2 dX9_light_107 rfl rfl ?_
      refine x_i2l 109 rfl dX9_light_108 ?_
      refine x_aload_n 110 rfl 0 dX9_light_109 rfl rfl ?_
      obtain ⟨⟨q4r, q4s⟩, q4h, h⟩ := x_bind h
      try dsimp only at h
      refine z_callV E [] [.long _, .long _] dX9_light_110 K_RX9_390 ⟨Nat.le_of_ble_eq_true rfl, Nat.le_of_ble_eq_true rfl⟩ sh_60 (by decide) rfl (c_Mo_last_60 E  q4h) rfl rfl (Nat.le_of_ble_eq_true rfl) 113 rfl [.int _, .long _, .long _] rfl ?_
      refine x_i2l 114 rfl dX9_light_113 ?_
      refine x_lconst 115 rfl (v := 1) dX9_light_114 (by decide) ?_
      refine x_ladd 116 rfl dX9_light_115 ?_
      refine x_lmul 117 rfl dX9_light_116 ?_
      refine x_ladd 118 rfl dX9_light_117 ?_
      refine x_lstore 120 rfl dX9_light_118 (by decide) [some (.ref 60), some (.int _), some (.int _), some (.int _), some (.int _), some (.long _), none, some (.long _), none, some (.int _), some (.long _), none, some (.long _), none] rfl ?_
      refine x_iload 122 rfl dX9_light_120 rfl ?_
      refine x_iconst 123 rfl (v := -1) dX9_light_122 (by decide) ?_
      refine x_icmp_eq 126 rfl 143 dX9_light_123 (by decide) (fun hc => ?_) (fun hc => ?_)
      · replace h := x_ifT hc h
        refine x_iload 145 rfl dX9_light_143 rfl ?_
        refine x_istore 147 rfl dX9_light_145 (by decide) [some (.ref 60), some (.int _), some (.int _), some (.int _), some (.int _), some (.long _), none, some (.long _), none, some (.int _), some (.long _), none, some (.long _), none] rfl ?_
        refine x_lload 149 rfl dX9_light_147 rfl ?_
        refine x_lstore 151 rfl dX9_light_149 (by decide) [some (.ref 60), some (.int _), some (.int _), some (.int _), some (.int _), some (.long _), none, some (.long _), none, some (.int _), some (.long _), none, some (.long _), none] rfl ?_
        refine x_lload 153 rfl dX9_light_151 rfl ?_
        refine x_lstore 155 rfl dX9_light_153 (by decide) [some (.ref 60), some (.int _), some (.int _), some (.int _), some (.int _), some (.long _), none, some (.long _), none, some (.int _), some (.long _), none, some (.long _), none] rfl ?_
        refine x_iinc 158 rfl (1) dX9_light_155 rfl (by decide) (by decide) [some (.ref 60), some (.int _), some (.int _), some (.int _), some (.int _), some (.long _), none, some (.long _), none, some (.int _), some (.long _), none, some (.long _), none] rfl ?_
        refine x_goto 63 dX9_light_158 (by decide) ?_
        cases h
        exact x_wk (x_le_s (x_le_s (x_le_s (x_le_s (x_le_s (x_le_s (x_le_n (x_le_s (x_le_n (x_le_s (x_le_n (x_le_n (x_le_n (x_le_n x_le_0)))))))))))))) (hG (_, _, _, _, _) rfl)
      · replace h := x_ifF hc h
        refine x_lload 128 rfl dX9_light_126 rfl ?_
        refine x_lload 130 rfl dX9_light_128 rfl ?_
        refine x_lmul 131 rfl dX9_light_130 ?_
        refine x_lload 133 rfl dX9_light_131 rfl ?_
        refine x_lload 135 rfl dX9_light_133 rfl ?_
        refine x_lmul 136 rfl dX9_light_135 ?_
        refine x_lcmp 137 rfl dX9_light_136 ?_
        refine x_if_lt 140 rfl 143 dX9_light_137 (by decide) (fun hc => ?_) (fun hc => ?_)
        · replace h := x_ifT hc h
          refine x_iload 145 rfl dX9_light_143 rfl ?_
          refine x_istore 147 rfl dX9_light_145 (by decide) [some (.ref 60), some (.int _), some (.int _), some (.int _), some (.int _), some (.long _), none, some (.long _), none, some (.int _), some (.long _), none, some (.long _), none] rfl ?_
          refine x_lload 149 rfl dX9_light_147 rfl ?_
          refine x_lstore 151 rfl dX9_light_149 (by decide) [some (.ref 60), some (.int _), some (.int _), some (.int _), some (.int _), some (.long _), none, some (.long _), none, some (.int _), some (.long _), none, some (.long _), none] rfl ?_
          refine x_lload 153 rfl dX9_light_151 rfl ?_
          refine x_lstore 155 rfl dX9_light_153 (by decide) [some (.ref 60), some (.int _), some (.int _), some (.int _), some (.int _), some (.long _), none, some (.long _), none, some (.int _), some (.long _), none, some (.long _), none] rfl ?_
          refine x_iinc 158 rfl (1) dX9_light_155 rfl (by decide) (by decide) [some (.ref 60), some (.int _), some (.int _), some (.int _), some (.int _), some (.long _), none, some (.long _), none, some (.int _), some (.long _), none, some (.long _), none] rfl ?_
          refine x_goto 63 dX9_light_158 (by decide) ?_
          cases h
          exact x_wk (x_le_s (x_le_s (x_le_s (x_le_s (x_le_s (x_le_s (x_le_n (x_le_s (x_le_n (x_le_s (x_le_n (x_le_n (x_le_n (x_le_n x_le_0)))))))))))))) (hG (_, _, _, _, _) rfl)
        · replace h := x_ifF hc h
          refine x_goto 155 dX9_light_140 (by decide) ?_
          refine x_iinc 158 rfl (1) dX9_light_155 rfl (by decide) (by decide) [some (.ref 60), some (.int _), some (.int _), some (.int _), some (.int _), some (.long _), none, some (.long _), none, some (.int _), some (.long _), none, some (.long _), none] rfl ?_
          refine x_goto 63 dX9_light_158 (by decide) ?_
          cases h
          exact x_wk (x_le_s (x_le_s (x_le_s (x_le_s (x_le_s (x_le_s (x_le_n (x_le_s (x_le_n (x_le_s (x_le_n (x_le_n (x_le_n (x_le_n x_le_0)))))))))))))) (hG (_, _, _, _, _) rfl)
    · replace h := x_ifT hc h
      refine x_goto 155 dX9_light_96 (by decide) ?_
      refine x_iinc 158 rfl (1) dX9_light_155 rfl (by decide) (by decide) [some (.ref 60), some (.int _), some (.int _), some (.int _), some (.int _), some (.long _), none, some (.long _), none, some (.int _), some (.long _), none, none, none] rfl ?_
      refine x_goto 63 dX9_light_158 (by decide) ?_
      cases h
      exact x_wk (x_le_s (x_le_s (x_le_s (x_le_s (x_le_s (x_le_s (x_le_n (x_le_s (x_le_n (x_le_s (x_le_n (x_le_n (x_le_n (x_le_n x_le_0)))))))))))))) (hG (_, _, _, _, _) rfl)
set_option maxHeartbeats 4000000 in
set_option maxRecDepth 100000 in
theorem j_Mo_light_60_J31 {l : Launch} {s0 : State} {a0 : Array Value} {D : va_G} {cA : Nat → ClassId} {sp : Nat → Nat} (E : x_En CL l s0 a0 D cA sp) (v1 : Int32) (v2 : Int32) (y1 : Int32) (σ : xS) {r : Int32} {σ1 : xS} (h : f_Mo_light_60_J31 v1 v2 y1 σ = some (r, σ1)) : zW l s0 D cA sp (zQ s0 D cA sp (some (.int r)) σ1) (x_rm 5 0 0) M_Mo_light 0 0 31 [some (.ref 60), some (.int v1), some (.int v2), none, none, none, none, none, none, none, none, none, none, none] [.int y1, .ref 60] σ := by
  unfold f_Mo_light_60_J31 at h
  try dsimp only at h
  refine x_iconst 32 rfl (v := 1) dX9_light_31 (by decide) ?_
  obtain ⟨⟨q10r, q10s⟩, q10h, h⟩ := x_bind h
  try dsimp only at h
  refine z_callV E [.int _, .int _] [] dX9_light_32 K_RX9_311 ⟨Nat.le_of_ble_eq_true rfl, Nat.le_of_ble_eq_true rfl⟩ sh_60 (by decide) rfl (c_Mo_right_60 E _ _ q10h) rfl rfl (Nat.le_of_ble_eq_true rfl) 35 rfl [.int _] rfl ?_
  refine x_if_ne 38 rfl 40 dX9_light_35 (by decide) (fun hc => ?_) (fun hc => ?_)
  · replace h := x_ifF hc h
    refine x_aload_n 41 rfl 0 dX9_light_40 rfl rfl ?_
    obtain ⟨⟨q11r, q11s⟩, q11h, h⟩ := x_bind h
    try dsimp only at h
    refine z_callV E [] [] dX9_light_41 K_RX9_408 ⟨Nat.le_of_ble_eq_true rfl, Nat.le_of_ble_eq_true rfl⟩ sh_60 (by decide) rfl (c_Mo_goesThrough_60 E  q11h) rfl rfl (Nat.le_of_ble_eq_true rfl) 44 rfl [] rfl ?_
    refine x_aload_n 45 rfl 0 dX9_light_44 rfl rfl ?_
    refine x_getR E dX9_light_45 F_RX9_78 sh_60 rf_60_53 48 rfl ?_
    refine x_iconst 49 rfl (v := 0) dX9_light_48 (by decide) ?_
    refine x_iald E dX9_light_49 sh_79 0 (by decide) (by decide) 50 rfl ?_
    refine x_istore_n 51 rfl 3 dX9_light_50 rfl (by decide) [some (.ref 60), some (.int _), some (.int _), some (.int _), none, none, none, none, none, none, none, none, none, none] rfl ?_
    refine x_iconst 52 rfl (v := -1) dX9_light_51 (by decide) ?_
    refine x_istore 54 rfl dX9_light_52 (by decide) [some (.ref 60), some (.int _), some (.int _), some (.int _), some (.int _), none, none, none, none, none, none, none, none, none] rfl ?_
    refine x_lconst 55 rfl (v := 0) dX9_light_54 (by decide) ?_
    refine x_lstore 57 rfl dX9_light_55 (by decide) [some (.ref 60), some (.int _), some (.int _), some (.int _), some (.int _), some (.long _), none, none, none, none, none, none, none, none] rfl ?_
    refine x_lconst 58 rfl (v := 1) dX9_light_57 (by decide) ?_
    refine x_lstore 60 rfl dX9_light_58 (by decide) [some (.ref 60), some (.int _), some (.int _), some (.int _), some (.int _), some (.long _), none, some (.long _), none, none, none, none, none, none] rfl ?_
    refine x_iconst 61 rfl (v := 0) dX9_light_60 (by decide) ?_
    refine x_istore 63 rfl dX9_light_61 (by decide) [some (.ref 60), some (.int _), some (.int _), some (.int _), some (.int _), some (.long _), none, some (.long _), none, some (.int _), none, none, none, none] rfl ?_
    obtain ⟨b15, b15h, h⟩ := x_bind h
    try dsimp only at h
    refine x_wk (x_le_s (x_le_s (x_le_s (x_le_s (x_le_s (x_le_s (x_le_n (x_le_s (x_le_n (x_le_s (x_le_n (x_le_n (x_le_n (x_le_n x_le_0)))))))))))))) (x_loop (fun a o h hK hG => b_Mo_light_60_L63 (r := r) (σ1 := σ1) E _ _ _ a o h hK hG) _ _ _ b15h ?_)
    refine x_aload_n 162 rfl 0 dX9_light_161 rfl rfl ?_
    refine x_getR E dX9_light_162 F_RX9_78 sh_60 rf_60_53 165 rfl ?_
    refine x_iconst 166 rfl (v := 0) dX9_light_165 (by decide) ?_
    refine x_iload_n 167 rfl 3 dX9_light_166 rfl rfl ?_
    refine x_iast E dX9_light_167 sh_79 0 (by decide) (by decide) 168 rfl ?_
    refine x_iload 170 rfl dX9_light_168 rfl ?_
    cases h
    exact x_iret dX9_light_170 rfl rfl rfl
  · replace h := x_ifT hc h
    refine x_iconst 39 rfl (v := 0) dX9_light_38 (by decide) ?_
    cases h
    exact x_iret dX9_light_39 rfl rfl rfl
set_option maxHeartbeats 4000000 in
set_option maxRecDepth 100000 in
theorem j_Mo_light_60_J30 {l : Launch} {s0 : State} {a0 : Array Value} {D : va_G} {cA : Nat → ClassId} {sp : Nat → Nat} (E : x_En CL l s0 a0 D cA sp) (v1 : Int32) (v2 : Int32) (σ : xS) {r : Int32} {σ1 : xS} (h : f_Mo_light_60_J30 v1 v2 σ = some (r, σ1)) : zW l s0 D cA sp (zQ s0 D cA sp (some (.int r)) σ1) (x_rm 5 0 0) M_Mo_light 0 0 30 [some (.ref 60), some (.int v1), some (.int v2), none, none, none, none, none, none, none, none, none, none, none] [.ref 60] σ := by
  unfold f_Mo_light_60_J30 at h
  try dsimp only at h
  refine x_iconst 31 rfl (v := 0) dX9_light_30 (by decide) ?_
  exact x_wk (x_le_s (x_le_s (x_le_s (x_le_n (x_le_n (x_le_n (x_le_n (x_le_n (x_le_n (x_le_n (x_le_n (x_le_n (x_le_n (x_le_n x_le_0)))))))))))))) (j_Mo_light_60_J31 E _ _ _ _ h)
set_option maxHeartbeats 4000000 in
set_option maxRecDepth 100000 in
theorem c_Mo_light_60 {l : Launch} {s0 : State} {a0 : Array Value} {D : va_G} {cA : Nat → ClassId} {sp : Nat → Nat} (E : x_En CL l s0 a0 D cA sp) (v1 : Int32) (v2 : Int32) {σ : xS} {r : Int32} {σ1 : xS} (h : f_Mo_light_60 v1 v2 σ = some (r, σ1)) : zC l s0 D cA sp 5 M_Mo_light [.ref 60, .int v1, .int v2] σ (some (.int r)) σ1 := by
  unfold f_Mo_light_60 at h
  try dsimp only at h
  refine x_enter [some (.ref 60), some (.int v1), some (.int v2), none, none, none, none, none, none, none, none, none, none, none] rfl (Nat.le_of_ble_eq_true rfl) (by decide +kernel) rfl ?_
  refine x_aload_n 1 rfl 0 dX9_light_0 rfl rfl ?_
  refine x_iconst 2 rfl (v := 0) dX9_light_1 (by decide) ?_
  refine x_putI E dX9_light_2 F_RX9_132 sh_60 5 rfl ?_
  refine x_aload_n 6 rfl 0 dX9_light_5 rfl rfl ?_
  refine x_iload_n 7 rfl 1 dX9_light_6 rfl rfl ?_
  refine x_iconst 8 rfl (v := 0) dX9_light_7 (by decide) ?_
  refine x_bipush 10 rfl (v := 99) dX9_light_8 (by decide) ?_
  obtain ⟨⟨q18r, q18s⟩, q18h, h⟩ := x_bind h
  try dsimp only at h
  refine z_callS E [.int _, .int _, .int _] [.ref 60] dX9_light_10 K_RX9_414 ⟨Nat.le_of_ble_eq_true rfl, Nat.le_of_ble_eq_true rfl⟩ (c_Mo_within E _ _ _ q18h) rfl rfl (Nat.le_of_ble_eq_true rfl) 13 rfl [.int _, .ref 60] rfl ?_
  refine x_if_eq 16 rfl 30 dX9_light_13 (by decide) (fun hc => ?_) (fun hc => ?_)
  · replace h := x_ifT hc h
    exact x_wk (x_le_s (x_le_s (x_le_s (x_le_n (x_le_n (x_le_n (x_le_n (x_le_n (x_le_n (x_le_n (x_le_n (x_le_n (x_le_n (x_le_n x_le_0)))))))))))))) (j_Mo_light_60_J30 E _ _ _ h)
  · replace h := x_ifF hc h
    refine x_iload_n 17 rfl 2 dX9_light_16 rfl rfl ?_
    refine x_iconst 18 rfl (v := 1) dX9_light_17 (by decide) ?_
    refine x_bipush 20 rfl (v := 99) dX9_light_18 (by decide) ?_
    obtain ⟨⟨q19r, q19s⟩, q19h, h⟩ := x_bind h
    try dsimp only at h
    refine z_callS E [.int _, .int _, .int _] [.ref 60] dX9_light_20 K_RX9_414 ⟨Nat.le_of_ble_eq_true rfl, Nat.le_of_ble_eq_true rfl⟩ (c_Mo_within E _ _ _ q19h) rfl rfl (Nat.le_of_ble_eq_true rfl) 23 rfl [.int _, .ref 60] rfl ?_
    refine x_if_eq 26 rfl 30 dX9_light_23 (by decide) (fun hc => ?_) (fun hc => ?_)
    · replace h := x_ifT hc h
      exact x_wk (x_le_s (x_le_s (x_le_s (x_le_n (x_le_n (x_le_n (x_le_n (x_le_n (x_le_n (x_le_n (x_le_n (x_le_n (x_le_n (x_le_n x_le_0)))))))))))))) (j_Mo_light_60_J30 E _ _ _ h)
    · replace h := x_ifF hc h
      refine x_iconst 27 rfl (v := 1) dX9_light_26 (by decide) ?_
      refine x_goto 31 dX9_light_27 (by decide) ?_
      exact x_wk (x_le_s (x_le_s (x_le_s (x_le_n (x_le_n (x_le_n (x_le_n (x_le_n (x_le_n (x_le_n (x_le_n (x_le_n (x_le_n (x_le_n x_le_0)))))))))))))) (j_Mo_light_60_J31 E _ _ _ _ h)
abbrev M_Mo_both : xM := (yX9_both, cX9_both, 4, some .int, [])
theorem dX9_both_0 : decode cX9_both 0 = .ok (.aload_n 0, 1) := by decide +kernel
theorem dX9_both_1 : decode cX9_both 1 = .ok (.iconst 0, 1) := by decide +kernel
theorem dX9_both_2 : decode cX9_both 2 = .ok (.putfield 132, 3) := by decide +kernel
theorem dX9_both_5 : decode cX9_both 5 = .ok (.iconst 0, 1) := by decide +kernel
theorem dX9_both_6 : decode cX9_both 6 = .ok (.istore_n 1, 1) := by decide +kernel
theorem dX9_both_7 : decode cX9_both 7 = .ok (.iconst 0, 1) := by decide +kernel
theorem dX9_both_8 : decode cX9_both 8 = .ok (.istore_n 2, 1) := by decide +kernel
theorem dX9_both_9 : decode cX9_both 9 = .ok (.iload_n 2, 1) := by decide +kernel
theorem dX9_both_10 : decode cX9_both 10 = .ok (.aload_n 0, 1) := by decide +kernel
theorem dX9_both_11 : decode cX9_both 11 = .ok (.invokevirtual 390, 3) := by decide +kernel
theorem dX9_both_14 : decode cX9_both 14 = .ok (.if_icmp .gt 44, 3) := by decide +kernel
theorem dX9_both_17 : decode cX9_both 17 = .ok (.aload_n 0, 1) := by decide +kernel
theorem dX9_both_18 : decode cX9_both 18 = .ok (.aload_n 0, 1) := by decide +kernel
theorem dX9_both_19 : decode cX9_both 19 = .ok (.iload_n 2, 1) := by decide +kernel
theorem dX9_both_20 : decode cX9_both 20 = .ok (.iconst 0, 1) := by decide +kernel
theorem dX9_both_21 : decode cX9_both 21 = .ok (.invokevirtual 381, 3) := by decide +kernel
theorem dX9_both_24 : decode cX9_both 24 = .ok (.invokevirtual 396, 3) := by decide +kernel
theorem dX9_both_27 : decode cX9_both 27 = .ok (.aload_n 0, 1) := by decide +kernel
theorem dX9_both_28 : decode cX9_both 28 = .ok (.aload_n 0, 1) := by decide +kernel
theorem dX9_both_29 : decode cX9_both 29 = .ok (.iload_n 2, 1) := by decide +kernel
theorem dX9_both_30 : decode cX9_both 30 = .ok (.iconst 1, 1) := by decide +kernel
theorem dX9_both_31 : decode cX9_both 31 = .ok (.invokevirtual 381, 3) := by decide +kernel
theorem dX9_both_34 : decode cX9_both 34 = .ok (.invokevirtual 396, 3) := by decide +kernel
theorem dX9_both_37 : decode cX9_both 37 = .ok (.invokestatic 372, 3) := by decide +kernel
theorem dX9_both_40 : decode cX9_both 40 = .ok (.istore_n 3, 1) := by decide +kernel
theorem dX9_both_41 : decode cX9_both 41 = .ok (.iload_n 3, 1) := by decide +kernel
theorem dX9_both_42 : decode cX9_both 42 = .ok (.iload_n 1, 1) := by decide +kernel
theorem dX9_both_43 : decode cX9_both 43 = .ok (.if_icmp .le 7, 3) := by decide +kernel
theorem dX9_both_46 : decode cX9_both 46 = .ok (.iload_n 3, 1) := by decide +kernel
theorem dX9_both_47 : decode cX9_both 47 = .ok (.goto 4, 3) := by decide +kernel
theorem dX9_both_50 : decode cX9_both 50 = .ok (.iload_n 1, 1) := by decide +kernel
theorem dX9_both_51 : decode cX9_both 51 = .ok (.istore_n 1, 1) := by decide +kernel
theorem dX9_both_52 : decode cX9_both 52 = .ok (.iinc 2 1, 3) := by decide +kernel
theorem dX9_both_55 : decode cX9_both 55 = .ok (.goto (-46), 3) := by decide +kernel
theorem dX9_both_58 : decode cX9_both 58 = .ok (.iload_n 1, 1) := by decide +kernel
theorem dX9_both_59 : decode cX9_both 59 = .ok (.iconst 1, 1) := by decide +kernel
theorem dX9_both_60 : decode cX9_both 60 = .ok (.iadd, 1) := by decide +kernel
theorem dX9_both_61 : decode cX9_both 61 = .ok (.iconst 2, 1) := by decide +kernel
theorem dX9_both_62 : decode cX9_both 62 = .ok (.idiv, 1) := by decide +kernel
theorem dX9_both_63 : decode cX9_both 63 = .ok (.ireturn, 1) := by decide +kernel
def f_Mo_both_60_L9  (a : Int32 × Int32 × xS) : Option ((Int32 × Int32 × xS) ⊕ (Int32 × Int32 × xS)) :=
  let v1 := a.1; let v2 := a.2.1; let σ := a.2.2;
  (f_Mo_last_60  σ).bind fun q1 =>
  if q1.1 < v2 then
    some (.inl (v1, v2, q1.2))
  else
    (f_Mo_inchesOf_60 v2 (0 : Int32) q1.2).bind fun q2 =>
    (f_Mo_turnOf_60 q2.1 q2.2).bind fun q3 =>
    (f_Mo_inchesOf_60 v2 (1 : Int32) q3.2).bind fun q4 =>
    (f_Mo_turnOf_60 q4.1 q4.2).bind fun q5 =>
    (f_Mo_off q3.1 q5.1 q5.2).bind fun q6 =>
    let w7 := q6.1
    if w7 ≤ v1 then
      let w8 := v2 + (1 : Int32)
      some (.inr (v1, w8, q6.2))
    else
      let w9 := v2 + (1 : Int32)
      some (.inr (w7, w9, q6.2))
def f_Mo_both_60  (σ : xS) : Option (Int32 × xS) :=
  let σ10 := x_pI σ 60 0 (0 : Int32)
  (x_it (f_Mo_both_60_L9 ) 10000 ((0 : Int32), (0 : Int32), σ10)).bind fun b11 =>
  some (((b11.1 + (1 : Int32)) / (2 : Int32)), b11.2.2)
set_option maxHeartbeats 4000000 in
set_option maxRecDepth 100000 in
theorem b_Mo_both_60_L9 {l : Launch} {s0 : State} {a0 : Array Value} {D : va_G} {cA : Nat → ClassId} {sp : Nat → Nat} (E : x_En CL l s0 a0 D cA sp)  {r : Int32} {σ1 : xS} (a : Int32 × Int32 × xS) (o : (Int32 × Int32 × xS) ⊕ (Int32 × Int32 × xS)) (h : f_Mo_both_60_L9  a = some o) (hK : ∀ b, o = .inl b → zW l s0 D cA sp (zQ s0 D cA sp (some (.int r)) σ1) (x_rm 3 0 0) M_Mo_both 0 0 58 [none, some (.int b.1), none, none] [] b.2.2) (hG : ∀ a', o = .inr a' → zW l s0 D cA sp (zQ s0 D cA sp (some (.int r)) σ1) (x_rm 3 0 0) M_Mo_both 0 0 9 [some (.ref 60), some (.int a'.1), some (.int a'.2.1), none] [] a'.2.2) : zW l s0 D cA sp (zQ s0 D cA sp (some (.int r)) σ1) (x_rm 3 0 0) M_Mo_both 0 0 9 [some (.ref 60), some (.int a.1), some (.int a.2.1), none] [] a.2.2 := by
  obtain ⟨v1, v2, σ⟩ := a
  unfold f_Mo_both_60_L9 at h
  try dsimp only at h ⊢
  refine x_iload_n 10 rfl 2 dX9_both_9 rfl rfl ?_
  refine x_aload_n 11 rfl 0 dX9_both_10 rfl rfl ?_
  obtain ⟨⟨q1r, q1s⟩, q1h, h⟩ := x_bind h
  try dsimp only at h
  refine z_callV E [] [.int _] dX9_both_11 K_RX9_390 ⟨Nat.le_of_ble_eq_true rfl, Nat.le_of_ble_eq_true rfl⟩ sh_60 (by decide) rfl (c_Mo_last_60 E  q1h) rfl rfl (Nat.le_of_ble_eq_true rfl) 14 rfl [.int _, .int _] rfl ?_
  refine x_icmp_gt 17 rfl 58 dX9_both_14 (by decide) (fun hc => ?_) (fun hc => ?_)
  · replace h := x_ifT hc h
    cases h
    exact x_wk (x_le_n (x_le_s (x_le_n (x_le_n x_le_0)))) (hK (_, _, _) rfl)
  · replace h := x_ifF hc h
    refine x_aload_n 18 rfl 0 dX9_both_17 rfl rfl ?_
    refine x_aload_n 19 rfl 0 dX9_both_18 rfl rfl ?_
    refine x_iload_n 20 rfl 2 dX9_both_19 rfl rfl ?_
    refine x_iconst 21 rfl (v := 0) dX9_both_20 (by decide) ?_
    obtain ⟨⟨q2r, q2s⟩, q2h, h⟩ := x_bind h
    try dsimp only at h
    refine z_callV E [.int _, .int _] [.ref 60] dX9_both_21 K_RX9_381 ⟨Nat.le_of_ble_eq_true rfl, Nat.le_of_ble_eq_true rfl⟩ sh_60 (by decide) rfl (c_Mo_inchesOf_60 E _ _ q2h) rfl rfl (Nat.le_of_ble_eq_true rfl) 24 rfl [.int _, .ref 60] rfl ?_
    obtain ⟨⟨q3r, q3s⟩, q3h, h⟩ := x_bind h
    try dsimp only at h
    refine z_callV E [.int _] [] dX9_both_24 K_RX9_396 ⟨Nat.le_of_ble_eq_true rfl, Nat.le_of_ble_eq_true rfl⟩ sh_60 (by decide) rfl (c_Mo_turnOf_60 E _ q3h) rfl rfl (Nat.le_of_ble_eq_true rfl) 27 rfl [.int _] rfl ?_
    refine x_aload_n 28 rfl 0 dX9_both_27 rfl rfl ?_
    refine x_aload_n 29 rfl 0 dX9_both_28 rfl rfl ?_
    refine x_iload_n 30 rfl 2 dX9_both_29 rfl rfl ?_
    refine x_iconst 31 rfl (v := 1) dX9_both_30 (by decide) ?_
    obtain ⟨⟨q4r, q4s⟩, q4h, h⟩ := x_bind h
    try dsimp only at h
    refine z_callV E [.int _, .int _] [.ref 60, .int _] dX9_both_31 K_RX9_381 ⟨Nat.le_of_ble_eq_true rfl, Nat.le_of_ble_eq_true rfl⟩ sh_60 (by decide) rfl (c_Mo_inchesOf_60 E _ _ q4h) rfl rfl (Nat.le_of_ble_eq_true rfl) 34 rfl [.int _, .ref 60, .int _] rfl ?_
    obtain ⟨⟨q5r, q5s⟩, q5h, h⟩ := x_bind h
    try dsimp only at h
    refine z_callV E [.int _] [.int _] dX9_both_34 K_RX9_396 ⟨Nat.le_of_ble_eq_true rfl, Nat.le_of_ble_eq_true rfl⟩ sh_60 (by decide) rfl (c_Mo_turnOf_60 E _ q5h) rfl rfl (Nat.le_of_ble_eq_true rfl) 37 rfl [.int _, .int _] rfl ?_
    obtain ⟨⟨q6r, q6s⟩, q6h, h⟩ := x_bind h
    try dsimp only at h
    refine z_callS E [.int _, .int _] [] dX9_both_37 K_RX9_372 ⟨Nat.le_of_ble_eq_true rfl, Nat.le_of_ble_eq_true rfl⟩ (c_Mo_off E _ _ q6h) rfl rfl (Nat.le_of_ble_eq_true rfl) 40 rfl [.int _] rfl ?_
    refine x_istore_n 41 rfl 3 dX9_both_40 rfl (by decide) [some (.ref 60), some (.int _), some (.int _), some (.int _)] rfl ?_
    refine x_iload_n 42 rfl 3 dX9_both_41 rfl rfl ?_
    refine x_iload_n 43 rfl 1 dX9_both_42 rfl rfl ?_
    refine x_icmp_le 46 rfl 50 dX9_both_43 (by decide) (fun hc => ?_) (fun hc => ?_)
    · replace h := x_ifT hc h
      refine x_iload_n 51 rfl 1 dX9_both_50 rfl rfl ?_
      refine x_istore_n 52 rfl 1 dX9_both_51 rfl (by decide) [some (.ref 60), some (.int _), some (.int _), some (.int _)] rfl ?_
      refine x_iinc 55 rfl (1) dX9_both_52 rfl (by decide) (by decide) [some (.ref 60), some (.int _), some (.int _), some (.int _)] rfl ?_
      refine x_goto 9 dX9_both_55 (by decide) ?_
      cases h
      exact x_wk (x_le_s (x_le_s (x_le_s (x_le_n x_le_0)))) (hG (_, _, _) rfl)
    · replace h := x_ifF hc h
      refine x_iload_n 47 rfl 3 dX9_both_46 rfl rfl ?_
      refine x_goto 51 dX9_both_47 (by decide) ?_
      refine x_istore_n 52 rfl 1 dX9_both_51 rfl (by decide) [some (.ref 60), some (.int _), some (.int _), some (.int _)] rfl ?_
      refine x_iinc 55 rfl (1) dX9_both_52 rfl (by decide) (by decide) [some (.ref 60), some (.int _), some (.int _), some (.int _)] rfl ?_
      refine x_goto 9 dX9_both_55 (by decide) ?_
      cases h
      exact x_wk (x_le_s (x_le_s (x_le_s (x_le_n x_le_0)))) (hG (_, _, _) rfl)
set_option maxHeartbeats 4000000 in
set_option maxRecDepth 100000 in
theorem c_Mo_both_60 {l : Launch} {s0 : State} {a0 : Array Value} {D : va_G} {cA : Nat → ClassId} {sp : Nat → Nat} (E : x_En CL l s0 a0 D cA sp)  {σ : xS} {r : Int32} {σ1 : xS} (h : f_Mo_both_60  σ = some (r, σ1)) : zC l s0 D cA sp 3 M_Mo_both [.ref 60] σ (some (.int r)) σ1 := by
  unfold f_Mo_both_60 at h
  try dsimp only at h
  refine x_enter [some (.ref 60), none, none, none] rfl (Nat.le_of_ble_eq_true rfl) (by decide +kernel) rfl ?_
  refine x_aload_n 1 rfl 0 dX9_both_0 rfl rfl ?_
  refine x_iconst 2 rfl (v := 0) dX9_both_1 (by decide) ?_
  refine x_putI E dX9_both_2 F_RX9_132 sh_60 5 rfl ?_
  refine x_iconst 6 rfl (v := 0) dX9_both_5 (by decide) ?_
  refine x_istore_n 7 rfl 1 dX9_both_6 rfl (by decide) [some (.ref 60), some (.int _), none, none] rfl ?_
  refine x_iconst 8 rfl (v := 0) dX9_both_7 (by decide) ?_
  refine x_istore_n 9 rfl 2 dX9_both_8 rfl (by decide) [some (.ref 60), some (.int _), some (.int _), none] rfl ?_
  obtain ⟨b11, b11h, h⟩ := x_bind h
  try dsimp only at h
  refine x_wk (x_le_s (x_le_s (x_le_s (x_le_n x_le_0)))) (x_loop (fun a o h hK hG => b_Mo_both_60_L9 (r := r) (σ1 := σ1) E  a o h hK hG) _ _ _ b11h ?_)
  refine x_iload_n 59 rfl 1 dX9_both_58 rfl rfl ?_
  refine x_iconst 60 rfl (v := 1) dX9_both_59 (by decide) ?_
  refine x_iadd 61 rfl dX9_both_60 ?_
  refine x_iconst 62 rfl (v := 2) dX9_both_61 (by decide) ?_
  refine x_idiv 63 rfl dX9_both_62 (by decide) ?_
  cases h
  exact x_iret dX9_both_63 rfl rfl rfl
abbrev M_Mo_addsSpot : xM := (yX9_addsSpot, cX9_addsSpot, 4, none, [])
theorem dX9_addsSpot_0 : decode cX9_addsSpot 0 = .ok (.iconst 0, 1) := by decide +kernel
theorem dX9_addsSpot_1 : decode cX9_addsSpot 1 = .ok (.istore_n 2, 1) := by decide +kernel
theorem dX9_addsSpot_2 : decode cX9_addsSpot 2 = .ok (.iconst 0, 1) := by decide +kernel
theorem dX9_addsSpot_3 : decode cX9_addsSpot 3 = .ok (.istore_n 3, 1) := by decide +kernel
theorem dX9_addsSpot_4 : decode cX9_addsSpot 4 = .ok (.iload_n 3, 1) := by decide +kernel
theorem dX9_addsSpot_5 : decode cX9_addsSpot 5 = .ok (.aload_n 0, 1) := by decide +kernel
theorem dX9_addsSpot_6 : decode cX9_addsSpot 6 = .ok (.getfield 466, 3) := by decide +kernel
theorem dX9_addsSpot_9 : decode cX9_addsSpot 9 = .ok (.if_icmp .ge 29, 3) := by decide +kernel
theorem dX9_addsSpot_12 : decode cX9_addsSpot 12 = .ok (.iload_n 2, 1) := by decide +kernel
theorem dX9_addsSpot_13 : decode cX9_addsSpot 13 = .ok (.ifCond .ne 13, 3) := by decide +kernel
theorem dX9_addsSpot_16 : decode cX9_addsSpot 16 = .ok (.aload_n 0, 1) := by decide +kernel
theorem dX9_addsSpot_17 : decode cX9_addsSpot 17 = .ok (.getfield 108, 3) := by decide +kernel
theorem dX9_addsSpot_20 : decode cX9_addsSpot 20 = .ok (.iload_n 3, 1) := by decide +kernel
theorem dX9_addsSpot_21 : decode cX9_addsSpot 21 = .ok (.iaload, 1) := by decide +kernel
theorem dX9_addsSpot_22 : decode cX9_addsSpot 22 = .ok (.iload_n 1, 1) := by decide +kernel
theorem dX9_addsSpot_23 : decode cX9_addsSpot 23 = .ok (.if_icmp .ne 7, 3) := by decide +kernel
theorem dX9_addsSpot_26 : decode cX9_addsSpot 26 = .ok (.iconst 1, 1) := by decide +kernel
theorem dX9_addsSpot_27 : decode cX9_addsSpot 27 = .ok (.goto 4, 3) := by decide +kernel
theorem dX9_addsSpot_30 : decode cX9_addsSpot 30 = .ok (.iconst 0, 1) := by decide +kernel
theorem dX9_addsSpot_31 : decode cX9_addsSpot 31 = .ok (.istore_n 2, 1) := by decide +kernel
theorem dX9_addsSpot_32 : decode cX9_addsSpot 32 = .ok (.iinc 3 1, 3) := by decide +kernel
theorem dX9_addsSpot_35 : decode cX9_addsSpot 35 = .ok (.goto (-31), 3) := by decide +kernel
theorem dX9_addsSpot_38 : decode cX9_addsSpot 38 = .ok (.iload_n 2, 1) := by decide +kernel
theorem dX9_addsSpot_39 : decode cX9_addsSpot 39 = .ok (.ifCond .eq 4, 3) := by decide +kernel
theorem dX9_addsSpot_42 : decode cX9_addsSpot 42 = .ok (.return_, 1) := by decide +kernel
theorem dX9_addsSpot_43 : decode cX9_addsSpot 43 = .ok (.aload_n 0, 1) := by decide +kernel
theorem dX9_addsSpot_44 : decode cX9_addsSpot 44 = .ok (.getfield 108, 3) := by decide +kernel
theorem dX9_addsSpot_47 : decode cX9_addsSpot 47 = .ok (.aload_n 0, 1) := by decide +kernel
theorem dX9_addsSpot_48 : decode cX9_addsSpot 48 = .ok (.getfield 466, 3) := by decide +kernel
theorem dX9_addsSpot_51 : decode cX9_addsSpot 51 = .ok (.iload_n 1, 1) := by decide +kernel
theorem dX9_addsSpot_52 : decode cX9_addsSpot 52 = .ok (.iastore, 1) := by decide +kernel
theorem dX9_addsSpot_53 : decode cX9_addsSpot 53 = .ok (.aload_n 0, 1) := by decide +kernel
theorem dX9_addsSpot_54 : decode cX9_addsSpot 54 = .ok (.dup, 1) := by decide +kernel
theorem dX9_addsSpot_55 : decode cX9_addsSpot 55 = .ok (.getfield 466, 3) := by decide +kernel
theorem dX9_addsSpot_58 : decode cX9_addsSpot 58 = .ok (.iconst 1, 1) := by decide +kernel
theorem dX9_addsSpot_59 : decode cX9_addsSpot 59 = .ok (.iadd, 1) := by decide +kernel
theorem dX9_addsSpot_60 : decode cX9_addsSpot 60 = .ok (.putfield 466, 3) := by decide +kernel
theorem dX9_addsSpot_63 : decode cX9_addsSpot 63 = .ok (.return_, 1) := by decide +kernel
def f_Mo_addsSpot_60_L4 (v1 : Int32) (a : Int32 × Int32 × xS) : Option ((Int32 × Int32 × xS) ⊕ (Int32 × Int32 × xS)) :=
  let v2 := a.1; let v3 := a.2.1; let σ := a.2.2;
  if σ.1 60 69 ≤ v3 then
    some (.inl (v2, v3, σ))
  else
    if v2 = 0 then
      if v3 < 0 ∨ 13 ≤ v3.toNatClampNeg then none else
      if σ.1 88 v3.toNatClampNeg = v1 then
        let w3 := v3 + (1 : Int32)
        some (.inr ((1 : Int32), w3, σ))
      else
        let w2 := v3 + (1 : Int32)
        some (.inr ((0 : Int32), w2, σ))
    else
      let w1 := v3 + (1 : Int32)
      some (.inr ((1 : Int32), w1, σ))
def f_Mo_addsSpot_60 (v1 : Int32) (σ : xS) : Option (Unit × xS) :=
  (x_it (f_Mo_addsSpot_60_L4 v1) 10000 ((0 : Int32), (0 : Int32), σ)).bind fun b4 =>
  if b4.1 = 0 then
    if b4.2.2.1 60 69 < 0 ∨ 13 ≤ (b4.2.2.1 60 69).toNatClampNeg then none else
    let σ5 := x_pI b4.2.2 88 (b4.2.2.1 60 69).toNatClampNeg v1
    let σ6 := x_pI σ5 60 69 (σ5.1 60 69 + (1 : Int32))
    some ((), σ6)
  else
    some ((), b4.2.2)
set_option maxHeartbeats 4000000 in
set_option maxRecDepth 100000 in
theorem b_Mo_addsSpot_60_L4 {l : Launch} {s0 : State} {a0 : Array Value} {D : va_G} {cA : Nat → ClassId} {sp : Nat → Nat} (E : x_En CL l s0 a0 D cA sp) (v1 : Int32) {r : Unit} {σ1 : xS} (a : Int32 × Int32 × xS) (o : (Int32 × Int32 × xS) ⊕ (Int32 × Int32 × xS)) (h : f_Mo_addsSpot_60_L4 v1 a = some o) (hK : ∀ b, o = .inl b → zW l s0 D cA sp (zQ s0 D cA sp none σ1) (x_rm 0 0 0) M_Mo_addsSpot 0 0 38 [some (.ref 60), some (.int v1), some (.int b.1), none] [] b.2.2) (hG : ∀ a', o = .inr a' → zW l s0 D cA sp (zQ s0 D cA sp none σ1) (x_rm 0 0 0) M_Mo_addsSpot 0 0 4 [some (.ref 60), some (.int v1), some (.int a'.1), some (.int a'.2.1)] [] a'.2.2) : zW l s0 D cA sp (zQ s0 D cA sp none σ1) (x_rm 0 0 0) M_Mo_addsSpot 0 0 4 [some (.ref 60), some (.int v1), some (.int a.1), some (.int a.2.1)] [] a.2.2 := by
  obtain ⟨v2, v3, σ⟩ := a
  unfold f_Mo_addsSpot_60_L4 at h
  try dsimp only at h ⊢
  refine x_iload_n 5 rfl 3 dX9_addsSpot_4 rfl rfl ?_
  refine x_aload_n 6 rfl 0 dX9_addsSpot_5 rfl rfl ?_
  refine x_getI E dX9_addsSpot_6 F_RX9_466 sh_60 9 rfl ?_
  refine x_icmp_ge 12 rfl 38 dX9_addsSpot_9 (by decide) (fun hc => ?_) (fun hc => ?_)
  · replace h := x_ifT hc h
    cases h
    exact x_wk (x_le_s (x_le_s (x_le_s (x_le_n x_le_0)))) (hK (_, _, _) rfl)
  · replace h := x_ifF hc h
    refine x_iload_n 13 rfl 2 dX9_addsSpot_12 rfl rfl ?_
    refine x_if_ne 16 rfl 26 dX9_addsSpot_13 (by decide) (fun hc => ?_) (fun hc => ?_)
    · replace h := x_ifF hc h
      refine x_iconst 27 rfl (v := 1) dX9_addsSpot_26 (by decide) ?_
      refine x_goto 31 dX9_addsSpot_27 (by decide) ?_
      refine x_istore_n 32 rfl 2 dX9_addsSpot_31 rfl (by decide) [some (.ref 60), some (.int _), some (.int _), some (.int _)] rfl ?_
      refine x_iinc 35 rfl (1) dX9_addsSpot_32 rfl (by decide) (by decide) [some (.ref 60), some (.int _), some (.int _), some (.int _)] rfl ?_
      refine x_goto 4 dX9_addsSpot_35 (by decide) ?_
      cases h
      exact x_wk (x_le_s (x_le_s (x_le_s (x_le_s x_le_0)))) (hG (_, _, _) rfl)
    · replace h := x_ifT hc h
      refine x_aload_n 17 rfl 0 dX9_addsSpot_16 rfl rfl ?_
      refine x_getR E dX9_addsSpot_17 F_RX9_108 sh_60 rf_60_71 20 rfl ?_
      refine x_iload_n 21 rfl 3 dX9_addsSpot_20 rfl rfl ?_
      obtain ⟨hz, h⟩ := x_ifn h
      refine x_iald E dX9_addsSpot_21 sh_88 _ rfl hz 22 rfl ?_
      refine x_iload_n 23 rfl 1 dX9_addsSpot_22 rfl rfl ?_
      refine x_icmp_ne 26 rfl 30 dX9_addsSpot_23 (by decide) (fun hc => ?_) (fun hc => ?_)
      · replace h := x_ifF hc h
        refine x_iconst 31 rfl (v := 0) dX9_addsSpot_30 (by decide) ?_
        refine x_istore_n 32 rfl 2 dX9_addsSpot_31 rfl (by decide) [some (.ref 60), some (.int _), some (.int _), some (.int _)] rfl ?_
        refine x_iinc 35 rfl (1) dX9_addsSpot_32 rfl (by decide) (by decide) [some (.ref 60), some (.int _), some (.int _), some (.int _)] rfl ?_
        refine x_goto 4 dX9_addsSpot_35 (by decide) ?_
        cases h
        exact x_wk (x_le_s (x_le_s (x_le_s (x_le_s x_le_0)))) (hG (_, _, _) rfl)
      · replace h := x_ifT hc h
        refine x_iconst 27 rfl (v := 1) dX9_addsSpot_26 (by decide) ?_
        refine x_goto 31 dX9_addsSpot_27 (by decide) ?_
        refine x_istore_n 32 rfl 2 dX9_addsSpot_31 rfl (by decide) [some (.ref 60), some (.int _), some (.int _), some (.int _)] rfl ?_
        refine x_iinc 35 rfl (1) dX9_addsSpot_32 rfl (by decide) (by decide) [some (.ref 60), some (.int _), some (.int _), some (.int _)] rfl ?_
        refine x_goto 4 dX9_addsSpot_35 (by decide) ?_
        cases h
        exact x_wk (x_le_s (x_le_s (x_le_s (x_le_s x_le_0)))) (hG (_, _, _) rfl)
set_option maxHeartbeats 4000000 in
set_option maxRecDepth 100000 in
theorem c_Mo_addsSpot_60 {l : Launch} {s0 : State} {a0 : Array Value} {D : va_G} {cA : Nat → ClassId} {sp : Nat → Nat} (E : x_En CL l s0 a0 D cA sp) (v1 : Int32) {σ : xS} {r : Unit} {σ1 : xS} (h : f_Mo_addsSpot_60 v1 σ = some (r, σ1)) : zC l s0 D cA sp 0 M_Mo_addsSpot [.ref 60, .int v1] σ none σ1 := by
  unfold f_Mo_addsSpot_60 at h
  try dsimp only at h
  refine x_enter [some (.ref 60), some (.int v1), none, none] rfl (Nat.le_of_ble_eq_true rfl) (by decide +kernel) rfl ?_
  refine x_iconst 1 rfl (v := 0) dX9_addsSpot_0 (by decide) ?_
  refine x_istore_n 2 rfl 2 dX9_addsSpot_1 rfl (by decide) [some (.ref 60), some (.int _), some (.int _), none] rfl ?_
  refine x_iconst 3 rfl (v := 0) dX9_addsSpot_2 (by decide) ?_
  refine x_istore_n 4 rfl 3 dX9_addsSpot_3 rfl (by decide) [some (.ref 60), some (.int _), some (.int _), some (.int _)] rfl ?_
  obtain ⟨b4, b4h, h⟩ := x_bind h
  try dsimp only at h
  refine x_wk (x_le_s (x_le_s (x_le_s (x_le_s x_le_0)))) (x_loop (fun a o h hK hG => b_Mo_addsSpot_60_L4 (r := r) (σ1 := σ1) E _ a o h hK hG) _ _ _ b4h ?_)
  refine x_iload_n 39 rfl 2 dX9_addsSpot_38 rfl rfl ?_
  refine x_if_eq 42 rfl 43 dX9_addsSpot_39 (by decide) (fun hc => ?_) (fun hc => ?_)
  · replace h := x_ifT hc h
    refine x_aload_n 44 rfl 0 dX9_addsSpot_43 rfl rfl ?_
    refine x_getR E dX9_addsSpot_44 F_RX9_108 sh_60 rf_60_71 47 rfl ?_
    refine x_aload_n 48 rfl 0 dX9_addsSpot_47 rfl rfl ?_
    refine x_getI E dX9_addsSpot_48 F_RX9_466 sh_60 51 rfl ?_
    refine x_iload_n 52 rfl 1 dX9_addsSpot_51 rfl rfl ?_
    obtain ⟨hz, h⟩ := x_ifn h
    refine x_iast E dX9_addsSpot_52 sh_88 _ rfl hz 53 rfl ?_
    refine x_aload_n 54 rfl 0 dX9_addsSpot_53 rfl rfl ?_
    refine x_dup 55 rfl dX9_addsSpot_54 rfl ?_
    refine x_getI E dX9_addsSpot_55 F_RX9_466 sh_60 58 rfl ?_
    refine x_iconst 59 rfl (v := 1) dX9_addsSpot_58 (by decide) ?_
    refine x_iadd 60 rfl dX9_addsSpot_59 ?_
    refine x_putI E dX9_addsSpot_60 F_RX9_466 sh_60 63 rfl ?_
    cases h
    exact x_vret dX9_addsSpot_63 rfl rfl rfl
  · replace h := x_ifF hc h
    cases h
    exact x_vret dX9_addsSpot_42 rfl rfl rfl
abbrev M_Mo_nextNumbers : xM := (yX9_nextNumbers, cX9_nextNumbers, 4, some .boolean, [])
theorem dX9_nextNumbers_0 : decode cX9_nextNumbers 0 = .ok (.iload_n 1, 1) := by decide +kernel
theorem dX9_nextNumbers_1 : decode cX9_nextNumbers 1 = .ok (.iconst 1, 1) := by decide +kernel
theorem dX9_nextNumbers_2 : decode cX9_nextNumbers 2 = .ok (.isub, 1) := by decide +kernel
theorem dX9_nextNumbers_3 : decode cX9_nextNumbers 3 = .ok (.istore_n 2, 1) := by decide +kernel
theorem dX9_nextNumbers_4 : decode cX9_nextNumbers 4 = .ok (.iload_n 2, 1) := by decide +kernel
theorem dX9_nextNumbers_5 : decode cX9_nextNumbers 5 = .ok (.ifCond .lt 26, 3) := by decide +kernel
theorem dX9_nextNumbers_8 : decode cX9_nextNumbers 8 = .ok (.aload_n 0, 1) := by decide +kernel
theorem dX9_nextNumbers_9 : decode cX9_nextNumbers 9 = .ok (.getfield 111, 3) := by decide +kernel
theorem dX9_nextNumbers_12 : decode cX9_nextNumbers 12 = .ok (.iload_n 2, 1) := by decide +kernel
theorem dX9_nextNumbers_13 : decode cX9_nextNumbers 13 = .ok (.iaload, 1) := by decide +kernel
theorem dX9_nextNumbers_14 : decode cX9_nextNumbers 14 = .ok (.aload_n 0, 1) := by decide +kernel
theorem dX9_nextNumbers_15 : decode cX9_nextNumbers 15 = .ok (.getfield 466, 3) := by decide +kernel
theorem dX9_nextNumbers_18 : decode cX9_nextNumbers 18 = .ok (.iload_n 1, 1) := by decide +kernel
theorem dX9_nextNumbers_19 : decode cX9_nextNumbers 19 = .ok (.isub, 1) := by decide +kernel
theorem dX9_nextNumbers_20 : decode cX9_nextNumbers 20 = .ok (.iload_n 2, 1) := by decide +kernel
theorem dX9_nextNumbers_21 : decode cX9_nextNumbers 21 = .ok (.iadd, 1) := by decide +kernel
theorem dX9_nextNumbers_22 : decode cX9_nextNumbers 22 = .ok (.if_icmp .ne 9, 3) := by decide +kernel
theorem dX9_nextNumbers_25 : decode cX9_nextNumbers 25 = .ok (.iinc 2 (-1), 3) := by decide +kernel
theorem dX9_nextNumbers_28 : decode cX9_nextNumbers 28 = .ok (.goto (-24), 3) := by decide +kernel
theorem dX9_nextNumbers_31 : decode cX9_nextNumbers 31 = .ok (.iload_n 2, 1) := by decide +kernel
theorem dX9_nextNumbers_32 : decode cX9_nextNumbers 32 = .ok (.ifCond .ge 5, 3) := by decide +kernel
theorem dX9_nextNumbers_35 : decode cX9_nextNumbers 35 = .ok (.iconst 0, 1) := by decide +kernel
theorem dX9_nextNumbers_36 : decode cX9_nextNumbers 36 = .ok (.ireturn, 1) := by decide +kernel
theorem dX9_nextNumbers_37 : decode cX9_nextNumbers 37 = .ok (.aload_n 0, 1) := by decide +kernel
theorem dX9_nextNumbers_38 : decode cX9_nextNumbers 38 = .ok (.getfield 111, 3) := by decide +kernel
theorem dX9_nextNumbers_41 : decode cX9_nextNumbers 41 = .ok (.iload_n 2, 1) := by decide +kernel
theorem dX9_nextNumbers_42 : decode cX9_nextNumbers 42 = .ok (.dup2, 1) := by decide +kernel
theorem dX9_nextNumbers_43 : decode cX9_nextNumbers 43 = .ok (.iaload, 1) := by decide +kernel
theorem dX9_nextNumbers_44 : decode cX9_nextNumbers 44 = .ok (.iconst 1, 1) := by decide +kernel
theorem dX9_nextNumbers_45 : decode cX9_nextNumbers 45 = .ok (.iadd, 1) := by decide +kernel
theorem dX9_nextNumbers_46 : decode cX9_nextNumbers 46 = .ok (.iastore, 1) := by decide +kernel
theorem dX9_nextNumbers_47 : decode cX9_nextNumbers 47 = .ok (.iload_n 2, 1) := by decide +kernel
theorem dX9_nextNumbers_48 : decode cX9_nextNumbers 48 = .ok (.iconst 1, 1) := by decide +kernel
theorem dX9_nextNumbers_49 : decode cX9_nextNumbers 49 = .ok (.iadd, 1) := by decide +kernel
theorem dX9_nextNumbers_50 : decode cX9_nextNumbers 50 = .ok (.istore_n 3, 1) := by decide +kernel
theorem dX9_nextNumbers_51 : decode cX9_nextNumbers 51 = .ok (.iload_n 3, 1) := by decide +kernel
theorem dX9_nextNumbers_52 : decode cX9_nextNumbers 52 = .ok (.iload_n 1, 1) := by decide +kernel
theorem dX9_nextNumbers_53 : decode cX9_nextNumbers 53 = .ok (.if_icmp .ge 25, 3) := by decide +kernel
theorem dX9_nextNumbers_56 : decode cX9_nextNumbers 56 = .ok (.aload_n 0, 1) := by decide +kernel
theorem dX9_nextNumbers_57 : decode cX9_nextNumbers 57 = .ok (.getfield 111, 3) := by decide +kernel
theorem dX9_nextNumbers_60 : decode cX9_nextNumbers 60 = .ok (.iload_n 3, 1) := by decide +kernel
theorem dX9_nextNumbers_61 : decode cX9_nextNumbers 61 = .ok (.aload_n 0, 1) := by decide +kernel
theorem dX9_nextNumbers_62 : decode cX9_nextNumbers 62 = .ok (.getfield 111, 3) := by decide +kernel
theorem dX9_nextNumbers_65 : decode cX9_nextNumbers 65 = .ok (.iload_n 3, 1) := by decide +kernel
theorem dX9_nextNumbers_66 : decode cX9_nextNumbers 66 = .ok (.iconst 1, 1) := by decide +kernel
theorem dX9_nextNumbers_67 : decode cX9_nextNumbers 67 = .ok (.isub, 1) := by decide +kernel
theorem dX9_nextNumbers_68 : decode cX9_nextNumbers 68 = .ok (.iaload, 1) := by decide +kernel
theorem dX9_nextNumbers_69 : decode cX9_nextNumbers 69 = .ok (.iconst 1, 1) := by decide +kernel
theorem dX9_nextNumbers_70 : decode cX9_nextNumbers 70 = .ok (.iadd, 1) := by decide +kernel
theorem dX9_nextNumbers_71 : decode cX9_nextNumbers 71 = .ok (.iastore, 1) := by decide +kernel
theorem dX9_nextNumbers_72 : decode cX9_nextNumbers 72 = .ok (.iinc 3 1, 3) := by decide +kernel
theorem dX9_nextNumbers_75 : decode cX9_nextNumbers 75 = .ok (.goto (-24), 3) := by decide +kernel
theorem dX9_nextNumbers_78 : decode cX9_nextNumbers 78 = .ok (.iconst 1, 1) := by decide +kernel
theorem dX9_nextNumbers_79 : decode cX9_nextNumbers 79 = .ok (.ireturn, 1) := by decide +kernel
def f_Mo_nextNumbers_60_L4 (v1 : Int32) (a : Int32 × xS) : Option ((Int32 × xS) ⊕ (Int32 × xS)) :=
  let v2 := a.1; let σ := a.2;
  if v2 < 0 then
    some (.inl (v2, σ))
  else
    if v2 < 0 ∨ 3 ≤ v2.toNatClampNeg then none else
    if σ.1 89 v2.toNatClampNeg = ((σ.1 60 69 - v1) + v2) then
      let w1 := v2 + (-1 : Int32)
      some (.inr (w1, σ))
    else
      some (.inl (v2, σ))
def f_Mo_nextNumbers_60_L51 (v1 : Int32) (a : Int32 × xS) : Option ((Int32 × xS) ⊕ (Int32 × xS)) :=
  let v3 := a.1; let σ := a.2;
  if v1 ≤ v3 then
    some (.inl (v3, σ))
  else
    if (v3 - (1 : Int32)) < 0 ∨ 3 ≤ (v3 - (1 : Int32)).toNatClampNeg then none else
    if v3 < 0 ∨ 3 ≤ v3.toNatClampNeg then none else
    let σ2 := x_pI σ 89 v3.toNatClampNeg (σ.1 89 (v3 - (1 : Int32)).toNatClampNeg + (1 : Int32))
    let w3 := v3 + (1 : Int32)
    some (.inr (w3, σ2))
def f_Mo_nextNumbers_60_J31 (v1 : Int32) (v2 : Int32) (σ : xS) : Option (Int32 × xS) :=
  if 0 ≤ v2 then
    if v2 < 0 ∨ 3 ≤ v2.toNatClampNeg then none else
    if v2 < 0 ∨ 3 ≤ v2.toNatClampNeg then none else
    let σ4 := x_pI σ 89 v2.toNatClampNeg (σ.1 89 v2.toNatClampNeg + (1 : Int32))
    let w5 := (v2 + (1 : Int32))
    (x_it (f_Mo_nextNumbers_60_L51 v1) 10000 (w5, σ4)).bind fun b6 =>
    some ((1 : Int32), b6.2)
  else
    some ((0 : Int32), σ)
def f_Mo_nextNumbers_60 (v1 : Int32) (σ : xS) : Option (Int32 × xS) :=
  let w7 := (v1 - (1 : Int32))
  (x_it (f_Mo_nextNumbers_60_L4 v1) 10000 (w7, σ)).bind fun b8 =>
  f_Mo_nextNumbers_60_J31 v1 b8.1 b8.2
set_option maxHeartbeats 4000000 in
set_option maxRecDepth 100000 in
theorem b_Mo_nextNumbers_60_L4 {l : Launch} {s0 : State} {a0 : Array Value} {D : va_G} {cA : Nat → ClassId} {sp : Nat → Nat} (E : x_En CL l s0 a0 D cA sp) (v1 : Int32) {r : Int32} {σ1 : xS} (a : Int32 × xS) (o : (Int32 × xS) ⊕ (Int32 × xS)) (h : f_Mo_nextNumbers_60_L4 v1 a = some o) (hK : ∀ b, o = .inl b → zW l s0 D cA sp (zQ s0 D cA sp (some (.int r)) σ1) (x_rm 0 0 0) M_Mo_nextNumbers 0 0 31 [some (.ref 60), some (.int v1), some (.int b.1), none] [] b.2) (hG : ∀ a', o = .inr a' → zW l s0 D cA sp (zQ s0 D cA sp (some (.int r)) σ1) (x_rm 0 0 0) M_Mo_nextNumbers 0 0 4 [some (.ref 60), some (.int v1), some (.int a'.1), none] [] a'.2) : zW l s0 D cA sp (zQ s0 D cA sp (some (.int r)) σ1) (x_rm 0 0 0) M_Mo_nextNumbers 0 0 4 [some (.ref 60), some (.int v1), some (.int a.1), none] [] a.2 := by
  obtain ⟨v2, σ⟩ := a
  unfold f_Mo_nextNumbers_60_L4 at h
  try dsimp only at h ⊢
  refine x_iload_n 5 rfl 2 dX9_nextNumbers_4 rfl rfl ?_
  refine x_if_lt 8 rfl 31 dX9_nextNumbers_5 (by decide) (fun hc => ?_) (fun hc => ?_)
  · replace h := x_ifT hc h
    cases h
    exact x_wk (x_le_s (x_le_s (x_le_s (x_le_n x_le_0)))) (hK (_, _) rfl)
  · replace h := x_ifF hc h
    refine x_aload_n 9 rfl 0 dX9_nextNumbers_8 rfl rfl ?_
    refine x_getR E dX9_nextNumbers_9 F_RX9_111 sh_60 rf_60_72 12 rfl ?_
    refine x_iload_n 13 rfl 2 dX9_nextNumbers_12 rfl rfl ?_
    obtain ⟨hz, h⟩ := x_ifn h
    refine x_iald E dX9_nextNumbers_13 sh_89 _ rfl hz 14 rfl ?_
    refine x_aload_n 15 rfl 0 dX9_nextNumbers_14 rfl rfl ?_
    refine x_getI E dX9_nextNumbers_15 F_RX9_466 sh_60 18 rfl ?_
    refine x_iload_n 19 rfl 1 dX9_nextNumbers_18 rfl rfl ?_
    refine x_isub 20 rfl dX9_nextNumbers_19 ?_
    refine x_iload_n 21 rfl 2 dX9_nextNumbers_20 rfl rfl ?_
    refine x_iadd 22 rfl dX9_nextNumbers_21 ?_
    refine x_icmp_ne 25 rfl 31 dX9_nextNumbers_22 (by decide) (fun hc => ?_) (fun hc => ?_)
    · replace h := x_ifF hc h
      cases h
      exact x_wk (x_le_s (x_le_s (x_le_s (x_le_n x_le_0)))) (hK (_, _) rfl)
    · replace h := x_ifT hc h
      refine x_iinc 28 rfl (-1) dX9_nextNumbers_25 rfl (by decide) (by decide) [some (.ref 60), some (.int _), some (.int _), none] rfl ?_
      refine x_goto 4 dX9_nextNumbers_28 (by decide) ?_
      cases h
      exact x_wk (x_le_s (x_le_s (x_le_s (x_le_n x_le_0)))) (hG (_, _) rfl)
set_option maxHeartbeats 4000000 in
set_option maxRecDepth 100000 in
theorem b_Mo_nextNumbers_60_L51 {l : Launch} {s0 : State} {a0 : Array Value} {D : va_G} {cA : Nat → ClassId} {sp : Nat → Nat} (E : x_En CL l s0 a0 D cA sp) (v1 : Int32) {r : Int32} {σ1 : xS} (a : Int32 × xS) (o : (Int32 × xS) ⊕ (Int32 × xS)) (h : f_Mo_nextNumbers_60_L51 v1 a = some o) (hK : ∀ b, o = .inl b → zW l s0 D cA sp (zQ s0 D cA sp (some (.int r)) σ1) (x_rm 0 0 0) M_Mo_nextNumbers 0 0 78 [none, none, none, none] [] b.2) (hG : ∀ a', o = .inr a' → zW l s0 D cA sp (zQ s0 D cA sp (some (.int r)) σ1) (x_rm 0 0 0) M_Mo_nextNumbers 0 0 51 [some (.ref 60), some (.int v1), none, some (.int a'.1)] [] a'.2) : zW l s0 D cA sp (zQ s0 D cA sp (some (.int r)) σ1) (x_rm 0 0 0) M_Mo_nextNumbers 0 0 51 [some (.ref 60), some (.int v1), none, some (.int a.1)] [] a.2 := by
  obtain ⟨v3, σ⟩ := a
  unfold f_Mo_nextNumbers_60_L51 at h
  try dsimp only at h ⊢
  refine x_iload_n 52 rfl 3 dX9_nextNumbers_51 rfl rfl ?_
  refine x_iload_n 53 rfl 1 dX9_nextNumbers_52 rfl rfl ?_
  refine x_icmp_ge 56 rfl 78 dX9_nextNumbers_53 (by decide) (fun hc => ?_) (fun hc => ?_)
  · replace h := x_ifT hc h
    cases h
    exact x_wk (x_le_n (x_le_n (x_le_n (x_le_n x_le_0)))) (hK (_, _) rfl)
  · replace h := x_ifF hc h
    refine x_aload_n 57 rfl 0 dX9_nextNumbers_56 rfl rfl ?_
    refine x_getR E dX9_nextNumbers_57 F_RX9_111 sh_60 rf_60_72 60 rfl ?_
    refine x_iload_n 61 rfl 3 dX9_nextNumbers_60 rfl rfl ?_
    refine x_aload_n 62 rfl 0 dX9_nextNumbers_61 rfl rfl ?_
    refine x_getR E dX9_nextNumbers_62 F_RX9_111 sh_60 rf_60_72 65 rfl ?_
    refine x_iload_n 66 rfl 3 dX9_nextNumbers_65 rfl rfl ?_
    refine x_iconst 67 rfl (v := 1) dX9_nextNumbers_66 (by decide) ?_
    refine x_isub 68 rfl dX9_nextNumbers_67 ?_
    obtain ⟨hz, h⟩ := x_ifn h
    refine x_iald E dX9_nextNumbers_68 sh_89 _ rfl hz 69 rfl ?_
    refine x_iconst 70 rfl (v := 1) dX9_nextNumbers_69 (by decide) ?_
    refine x_iadd 71 rfl dX9_nextNumbers_70 ?_
    obtain ⟨hz, h⟩ := x_ifn h
    refine x_iast E dX9_nextNumbers_71 sh_89 _ rfl hz 72 rfl ?_
    refine x_iinc 75 rfl (1) dX9_nextNumbers_72 rfl (by decide) (by decide) [some (.ref 60), some (.int _), none, some (.int _)] rfl ?_
    refine x_goto 51 dX9_nextNumbers_75 (by decide) ?_
    cases h
    exact x_wk (x_le_s (x_le_s (x_le_n (x_le_s x_le_0)))) (hG (_, _) rfl)
set_option maxHeartbeats 4000000 in
set_option maxRecDepth 100000 in
theorem j_Mo_nextNumbers_60_J31 {l : Launch} {s0 : State} {a0 : Array Value} {D : va_G} {cA : Nat → ClassId} {sp : Nat → Nat} (E : x_En CL l s0 a0 D cA sp) (v1 : Int32) (v2 : Int32) (σ : xS) {r : Int32} {σ1 : xS} (h : f_Mo_nextNumbers_60_J31 v1 v2 σ = some (r, σ1)) : zW l s0 D cA sp (zQ s0 D cA sp (some (.int r)) σ1) (x_rm 0 0 0) M_Mo_nextNumbers 0 0 31 [some (.ref 60), some (.int v1), some (.int v2), none] [] σ := by
  unfold f_Mo_nextNumbers_60_J31 at h
  try dsimp only at h
  refine x_iload_n 32 rfl 2 dX9_nextNumbers_31 rfl rfl ?_
  refine x_if_ge 35 rfl 37 dX9_nextNumbers_32 (by decide) (fun hc => ?_) (fun hc => ?_)
  · replace h := x_ifT hc h
    refine x_aload_n 38 rfl 0 dX9_nextNumbers_37 rfl rfl ?_
    refine x_getR E dX9_nextNumbers_38 F_RX9_111 sh_60 rf_60_72 41 rfl ?_
    refine x_iload_n 42 rfl 2 dX9_nextNumbers_41 rfl rfl ?_
    refine x_dup2 43 rfl dX9_nextNumbers_42 rfl rfl ?_
    obtain ⟨hz, h⟩ := x_ifn h
    refine x_iald E dX9_nextNumbers_43 sh_89 _ rfl hz 44 rfl ?_
    refine x_iconst 45 rfl (v := 1) dX9_nextNumbers_44 (by decide) ?_
    refine x_iadd 46 rfl dX9_nextNumbers_45 ?_
    obtain ⟨hz, h⟩ := x_ifn h
    refine x_iast E dX9_nextNumbers_46 sh_89 _ rfl hz 47 rfl ?_
    refine x_iload_n 48 rfl 2 dX9_nextNumbers_47 rfl rfl ?_
    refine x_iconst 49 rfl (v := 1) dX9_nextNumbers_48 (by decide) ?_
    refine x_iadd 50 rfl dX9_nextNumbers_49 ?_
    refine x_istore_n 51 rfl 3 dX9_nextNumbers_50 rfl (by decide) [some (.ref 60), some (.int _), some (.int _), some (.int _)] rfl ?_
    obtain ⟨b6, b6h, h⟩ := x_bind h
    try dsimp only at h
    refine x_wk (x_le_s (x_le_s (x_le_n (x_le_s x_le_0)))) (x_loop (fun a o h hK hG => b_Mo_nextNumbers_60_L51 (r := r) (σ1 := σ1) E _ a o h hK hG) _ _ _ b6h ?_)
    refine x_iconst 79 rfl (v := 1) dX9_nextNumbers_78 (by decide) ?_
    cases h
    exact x_zret (Or.inr rfl) dX9_nextNumbers_79 rfl rfl rfl
  · replace h := x_ifF hc h
    refine x_iconst 36 rfl (v := 0) dX9_nextNumbers_35 (by decide) ?_
    cases h
    exact x_zret (Or.inl rfl) dX9_nextNumbers_36 rfl rfl rfl
set_option maxHeartbeats 4000000 in
set_option maxRecDepth 100000 in
theorem c_Mo_nextNumbers_60 {l : Launch} {s0 : State} {a0 : Array Value} {D : va_G} {cA : Nat → ClassId} {sp : Nat → Nat} (E : x_En CL l s0 a0 D cA sp) (v1 : Int32) {σ : xS} {r : Int32} {σ1 : xS} (h : f_Mo_nextNumbers_60 v1 σ = some (r, σ1)) : zC l s0 D cA sp 0 M_Mo_nextNumbers [.ref 60, .int v1] σ (some (.int r)) σ1 := by
  unfold f_Mo_nextNumbers_60 at h
  try dsimp only at h
  refine x_enter [some (.ref 60), some (.int v1), none, none] rfl (Nat.le_of_ble_eq_true rfl) (by decide +kernel) rfl ?_
  refine x_iload_n 1 rfl 1 dX9_nextNumbers_0 rfl rfl ?_
  refine x_iconst 2 rfl (v := 1) dX9_nextNumbers_1 (by decide) ?_
  refine x_isub 3 rfl dX9_nextNumbers_2 ?_
  refine x_istore_n 4 rfl 2 dX9_nextNumbers_3 rfl (by decide) [some (.ref 60), some (.int _), some (.int _), none] rfl ?_
  obtain ⟨b8, b8h, h⟩ := x_bind h
  try dsimp only at h
  refine x_wk (x_le_s (x_le_s (x_le_s (x_le_n x_le_0)))) (x_loop (fun a o h hK hG => b_Mo_nextNumbers_60_L4 (r := r) (σ1 := σ1) E _ a o h hK hG) _ _ _ b8h ?_)
  exact x_wk (x_le_s (x_le_s (x_le_s (x_le_n x_le_0)))) (j_Mo_nextNumbers_60_J31 E _ _ _ h)
def f_Mo_copies_60_79_80_L2  (a : Int32 × xS) : Option ((Int32 × xS) ⊕ (Int32 × xS)) :=
  let v3 := a.1; let σ := a.2;
  if (Int32.ofNat 12) ≤ v3 then
    some (.inl (v3, σ))
  else
    if v3 < 0 ∨ 12 ≤ v3.toNatClampNeg then none else
    if v3 < 0 ∨ 12 ≤ v3.toNatClampNeg then none else
    let σ1 := x_pI σ 80 v3.toNatClampNeg (σ.1 79 v3.toNatClampNeg)
    let w2 := v3 + (1 : Int32)
    some (.inr (w2, σ1))
def f_Mo_copies_60_79_80  (σ : xS) : Option (Unit × xS) :=
  (x_it (f_Mo_copies_60_79_80_L2 ) 10000 ((0 : Int32), σ)).bind fun b3 =>
  some ((), b3.2)
set_option maxHeartbeats 4000000 in
set_option maxRecDepth 100000 in
theorem b_Mo_copies_60_79_80_L2 {l : Launch} {s0 : State} {a0 : Array Value} {D : va_G} {cA : Nat → ClassId} {sp : Nat → Nat} (E : x_En CL l s0 a0 D cA sp)  {r : Unit} {σ1 : xS} (a : Int32 × xS) (o : (Int32 × xS) ⊕ (Int32 × xS)) (h : f_Mo_copies_60_79_80_L2  a = some o) (hK : ∀ b, o = .inl b → zW l s0 D cA sp (zQ s0 D cA sp none σ1) (x_rm 0 0 0) M_Mo_copies 0 0 20 [none, none, none, none] [] b.2) (hG : ∀ a', o = .inr a' → zW l s0 D cA sp (zQ s0 D cA sp none σ1) (x_rm 0 0 0) M_Mo_copies 0 0 2 [none, some (.ref 79), some (.ref 80), some (.int a'.1)] [] a'.2) : zW l s0 D cA sp (zQ s0 D cA sp none σ1) (x_rm 0 0 0) M_Mo_copies 0 0 2 [none, some (.ref 79), some (.ref 80), some (.int a.1)] [] a.2 := by
  obtain ⟨v3, σ⟩ := a
  unfold f_Mo_copies_60_79_80_L2 at h
  try dsimp only at h ⊢
  refine x_iload_n 3 rfl 3 dX9_copies_2 rfl rfl ?_
  refine x_aload_n 4 rfl 1 dX9_copies_3 rfl rfl ?_
  refine x_alen E dX9_copies_4 sh_79 5 rfl ?_
  refine x_icmp_ge 8 rfl 20 dX9_copies_5 (by decide) (fun hc => ?_) (fun hc => ?_)
  · replace h := x_ifT hc h
    cases h
    exact x_wk (x_le_n (x_le_n (x_le_n (x_le_n x_le_0)))) (hK (_, _) rfl)
  · replace h := x_ifF hc h
    refine x_aload_n 9 rfl 2 dX9_copies_8 rfl rfl ?_
    refine x_iload_n 10 rfl 3 dX9_copies_9 rfl rfl ?_
    refine x_aload_n 11 rfl 1 dX9_copies_10 rfl rfl ?_
    refine x_iload_n 12 rfl 3 dX9_copies_11 rfl rfl ?_
    obtain ⟨hz, h⟩ := x_ifn h
    refine x_iald E dX9_copies_12 sh_79 _ rfl hz 13 rfl ?_
    obtain ⟨hz, h⟩ := x_ifn h
    refine x_iast E dX9_copies_13 sh_80 _ rfl hz 14 rfl ?_
    refine x_iinc 17 rfl (1) dX9_copies_14 rfl (by decide) (by decide) [none, some (.ref 79), some (.ref 80), some (.int _)] rfl ?_
    refine x_goto 2 dX9_copies_17 (by decide) ?_
    cases h
    exact x_wk (x_le_n (x_le_s (x_le_s (x_le_s x_le_0)))) (hG (_, _) rfl)
set_option maxHeartbeats 4000000 in
set_option maxRecDepth 100000 in
theorem c_Mo_copies_60_79_80 {l : Launch} {s0 : State} {a0 : Array Value} {D : va_G} {cA : Nat → ClassId} {sp : Nat → Nat} (E : x_En CL l s0 a0 D cA sp)  {σ : xS} {r : Unit} {σ1 : xS} (h : f_Mo_copies_60_79_80  σ = some (r, σ1)) : zC l s0 D cA sp 0 M_Mo_copies [.ref 60, .ref 79, .ref 80] σ none σ1 := by
  unfold f_Mo_copies_60_79_80 at h
  try dsimp only at h
  refine x_enter [some (.ref 60), some (.ref 79), some (.ref 80), none] rfl (Nat.le_of_ble_eq_true rfl) (by decide +kernel) rfl ?_
  refine x_iconst 1 rfl (v := 0) dX9_copies_0 (by decide) ?_
  refine x_istore_n 2 rfl 3 dX9_copies_1 rfl (by decide) [some (.ref 60), some (.ref 79), some (.ref 80), some (.int _)] rfl ?_
  obtain ⟨b3, b3h, h⟩ := x_bind h
  try dsimp only at h
  refine x_wk (x_le_n (x_le_s (x_le_s (x_le_s x_le_0)))) (x_loop (fun a o h hK hG => b_Mo_copies_60_79_80_L2 (r := r) (σ1 := σ1) E  a o h hK hG) _ _ _ b3h ?_)
  cases h
  exact x_vret dX9_copies_20 rfl rfl rfl
def f_Mo_copies_60_80_79_L2  (a : Int32 × xS) : Option ((Int32 × xS) ⊕ (Int32 × xS)) :=
  let v3 := a.1; let σ := a.2;
  if (Int32.ofNat 12) ≤ v3 then
    some (.inl (v3, σ))
  else
    if v3 < 0 ∨ 12 ≤ v3.toNatClampNeg then none else
    if v3 < 0 ∨ 12 ≤ v3.toNatClampNeg then none else
    let σ1 := x_pI σ 79 v3.toNatClampNeg (σ.1 80 v3.toNatClampNeg)
    let w2 := v3 + (1 : Int32)
    some (.inr (w2, σ1))
def f_Mo_copies_60_80_79  (σ : xS) : Option (Unit × xS) :=
  (x_it (f_Mo_copies_60_80_79_L2 ) 10000 ((0 : Int32), σ)).bind fun b3 =>
  some ((), b3.2)
set_option maxHeartbeats 4000000 in
set_option maxRecDepth 100000 in
theorem b_Mo_copies_60_80_79_L2 {l : Launch} {s0 : State} {a0 : Array Value} {D : va_G} {cA : Nat → ClassId} {sp : Nat → Nat} (E : x_En CL l s0 a0 D cA sp)  {r : Unit} {σ1 : xS} (a : Int32 × xS) (o : (Int32 × xS) ⊕ (Int32 × xS)) (h : f_Mo_copies_60_80_79_L2  a = some o) (hK : ∀ b, o = .inl b → zW l s0 D cA sp (zQ s0 D cA sp none σ1) (x_rm 0 0 0) M_Mo_copies 0 0 20 [none, none, none, none] [] b.2) (hG : ∀ a', o = .inr a' → zW l s0 D cA sp (zQ s0 D cA sp none σ1) (x_rm 0 0 0) M_Mo_copies 0 0 2 [none, some (.ref 80), some (.ref 79), some (.int a'.1)] [] a'.2) : zW l s0 D cA sp (zQ s0 D cA sp none σ1) (x_rm 0 0 0) M_Mo_copies 0 0 2 [none, some (.ref 80), some (.ref 79), some (.int a.1)] [] a.2 := by
  obtain ⟨v3, σ⟩ := a
  unfold f_Mo_copies_60_80_79_L2 at h
  try dsimp only at h ⊢
  refine x_iload_n 3 rfl 3 dX9_copies_2 rfl rfl ?_
  refine x_aload_n 4 rfl 1 dX9_copies_3 rfl rfl ?_
  refine x_alen E dX9_copies_4 sh_80 5 rfl ?_
  refine x_icmp_ge 8 rfl 20 dX9_copies_5 (by decide) (fun hc => ?_) (fun hc => ?_)
  · replace h := x_ifT hc h
    cases h
    exact x_wk (x_le_n (x_le_n (x_le_n (x_le_n x_le_0)))) (hK (_, _) rfl)
  · replace h := x_ifF hc h
    refine x_aload_n 9 rfl 2 dX9_copies_8 rfl rfl ?_
    refine x_iload_n 10 rfl 3 dX9_copies_9 rfl rfl ?_
    refine x_aload_n 11 rfl 1 dX9_copies_10 rfl rfl ?_
    refine x_iload_n 12 rfl 3 dX9_copies_11 rfl rfl ?_
    obtain ⟨hz, h⟩ := x_ifn h
    refine x_iald E dX9_copies_12 sh_80 _ rfl hz 13 rfl ?_
    obtain ⟨hz, h⟩ := x_ifn h
    refine x_iast E dX9_copies_13 sh_79 _ rfl hz 14 rfl ?_
    refine x_iinc 17 rfl (1) dX9_copies_14 rfl (by decide) (by decide) [none, some (.ref 80), some (.ref 79), some (.int _)] rfl ?_
    refine x_goto 2 dX9_copies_17 (by decide) ?_
    cases h
    exact x_wk (x_le_n (x_le_s (x_le_s (x_le_s x_le_0)))) (hG (_, _) rfl)
set_option maxHeartbeats 4000000 in
set_option maxRecDepth 100000 in
theorem c_Mo_copies_60_80_79 {l : Launch} {s0 : State} {a0 : Array Value} {D : va_G} {cA : Nat → ClassId} {sp : Nat → Nat} (E : x_En CL l s0 a0 D cA sp)  {σ : xS} {r : Unit} {σ1 : xS} (h : f_Mo_copies_60_80_79  σ = some (r, σ1)) : zC l s0 D cA sp 0 M_Mo_copies [.ref 60, .ref 80, .ref 79] σ none σ1 := by
  unfold f_Mo_copies_60_80_79 at h
  try dsimp only at h
  refine x_enter [some (.ref 60), some (.ref 80), some (.ref 79), none] rfl (Nat.le_of_ble_eq_true rfl) (by decide +kernel) rfl ?_
  refine x_iconst 1 rfl (v := 0) dX9_copies_0 (by decide) ?_
  refine x_istore_n 2 rfl 3 dX9_copies_1 rfl (by decide) [some (.ref 60), some (.ref 80), some (.ref 79), some (.int _)] rfl ?_
  obtain ⟨b3, b3h, h⟩ := x_bind h
  try dsimp only at h
  refine x_wk (x_le_n (x_le_s (x_le_s (x_le_s x_le_0)))) (x_loop (fun a o h hK hG => b_Mo_copies_60_80_79_L2 (r := r) (σ1 := σ1) E  a o h hK hG) _ _ _ b3h ?_)
  cases h
  exact x_vret dX9_copies_20 rfl rfl rfl
