/-! The reference's methods: functions and contracts. Written by wip/gen/emit.py. -/
abbrev M_Mo_chalk : xM := (yX9_chalk, cX9_chalk, 5, some .int, [])
theorem dX9_chalk_0 : decode cX9_chalk 0 = .ok (.aload_n 0, 1) := by decide +kernel
theorem dX9_chalk_1 : decode cX9_chalk 1 = .ok (.iconst 0, 1) := by decide +kernel
theorem dX9_chalk_2 : decode cX9_chalk 2 = .ok (.putfield 132, 3) := by decide +kernel
theorem dX9_chalk_5 : decode cX9_chalk 5 = .ok (.aload_n 0, 1) := by decide +kernel
theorem dX9_chalk_6 : decode cX9_chalk 6 = .ok (.iload_n 1, 1) := by decide +kernel
theorem dX9_chalk_7 : decode cX9_chalk 7 = .ok (.ifCond .lt 15, 3) := by decide +kernel
theorem dX9_chalk_10 : decode cX9_chalk 10 = .ok (.iload_n 1, 1) := by decide +kernel
theorem dX9_chalk_11 : decode cX9_chalk 11 = .ok (.aload_n 0, 1) := by decide +kernel
theorem dX9_chalk_12 : decode cX9_chalk 12 = .ok (.getfield 330, 3) := by decide +kernel
theorem dX9_chalk_15 : decode cX9_chalk 15 = .ok (.if_icmp .ge 7, 3) := by decide +kernel
theorem dX9_chalk_18 : decode cX9_chalk 18 = .ok (.iconst 1, 1) := by decide +kernel
theorem dX9_chalk_19 : decode cX9_chalk 19 = .ok (.goto 4, 3) := by decide +kernel
theorem dX9_chalk_22 : decode cX9_chalk 22 = .ok (.iconst 0, 1) := by decide +kernel
theorem dX9_chalk_23 : decode cX9_chalk 23 = .ok (.iconst 1, 1) := by decide +kernel
theorem dX9_chalk_24 : decode cX9_chalk 24 = .ok (.invokevirtual 311, 3) := by decide +kernel
theorem dX9_chalk_27 : decode cX9_chalk 27 = .ok (.ifCond .ne 5, 3) := by decide +kernel
theorem dX9_chalk_30 : decode cX9_chalk 30 = .ok (.iconst 0, 1) := by decide +kernel
theorem dX9_chalk_31 : decode cX9_chalk 31 = .ok (.ireturn, 1) := by decide +kernel
theorem dX9_chalk_32 : decode cX9_chalk 32 = .ok (.iconst 0, 1) := by decide +kernel
theorem dX9_chalk_33 : decode cX9_chalk 33 = .ok (.istore_n 3, 1) := by decide +kernel
theorem dX9_chalk_34 : decode cX9_chalk 34 = .ok (.iconst 0, 1) := by decide +kernel
theorem dX9_chalk_35 : decode cX9_chalk 35 = .ok (.istore 4, 2) := by decide +kernel
theorem dX9_chalk_37 : decode cX9_chalk 37 = .ok (.iload 4, 2) := by decide +kernel
theorem dX9_chalk_39 : decode cX9_chalk 39 = .ok (.aload_n 0, 1) := by decide +kernel
theorem dX9_chalk_40 : decode cX9_chalk 40 = .ok (.getfield 330, 3) := by decide +kernel
theorem dX9_chalk_43 : decode cX9_chalk 43 = .ok (.if_icmp .ge 33, 3) := by decide +kernel
theorem dX9_chalk_46 : decode cX9_chalk 46 = .ok (.iload_n 3, 1) := by decide +kernel
theorem dX9_chalk_47 : decode cX9_chalk 47 = .ok (.ifCond .ne 17, 3) := by decide +kernel
theorem dX9_chalk_50 : decode cX9_chalk 50 = .ok (.aload_n 0, 1) := by decide +kernel
theorem dX9_chalk_51 : decode cX9_chalk 51 = .ok (.getfield 78, 3) := by decide +kernel
theorem dX9_chalk_54 : decode cX9_chalk 54 = .ok (.bipush 6, 2) := by decide +kernel
theorem dX9_chalk_56 : decode cX9_chalk 56 = .ok (.iload 4, 2) := by decide +kernel
theorem dX9_chalk_58 : decode cX9_chalk 58 = .ok (.iadd, 1) := by decide +kernel
theorem dX9_chalk_59 : decode cX9_chalk 59 = .ok (.iaload, 1) := by decide +kernel
theorem dX9_chalk_60 : decode cX9_chalk 60 = .ok (.iload_n 2, 1) := by decide +kernel
theorem dX9_chalk_61 : decode cX9_chalk 61 = .ok (.if_icmp .ne 7, 3) := by decide +kernel
theorem dX9_chalk_64 : decode cX9_chalk 64 = .ok (.iconst 1, 1) := by decide +kernel
theorem dX9_chalk_65 : decode cX9_chalk 65 = .ok (.goto 4, 3) := by decide +kernel
theorem dX9_chalk_68 : decode cX9_chalk 68 = .ok (.iconst 0, 1) := by decide +kernel
theorem dX9_chalk_69 : decode cX9_chalk 69 = .ok (.istore_n 3, 1) := by decide +kernel
theorem dX9_chalk_70 : decode cX9_chalk 70 = .ok (.iinc 4 1, 3) := by decide +kernel
theorem dX9_chalk_73 : decode cX9_chalk 73 = .ok (.goto (-36), 3) := by decide +kernel
theorem dX9_chalk_76 : decode cX9_chalk 76 = .ok (.iload_n 3, 1) := by decide +kernel
theorem dX9_chalk_77 : decode cX9_chalk 77 = .ok (.ifCond .ne 15, 3) := by decide +kernel
theorem dX9_chalk_80 : decode cX9_chalk 80 = .ok (.iload_n 2, 1) := by decide +kernel
theorem dX9_chalk_81 : decode cX9_chalk 81 = .ok (.bipush 12, 2) := by decide +kernel
theorem dX9_chalk_83 : decode cX9_chalk 83 = .ok (.sipush 480, 3) := by decide +kernel
theorem dX9_chalk_86 : decode cX9_chalk 86 = .ok (.invokestatic 414, 3) := by decide +kernel
theorem dX9_chalk_89 : decode cX9_chalk 89 = .ok (.ifCond .ne 12, 3) := by decide +kernel
theorem dX9_chalk_92 : decode cX9_chalk 92 = .ok (.aload_n 0, 1) := by decide +kernel
theorem dX9_chalk_93 : decode cX9_chalk 93 = .ok (.iconst 1, 1) := by decide +kernel
theorem dX9_chalk_94 : decode cX9_chalk 94 = .ok (.iconst (-1), 1) := by decide +kernel
theorem dX9_chalk_95 : decode cX9_chalk 95 = .ok (.invokevirtual 442, 3) := by decide +kernel
theorem dX9_chalk_98 : decode cX9_chalk 98 = .ok (.goto 12, 3) := by decide +kernel
theorem dX9_chalk_101 : decode cX9_chalk 101 = .ok (.aload_n 0, 1) := by decide +kernel
theorem dX9_chalk_102 : decode cX9_chalk 102 = .ok (.bipush 6, 2) := by decide +kernel
theorem dX9_chalk_104 : decode cX9_chalk 104 = .ok (.iload_n 1, 1) := by decide +kernel
theorem dX9_chalk_105 : decode cX9_chalk 105 = .ok (.iadd, 1) := by decide +kernel
theorem dX9_chalk_106 : decode cX9_chalk 106 = .ok (.iload_n 2, 1) := by decide +kernel
theorem dX9_chalk_107 : decode cX9_chalk 107 = .ok (.invokevirtual 439, 3) := by decide +kernel
theorem dX9_chalk_110 : decode cX9_chalk 110 = .ok (.ireturn, 1) := by decide +kernel
def f_Mo_chalk_60_L37 (v1 : Int32) (v2 : Int32) (a : Int32 × Int32 × xS) : Option ((Int32 × Int32 × xS) ⊕ (Int32 × Int32 × xS)) :=
  let v3 := a.1; let v4 := a.2.1; let σ := a.2.2;
  if σ.1 60 4 ≤ v4 then
    some (.inl (v3, v4, σ))
  else
    if v3 = 0 then
      if ((6 : Int32) + v4) < 0 ∨ 12 ≤ ((6 : Int32) + v4).toNatClampNeg then none else
      if σ.1 79 ((6 : Int32) + v4).toNatClampNeg = v2 then
        let w3 := v4 + (1 : Int32)
        some (.inr ((1 : Int32), w3, σ))
      else
        let w2 := v4 + (1 : Int32)
        some (.inr ((0 : Int32), w2, σ))
    else
      let w1 := v4 + (1 : Int32)
      some (.inr ((1 : Int32), w1, σ))
def f_Mo_chalk_60_J23 (v1 : Int32) (v2 : Int32) (y1 : Int32) (σ : xS) : Option (Int32 × xS) :=
  (f_Mo_right_60 y1 (1 : Int32) σ).bind fun q4 =>
  if q4.1 = 0 then
    some ((0 : Int32), q4.2)
  else
    (x_it (f_Mo_chalk_60_L37 v1 v2) 10000 ((0 : Int32), (0 : Int32), q4.2)).bind fun b5 =>
    if b5.1 = 0 then
      (f_Mo_within v2 (12 : Int32) (480 : Int32) b5.2.2).bind fun q7 =>
      if q7.1 = 0 then
        (f_Mo_refuses_60 (1 : Int32) (-1 : Int32) q7.2).bind fun q9 =>
        some (q9.1, q9.2)
      else
        (f_Mo_becomes_60 ((6 : Int32) + v1) v2 q7.2).bind fun q8 =>
        some (q8.1, q8.2)
    else
      (f_Mo_refuses_60 (1 : Int32) (-1 : Int32) b5.2.2).bind fun q6 =>
      some (q6.1, q6.2)
def f_Mo_chalk_60_J22 (v1 : Int32) (v2 : Int32) (σ : xS) : Option (Int32 × xS) :=
  f_Mo_chalk_60_J23 v1 v2 (0 : Int32) σ
def f_Mo_chalk_60 (v1 : Int32) (v2 : Int32) (σ : xS) : Option (Int32 × xS) :=
  let σ10 := x_pI σ 60 0 (0 : Int32)
  if v1 < 0 then
    f_Mo_chalk_60_J22 v1 v2 σ10
  else
    if σ10.1 60 4 ≤ v1 then
      f_Mo_chalk_60_J22 v1 v2 σ10
    else
      f_Mo_chalk_60_J23 v1 v2 (1 : Int32) σ10
set_option maxHeartbeats 4000000 in
set_option maxRecDepth 100000 in
theorem b_Mo_chalk_60_L37 {l : Launch} {s0 : State} {a0 : Array Value} {D : va_G} {cA : Nat → ClassId} {sp : Nat → Nat} (E : x_En CL l s0 a0 D cA sp) (v1 : Int32) (v2 : Int32) {r : Int32} {σ1 : xS} (a : Int32 × Int32 × xS) (o : (Int32 × Int32 × xS) ⊕ (Int32 × Int32 × xS)) (h : f_Mo_chalk_60_L37 v1 v2 a = some o) (hK : ∀ b, o = .inl b → zW l s0 D cA sp (zQ s0 D cA sp (some (.int r)) σ1) (x_rm 1 0 0) M_Mo_chalk 0 0 76 [some (.ref 60), some (.int v1), some (.int v2), some (.int b.1), none] [] b.2.2) (hG : ∀ a', o = .inr a' → zW l s0 D cA sp (zQ s0 D cA sp (some (.int r)) σ1) (x_rm 1 0 0) M_Mo_chalk 0 0 37 [some (.ref 60), some (.int v1), some (.int v2), some (.int a'.1), some (.int a'.2.1)] [] a'.2.2) : zW l s0 D cA sp (zQ s0 D cA sp (some (.int r)) σ1) (x_rm 1 0 0) M_Mo_chalk 0 0 37 [some (.ref 60), some (.int v1), some (.int v2), some (.int a.1), some (.int a.2.1)] [] a.2.2 := by
  obtain ⟨v3, v4, σ⟩ := a
  unfold f_Mo_chalk_60_L37 at h
  try dsimp only at h ⊢
  refine x_iload 39 rfl dX9_chalk_37 rfl ?_
  refine x_aload_n 40 rfl 0 dX9_chalk_39 rfl rfl ?_
  refine x_getI E dX9_chalk_40 F_RX9_330 sh_60 43 rfl ?_
  refine x_icmp_ge 46 rfl 76 dX9_chalk_43 (by decide) (fun hc => ?_) (fun hc => ?_)
  · replace h := x_ifT hc h
    cases h
    exact x_wk (x_le_s (x_le_s (x_le_s (x_le_s (x_le_n x_le_0))))) (hK (_, _, _) rfl)
  · replace h := x_ifF hc h
    refine x_iload_n 47 rfl 3 dX9_chalk_46 rfl rfl ?_
    refine x_if_ne 50 rfl 64 dX9_chalk_47 (by decide) (fun hc => ?_) (fun hc => ?_)
    · replace h := x_ifF hc h
      refine x_iconst 65 rfl (v := 1) dX9_chalk_64 (by decide) ?_
      refine x_goto 69 dX9_chalk_65 (by decide) ?_
      refine x_istore_n 70 rfl 3 dX9_chalk_69 rfl (by decide) [some (.ref 60), some (.int _), some (.int _), some (.int _), some (.int _)] rfl ?_
      refine x_iinc 73 rfl (1) dX9_chalk_70 rfl (by decide) (by decide) [some (.ref 60), some (.int _), some (.int _), some (.int _), some (.int _)] rfl ?_
      refine x_goto 37 dX9_chalk_73 (by decide) ?_
      cases h
      exact x_wk (x_le_s (x_le_s (x_le_s (x_le_s (x_le_s x_le_0))))) (hG (_, _, _) rfl)
    · replace h := x_ifT hc h
      refine x_aload_n 51 rfl 0 dX9_chalk_50 rfl rfl ?_
      refine x_getR E dX9_chalk_51 F_RX9_78 sh_60 rf_60_53 54 rfl ?_
      refine x_bipush 56 rfl (v := 6) dX9_chalk_54 (by decide) ?_
      refine x_iload 58 rfl dX9_chalk_56 rfl ?_
      refine x_iadd 59 rfl dX9_chalk_58 ?_
      obtain ⟨hz, h⟩ := x_ifn h
      refine x_iald E dX9_chalk_59 sh_79 _ rfl hz 60 rfl ?_
      refine x_iload_n 61 rfl 2 dX9_chalk_60 rfl rfl ?_
      refine x_icmp_ne 64 rfl 68 dX9_chalk_61 (by decide) (fun hc => ?_) (fun hc => ?_)
      · replace h := x_ifF hc h
        refine x_iconst 69 rfl (v := 0) dX9_chalk_68 (by decide) ?_
        refine x_istore_n 70 rfl 3 dX9_chalk_69 rfl (by decide) [some (.ref 60), some (.int _), some (.int _), some (.int _), some (.int _)] rfl ?_
        refine x_iinc 73 rfl (1) dX9_chalk_70 rfl (by decide) (by decide) [some (.ref 60), some (.int _), some (.int _), some (.int _), some (.int _)] rfl ?_
        refine x_goto 37 dX9_chalk_73 (by decide) ?_
        cases h
        exact x_wk (x_le_s (x_le_s (x_le_s (x_le_s (x_le_s x_le_0))))) (hG (_, _, _) rfl)
      · replace h := x_ifT hc h
        refine x_iconst 65 rfl (v := 1) dX9_chalk_64 (by decide) ?_
        refine x_goto 69 dX9_chalk_65 (by decide) ?_
        refine x_istore_n 70 rfl 3 dX9_chalk_69 rfl (by decide) [some (.ref 60), some (.int _), some (.int _), some (.int _), some (.int _)] rfl ?_
        refine x_iinc 73 rfl (1) dX9_chalk_70 rfl (by decide) (by decide) [some (.ref 60), some (.int _), some (.int _), some (.int _), some (.int _)] rfl ?_
        refine x_goto 37 dX9_chalk_73 (by decide) ?_
        cases h
        exact x_wk (x_le_s (x_le_s (x_le_s (x_le_s (x_le_s x_le_0))))) (hG (_, _, _) rfl)
set_option maxHeartbeats 4000000 in
set_option maxRecDepth 100000 in
theorem j_Mo_chalk_60_J23 {l : Launch} {s0 : State} {a0 : Array Value} {D : va_G} {cA : Nat → ClassId} {sp : Nat → Nat} (E : x_En CL l s0 a0 D cA sp) (v1 : Int32) (v2 : Int32) (y1 : Int32) (σ : xS) {r : Int32} {σ1 : xS} (h : f_Mo_chalk_60_J23 v1 v2 y1 σ = some (r, σ1)) : zW l s0 D cA sp (zQ s0 D cA sp (some (.int r)) σ1) (x_rm 1 0 0) M_Mo_chalk 0 0 23 [some (.ref 60), some (.int v1), some (.int v2), none, none] [.int y1, .ref 60] σ := by
  unfold f_Mo_chalk_60_J23 at h
  try dsimp only at h
  refine x_iconst 24 rfl (v := 1) dX9_chalk_23 (by decide) ?_
  obtain ⟨⟨q4r, q4s⟩, q4h, h⟩ := x_bind h
  try dsimp only at h
  refine z_callV E [.int _, .int _] [] dX9_chalk_24 K_RX9_311 ⟨Nat.le_of_ble_eq_true rfl, Nat.le_of_ble_eq_true rfl⟩ sh_60 (by decide) rfl (c_Mo_right_60 E _ _ q4h) rfl rfl (Nat.le_of_ble_eq_true rfl) 27 rfl [.int _] rfl ?_
  refine x_if_ne 30 rfl 32 dX9_chalk_27 (by decide) (fun hc => ?_) (fun hc => ?_)
  · replace h := x_ifF hc h
    refine x_iconst 33 rfl (v := 0) dX9_chalk_32 (by decide) ?_
    refine x_istore_n 34 rfl 3 dX9_chalk_33 rfl (by decide) [some (.ref 60), some (.int _), some (.int _), some (.int _), none] rfl ?_
    refine x_iconst 35 rfl (v := 0) dX9_chalk_34 (by decide) ?_
    refine x_istore 37 rfl dX9_chalk_35 (by decide) [some (.ref 60), some (.int _), some (.int _), some (.int _), some (.int _)] rfl ?_
    obtain ⟨b5, b5h, h⟩ := x_bind h
    try dsimp only at h
    refine x_wk (x_le_s (x_le_s (x_le_s (x_le_s (x_le_s x_le_0))))) (x_loop (fun a o h hK hG => b_Mo_chalk_60_L37 (r := r) (σ1 := σ1) E _ _ a o h hK hG) _ _ _ b5h ?_)
    refine x_iload_n 77 rfl 3 dX9_chalk_76 rfl rfl ?_
    refine x_if_ne 80 rfl 92 dX9_chalk_77 (by decide) (fun hc => ?_) (fun hc => ?_)
    · replace h := x_ifF hc h
      refine x_aload_n 93 rfl 0 dX9_chalk_92 rfl rfl ?_
      refine x_iconst 94 rfl (v := 1) dX9_chalk_93 (by decide) ?_
      refine x_iconst 95 rfl (v := -1) dX9_chalk_94 (by decide) ?_
      obtain ⟨⟨q6r, q6s⟩, q6h, h⟩ := x_bind h
      try dsimp only at h
      refine z_callV E [.int _, .int _] [] dX9_chalk_95 K_RX9_442 ⟨Nat.le_of_ble_eq_true rfl, Nat.le_of_ble_eq_true rfl⟩ sh_60 (by decide) rfl (c_Mo_refuses_60 E _ _ q6h) rfl rfl (Nat.le_of_ble_eq_true rfl) 98 rfl [.int _] rfl ?_
      refine x_goto 110 dX9_chalk_98 (by decide) ?_
      cases h
      exact x_iret dX9_chalk_110 rfl rfl rfl
    · replace h := x_ifT hc h
      refine x_iload_n 81 rfl 2 dX9_chalk_80 rfl rfl ?_
      refine x_bipush 83 rfl (v := 12) dX9_chalk_81 (by decide) ?_
      refine x_sipush 86 rfl (v := 480) dX9_chalk_83 (by decide) ?_
      obtain ⟨⟨q7r, q7s⟩, q7h, h⟩ := x_bind h
      try dsimp only at h
      refine z_callS E [.int _, .int _, .int _] [] dX9_chalk_86 K_RX9_414 ⟨Nat.le_of_ble_eq_true rfl, Nat.le_of_ble_eq_true rfl⟩ (c_Mo_within E _ _ _ q7h) rfl rfl (Nat.le_of_ble_eq_true rfl) 89 rfl [.int _] rfl ?_
      refine x_if_ne 92 rfl 101 dX9_chalk_89 (by decide) (fun hc => ?_) (fun hc => ?_)
      · replace h := x_ifF hc h
        refine x_aload_n 102 rfl 0 dX9_chalk_101 rfl rfl ?_
        refine x_bipush 104 rfl (v := 6) dX9_chalk_102 (by decide) ?_
        refine x_iload_n 105 rfl 1 dX9_chalk_104 rfl rfl ?_
        refine x_iadd 106 rfl dX9_chalk_105 ?_
        refine x_iload_n 107 rfl 2 dX9_chalk_106 rfl rfl ?_
        obtain ⟨⟨q8r, q8s⟩, q8h, h⟩ := x_bind h
        try dsimp only at h
        refine z_callV E [.int _, .int _] [] dX9_chalk_107 K_RX9_439 ⟨Nat.le_of_ble_eq_true rfl, Nat.le_of_ble_eq_true rfl⟩ sh_60 (by decide) rfl (c_Mo_becomes_60 E _ _ q8h) rfl rfl (Nat.le_of_ble_eq_true rfl) 110 rfl [.int _] rfl ?_
        cases h
        exact x_iret dX9_chalk_110 rfl rfl rfl
      · replace h := x_ifT hc h
        refine x_aload_n 93 rfl 0 dX9_chalk_92 rfl rfl ?_
        refine x_iconst 94 rfl (v := 1) dX9_chalk_93 (by decide) ?_
        refine x_iconst 95 rfl (v := -1) dX9_chalk_94 (by decide) ?_
        obtain ⟨⟨q9r, q9s⟩, q9h, h⟩ := x_bind h
        try dsimp only at h
        refine z_callV E [.int _, .int _] [] dX9_chalk_95 K_RX9_442 ⟨Nat.le_of_ble_eq_true rfl, Nat.le_of_ble_eq_true rfl⟩ sh_60 (by decide) rfl (c_Mo_refuses_60 E _ _ q9h) rfl rfl (Nat.le_of_ble_eq_true rfl) 98 rfl [.int _] rfl ?_
        refine x_goto 110 dX9_chalk_98 (by decide) ?_
        cases h
        exact x_iret dX9_chalk_110 rfl rfl rfl
  · replace h := x_ifT hc h
    refine x_iconst 31 rfl (v := 0) dX9_chalk_30 (by decide) ?_
    cases h
    exact x_iret dX9_chalk_31 rfl rfl rfl
set_option maxHeartbeats 4000000 in
set_option maxRecDepth 100000 in
theorem j_Mo_chalk_60_J22 {l : Launch} {s0 : State} {a0 : Array Value} {D : va_G} {cA : Nat → ClassId} {sp : Nat → Nat} (E : x_En CL l s0 a0 D cA sp) (v1 : Int32) (v2 : Int32) (σ : xS) {r : Int32} {σ1 : xS} (h : f_Mo_chalk_60_J22 v1 v2 σ = some (r, σ1)) : zW l s0 D cA sp (zQ s0 D cA sp (some (.int r)) σ1) (x_rm 1 0 0) M_Mo_chalk 0 0 22 [some (.ref 60), some (.int v1), some (.int v2), none, none] [.ref 60] σ := by
  unfold f_Mo_chalk_60_J22 at h
  try dsimp only at h
  refine x_iconst 23 rfl (v := 0) dX9_chalk_22 (by decide) ?_
  exact x_wk (x_le_s (x_le_s (x_le_s (x_le_n (x_le_n x_le_0))))) (j_Mo_chalk_60_J23 E _ _ _ _ h)
set_option maxHeartbeats 4000000 in
set_option maxRecDepth 100000 in
theorem c_Mo_chalk_60 {l : Launch} {s0 : State} {a0 : Array Value} {D : va_G} {cA : Nat → ClassId} {sp : Nat → Nat} (E : x_En CL l s0 a0 D cA sp) (v1 : Int32) (v2 : Int32) {σ : xS} {r : Int32} {σ1 : xS} (h : f_Mo_chalk_60 v1 v2 σ = some (r, σ1)) : zC l s0 D cA sp 1 M_Mo_chalk [.ref 60, .int v1, .int v2] σ (some (.int r)) σ1 := by
  unfold f_Mo_chalk_60 at h
  try dsimp only at h
  refine x_enter [some (.ref 60), some (.int v1), some (.int v2), none, none] rfl (Nat.le_of_ble_eq_true rfl) (by decide +kernel) rfl ?_
  refine x_aload_n 1 rfl 0 dX9_chalk_0 rfl rfl ?_
  refine x_iconst 2 rfl (v := 0) dX9_chalk_1 (by decide) ?_
  refine x_putI E dX9_chalk_2 F_RX9_132 sh_60 5 rfl ?_
  refine x_aload_n 6 rfl 0 dX9_chalk_5 rfl rfl ?_
  refine x_iload_n 7 rfl 1 dX9_chalk_6 rfl rfl ?_
  refine x_if_lt 10 rfl 22 dX9_chalk_7 (by decide) (fun hc => ?_) (fun hc => ?_)
  · replace h := x_ifT hc h
    exact x_wk (x_le_s (x_le_s (x_le_s (x_le_n (x_le_n x_le_0))))) (j_Mo_chalk_60_J22 E _ _ _ h)
  · replace h := x_ifF hc h
    refine x_iload_n 11 rfl 1 dX9_chalk_10 rfl rfl ?_
    refine x_aload_n 12 rfl 0 dX9_chalk_11 rfl rfl ?_
    refine x_getI E dX9_chalk_12 F_RX9_330 sh_60 15 rfl ?_
    refine x_icmp_ge 18 rfl 22 dX9_chalk_15 (by decide) (fun hc => ?_) (fun hc => ?_)
    · replace h := x_ifT hc h
      exact x_wk (x_le_s (x_le_s (x_le_s (x_le_n (x_le_n x_le_0))))) (j_Mo_chalk_60_J22 E _ _ _ h)
    · replace h := x_ifF hc h
      refine x_iconst 19 rfl (v := 1) dX9_chalk_18 (by decide) ?_
      refine x_goto 23 dX9_chalk_19 (by decide) ?_
      exact x_wk (x_le_s (x_le_s (x_le_s (x_le_n (x_le_n x_le_0))))) (j_Mo_chalk_60_J23 E _ _ _ _ h)
theorem K_RX9_445 : x_KV RX9 445 M_Mo_takesSharp 0 := ⟨⟨(List.mem_append_right _ (List.mem_of_getElem? (i := 1786) (by decide +kernel))), (List.mem_append_right _ (List.mem_of_getElem? (i := 1789) (by decide +kernel))), (List.mem_append_right _ (List.mem_of_getElem? (i := 9) (by decide +kernel))), ⟨by decide +kernel, by decide +kernel⟩, by decide +kernel⟩, (List.mem_append_right _ (List.mem_of_getElem? (i := 1788) (by decide +kernel))), (List.mem_append_left _ (List.mem_of_getElem? (i := 99) (by decide +kernel)))⟩
abbrev M_Mo_best : xM := (yX9_best, cX9_best, 9, some .int, [])
theorem dX9_best_0 : decode cX9_best 0 = .ok (.aload_n 0, 1) := by decide +kernel
theorem dX9_best_1 : decode cX9_best 1 = .ok (.iconst 0, 1) := by decide +kernel
theorem dX9_best_2 : decode cX9_best 2 = .ok (.putfield 132, 3) := by decide +kernel
theorem dX9_best_5 : decode cX9_best 5 = .ok (.aload_n 0, 1) := by decide +kernel
theorem dX9_best_6 : decode cX9_best 6 = .ok (.iload_n 1, 1) := by decide +kernel
theorem dX9_best_7 : decode cX9_best 7 = .ok (.iconst 3, 1) := by decide +kernel
theorem dX9_best_8 : decode cX9_best 8 = .ok (.invokevirtual 421, 3) := by decide +kernel
theorem dX9_best_11 : decode cX9_best 11 = .ok (.ifCond .ne 5, 3) := by decide +kernel
theorem dX9_best_14 : decode cX9_best 14 = .ok (.iconst 0, 1) := by decide +kernel
theorem dX9_best_15 : decode cX9_best 15 = .ok (.ireturn, 1) := by decide +kernel
theorem dX9_best_16 : decode cX9_best 16 = .ok (.aload_n 0, 1) := by decide +kernel
theorem dX9_best_17 : decode cX9_best 17 = .ok (.getfield 78, 3) := by decide +kernel
theorem dX9_best_20 : decode cX9_best 20 = .ok (.iconst 5, 1) := by decide +kernel
theorem dX9_best_21 : decode cX9_best 21 = .ok (.iaload, 1) := by decide +kernel
theorem dX9_best_22 : decode cX9_best 22 = .ok (.istore_n 2, 1) := by decide +kernel
theorem dX9_best_23 : decode cX9_best 23 = .ok (.iconst (-1), 1) := by decide +kernel
theorem dX9_best_24 : decode cX9_best 24 = .ok (.istore_n 3, 1) := by decide +kernel
theorem dX9_best_25 : decode cX9_best 25 = .ok (.iconst (-1), 1) := by decide +kernel
theorem dX9_best_26 : decode cX9_best 26 = .ok (.istore 4, 2) := by decide +kernel
theorem dX9_best_28 : decode cX9_best 28 = .ok (.iconst (-1), 1) := by decide +kernel
theorem dX9_best_29 : decode cX9_best 29 = .ok (.istore 5, 2) := by decide +kernel
theorem dX9_best_31 : decode cX9_best 31 = .ok (.iconst (-1), 1) := by decide +kernel
theorem dX9_best_32 : decode cX9_best 32 = .ok (.istore 6, 2) := by decide +kernel
theorem dX9_best_34 : decode cX9_best 34 = .ok (.iconst 0, 1) := by decide +kernel
theorem dX9_best_35 : decode cX9_best 35 = .ok (.istore 7, 2) := by decide +kernel
theorem dX9_best_37 : decode cX9_best 37 = .ok (.iload 7, 2) := by decide +kernel
theorem dX9_best_39 : decode cX9_best 39 = .ok (.aload_n 0, 1) := by decide +kernel
theorem dX9_best_40 : decode cX9_best 40 = .ok (.getfield 333, 3) := by decide +kernel
theorem dX9_best_43 : decode cX9_best 43 = .ok (.if_icmp .ge 67, 3) := by decide +kernel
theorem dX9_best_46 : decode cX9_best 46 = .ok (.aload_n 0, 1) := by decide +kernel
theorem dX9_best_47 : decode cX9_best 47 = .ok (.getfield 78, 3) := by decide +kernel
theorem dX9_best_50 : decode cX9_best 50 = .ok (.iconst 5, 1) := by decide +kernel
theorem dX9_best_51 : decode cX9_best 51 = .ok (.iload 7, 2) := by decide +kernel
theorem dX9_best_53 : decode cX9_best 53 = .ok (.iastore, 1) := by decide +kernel
theorem dX9_best_54 : decode cX9_best 54 = .ok (.aload_n 0, 1) := by decide +kernel
theorem dX9_best_55 : decode cX9_best 55 = .ok (.invokevirtual 445, 3) := by decide +kernel
theorem dX9_best_58 : decode cX9_best 58 = .ok (.istore 8, 2) := by decide +kernel
theorem dX9_best_60 : decode cX9_best 60 = .ok (.iload_n 3, 1) := by decide +kernel
theorem dX9_best_61 : decode cX9_best 61 = .ok (.iconst (-1), 1) := by decide +kernel
theorem dX9_best_62 : decode cX9_best 62 = .ok (.if_icmp .eq 10, 3) := by decide +kernel
theorem dX9_best_65 : decode cX9_best 65 = .ok (.iload 8, 2) := by decide +kernel
theorem dX9_best_67 : decode cX9_best 67 = .ok (.iload 4, 2) := by decide +kernel
theorem dX9_best_69 : decode cX9_best 69 = .ok (.if_icmp .le 10, 3) := by decide +kernel
theorem dX9_best_72 : decode cX9_best 72 = .ok (.iload 7, 2) := by decide +kernel
theorem dX9_best_74 : decode cX9_best 74 = .ok (.istore_n 3, 1) := by decide +kernel
theorem dX9_best_75 : decode cX9_best 75 = .ok (.iload 8, 2) := by decide +kernel
theorem dX9_best_77 : decode cX9_best 77 = .ok (.istore 4, 2) := by decide +kernel
theorem dX9_best_79 : decode cX9_best 79 = .ok (.iload 5, 2) := by decide +kernel
theorem dX9_best_81 : decode cX9_best 81 = .ok (.iconst (-1), 1) := by decide +kernel
theorem dX9_best_82 : decode cX9_best 82 = .ok (.if_icmp .eq 12, 3) := by decide +kernel
theorem dX9_best_85 : decode cX9_best 85 = .ok (.aload_n 0, 1) := by decide +kernel
theorem dX9_best_86 : decode cX9_best 86 = .ok (.invokevirtual 427, 3) := by decide +kernel
theorem dX9_best_89 : decode cX9_best 89 = .ok (.iload 6, 2) := by decide +kernel
theorem dX9_best_91 : decode cX9_best 91 = .ok (.if_icmp .ge 13, 3) := by decide +kernel
theorem dX9_best_94 : decode cX9_best 94 = .ok (.iload 7, 2) := by decide +kernel
theorem dX9_best_96 : decode cX9_best 96 = .ok (.istore 5, 2) := by decide +kernel
theorem dX9_best_98 : decode cX9_best 98 = .ok (.aload_n 0, 1) := by decide +kernel
theorem dX9_best_99 : decode cX9_best 99 = .ok (.invokevirtual 427, 3) := by decide +kernel
theorem dX9_best_102 : decode cX9_best 102 = .ok (.istore 6, 2) := by decide +kernel
theorem dX9_best_104 : decode cX9_best 104 = .ok (.iinc 7 1, 3) := by decide +kernel
theorem dX9_best_107 : decode cX9_best 107 = .ok (.goto (-70), 3) := by decide +kernel
theorem dX9_best_110 : decode cX9_best 110 = .ok (.aload_n 0, 1) := by decide +kernel
theorem dX9_best_111 : decode cX9_best 111 = .ok (.getfield 78, 3) := by decide +kernel
theorem dX9_best_114 : decode cX9_best 114 = .ok (.iconst 5, 1) := by decide +kernel
theorem dX9_best_115 : decode cX9_best 115 = .ok (.iload_n 2, 1) := by decide +kernel
theorem dX9_best_116 : decode cX9_best 116 = .ok (.iastore, 1) := by decide +kernel
theorem dX9_best_117 : decode cX9_best 117 = .ok (.iload_n 1, 1) := by decide +kernel
theorem dX9_best_118 : decode cX9_best 118 = .ok (.ifCond .ne 7, 3) := by decide +kernel
theorem dX9_best_121 : decode cX9_best 121 = .ok (.iload_n 3, 1) := by decide +kernel
theorem dX9_best_122 : decode cX9_best 122 = .ok (.goto 25, 3) := by decide +kernel
theorem dX9_best_125 : decode cX9_best 125 = .ok (.iload_n 1, 1) := by decide +kernel
theorem dX9_best_126 : decode cX9_best 126 = .ok (.iconst 1, 1) := by decide +kernel
theorem dX9_best_127 : decode cX9_best 127 = .ok (.if_icmp .ne 8, 3) := by decide +kernel
theorem dX9_best_130 : decode cX9_best 130 = .ok (.iload 4, 2) := by decide +kernel
theorem dX9_best_132 : decode cX9_best 132 = .ok (.goto 15, 3) := by decide +kernel
theorem dX9_best_135 : decode cX9_best 135 = .ok (.iload_n 1, 1) := by decide +kernel
theorem dX9_best_136 : decode cX9_best 136 = .ok (.iconst 2, 1) := by decide +kernel
theorem dX9_best_137 : decode cX9_best 137 = .ok (.if_icmp .ne 8, 3) := by decide +kernel
theorem dX9_best_140 : decode cX9_best 140 = .ok (.iload 5, 2) := by decide +kernel
theorem dX9_best_142 : decode cX9_best 142 = .ok (.goto 5, 3) := by decide +kernel
theorem dX9_best_145 : decode cX9_best 145 = .ok (.iload 6, 2) := by decide +kernel
theorem dX9_best_147 : decode cX9_best 147 = .ok (.ireturn, 1) := by decide +kernel
def f_Mo_best_60_J79 (v1 : Int32) (v2 : Int32) (v3 : Int32) (v4 : Int32) (v5 : Int32) (v6 : Int32) (v7 : Int32) (σ : xS) : Option ((Int32 × Int32 × Int32 × Int32 × Int32 × xS) ⊕ (Int32 × Int32 × Int32 × Int32 × Int32 × xS)) :=
  if v5 = (-1 : Int32) then
    (f_Mo_mostOff_60  σ).bind fun q1 =>
    let w2 := q1.1
    let w3 := v7 + (1 : Int32)
    some (.inr (v3, v4, v7, w2, w3, q1.2))
  else
    (f_Mo_mostOff_60  σ).bind fun q4 =>
    if v6 ≤ q4.1 then
      let w5 := v7 + (1 : Int32)
      some (.inr (v3, v4, v5, v6, w5, q4.2))
    else
      (f_Mo_mostOff_60  q4.2).bind fun q6 =>
      let w7 := q6.1
      let w8 := v7 + (1 : Int32)
      some (.inr (v3, v4, v7, w7, w8, q6.2))
def f_Mo_best_60_J72 (v1 : Int32) (v2 : Int32) (v5 : Int32) (v6 : Int32) (v7 : Int32) (v8 : Int32) (σ : xS) : Option ((Int32 × Int32 × Int32 × Int32 × Int32 × xS) ⊕ (Int32 × Int32 × Int32 × Int32 × Int32 × xS)) :=
  f_Mo_best_60_J79 v1 v2 v7 v8 v5 v6 v7 σ
def f_Mo_best_60_L37 (v1 : Int32) (v2 : Int32) (a : Int32 × Int32 × Int32 × Int32 × Int32 × xS) : Option ((Int32 × Int32 × Int32 × Int32 × Int32 × xS) ⊕ (Int32 × Int32 × Int32 × Int32 × Int32 × xS)) :=
  let v3 := a.1; let v4 := a.2.1; let v5 := a.2.2.1; let v6 := a.2.2.2.1; let v7 := a.2.2.2.2.1; let σ := a.2.2.2.2.2;
  if σ.1 60 5 ≤ v7 then
    some (.inl (v3, v4, v5, v6, v7, σ))
  else
    let σ9 := x_pI σ 79 5 v7
    (f_Mo_takesSharp_60  σ9).bind fun q10 =>
    let w11 := q10.1
    if v3 = (-1 : Int32) then
      f_Mo_best_60_J72 v1 v2 v5 v6 v7 w11 q10.2
    else
      if w11 ≤ v4 then
        f_Mo_best_60_J79 v1 v2 v3 v4 v5 v6 v7 q10.2
      else
        f_Mo_best_60_J72 v1 v2 v5 v6 v7 w11 q10.2
def f_Mo_best_60 (v1 : Int32) (σ : xS) : Option (Int32 × xS) :=
  let σ12 := x_pI σ 60 0 (0 : Int32)
  (f_Mo_isWhat_60 v1 (3 : Int32) σ12).bind fun q13 =>
  if q13.1 = 0 then
    some ((0 : Int32), q13.2)
  else
    let w14 := q13.2.1 79 5
    (x_it (f_Mo_best_60_L37 v1 w14) 10000 ((-1 : Int32), (-1 : Int32), (-1 : Int32), (-1 : Int32), (0 : Int32), q13.2)).bind fun b15 =>
    let σ16 := x_pI b15.2.2.2.2.2 79 5 w14
    if v1 = 0 then
      some (b15.1, σ16)
    else
      if v1 = (1 : Int32) then
        some (b15.2.1, σ16)
      else
        if v1 = (2 : Int32) then
          some (b15.2.2.1, σ16)
        else
          some (b15.2.2.2.1, σ16)
set_option maxHeartbeats 4000000 in
set_option maxRecDepth 100000 in
theorem j_Mo_best_60_J79 {l : Launch} {s0 : State} {a0 : Array Value} {D : va_G} {cA : Nat → ClassId} {sp : Nat → Nat} (E : x_En CL l s0 a0 D cA sp) (v1 : Int32) (v2 : Int32) (v3 : Int32) (v4 : Int32) (v5 : Int32) (v6 : Int32) (v7 : Int32)  (σ : xS) {r : Int32} {σ1 : xS} (o : (Int32 × Int32 × Int32 × Int32 × Int32 × xS) ⊕ (Int32 × Int32 × Int32 × Int32 × Int32 × xS)) (h : f_Mo_best_60_J79 v1 v2 v3 v4 v5 v6 v7 σ = some o) (hK : ∀ b, o = .inl b → zW l s0 D cA sp (zQ s0 D cA sp (some (.int r)) σ1) (x_rm 6 0 0) M_Mo_best 0 0 110 [some (.ref 60), some (.int v1), some (.int v2), some (.int b.1), some (.int b.2.1), some (.int b.2.2.1), some (.int b.2.2.2.1), none, none] [] b.2.2.2.2.2) (hG : ∀ a', o = .inr a' → zW l s0 D cA sp (zQ s0 D cA sp (some (.int r)) σ1) (x_rm 6 0 0) M_Mo_best 0 0 37 [some (.ref 60), some (.int v1), some (.int v2), some (.int a'.1), some (.int a'.2.1), some (.int a'.2.2.1), some (.int a'.2.2.2.1), some (.int a'.2.2.2.2.1), none] [] a'.2.2.2.2.2) : zW l s0 D cA sp (zQ s0 D cA sp (some (.int r)) σ1) (x_rm 6 0 0) M_Mo_best 0 0 79 [some (.ref 60), some (.int v1), some (.int v2), some (.int v3), some (.int v4), some (.int v5), some (.int v6), some (.int v7), none] [] σ := by
  unfold f_Mo_best_60_J79 at h
  try dsimp only at h
  refine x_iload 81 rfl dX9_best_79 rfl ?_
  refine x_iconst 82 rfl (v := -1) dX9_best_81 (by decide) ?_
  refine x_icmp_eq 85 rfl 94 dX9_best_82 (by decide) (fun hc => ?_) (fun hc => ?_)
  · replace h := x_ifT hc h
    refine x_iload 96 rfl dX9_best_94 rfl ?_
    refine x_istore 98 rfl dX9_best_96 (by decide) [some (.ref 60), some (.int _), some (.int _), some (.int _), some (.int _), some (.int _), some (.int _), some (.int _), none] rfl ?_
    refine x_aload_n 99 rfl 0 dX9_best_98 rfl rfl ?_
    obtain ⟨⟨q1r, q1s⟩, q1h, h⟩ := x_bind h
    try dsimp only at h
    refine z_callV E [] [] dX9_best_99 K_RX9_427 ⟨Nat.le_of_ble_eq_true rfl, Nat.le_of_ble_eq_true rfl⟩ sh_60 (by decide) rfl (c_Mo_mostOff_60 E  q1h) rfl rfl (Nat.le_of_ble_eq_true rfl) 102 rfl [.int _] rfl ?_
    refine x_istore 104 rfl dX9_best_102 (by decide) [some (.ref 60), some (.int _), some (.int _), some (.int _), some (.int _), some (.int _), some (.int _), some (.int _), none] rfl ?_
    refine x_iinc 107 rfl (1) dX9_best_104 rfl (by decide) (by decide) [some (.ref 60), some (.int _), some (.int _), some (.int _), some (.int _), some (.int _), some (.int _), some (.int _), none] rfl ?_
    refine x_goto 37 dX9_best_107 (by decide) ?_
    cases h
    exact x_wk (x_le_s (x_le_s (x_le_s (x_le_s (x_le_s (x_le_s (x_le_s (x_le_s (x_le_n x_le_0))))))))) (hG (_, _, _, _, _, _) rfl)
  · replace h := x_ifF hc h
    refine x_aload_n 86 rfl 0 dX9_best_85 rfl rfl ?_
    obtain ⟨⟨q4r, q4s⟩, q4h, h⟩ := x_bind h
    try dsimp only at h
    refine z_callV E [] [] dX9_best_86 K_RX9_427 ⟨Nat.le_of_ble_eq_true rfl, Nat.le_of_ble_eq_true rfl⟩ sh_60 (by decide) rfl (c_Mo_mostOff_60 E  q4h) rfl rfl (Nat.le_of_ble_eq_true rfl) 89 rfl [.int _] rfl ?_
    refine x_iload 91 rfl dX9_best_89 rfl ?_
    refine x_icmp_ge 94 rfl 104 dX9_best_91 (by decide) (fun hc => ?_) (fun hc => ?_)
    · replace h := x_ifT hc h
      refine x_iinc 107 rfl (1) dX9_best_104 rfl (by decide) (by decide) [some (.ref 60), some (.int _), some (.int _), some (.int _), some (.int _), some (.int _), some (.int _), some (.int _), none] rfl ?_
      refine x_goto 37 dX9_best_107 (by decide) ?_
      cases h
      exact x_wk (x_le_s (x_le_s (x_le_s (x_le_s (x_le_s (x_le_s (x_le_s (x_le_s (x_le_n x_le_0))))))))) (hG (_, _, _, _, _, _) rfl)
    · replace h := x_ifF hc h
      refine x_iload 96 rfl dX9_best_94 rfl ?_
      refine x_istore 98 rfl dX9_best_96 (by decide) [some (.ref 60), some (.int _), some (.int _), some (.int _), some (.int _), some (.int _), some (.int _), some (.int _), none] rfl ?_
      refine x_aload_n 99 rfl 0 dX9_best_98 rfl rfl ?_
      obtain ⟨⟨q6r, q6s⟩, q6h, h⟩ := x_bind h
      try dsimp only at h
      refine z_callV E [] [] dX9_best_99 K_RX9_427 ⟨Nat.le_of_ble_eq_true rfl, Nat.le_of_ble_eq_true rfl⟩ sh_60 (by decide) rfl (c_Mo_mostOff_60 E  q6h) rfl rfl (Nat.le_of_ble_eq_true rfl) 102 rfl [.int _] rfl ?_
      refine x_istore 104 rfl dX9_best_102 (by decide) [some (.ref 60), some (.int _), some (.int _), some (.int _), some (.int _), some (.int _), some (.int _), some (.int _), none] rfl ?_
      refine x_iinc 107 rfl (1) dX9_best_104 rfl (by decide) (by decide) [some (.ref 60), some (.int _), some (.int _), some (.int _), some (.int _), some (.int _), some (.int _), some (.int _), none] rfl ?_
      refine x_goto 37 dX9_best_107 (by decide) ?_
      cases h
      exact x_wk (x_le_s (x_le_s (x_le_s (x_le_s (x_le_s (x_le_s (x_le_s (x_le_s (x_le_n x_le_0))))))))) (hG (_, _, _, _, _, _) rfl)
set_option maxHeartbeats 4000000 in
set_option maxRecDepth 100000 in
theorem j_Mo_best_60_J72 {l : Launch} {s0 : State} {a0 : Array Value} {D : va_G} {cA : Nat → ClassId} {sp : Nat → Nat} (E : x_En CL l s0 a0 D cA sp) (v1 : Int32) (v2 : Int32) (v5 : Int32) (v6 : Int32) (v7 : Int32) (v8 : Int32)  (σ : xS) {r : Int32} {σ1 : xS} (o : (Int32 × Int32 × Int32 × Int32 × Int32 × xS) ⊕ (Int32 × Int32 × Int32 × Int32 × Int32 × xS)) (h : f_Mo_best_60_J72 v1 v2 v5 v6 v7 v8 σ = some o) (hK : ∀ b, o = .inl b → zW l s0 D cA sp (zQ s0 D cA sp (some (.int r)) σ1) (x_rm 6 0 0) M_Mo_best 0 0 110 [some (.ref 60), some (.int v1), some (.int v2), some (.int b.1), some (.int b.2.1), some (.int b.2.2.1), some (.int b.2.2.2.1), none, none] [] b.2.2.2.2.2) (hG : ∀ a', o = .inr a' → zW l s0 D cA sp (zQ s0 D cA sp (some (.int r)) σ1) (x_rm 6 0 0) M_Mo_best 0 0 37 [some (.ref 60), some (.int v1), some (.int v2), some (.int a'.1), some (.int a'.2.1), some (.int a'.2.2.1), some (.int a'.2.2.2.1), some (.int a'.2.2.2.2.1), none] [] a'.2.2.2.2.2) : zW l s0 D cA sp (zQ s0 D cA sp (some (.int r)) σ1) (x_rm 6 0 0) M_Mo_best 0 0 72 [some (.ref 60), some (.int v1), some (.int v2), none, none, some (.int v5), some (.int v6), some (.int v7), some (.int v8)] [] σ := by
  unfold f_Mo_best_60_J72 at h
  try dsimp only at h
  refine x_iload 74 rfl dX9_best_72 rfl ?_
  refine x_istore_n 75 rfl 3 dX9_best_74 rfl (by decide) [some (.ref 60), some (.int _), some (.int _), some (.int _), none, some (.int _), some (.int _), some (.int _), some (.int _)] rfl ?_
  refine x_iload 77 rfl dX9_best_75 rfl ?_
  refine x_istore 79 rfl dX9_best_77 (by decide) [some (.ref 60), some (.int _), some (.int _), some (.int _), some (.int _), some (.int _), some (.int _), some (.int _), some (.int _)] rfl ?_
  exact x_wk (x_le_s (x_le_s (x_le_s (x_le_s (x_le_s (x_le_s (x_le_s (x_le_s (x_le_n x_le_0))))))))) (j_Mo_best_60_J79 (r := r) (σ1 := σ1) E _ _ _ _ _ _ _  _ _ h hK hG)
set_option maxHeartbeats 4000000 in
set_option maxRecDepth 100000 in
theorem b_Mo_best_60_L37 {l : Launch} {s0 : State} {a0 : Array Value} {D : va_G} {cA : Nat → ClassId} {sp : Nat → Nat} (E : x_En CL l s0 a0 D cA sp) (v1 : Int32) (v2 : Int32) {r : Int32} {σ1 : xS} (a : Int32 × Int32 × Int32 × Int32 × Int32 × xS) (o : (Int32 × Int32 × Int32 × Int32 × Int32 × xS) ⊕ (Int32 × Int32 × Int32 × Int32 × Int32 × xS)) (h : f_Mo_best_60_L37 v1 v2 a = some o) (hK : ∀ b, o = .inl b → zW l s0 D cA sp (zQ s0 D cA sp (some (.int r)) σ1) (x_rm 6 0 0) M_Mo_best 0 0 110 [some (.ref 60), some (.int v1), some (.int v2), some (.int b.1), some (.int b.2.1), some (.int b.2.2.1), some (.int b.2.2.2.1), none, none] [] b.2.2.2.2.2) (hG : ∀ a', o = .inr a' → zW l s0 D cA sp (zQ s0 D cA sp (some (.int r)) σ1) (x_rm 6 0 0) M_Mo_best 0 0 37 [some (.ref 60), some (.int v1), some (.int v2), some (.int a'.1), some (.int a'.2.1), some (.int a'.2.2.1), some (.int a'.2.2.2.1), some (.int a'.2.2.2.2.1), none] [] a'.2.2.2.2.2) : zW l s0 D cA sp (zQ s0 D cA sp (some (.int r)) σ1) (x_rm 6 0 0) M_Mo_best 0 0 37 [some (.ref 60), some (.int v1), some (.int v2), some (.int a.1), some (.int a.2.1), some (.int a.2.2.1), some (.int a.2.2.2.1), some (.int a.2.2.2.2.1), none] [] a.2.2.2.2.2 := by
  obtain ⟨v3, v4, v5, v6, v7, σ⟩ := a
  unfold f_Mo_best_60_L37 at h
  try dsimp only at h ⊢
  refine x_iload 39 rfl dX9_best_37 rfl ?_
  refine x_aload_n 40 rfl 0 dX9_best_39 rfl rfl ?_
  refine x_getI E dX9_best_40 F_RX9_333 sh_60 43 rfl ?_
  refine x_icmp_ge 46 rfl 110 dX9_best_43 (by decide) (fun hc => ?_) (fun hc => ?_)
  · replace h := x_ifT hc h
    cases h
    exact x_wk (x_le_s (x_le_s (x_le_s (x_le_s (x_le_s (x_le_s (x_le_s (x_le_n (x_le_n x_le_0))))))))) (hK (_, _, _, _, _, _) rfl)
  · replace h := x_ifF hc h
    refine x_aload_n 47 rfl 0 dX9_best_46 rfl rfl ?_
    refine x_getR E dX9_best_47 F_RX9_78 sh_60 rf_60_53 50 rfl ?_
    refine x_iconst 51 rfl (v := 5) dX9_best_50 (by decide) ?_
    refine x_iload 53 rfl dX9_best_51 rfl ?_
    refine x_iast E dX9_best_53 sh_79 5 (by decide) (by decide) 54 rfl ?_
    refine x_aload_n 55 rfl 0 dX9_best_54 rfl rfl ?_
    obtain ⟨⟨q10r, q10s⟩, q10h, h⟩ := x_bind h
    try dsimp only at h
    refine z_callV E [] [] dX9_best_55 K_RX9_445 ⟨Nat.le_of_ble_eq_true rfl, Nat.le_of_ble_eq_true rfl⟩ sh_60 (by decide) rfl (c_Mo_takesSharp_60 E  q10h) rfl rfl (Nat.le_of_ble_eq_true rfl) 58 rfl [.int _] rfl ?_
    refine x_istore 60 rfl dX9_best_58 (by decide) [some (.ref 60), some (.int _), some (.int _), some (.int _), some (.int _), some (.int _), some (.int _), some (.int _), some (.int _)] rfl ?_
    refine x_iload_n 61 rfl 3 dX9_best_60 rfl rfl ?_
    refine x_iconst 62 rfl (v := -1) dX9_best_61 (by decide) ?_
    refine x_icmp_eq 65 rfl 72 dX9_best_62 (by decide) (fun hc => ?_) (fun hc => ?_)
    · replace h := x_ifT hc h
      exact x_wk (x_le_s (x_le_s (x_le_s (x_le_n (x_le_n (x_le_s (x_le_s (x_le_s (x_le_s x_le_0))))))))) (j_Mo_best_60_J72 (r := r) (σ1 := σ1) E _ _ _ _ _ _  _ _ h hK hG)
    · replace h := x_ifF hc h
      refine x_iload 67 rfl dX9_best_65 rfl ?_
      refine x_iload 69 rfl dX9_best_67 rfl ?_
      refine x_icmp_le 72 rfl 79 dX9_best_69 (by decide) (fun hc => ?_) (fun hc => ?_)
      · replace h := x_ifT hc h
        exact x_wk (x_le_s (x_le_s (x_le_s (x_le_s (x_le_s (x_le_s (x_le_s (x_le_s (x_le_n x_le_0))))))))) (j_Mo_best_60_J79 (r := r) (σ1 := σ1) E _ _ _ _ _ _ _  _ _ h hK hG)
      · replace h := x_ifF hc h
        exact x_wk (x_le_s (x_le_s (x_le_s (x_le_n (x_le_n (x_le_s (x_le_s (x_le_s (x_le_s x_le_0))))))))) (j_Mo_best_60_J72 (r := r) (σ1 := σ1) E _ _ _ _ _ _  _ _ h hK hG)
set_option maxHeartbeats 4000000 in
set_option maxRecDepth 100000 in
theorem c_Mo_best_60 {l : Launch} {s0 : State} {a0 : Array Value} {D : va_G} {cA : Nat → ClassId} {sp : Nat → Nat} (E : x_En CL l s0 a0 D cA sp) (v1 : Int32) {σ : xS} {r : Int32} {σ1 : xS} (h : f_Mo_best_60 v1 σ = some (r, σ1)) : zC l s0 D cA sp 6 M_Mo_best [.ref 60, .int v1] σ (some (.int r)) σ1 := by
  unfold f_Mo_best_60 at h
  try dsimp only at h
  refine x_enter [some (.ref 60), some (.int v1), none, none, none, none, none, none, none] rfl (Nat.le_of_ble_eq_true rfl) (by decide +kernel) rfl ?_
  refine x_aload_n 1 rfl 0 dX9_best_0 rfl rfl ?_
  refine x_iconst 2 rfl (v := 0) dX9_best_1 (by decide) ?_
  refine x_putI E dX9_best_2 F_RX9_132 sh_60 5 rfl ?_
  refine x_aload_n 6 rfl 0 dX9_best_5 rfl rfl ?_
  refine x_iload_n 7 rfl 1 dX9_best_6 rfl rfl ?_
  refine x_iconst 8 rfl (v := 3) dX9_best_7 (by decide) ?_
  obtain ⟨⟨q13r, q13s⟩, q13h, h⟩ := x_bind h
  try dsimp only at h
  refine z_callV E [.int _, .int _] [] dX9_best_8 K_RX9_421 ⟨Nat.le_of_ble_eq_true rfl, Nat.le_of_ble_eq_true rfl⟩ sh_60 (by decide) rfl (c_Mo_isWhat_60 E _ _ q13h) rfl rfl (Nat.le_of_ble_eq_true rfl) 11 rfl [.int _] rfl ?_
  refine x_if_ne 14 rfl 16 dX9_best_11 (by decide) (fun hc => ?_) (fun hc => ?_)
  · replace h := x_ifF hc h
    refine x_aload_n 17 rfl 0 dX9_best_16 rfl rfl ?_
    refine x_getR E dX9_best_17 F_RX9_78 sh_60 rf_60_53 20 rfl ?_
    refine x_iconst 21 rfl (v := 5) dX9_best_20 (by decide) ?_
    refine x_iald E dX9_best_21 sh_79 5 (by decide) (by decide) 22 rfl ?_
    refine x_istore_n 23 rfl 2 dX9_best_22 rfl (by decide) [some (.ref 60), some (.int _), some (.int _), none, none, none, none, none, none] rfl ?_
    refine x_iconst 24 rfl (v := -1) dX9_best_23 (by decide) ?_
    refine x_istore_n 25 rfl 3 dX9_best_24 rfl (by decide) [some (.ref 60), some (.int _), some (.int _), some (.int _), none, none, none, none, none] rfl ?_
    refine x_iconst 26 rfl (v := -1) dX9_best_25 (by decide) ?_
    refine x_istore 28 rfl dX9_best_26 (by decide) [some (.ref 60), some (.int _), some (.int _), some (.int _), some (.int _), none, none, none, none] rfl ?_
    refine x_iconst 29 rfl (v := -1) dX9_best_28 (by decide) ?_
    refine x_istore 31 rfl dX9_best_29 (by decide) [some (.ref 60), some (.int _), some (.int _), some (.int _), some (.int _), some (.int _), none, none, none] rfl ?_
    refine x_iconst 32 rfl (v := -1) dX9_best_31 (by decide) ?_
    refine x_istore 34 rfl dX9_best_32 (by decide) [some (.ref 60), some (.int _), some (.int _), some (.int _), some (.int _), some (.int _), some (.int _), none, none] rfl ?_
    refine x_iconst 35 rfl (v := 0) dX9_best_34 (by decide) ?_
    refine x_istore 37 rfl dX9_best_35 (by decide) [some (.ref 60), some (.int _), some (.int _), some (.int _), some (.int _), some (.int _), some (.int _), some (.int _), none] rfl ?_
    obtain ⟨b15, b15h, h⟩ := x_bind h
    try dsimp only at h
    refine x_wk (x_le_s (x_le_s (x_le_s (x_le_s (x_le_s (x_le_s (x_le_s (x_le_s (x_le_n x_le_0))))))))) (x_loop (fun a o h hK hG => b_Mo_best_60_L37 (r := r) (σ1 := σ1) E _ _ a o h hK hG) _ _ _ b15h ?_)
    refine x_aload_n 111 rfl 0 dX9_best_110 rfl rfl ?_
    refine x_getR E dX9_best_111 F_RX9_78 sh_60 rf_60_53 114 rfl ?_
    refine x_iconst 115 rfl (v := 5) dX9_best_114 (by decide) ?_
    refine x_iload_n 116 rfl 2 dX9_best_115 rfl rfl ?_
    refine x_iast E dX9_best_116 sh_79 5 (by decide) (by decide) 117 rfl ?_
    refine x_iload_n 118 rfl 1 dX9_best_117 rfl rfl ?_
    refine x_if_ne 121 rfl 125 dX9_best_118 (by decide) (fun hc => ?_) (fun hc => ?_)
    · replace h := x_ifF hc h
      refine x_iload_n 126 rfl 1 dX9_best_125 rfl rfl ?_
      refine x_iconst 127 rfl (v := 1) dX9_best_126 (by decide) ?_
      refine x_icmp_ne 130 rfl 135 dX9_best_127 (by decide) (fun hc => ?_) (fun hc => ?_)
      · replace h := x_ifF hc h
        refine x_iload_n 136 rfl 1 dX9_best_135 rfl rfl ?_
        refine x_iconst 137 rfl (v := 2) dX9_best_136 (by decide) ?_
        refine x_icmp_ne 140 rfl 145 dX9_best_137 (by decide) (fun hc => ?_) (fun hc => ?_)
        · replace h := x_ifF hc h
          refine x_iload 147 rfl dX9_best_145 rfl ?_
          cases h
          exact x_iret dX9_best_147 rfl rfl rfl
        · replace h := x_ifT hc h
          refine x_iload 142 rfl dX9_best_140 rfl ?_
          refine x_goto 147 dX9_best_142 (by decide) ?_
          cases h
          exact x_iret dX9_best_147 rfl rfl rfl
      · replace h := x_ifT hc h
        refine x_iload 132 rfl dX9_best_130 rfl ?_
        refine x_goto 147 dX9_best_132 (by decide) ?_
        cases h
        exact x_iret dX9_best_147 rfl rfl rfl
    · replace h := x_ifT hc h
      refine x_iload_n 122 rfl 3 dX9_best_121 rfl rfl ?_
      refine x_goto 147 dX9_best_122 (by decide) ?_
      cases h
      exact x_iret dX9_best_147 rfl rfl rfl
  · replace h := x_ifT hc h
    refine x_iconst 15 rfl (v := 0) dX9_best_14 (by decide) ?_
    cases h
    exact x_iret dX9_best_15 rfl rfl rfl
abbrev M_Mo_foretell : xM := (yX9_foretell, cX9_foretell, 6, some .int, [])
theorem dX9_foretell_0 : decode cX9_foretell 0 = .ok (.aload_n 0, 1) := by decide +kernel
theorem dX9_foretell_1 : decode cX9_foretell 1 = .ok (.iconst 0, 1) := by decide +kernel
theorem dX9_foretell_2 : decode cX9_foretell 2 = .ok (.putfield 132, 3) := by decide +kernel
theorem dX9_foretell_5 : decode cX9_foretell 5 = .ok (.aload_n 0, 1) := by decide +kernel
theorem dX9_foretell_6 : decode cX9_foretell 6 = .ok (.iload_n 1, 1) := by decide +kernel
theorem dX9_foretell_7 : decode cX9_foretell 7 = .ok (.iconst 1, 1) := by decide +kernel
theorem dX9_foretell_8 : decode cX9_foretell 8 = .ok (.invokevirtual 421, 3) := by decide +kernel
theorem dX9_foretell_11 : decode cX9_foretell 11 = .ok (.ifCond .ne 5, 3) := by decide +kernel
theorem dX9_foretell_14 : decode cX9_foretell 14 = .ok (.iconst 0, 1) := by decide +kernel
theorem dX9_foretell_15 : decode cX9_foretell 15 = .ok (.ireturn, 1) := by decide +kernel
theorem dX9_foretell_16 : decode cX9_foretell 16 = .ok (.iconst 0, 1) := by decide +kernel
theorem dX9_foretell_17 : decode cX9_foretell 17 = .ok (.istore_n 2, 1) := by decide +kernel
theorem dX9_foretell_18 : decode cX9_foretell 18 = .ok (.iconst (-1), 1) := by decide +kernel
theorem dX9_foretell_19 : decode cX9_foretell 19 = .ok (.istore_n 3, 1) := by decide +kernel
theorem dX9_foretell_20 : decode cX9_foretell 20 = .ok (.iconst 0, 1) := by decide +kernel
theorem dX9_foretell_21 : decode cX9_foretell 21 = .ok (.istore 4, 2) := by decide +kernel
theorem dX9_foretell_23 : decode cX9_foretell 23 = .ok (.iload 4, 2) := by decide +kernel
theorem dX9_foretell_25 : decode cX9_foretell 25 = .ok (.bipush 48, 2) := by decide +kernel
theorem dX9_foretell_27 : decode cX9_foretell 27 = .ok (.if_icmp .gt 59, 3) := by decide +kernel
theorem dX9_foretell_30 : decode cX9_foretell 30 = .ok (.aload_n 0, 1) := by decide +kernel
theorem dX9_foretell_31 : decode cX9_foretell 31 = .ok (.iload 4, 2) := by decide +kernel
theorem dX9_foretell_33 : decode cX9_foretell 33 = .ok (.iconst 2, 1) := by decide +kernel
theorem dX9_foretell_34 : decode cX9_foretell 34 = .ok (.irem, 1) := by decide +kernel
theorem dX9_foretell_35 : decode cX9_foretell 35 = .ok (.iconst 1, 1) := by decide +kernel
theorem dX9_foretell_36 : decode cX9_foretell 36 = .ok (.if_icmp .ne 14, 3) := by decide +kernel
theorem dX9_foretell_39 : decode cX9_foretell 39 = .ok (.iconst 0, 1) := by decide +kernel
theorem dX9_foretell_40 : decode cX9_foretell 40 = .ok (.iload 4, 2) := by decide +kernel
theorem dX9_foretell_42 : decode cX9_foretell 42 = .ok (.iconst 1, 1) := by decide +kernel
theorem dX9_foretell_43 : decode cX9_foretell 43 = .ok (.iadd, 1) := by decide +kernel
theorem dX9_foretell_44 : decode cX9_foretell 44 = .ok (.iconst 2, 1) := by decide +kernel
theorem dX9_foretell_45 : decode cX9_foretell 45 = .ok (.idiv, 1) := by decide +kernel
theorem dX9_foretell_46 : decode cX9_foretell 46 = .ok (.isub, 1) := by decide +kernel
theorem dX9_foretell_47 : decode cX9_foretell 47 = .ok (.goto 7, 3) := by decide +kernel
theorem dX9_foretell_50 : decode cX9_foretell 50 = .ok (.iload 4, 2) := by decide +kernel
theorem dX9_foretell_52 : decode cX9_foretell 52 = .ok (.iconst 2, 1) := by decide +kernel
theorem dX9_foretell_53 : decode cX9_foretell 53 = .ok (.idiv, 1) := by decide +kernel
theorem dX9_foretell_54 : decode cX9_foretell 54 = .ok (.putfield 384, 3) := by decide +kernel
theorem dX9_foretell_57 : decode cX9_foretell 57 = .ok (.aload_n 0, 1) := by decide +kernel
theorem dX9_foretell_58 : decode cX9_foretell 58 = .ok (.invokevirtual 445, 3) := by decide +kernel
theorem dX9_foretell_61 : decode cX9_foretell 61 = .ok (.istore 5, 2) := by decide +kernel
theorem dX9_foretell_63 : decode cX9_foretell 63 = .ok (.iload 5, 2) := by decide +kernel
theorem dX9_foretell_65 : decode cX9_foretell 65 = .ok (.iload_n 3, 1) := by decide +kernel
theorem dX9_foretell_66 : decode cX9_foretell 66 = .ok (.if_icmp .gt 6, 3) := by decide +kernel
theorem dX9_foretell_69 : decode cX9_foretell 69 = .ok (.goto 11, 3) := by decide +kernel
theorem dX9_foretell_72 : decode cX9_foretell 72 = .ok (.aload_n 0, 1) := by decide +kernel
theorem dX9_foretell_73 : decode cX9_foretell 73 = .ok (.getfield 384, 3) := by decide +kernel
theorem dX9_foretell_76 : decode cX9_foretell 76 = .ok (.istore_n 2, 1) := by decide +kernel
theorem dX9_foretell_77 : decode cX9_foretell 77 = .ok (.iload 5, 2) := by decide +kernel
theorem dX9_foretell_79 : decode cX9_foretell 79 = .ok (.istore_n 3, 1) := by decide +kernel
theorem dX9_foretell_80 : decode cX9_foretell 80 = .ok (.iinc 4 1, 3) := by decide +kernel
theorem dX9_foretell_83 : decode cX9_foretell 83 = .ok (.goto (-60), 3) := by decide +kernel
theorem dX9_foretell_86 : decode cX9_foretell 86 = .ok (.aload_n 0, 1) := by decide +kernel
theorem dX9_foretell_87 : decode cX9_foretell 87 = .ok (.iconst 0, 1) := by decide +kernel
theorem dX9_foretell_88 : decode cX9_foretell 88 = .ok (.putfield 384, 3) := by decide +kernel
theorem dX9_foretell_91 : decode cX9_foretell 91 = .ok (.iload_n 1, 1) := by decide +kernel
theorem dX9_foretell_92 : decode cX9_foretell 92 = .ok (.ifCond .ne 7, 3) := by decide +kernel
theorem dX9_foretell_95 : decode cX9_foretell 95 = .ok (.iload_n 2, 1) := by decide +kernel
theorem dX9_foretell_96 : decode cX9_foretell 96 = .ok (.goto 4, 3) := by decide +kernel
theorem dX9_foretell_99 : decode cX9_foretell 99 = .ok (.iload_n 3, 1) := by decide +kernel
theorem dX9_foretell_100 : decode cX9_foretell 100 = .ok (.ireturn, 1) := by decide +kernel
def f_Mo_foretell_60_J54 (v1 : Int32) (v2 : Int32) (v3 : Int32) (v4 : Int32) (y1 : Int32) (σ : xS) : Option ((Int32 × Int32 × Int32 × xS) ⊕ (Int32 × Int32 × Int32 × xS)) :=
  let σ1 := x_pI σ 60 64 y1
  (f_Mo_takesSharp_60  σ1).bind fun q2 =>
  let w3 := q2.1
  if v3 < w3 then
    let w4 := q2.2.1 60 64
    let w5 := v4 + (1 : Int32)
    some (.inr (w4, w3, w5, q2.2))
  else
    let w6 := v4 + (1 : Int32)
    some (.inr (v2, v3, w6, q2.2))
def f_Mo_foretell_60_L23 (v1 : Int32) (a : Int32 × Int32 × Int32 × xS) : Option ((Int32 × Int32 × Int32 × xS) ⊕ (Int32 × Int32 × Int32 × xS)) :=
  let v2 := a.1; let v3 := a.2.1; let v4 := a.2.2.1; let σ := a.2.2.2;
  if (48 : Int32) < v4 then
    some (.inl (v2, v3, v4, σ))
  else
    if (v4 - v4 / (2 : Int32) * (2 : Int32)) = (1 : Int32) then
      f_Mo_foretell_60_J54 v1 v2 v3 v4 ((0 : Int32) - ((v4 + (1 : Int32)) / (2 : Int32))) σ
    else
      f_Mo_foretell_60_J54 v1 v2 v3 v4 (v4 / (2 : Int32)) σ
def f_Mo_foretell_60 (v1 : Int32) (σ : xS) : Option (Int32 × xS) :=
  let σ7 := x_pI σ 60 0 (0 : Int32)
  (f_Mo_isWhat_60 v1 (1 : Int32) σ7).bind fun q8 =>
  if q8.1 = 0 then
    some ((0 : Int32), q8.2)
  else
    (x_it (f_Mo_foretell_60_L23 v1) 10000 ((0 : Int32), (-1 : Int32), (0 : Int32), q8.2)).bind fun b9 =>
    let σ10 := x_pI b9.2.2.2 60 64 (0 : Int32)
    if v1 = 0 then
      some (b9.1, σ10)
    else
      some (b9.2.1, σ10)
set_option maxHeartbeats 4000000 in
set_option maxRecDepth 100000 in
theorem j_Mo_foretell_60_J54 {l : Launch} {s0 : State} {a0 : Array Value} {D : va_G} {cA : Nat → ClassId} {sp : Nat → Nat} (E : x_En CL l s0 a0 D cA sp) (v1 : Int32) (v2 : Int32) (v3 : Int32) (v4 : Int32) (y1 : Int32)  (σ : xS) {r : Int32} {σ1 : xS} (o : (Int32 × Int32 × Int32 × xS) ⊕ (Int32 × Int32 × Int32 × xS)) (h : f_Mo_foretell_60_J54 v1 v2 v3 v4 y1 σ = some o) (hK : ∀ b, o = .inl b → zW l s0 D cA sp (zQ s0 D cA sp (some (.int r)) σ1) (x_rm 6 0 0) M_Mo_foretell 0 0 86 [some (.ref 60), some (.int v1), some (.int b.1), some (.int b.2.1), none, none] [] b.2.2.2) (hG : ∀ a', o = .inr a' → zW l s0 D cA sp (zQ s0 D cA sp (some (.int r)) σ1) (x_rm 6 0 0) M_Mo_foretell 0 0 23 [some (.ref 60), some (.int v1), some (.int a'.1), some (.int a'.2.1), some (.int a'.2.2.1), none] [] a'.2.2.2) : zW l s0 D cA sp (zQ s0 D cA sp (some (.int r)) σ1) (x_rm 6 0 0) M_Mo_foretell 0 0 54 [some (.ref 60), some (.int v1), some (.int v2), some (.int v3), some (.int v4), none] [.int y1, .ref 60] σ := by
  unfold f_Mo_foretell_60_J54 at h
  try dsimp only at h
  refine x_putI E dX9_foretell_54 F_RX9_384 sh_60 57 rfl ?_
  refine x_aload_n 58 rfl 0 dX9_foretell_57 rfl rfl ?_
  obtain ⟨⟨q2r, q2s⟩, q2h, h⟩ := x_bind h
  try dsimp only at h
  refine z_callV E [] [] dX9_foretell_58 K_RX9_445 ⟨Nat.le_of_ble_eq_true rfl, Nat.le_of_ble_eq_true rfl⟩ sh_60 (by decide) rfl (c_Mo_takesSharp_60 E  q2h) rfl rfl (Nat.le_of_ble_eq_true rfl) 61 rfl [.int _] rfl ?_
  refine x_istore 63 rfl dX9_foretell_61 (by decide) [some (.ref 60), some (.int _), some (.int _), some (.int _), some (.int _), some (.int _)] rfl ?_
  refine x_iload 65 rfl dX9_foretell_63 rfl ?_
  refine x_iload_n 66 rfl 3 dX9_foretell_65 rfl rfl ?_
  refine x_icmp_gt 69 rfl 72 dX9_foretell_66 (by decide) (fun hc => ?_) (fun hc => ?_)
  · replace h := x_ifT hc h
    refine x_aload_n 73 rfl 0 dX9_foretell_72 rfl rfl ?_
    refine x_getI E dX9_foretell_73 F_RX9_384 sh_60 76 rfl ?_
    refine x_istore_n 77 rfl 2 dX9_foretell_76 rfl (by decide) [some (.ref 60), some (.int _), some (.int _), some (.int _), some (.int _), some (.int _)] rfl ?_
    refine x_iload 79 rfl dX9_foretell_77 rfl ?_
    refine x_istore_n 80 rfl 3 dX9_foretell_79 rfl (by decide) [some (.ref 60), some (.int _), some (.int _), some (.int _), some (.int _), some (.int _)] rfl ?_
    refine x_iinc 83 rfl (1) dX9_foretell_80 rfl (by decide) (by decide) [some (.ref 60), some (.int _), some (.int _), some (.int _), some (.int _), some (.int _)] rfl ?_
    refine x_goto 23 dX9_foretell_83 (by decide) ?_
    cases h
    exact x_wk (x_le_s (x_le_s (x_le_s (x_le_s (x_le_s (x_le_n x_le_0)))))) (hG (_, _, _, _) rfl)
  · replace h := x_ifF hc h
    refine x_goto 80 dX9_foretell_69 (by decide) ?_
    refine x_iinc 83 rfl (1) dX9_foretell_80 rfl (by decide) (by decide) [some (.ref 60), some (.int _), some (.int _), some (.int _), some (.int _), some (.int _)] rfl ?_
    refine x_goto 23 dX9_foretell_83 (by decide) ?_
    cases h
    exact x_wk (x_le_s (x_le_s (x_le_s (x_le_s (x_le_s (x_le_n x_le_0)))))) (hG (_, _, _, _) rfl)
set_option maxHeartbeats 4000000 in
set_option maxRecDepth 100000 in
theorem b_Mo_foretell_60_L23 {l : Launch} {s0 : State} {a0 : Array Value} {D : va_G} {cA : Nat → ClassId} {sp : Nat → Nat} (E : x_En CL l s0 a0 D cA sp) (v1 : Int32) {r : Int32} {σ1 : xS} (a : Int32 × Int32 × Int32 × xS) (o : (Int32 × Int32 × Int32 × xS) ⊕ (Int32 × Int32 × Int32 × xS)) (h : f_Mo_foretell_60_L23 v1 a = some o) (hK : ∀ b, o = .inl b → zW l s0 D cA sp (zQ s0 D cA sp (some (.int r)) σ1) (x_rm 6 0 0) M_Mo_foretell 0 0 86 [some (.ref 60), some (.int v1), some (.int b.1), some (.int b.2.1), none, none] [] b.2.2.2) (hG : ∀ a', o = .inr a' → zW l s0 D cA sp (zQ s0 D cA sp (some (.int r)) σ1) (x_rm 6 0 0) M_Mo_foretell 0 0 23 [some (.ref 60), some (.int v1), some (.int a'.1), some (.int a'.2.1), some (.int a'.2.2.1), none] [] a'.2.2.2) : zW l s0 D cA sp (zQ s0 D cA sp (some (.int r)) σ1) (x_rm 6 0 0) M_Mo_foretell 0 0 23 [some (.ref 60), some (.int v1), some (.int a.1), some (.int a.2.1), some (.int a.2.2.1), none] [] a.2.2.2 := by
  obtain ⟨v2, v3, v4, σ⟩ := a
  unfold f_Mo_foretell_60_L23 at h
  try dsimp only at h ⊢
  refine x_iload 25 rfl dX9_foretell_23 rfl ?_
  refine x_bipush 27 rfl (v := 48) dX9_foretell_25 (by decide) ?_
  refine x_icmp_gt 30 rfl 86 dX9_foretell_27 (by decide) (fun hc => ?_) (fun hc => ?_)
  · replace h := x_ifT hc h
    cases h
    exact x_wk (x_le_s (x_le_s (x_le_s (x_le_s (x_le_n (x_le_n x_le_0)))))) (hK (_, _, _, _) rfl)
  · replace h := x_ifF hc h
    refine x_aload_n 31 rfl 0 dX9_foretell_30 rfl rfl ?_
    refine x_iload 33 rfl dX9_foretell_31 rfl ?_
    refine x_iconst 34 rfl (v := 2) dX9_foretell_33 (by decide) ?_
    refine x_irem 35 rfl dX9_foretell_34 (by decide) ?_
    refine x_iconst 36 rfl (v := 1) dX9_foretell_35 (by decide) ?_
    refine x_icmp_ne 39 rfl 50 dX9_foretell_36 (by decide) (fun hc => ?_) (fun hc => ?_)
    · replace h := x_ifF hc h
      refine x_iload 52 rfl dX9_foretell_50 rfl ?_
      refine x_iconst 53 rfl (v := 2) dX9_foretell_52 (by decide) ?_
      refine x_idiv 54 rfl dX9_foretell_53 (by decide) ?_
      exact x_wk (x_le_s (x_le_s (x_le_s (x_le_s (x_le_s (x_le_n x_le_0)))))) (j_Mo_foretell_60_J54 (r := r) (σ1 := σ1) E _ _ _ _ _  _ _ h hK hG)
    · replace h := x_ifT hc h
      refine x_iconst 40 rfl (v := 0) dX9_foretell_39 (by decide) ?_
      refine x_iload 42 rfl dX9_foretell_40 rfl ?_
      refine x_iconst 43 rfl (v := 1) dX9_foretell_42 (by decide) ?_
      refine x_iadd 44 rfl dX9_foretell_43 ?_
      refine x_iconst 45 rfl (v := 2) dX9_foretell_44 (by decide) ?_
      refine x_idiv 46 rfl dX9_foretell_45 (by decide) ?_
      refine x_isub 47 rfl dX9_foretell_46 ?_
      refine x_goto 54 dX9_foretell_47 (by decide) ?_
      exact x_wk (x_le_s (x_le_s (x_le_s (x_le_s (x_le_s (x_le_n x_le_0)))))) (j_Mo_foretell_60_J54 (r := r) (σ1 := σ1) E _ _ _ _ _  _ _ h hK hG)
set_option maxHeartbeats 4000000 in
set_option maxRecDepth 100000 in
theorem c_Mo_foretell_60 {l : Launch} {s0 : State} {a0 : Array Value} {D : va_G} {cA : Nat → ClassId} {sp : Nat → Nat} (E : x_En CL l s0 a0 D cA sp) (v1 : Int32) {σ : xS} {r : Int32} {σ1 : xS} (h : f_Mo_foretell_60 v1 σ = some (r, σ1)) : zC l s0 D cA sp 6 M_Mo_foretell [.ref 60, .int v1] σ (some (.int r)) σ1 := by
  unfold f_Mo_foretell_60 at h
  try dsimp only at h
  refine x_enter [some (.ref 60), some (.int v1), none, none, none, none] rfl (Nat.le_of_ble_eq_true rfl) (by decide +kernel) rfl ?_
  refine x_aload_n 1 rfl 0 dX9_foretell_0 rfl rfl ?_
  refine x_iconst 2 rfl (v := 0) dX9_foretell_1 (by decide) ?_
  refine x_putI E dX9_foretell_2 F_RX9_132 sh_60 5 rfl ?_
  refine x_aload_n 6 rfl 0 dX9_foretell_5 rfl rfl ?_
  refine x_iload_n 7 rfl 1 dX9_foretell_6 rfl rfl ?_
  refine x_iconst 8 rfl (v := 1) dX9_foretell_7 (by decide) ?_
  obtain ⟨⟨q8r, q8s⟩, q8h, h⟩ := x_bind h
  try dsimp only at h
  refine z_callV E [.int _, .int _] [] dX9_foretell_8 K_RX9_421 ⟨Nat.le_of_ble_eq_true rfl, Nat.le_of_ble_eq_true rfl⟩ sh_60 (by decide) rfl (c_Mo_isWhat_60 E _ _ q8h) rfl rfl (Nat.le_of_ble_eq_true rfl) 11 rfl [.int _] rfl ?_
  refine x_if_ne 14 rfl 16 dX9_foretell_11 (by decide) (fun hc => ?_) (fun hc => ?_)
  · replace h := x_ifF hc h
    refine x_iconst 17 rfl (v := 0) dX9_foretell_16 (by decide) ?_
    refine x_istore_n 18 rfl 2 dX9_foretell_17 rfl (by decide) [some (.ref 60), some (.int _), some (.int _), none, none, none] rfl ?_
    refine x_iconst 19 rfl (v := -1) dX9_foretell_18 (by decide) ?_
    refine x_istore_n 20 rfl 3 dX9_foretell_19 rfl (by decide) [some (.ref 60), some (.int _), some (.int _), some (.int _), none, none] rfl ?_
    refine x_iconst 21 rfl (v := 0) dX9_foretell_20 (by decide) ?_
    refine x_istore 23 rfl dX9_foretell_21 (by decide) [some (.ref 60), some (.int _), some (.int _), some (.int _), some (.int _), none] rfl ?_
    obtain ⟨b9, b9h, h⟩ := x_bind h
    try dsimp only at h
    refine x_wk (x_le_s (x_le_s (x_le_s (x_le_s (x_le_s (x_le_n x_le_0)))))) (x_loop (fun a o h hK hG => b_Mo_foretell_60_L23 (r := r) (σ1 := σ1) E _ a o h hK hG) _ _ _ b9h ?_)
    refine x_aload_n 87 rfl 0 dX9_foretell_86 rfl rfl ?_
    refine x_iconst 88 rfl (v := 0) dX9_foretell_87 (by decide) ?_
    refine x_putI E dX9_foretell_88 F_RX9_384 sh_60 91 rfl ?_
    refine x_iload_n 92 rfl 1 dX9_foretell_91 rfl rfl ?_
    refine x_if_ne 95 rfl 99 dX9_foretell_92 (by decide) (fun hc => ?_) (fun hc => ?_)
    · replace h := x_ifF hc h
      refine x_iload_n 100 rfl 3 dX9_foretell_99 rfl rfl ?_
      cases h
      exact x_iret dX9_foretell_100 rfl rfl rfl
    · replace h := x_ifT hc h
      refine x_iload_n 96 rfl 2 dX9_foretell_95 rfl rfl ?_
      refine x_goto 100 dX9_foretell_96 (by decide) ?_
      cases h
      exact x_iret dX9_foretell_100 rfl rfl rfl
  · replace h := x_ifT hc h
    refine x_iconst 15 rfl (v := 0) dX9_foretell_14 (by decide) ?_
    cases h
    exact x_iret dX9_foretell_15 rfl rfl rfl
abbrev M_Mo_findsRun : xM := (yX9_findsRun, cX9_findsRun, 3, none, [])
theorem dX9_findsRun_0 : decode cX9_findsRun 0 = .ok (.aload_n 0, 1) := by decide +kernel
theorem dX9_findsRun_1 : decode cX9_findsRun 1 = .ok (.iconst 0, 1) := by decide +kernel
theorem dX9_findsRun_2 : decode cX9_findsRun 2 = .ok (.putfield 448, 3) := by decide +kernel
theorem dX9_findsRun_5 : decode cX9_findsRun 5 = .ok (.aload_n 0, 1) := by decide +kernel
theorem dX9_findsRun_6 : decode cX9_findsRun 6 = .ok (.iconst (-1), 1) := by decide +kernel
theorem dX9_findsRun_7 : decode cX9_findsRun 7 = .ok (.putfield 451, 3) := by decide +kernel
theorem dX9_findsRun_10 : decode cX9_findsRun 10 = .ok (.aload_n 0, 1) := by decide +kernel
theorem dX9_findsRun_11 : decode cX9_findsRun 11 = .ok (.iconst 0, 1) := by decide +kernel
theorem dX9_findsRun_12 : decode cX9_findsRun 12 = .ok (.putfield 454, 3) := by decide +kernel
theorem dX9_findsRun_15 : decode cX9_findsRun 15 = .ok (.iconst 0, 1) := by decide +kernel
theorem dX9_findsRun_16 : decode cX9_findsRun 16 = .ok (.istore_n 2, 1) := by decide +kernel
theorem dX9_findsRun_17 : decode cX9_findsRun 17 = .ok (.iload_n 2, 1) := by decide +kernel
theorem dX9_findsRun_18 : decode cX9_findsRun 18 = .ok (.aload_n 0, 1) := by decide +kernel
theorem dX9_findsRun_19 : decode cX9_findsRun 19 = .ok (.invokevirtual 390, 3) := by decide +kernel
theorem dX9_findsRun_22 : decode cX9_findsRun 22 = .ok (.if_icmp .gt 90, 3) := by decide +kernel
theorem dX9_findsRun_25 : decode cX9_findsRun 25 = .ok (.aload_n 0, 1) := by decide +kernel
theorem dX9_findsRun_26 : decode cX9_findsRun 26 = .ok (.iload_n 2, 1) := by decide +kernel
theorem dX9_findsRun_27 : decode cX9_findsRun 27 = .ok (.invokevirtual 405, 3) := by decide +kernel
theorem dX9_findsRun_30 : decode cX9_findsRun 30 = .ok (.ifCond .eq 6, 3) := by decide +kernel
theorem dX9_findsRun_33 : decode cX9_findsRun 33 = .ok (.goto 73, 3) := by decide +kernel
theorem dX9_findsRun_36 : decode cX9_findsRun 36 = .ok (.iload_n 2, 1) := by decide +kernel
theorem dX9_findsRun_37 : decode cX9_findsRun 37 = .ok (.ifCond .eq 13, 3) := by decide +kernel
theorem dX9_findsRun_40 : decode cX9_findsRun 40 = .ok (.aload_n 0, 1) := by decide +kernel
theorem dX9_findsRun_41 : decode cX9_findsRun 41 = .ok (.iload_n 2, 1) := by decide +kernel
theorem dX9_findsRun_42 : decode cX9_findsRun 42 = .ok (.iconst 1, 1) := by decide +kernel
theorem dX9_findsRun_43 : decode cX9_findsRun 43 = .ok (.isub, 1) := by decide +kernel
theorem dX9_findsRun_44 : decode cX9_findsRun 44 = .ok (.invokevirtual 405, 3) := by decide +kernel
theorem dX9_findsRun_47 : decode cX9_findsRun 47 = .ok (.ifCond .eq 35, 3) := by decide +kernel
theorem dX9_findsRun_50 : decode cX9_findsRun 50 = .ok (.aload_n 0, 1) := by decide +kernel
theorem dX9_findsRun_51 : decode cX9_findsRun 51 = .ok (.dup, 1) := by decide +kernel
theorem dX9_findsRun_52 : decode cX9_findsRun 52 = .ok (.getfield 448, 3) := by decide +kernel
theorem dX9_findsRun_55 : decode cX9_findsRun 55 = .ok (.iconst 1, 1) := by decide +kernel
theorem dX9_findsRun_56 : decode cX9_findsRun 56 = .ok (.iadd, 1) := by decide +kernel
theorem dX9_findsRun_57 : decode cX9_findsRun 57 = .ok (.putfield 448, 3) := by decide +kernel
theorem dX9_findsRun_60 : decode cX9_findsRun 60 = .ok (.aload_n 0, 1) := by decide +kernel
theorem dX9_findsRun_61 : decode cX9_findsRun 61 = .ok (.aload_n 0, 1) := by decide +kernel
theorem dX9_findsRun_62 : decode cX9_findsRun 62 = .ok (.getfield 448, 3) := by decide +kernel
theorem dX9_findsRun_65 : decode cX9_findsRun 65 = .ok (.iconst 1, 1) := by decide +kernel
theorem dX9_findsRun_66 : decode cX9_findsRun 66 = .ok (.isub, 1) := by decide +kernel
theorem dX9_findsRun_67 : decode cX9_findsRun 67 = .ok (.iload_n 1, 1) := by decide +kernel
theorem dX9_findsRun_68 : decode cX9_findsRun 68 = .ok (.if_icmp .ne 7, 3) := by decide +kernel
theorem dX9_findsRun_71 : decode cX9_findsRun 71 = .ok (.iload_n 2, 1) := by decide +kernel
theorem dX9_findsRun_72 : decode cX9_findsRun 72 = .ok (.goto 7, 3) := by decide +kernel
theorem dX9_findsRun_75 : decode cX9_findsRun 75 = .ok (.aload_n 0, 1) := by decide +kernel
theorem dX9_findsRun_76 : decode cX9_findsRun 76 = .ok (.getfield 451, 3) := by decide +kernel
theorem dX9_findsRun_79 : decode cX9_findsRun 79 = .ok (.putfield 451, 3) := by decide +kernel
theorem dX9_findsRun_82 : decode cX9_findsRun 82 = .ok (.aload_n 0, 1) := by decide +kernel
theorem dX9_findsRun_83 : decode cX9_findsRun 83 = .ok (.dup, 1) := by decide +kernel
theorem dX9_findsRun_84 : decode cX9_findsRun 84 = .ok (.getfield 454, 3) := by decide +kernel
theorem dX9_findsRun_87 : decode cX9_findsRun 87 = .ok (.aload_n 0, 1) := by decide +kernel
theorem dX9_findsRun_88 : decode cX9_findsRun 88 = .ok (.getfield 448, 3) := by decide +kernel
theorem dX9_findsRun_91 : decode cX9_findsRun 91 = .ok (.iconst 1, 1) := by decide +kernel
theorem dX9_findsRun_92 : decode cX9_findsRun 92 = .ok (.isub, 1) := by decide +kernel
theorem dX9_findsRun_93 : decode cX9_findsRun 93 = .ok (.iload_n 1, 1) := by decide +kernel
theorem dX9_findsRun_94 : decode cX9_findsRun 94 = .ok (.if_icmp .ne 7, 3) := by decide +kernel
theorem dX9_findsRun_97 : decode cX9_findsRun 97 = .ok (.iconst 1, 1) := by decide +kernel
theorem dX9_findsRun_98 : decode cX9_findsRun 98 = .ok (.goto 4, 3) := by decide +kernel
theorem dX9_findsRun_101 : decode cX9_findsRun 101 = .ok (.iconst 0, 1) := by decide +kernel
theorem dX9_findsRun_102 : decode cX9_findsRun 102 = .ok (.iadd, 1) := by decide +kernel
theorem dX9_findsRun_103 : decode cX9_findsRun 103 = .ok (.putfield 454, 3) := by decide +kernel
theorem dX9_findsRun_106 : decode cX9_findsRun 106 = .ok (.iinc 2 1, 3) := by decide +kernel
theorem dX9_findsRun_109 : decode cX9_findsRun 109 = .ok (.goto (-92), 3) := by decide +kernel
theorem dX9_findsRun_112 : decode cX9_findsRun 112 = .ok (.return_, 1) := by decide +kernel
def f_Mo_findsRun_60_J82 (v1 : Int32) (v2 : Int32) (σ : xS) : Option ((Int32 × xS) ⊕ (Int32 × xS)) :=
  if (σ.1 60 65 - (1 : Int32)) = v1 then
    let σ3 := x_pI σ 60 67 (σ.1 60 67 + (1 : Int32))
    let w4 := v2 + (1 : Int32)
    some (.inr (w4, σ3))
  else
    let σ1 := x_pI σ 60 67 (σ.1 60 67 + (0 : Int32))
    let w2 := v2 + (1 : Int32)
    some (.inr (w2, σ1))
def f_Mo_findsRun_60_J79 (v1 : Int32) (v2 : Int32) (y1 : Int32) (σ : xS) : Option ((Int32 × xS) ⊕ (Int32 × xS)) :=
  let σ5 := x_pI σ 60 66 y1
  f_Mo_findsRun_60_J82 v1 v2 σ5
def f_Mo_findsRun_60_J50 (v1 : Int32) (v2 : Int32) (σ : xS) : Option ((Int32 × xS) ⊕ (Int32 × xS)) :=
  let σ6 := x_pI σ 60 65 (σ.1 60 65 + (1 : Int32))
  if (σ6.1 60 65 - (1 : Int32)) = v1 then
    f_Mo_findsRun_60_J79 v1 v2 v2 σ6
  else
    f_Mo_findsRun_60_J79 v1 v2 (σ6.1 60 66) σ6
def f_Mo_findsRun_60_L17 (v1 : Int32) (a : Int32 × xS) : Option ((Int32 × xS) ⊕ (Int32 × xS)) :=
  let v2 := a.1; let σ := a.2;
  (f_Mo_last_60  σ).bind fun q7 =>
  if q7.1 < v2 then
    some (.inl (v2, q7.2))
  else
    (f_Mo_isSharp_60 v2 q7.2).bind fun q8 =>
    if q8.1 = 0 then
      if v2 = 0 then
        f_Mo_findsRun_60_J50 v1 v2 q8.2
      else
        (f_Mo_isSharp_60 (v2 - (1 : Int32)) q8.2).bind fun q9 =>
        if q9.1 = 0 then
          f_Mo_findsRun_60_J82 v1 v2 q9.2
        else
          f_Mo_findsRun_60_J50 v1 v2 q9.2
    else
      let w10 := v2 + (1 : Int32)
      some (.inr (w10, q8.2))
def f_Mo_findsRun_60 (v1 : Int32) (σ : xS) : Option (Unit × xS) :=
  let σ11 := x_pI σ 60 65 (0 : Int32)
  let σ12 := x_pI σ11 60 66 (-1 : Int32)
  let σ13 := x_pI σ12 60 67 (0 : Int32)
  (x_it (f_Mo_findsRun_60_L17 v1) 10000 ((0 : Int32), σ13)).bind fun b14 =>
  some ((), b14.2)
set_option maxHeartbeats 4000000 in
set_option maxRecDepth 100000 in
theorem j_Mo_findsRun_60_J82 {l : Launch} {s0 : State} {a0 : Array Value} {D : va_G} {cA : Nat → ClassId} {sp : Nat → Nat} (E : x_En CL l s0 a0 D cA sp) (v1 : Int32) (v2 : Int32)  (σ : xS) {r : Unit} {σ1 : xS} (o : (Int32 × xS) ⊕ (Int32 × xS)) (h : f_Mo_findsRun_60_J82 v1 v2 σ = some o) (hK : ∀ b, o = .inl b → zW l s0 D cA sp (zQ s0 D cA sp none σ1) (x_rm 2 0 0) M_Mo_findsRun 0 0 112 [none, none, none] [] b.2) (hG : ∀ a', o = .inr a' → zW l s0 D cA sp (zQ s0 D cA sp none σ1) (x_rm 2 0 0) M_Mo_findsRun 0 0 17 [some (.ref 60), some (.int v1), some (.int a'.1)] [] a'.2) : zW l s0 D cA sp (zQ s0 D cA sp none σ1) (x_rm 2 0 0) M_Mo_findsRun 0 0 82 [some (.ref 60), some (.int v1), some (.int v2)] [] σ := by
  unfold f_Mo_findsRun_60_J82 at h
  try dsimp only at h
  refine x_aload_n 83 rfl 0 dX9_findsRun_82 rfl rfl ?_
  refine x_dup 84 rfl dX9_findsRun_83 rfl ?_
  refine x_getI E dX9_findsRun_84 F_RX9_454 sh_60 87 rfl ?_
  refine x_aload_n 88 rfl 0 dX9_findsRun_87 rfl rfl ?_
  refine x_getI E dX9_findsRun_88 F_RX9_448 sh_60 91 rfl ?_
  refine x_iconst 92 rfl (v := 1) dX9_findsRun_91 (by decide) ?_
  refine x_isub 93 rfl dX9_findsRun_92 ?_
  refine x_iload_n 94 rfl 1 dX9_findsRun_93 rfl rfl ?_
  refine x_icmp_ne 97 rfl 101 dX9_findsRun_94 (by decide) (fun hc => ?_) (fun hc => ?_)
  · replace h := x_ifF hc h
    refine x_iconst 102 rfl (v := 0) dX9_findsRun_101 (by decide) ?_
    refine x_iadd 103 rfl dX9_findsRun_102 ?_
    refine x_putI E dX9_findsRun_103 F_RX9_454 sh_60 106 rfl ?_
    refine x_iinc 109 rfl (1) dX9_findsRun_106 rfl (by decide) (by decide) [some (.ref 60), some (.int _), some (.int _)] rfl ?_
    refine x_goto 17 dX9_findsRun_109 (by decide) ?_
    cases h
    exact x_wk (x_le_s (x_le_s (x_le_s x_le_0))) (hG (_, _) rfl)
  · replace h := x_ifT hc h
    refine x_iconst 98 rfl (v := 1) dX9_findsRun_97 (by decide) ?_
    refine x_goto 102 dX9_findsRun_98 (by decide) ?_
    refine x_iadd 103 rfl dX9_findsRun_102 ?_
    refine x_putI E dX9_findsRun_103 F_RX9_454 sh_60 106 rfl ?_
    refine x_iinc 109 rfl (1) dX9_findsRun_106 rfl (by decide) (by decide) [some (.ref 60), some (.int _), some (.int _)] rfl ?_
    refine x_goto 17 dX9_findsRun_109 (by decide) ?_
    cases h
    exact x_wk (x_le_s (x_le_s (x_le_s x_le_0))) (hG (_, _) rfl)
set_option maxHeartbeats 4000000 in
set_option maxRecDepth 100000 in
theorem j_Mo_findsRun_60_J79 {l : Launch} {s0 : State} {a0 : Array Value} {D : va_G} {cA : Nat → ClassId} {sp : Nat → Nat} (E : x_En CL l s0 a0 D cA sp) (v1 : Int32) (v2 : Int32) (y1 : Int32)  (σ : xS) {r : Unit} {σ1 : xS} (o : (Int32 × xS) ⊕ (Int32 × xS)) (h : f_Mo_findsRun_60_J79 v1 v2 y1 σ = some o) (hK : ∀ b, o = .inl b → zW l s0 D cA sp (zQ s0 D cA sp none σ1) (x_rm 2 0 0) M_Mo_findsRun 0 0 112 [none, none, none] [] b.2) (hG : ∀ a', o = .inr a' → zW l s0 D cA sp (zQ s0 D cA sp none σ1) (x_rm 2 0 0) M_Mo_findsRun 0 0 17 [some (.ref 60), some (.int v1), some (.int a'.1)] [] a'.2) : zW l s0 D cA sp (zQ s0 D cA sp none σ1) (x_rm 2 0 0) M_Mo_findsRun 0 0 79 [some (.ref 60), some (.int v1), some (.int v2)] [.int y1, .ref 60] σ := by
  unfold f_Mo_findsRun_60_J79 at h
  try dsimp only at h
  refine x_putI E dX9_findsRun_79 F_RX9_451 sh_60 82 rfl ?_
  exact x_wk (x_le_s (x_le_s (x_le_s x_le_0))) (j_Mo_findsRun_60_J82 (r := r) (σ1 := σ1) E _ _  _ _ h hK hG)
set_option maxHeartbeats 4000000 in
set_option maxRecDepth 100000 in
theorem j_Mo_findsRun_60_J50 {l : Launch} {s0 : State} {a0 : Array Value} {D : va_G} {cA : Nat → ClassId} {sp : Nat → Nat} (E : x_En CL l s0 a0 D cA sp) (v1 : Int32) (v2 : Int32)  (σ : xS) {r : Unit} {σ1 : xS} (o : (Int32 × xS) ⊕ (Int32 × xS)) (h : f_Mo_findsRun_60_J50 v1 v2 σ = some o) (hK : ∀ b, o = .inl b → zW l s0 D cA sp (zQ s0 D cA sp none σ1) (x_rm 2 0 0) M_Mo_findsRun 0 0 112 [none, none, none] [] b.2) (hG : ∀ a', o = .inr a' → zW l s0 D cA sp (zQ s0 D cA sp none σ1) (x_rm 2 0 0) M_Mo_findsRun 0 0 17 [some (.ref 60), some (.int v1), some (.int a'.1)] [] a'.2) : zW l s0 D cA sp (zQ s0 D cA sp none σ1) (x_rm 2 0 0) M_Mo_findsRun 0 0 50 [some (.ref 60), some (.int v1), some (.int v2)] [] σ := by
  unfold f_Mo_findsRun_60_J50 at h
  try dsimp only at h
  refine x_aload_n 51 rfl 0 dX9_findsRun_50 rfl rfl ?_
  refine x_dup 52 rfl dX9_findsRun_51 rfl ?_
  refine x_getI E dX9_findsRun_52 F_RX9_448 sh_60 55 rfl ?_
  refine x_iconst 56 rfl (v := 1) dX9_findsRun_55 (by decide) ?_
  refine x_iadd 57 rfl dX9_findsRun_56 ?_
  refine x_putI E dX9_findsRun_57 F_RX9_448 sh_60 60 rfl ?_
  refine x_aload_n 61 rfl 0 dX9_findsRun_60 rfl rfl ?_
  refine x_aload_n 62 rfl 0 dX9_findsRun_61 rfl rfl ?_
  refine x_getI E dX9_findsRun_62 F_RX9_448 sh_60 65 rfl ?_
  refine x_iconst 66 rfl (v := 1) dX9_findsRun_65 (by decide) ?_
  refine x_isub 67 rfl dX9_findsRun_66 ?_
  refine x_iload_n 68 rfl 1 dX9_findsRun_67 rfl rfl ?_
  refine x_icmp_ne 71 rfl 75 dX9_findsRun_68 (by decide) (fun hc => ?_) (fun hc => ?_)
  · replace h := x_ifF hc h
    refine x_aload_n 76 rfl 0 dX9_findsRun_75 rfl rfl ?_
    refine x_getI E dX9_findsRun_76 F_RX9_451 sh_60 79 rfl ?_
    exact x_wk (x_le_s (x_le_s (x_le_s x_le_0))) (j_Mo_findsRun_60_J79 (r := r) (σ1 := σ1) E _ _ _  _ _ h hK hG)
  · replace h := x_ifT hc h
    refine x_iload_n 72 rfl 2 dX9_findsRun_71 rfl rfl ?_
    refine x_goto 79 dX9_findsRun_72 (by decide) ?_
    exact x_wk (x_le_s (x_le_s (x_le_s x_le_0))) (j_Mo_findsRun_60_J79 (r := r) (σ1 := σ1) E _ _ _  _ _ h hK hG)
set_option maxHeartbeats 4000000 in
set_option maxRecDepth 100000 in
theorem b_Mo_findsRun_60_L17 {l : Launch} {s0 : State} {a0 : Array Value} {D : va_G} {cA : Nat → ClassId} {sp : Nat → Nat} (E : x_En CL l s0 a0 D cA sp) (v1 : Int32) {r : Unit} {σ1 : xS} (a : Int32 × xS) (o : (Int32 × xS) ⊕ (Int32 × xS)) (h : f_Mo_findsRun_60_L17 v1 a = some o) (hK : ∀ b, o = .inl b → zW l s0 D cA sp (zQ s0 D cA sp none σ1) (x_rm 2 0 0) M_Mo_findsRun 0 0 112 [none, none, none] [] b.2) (hG : ∀ a', o = .inr a' → zW l s0 D cA sp (zQ s0 D cA sp none σ1) (x_rm 2 0 0) M_Mo_findsRun 0 0 17 [some (.ref 60), some (.int v1), some (.int a'.1)] [] a'.2) : zW l s0 D cA sp (zQ s0 D cA sp none σ1) (x_rm 2 0 0) M_Mo_findsRun 0 0 17 [some (.ref 60), some (.int v1), some (.int a.1)] [] a.2 := by
  obtain ⟨v2, σ⟩ := a
  unfold f_Mo_findsRun_60_L17 at h
  try dsimp only at h ⊢
  refine x_iload_n 18 rfl 2 dX9_findsRun_17 rfl rfl ?_
  refine x_aload_n 19 rfl 0 dX9_findsRun_18 rfl rfl ?_
  obtain ⟨⟨q7r, q7s⟩, q7h, h⟩ := x_bind h
  try dsimp only at h
  refine z_callV E [] [.int _] dX9_findsRun_19 K_RX9_390 ⟨Nat.le_of_ble_eq_true rfl, Nat.le_of_ble_eq_true rfl⟩ sh_60 (by decide) rfl (c_Mo_last_60 E  q7h) rfl rfl (Nat.le_of_ble_eq_true rfl) 22 rfl [.int _, .int _] rfl ?_
  refine x_icmp_gt 25 rfl 112 dX9_findsRun_22 (by decide) (fun hc => ?_) (fun hc => ?_)
  · replace h := x_ifT hc h
    cases h
    exact x_wk (x_le_n (x_le_n (x_le_n x_le_0))) (hK (_, _) rfl)
  · replace h := x_ifF hc h
    refine x_aload_n 26 rfl 0 dX9_findsRun_25 rfl rfl ?_
    refine x_iload_n 27 rfl 2 dX9_findsRun_26 rfl rfl ?_
    obtain ⟨⟨q8r, q8s⟩, q8h, h⟩ := x_bind h
    try dsimp only at h
    refine z_callV E [.int _] [] dX9_findsRun_27 K_RX9_405 ⟨Nat.le_of_ble_eq_true rfl, Nat.le_of_ble_eq_true rfl⟩ sh_60 (by decide) rfl (c_Mo_isSharp_60 E _ q8h) rfl rfl (Nat.le_of_ble_eq_true rfl) 30 rfl [.int _] rfl ?_
    refine x_if_eq 33 rfl 36 dX9_findsRun_30 (by decide) (fun hc => ?_) (fun hc => ?_)
    · replace h := x_ifT hc h
      refine x_iload_n 37 rfl 2 dX9_findsRun_36 rfl rfl ?_
      refine x_if_eq 40 rfl 50 dX9_findsRun_37 (by decide) (fun hc => ?_) (fun hc => ?_)
      · replace h := x_ifT hc h
        exact x_wk (x_le_s (x_le_s (x_le_s x_le_0))) (j_Mo_findsRun_60_J50 (r := r) (σ1 := σ1) E _ _  _ _ h hK hG)
      · replace h := x_ifF hc h
        refine x_aload_n 41 rfl 0 dX9_findsRun_40 rfl rfl ?_
        refine x_iload_n 42 rfl 2 dX9_findsRun_41 rfl rfl ?_
        refine x_iconst 43 rfl (v := 1) dX9_findsRun_42 (by decide) ?_
        refine x_isub 44 rfl dX9_findsRun_43 ?_
        obtain ⟨⟨q9r, q9s⟩, q9h, h⟩ := x_bind h
        try dsimp only at h
        refine z_callV E [.int _] [] dX9_findsRun_44 K_RX9_405 ⟨Nat.le_of_ble_eq_true rfl, Nat.le_of_ble_eq_true rfl⟩ sh_60 (by decide) rfl (c_Mo_isSharp_60 E _ q9h) rfl rfl (Nat.le_of_ble_eq_true rfl) 47 rfl [.int _] rfl ?_
        refine x_if_eq 50 rfl 82 dX9_findsRun_47 (by decide) (fun hc => ?_) (fun hc => ?_)
        · replace h := x_ifT hc h
          exact x_wk (x_le_s (x_le_s (x_le_s x_le_0))) (j_Mo_findsRun_60_J82 (r := r) (σ1 := σ1) E _ _  _ _ h hK hG)
        · replace h := x_ifF hc h
          exact x_wk (x_le_s (x_le_s (x_le_s x_le_0))) (j_Mo_findsRun_60_J50 (r := r) (σ1 := σ1) E _ _  _ _ h hK hG)
    · replace h := x_ifF hc h
      refine x_goto 106 dX9_findsRun_33 (by decide) ?_
      refine x_iinc 109 rfl (1) dX9_findsRun_106 rfl (by decide) (by decide) [some (.ref 60), some (.int _), some (.int _)] rfl ?_
      refine x_goto 17 dX9_findsRun_109 (by decide) ?_
      cases h
      exact x_wk (x_le_s (x_le_s (x_le_s x_le_0))) (hG (_, _) rfl)
set_option maxHeartbeats 4000000 in
set_option maxRecDepth 100000 in
theorem c_Mo_findsRun_60 {l : Launch} {s0 : State} {a0 : Array Value} {D : va_G} {cA : Nat → ClassId} {sp : Nat → Nat} (E : x_En CL l s0 a0 D cA sp) (v1 : Int32) {σ : xS} {r : Unit} {σ1 : xS} (h : f_Mo_findsRun_60 v1 σ = some (r, σ1)) : zC l s0 D cA sp 2 M_Mo_findsRun [.ref 60, .int v1] σ none σ1 := by
  unfold f_Mo_findsRun_60 at h
  try dsimp only at h
  refine x_enter [some (.ref 60), some (.int v1), none] rfl (Nat.le_of_ble_eq_true rfl) (by decide +kernel) rfl ?_
  refine x_aload_n 1 rfl 0 dX9_findsRun_0 rfl rfl ?_
  refine x_iconst 2 rfl (v := 0) dX9_findsRun_1 (by decide) ?_
  refine x_putI E dX9_findsRun_2 F_RX9_448 sh_60 5 rfl ?_
  refine x_aload_n 6 rfl 0 dX9_findsRun_5 rfl rfl ?_
  refine x_iconst 7 rfl (v := -1) dX9_findsRun_6 (by decide) ?_
  refine x_putI E dX9_findsRun_7 F_RX9_451 sh_60 10 rfl ?_
  refine x_aload_n 11 rfl 0 dX9_findsRun_10 rfl rfl ?_
  refine x_iconst 12 rfl (v := 0) dX9_findsRun_11 (by decide) ?_
  refine x_putI E dX9_findsRun_12 F_RX9_454 sh_60 15 rfl ?_
  refine x_iconst 16 rfl (v := 0) dX9_findsRun_15 (by decide) ?_
  refine x_istore_n 17 rfl 2 dX9_findsRun_16 rfl (by decide) [some (.ref 60), some (.int _), some (.int _)] rfl ?_
  obtain ⟨b14, b14h, h⟩ := x_bind h
  try dsimp only at h
  refine x_wk (x_le_s (x_le_s (x_le_s x_le_0))) (x_loop (fun a o h hK hG => b_Mo_findsRun_60_L17 (r := r) (σ1 := σ1) E _ a o h hK hG) _ _ _ b14h ?_)
  cases h
  exact x_vret dX9_findsRun_112 rfl rfl rfl
theorem K_RX9_457 : x_KV RX9 457 M_Mo_findsRun 1 := ⟨⟨(List.mem_append_right _ (List.mem_of_getElem? (i := 1798) (by decide +kernel))), (List.mem_append_right _ (List.mem_of_getElem? (i := 1801) (by decide +kernel))), (List.mem_append_right _ (List.mem_of_getElem? (i := 9) (by decide +kernel))), ⟨by decide +kernel, by decide +kernel⟩, by decide +kernel⟩, (List.mem_append_right _ (List.mem_of_getElem? (i := 1800) (by decide +kernel))), (List.mem_append_left _ (List.mem_of_getElem? (i := 100) (by decide +kernel)))⟩
abbrev M_Mo_runs : xM := (yX9_runs, cX9_runs, 3, some .int, [])
theorem dX9_runs_0 : decode cX9_runs 0 = .ok (.aload_n 0, 1) := by decide +kernel
theorem dX9_runs_1 : decode cX9_runs 1 = .ok (.iconst 0, 1) := by decide +kernel
theorem dX9_runs_2 : decode cX9_runs 2 = .ok (.putfield 132, 3) := by decide +kernel
theorem dX9_runs_5 : decode cX9_runs 5 = .ok (.aload_n 0, 1) := by decide +kernel
theorem dX9_runs_6 : decode cX9_runs 6 = .ok (.iload_n 2, 1) := by decide +kernel
theorem dX9_runs_7 : decode cX9_runs 7 = .ok (.iconst 1, 1) := by decide +kernel
theorem dX9_runs_8 : decode cX9_runs 8 = .ok (.invokevirtual 421, 3) := by decide +kernel
theorem dX9_runs_11 : decode cX9_runs 11 = .ok (.ifCond .ne 5, 3) := by decide +kernel
theorem dX9_runs_14 : decode cX9_runs 14 = .ok (.iconst 0, 1) := by decide +kernel
theorem dX9_runs_15 : decode cX9_runs 15 = .ok (.ireturn, 1) := by decide +kernel
theorem dX9_runs_16 : decode cX9_runs 16 = .ok (.aload_n 0, 1) := by decide +kernel
theorem dX9_runs_17 : decode cX9_runs 17 = .ok (.invokevirtual 408, 3) := by decide +kernel
theorem dX9_runs_20 : decode cX9_runs 20 = .ok (.aload_n 0, 1) := by decide +kernel
theorem dX9_runs_21 : decode cX9_runs 21 = .ok (.iload_n 1, 1) := by decide +kernel
theorem dX9_runs_22 : decode cX9_runs 22 = .ok (.invokevirtual 457, 3) := by decide +kernel
theorem dX9_runs_25 : decode cX9_runs 25 = .ok (.aload_n 0, 1) := by decide +kernel
theorem dX9_runs_26 : decode cX9_runs 26 = .ok (.iload_n 1, 1) := by decide +kernel
theorem dX9_runs_27 : decode cX9_runs 27 = .ok (.iconst (-1), 1) := by decide +kernel
theorem dX9_runs_28 : decode cX9_runs 28 = .ok (.if_icmp .lt 15, 3) := by decide +kernel
theorem dX9_runs_31 : decode cX9_runs 31 = .ok (.iload_n 1, 1) := by decide +kernel
theorem dX9_runs_32 : decode cX9_runs 32 = .ok (.aload_n 0, 1) := by decide +kernel
theorem dX9_runs_33 : decode cX9_runs 33 = .ok (.getfield 448, 3) := by decide +kernel
theorem dX9_runs_36 : decode cX9_runs 36 = .ok (.if_icmp .ge 7, 3) := by decide +kernel
theorem dX9_runs_39 : decode cX9_runs 39 = .ok (.iconst 1, 1) := by decide +kernel
theorem dX9_runs_40 : decode cX9_runs 40 = .ok (.goto 4, 3) := by decide +kernel
theorem dX9_runs_43 : decode cX9_runs 43 = .ok (.iconst 0, 1) := by decide +kernel
theorem dX9_runs_44 : decode cX9_runs 44 = .ok (.iconst 1, 1) := by decide +kernel
theorem dX9_runs_45 : decode cX9_runs 45 = .ok (.invokevirtual 311, 3) := by decide +kernel
theorem dX9_runs_48 : decode cX9_runs 48 = .ok (.ifCond .ne 5, 3) := by decide +kernel
theorem dX9_runs_51 : decode cX9_runs 51 = .ok (.iconst 0, 1) := by decide +kernel
theorem dX9_runs_52 : decode cX9_runs 52 = .ok (.ireturn, 1) := by decide +kernel
theorem dX9_runs_53 : decode cX9_runs 53 = .ok (.iload_n 1, 1) := by decide +kernel
theorem dX9_runs_54 : decode cX9_runs 54 = .ok (.iconst (-1), 1) := by decide +kernel
theorem dX9_runs_55 : decode cX9_runs 55 = .ok (.if_icmp .ne 10, 3) := by decide +kernel
theorem dX9_runs_58 : decode cX9_runs 58 = .ok (.aload_n 0, 1) := by decide +kernel
theorem dX9_runs_59 : decode cX9_runs 59 = .ok (.getfield 448, 3) := by decide +kernel
theorem dX9_runs_62 : decode cX9_runs 62 = .ok (.goto 18, 3) := by decide +kernel
theorem dX9_runs_65 : decode cX9_runs 65 = .ok (.iload_n 2, 1) := by decide +kernel
theorem dX9_runs_66 : decode cX9_runs 66 = .ok (.ifCond .ne 10, 3) := by decide +kernel
theorem dX9_runs_69 : decode cX9_runs 69 = .ok (.aload_n 0, 1) := by decide +kernel
theorem dX9_runs_70 : decode cX9_runs 70 = .ok (.getfield 451, 3) := by decide +kernel
theorem dX9_runs_73 : decode cX9_runs 73 = .ok (.goto 7, 3) := by decide +kernel
theorem dX9_runs_76 : decode cX9_runs 76 = .ok (.aload_n 0, 1) := by decide +kernel
theorem dX9_runs_77 : decode cX9_runs 77 = .ok (.getfield 454, 3) := by decide +kernel
theorem dX9_runs_80 : decode cX9_runs 80 = .ok (.ireturn, 1) := by decide +kernel
def f_Mo_runs_60_J44 (v1 : Int32) (v2 : Int32) (y1 : Int32) (σ : xS) : Option (Int32 × xS) :=
  (f_Mo_right_60 y1 (1 : Int32) σ).bind fun q1 =>
  if q1.1 = 0 then
    some ((0 : Int32), q1.2)
  else
    if v1 = (-1 : Int32) then
      some (q1.2.1 60 65, q1.2)
    else
      if v2 = 0 then
        some (q1.2.1 60 66, q1.2)
      else
        some (q1.2.1 60 67, q1.2)
def f_Mo_runs_60_J43 (v1 : Int32) (v2 : Int32) (σ : xS) : Option (Int32 × xS) :=
  f_Mo_runs_60_J44 v1 v2 (0 : Int32) σ
def f_Mo_runs_60 (v1 : Int32) (v2 : Int32) (σ : xS) : Option (Int32 × xS) :=
  let σ2 := x_pI σ 60 0 (0 : Int32)
  (f_Mo_isWhat_60 v2 (1 : Int32) σ2).bind fun q3 =>
  if q3.1 = 0 then
    some ((0 : Int32), q3.2)
  else
    (f_Mo_goesThrough_60  q3.2).bind fun q4 =>
    (f_Mo_findsRun_60 v1 q4.2).bind fun q5 =>
    if v1 < (-1 : Int32) then
      f_Mo_runs_60_J43 v1 v2 q5.2
    else
      if q5.2.1 60 65 ≤ v1 then
        f_Mo_runs_60_J43 v1 v2 q5.2
      else
        f_Mo_runs_60_J44 v1 v2 (1 : Int32) q5.2
set_option maxHeartbeats 4000000 in
set_option maxRecDepth 100000 in
theorem j_Mo_runs_60_J44 {l : Launch} {s0 : State} {a0 : Array Value} {D : va_G} {cA : Nat → ClassId} {sp : Nat → Nat} (E : x_En CL l s0 a0 D cA sp) (v1 : Int32) (v2 : Int32) (y1 : Int32) (σ : xS) {r : Int32} {σ1 : xS} (h : f_Mo_runs_60_J44 v1 v2 y1 σ = some (r, σ1)) : zW l s0 D cA sp (zQ s0 D cA sp (some (.int r)) σ1) (x_rm 5 0 0) M_Mo_runs 0 0 44 [some (.ref 60), some (.int v1), some (.int v2)] [.int y1, .ref 60] σ := by
  unfold f_Mo_runs_60_J44 at h
  try dsimp only at h
  refine x_iconst 45 rfl (v := 1) dX9_runs_44 (by decide) ?_
  obtain ⟨⟨q1r, q1s⟩, q1h, h⟩ := x_bind h
  try dsimp only at h
  refine z_callV E [.int _, .int _] [] dX9_runs_45 K_RX9_311 ⟨Nat.le_of_ble_eq_true rfl, Nat.le_of_ble_eq_true rfl⟩ sh_60 (by decide) rfl (c_Mo_right_60 E _ _ q1h) rfl rfl (Nat.le_of_ble_eq_true rfl) 48 rfl [.int _] rfl ?_
  refine x_if_ne 51 rfl 53 dX9_runs_48 (by decide) (fun hc => ?_) (fun hc => ?_)
  · replace h := x_ifF hc h
    refine x_iload_n 54 rfl 1 dX9_runs_53 rfl rfl ?_
    refine x_iconst 55 rfl (v := -1) dX9_runs_54 (by decide) ?_
    refine x_icmp_ne 58 rfl 65 dX9_runs_55 (by decide) (fun hc => ?_) (fun hc => ?_)
    · replace h := x_ifF hc h
      refine x_iload_n 66 rfl 2 dX9_runs_65 rfl rfl ?_
      refine x_if_ne 69 rfl 76 dX9_runs_66 (by decide) (fun hc => ?_) (fun hc => ?_)
      · replace h := x_ifF hc h
        refine x_aload_n 77 rfl 0 dX9_runs_76 rfl rfl ?_
        refine x_getI E dX9_runs_77 F_RX9_454 sh_60 80 rfl ?_
        cases h
        exact x_iret dX9_runs_80 rfl rfl rfl
      · replace h := x_ifT hc h
        refine x_aload_n 70 rfl 0 dX9_runs_69 rfl rfl ?_
        refine x_getI E dX9_runs_70 F_RX9_451 sh_60 73 rfl ?_
        refine x_goto 80 dX9_runs_73 (by decide) ?_
        cases h
        exact x_iret dX9_runs_80 rfl rfl rfl
    · replace h := x_ifT hc h
      refine x_aload_n 59 rfl 0 dX9_runs_58 rfl rfl ?_
      refine x_getI E dX9_runs_59 F_RX9_448 sh_60 62 rfl ?_
      refine x_goto 80 dX9_runs_62 (by decide) ?_
      cases h
      exact x_iret dX9_runs_80 rfl rfl rfl
  · replace h := x_ifT hc h
    refine x_iconst 52 rfl (v := 0) dX9_runs_51 (by decide) ?_
    cases h
    exact x_iret dX9_runs_52 rfl rfl rfl
set_option maxHeartbeats 4000000 in
set_option maxRecDepth 100000 in
theorem j_Mo_runs_60_J43 {l : Launch} {s0 : State} {a0 : Array Value} {D : va_G} {cA : Nat → ClassId} {sp : Nat → Nat} (E : x_En CL l s0 a0 D cA sp) (v1 : Int32) (v2 : Int32) (σ : xS) {r : Int32} {σ1 : xS} (h : f_Mo_runs_60_J43 v1 v2 σ = some (r, σ1)) : zW l s0 D cA sp (zQ s0 D cA sp (some (.int r)) σ1) (x_rm 5 0 0) M_Mo_runs 0 0 43 [some (.ref 60), some (.int v1), some (.int v2)] [.ref 60] σ := by
  unfold f_Mo_runs_60_J43 at h
  try dsimp only at h
  refine x_iconst 44 rfl (v := 0) dX9_runs_43 (by decide) ?_
  exact x_wk (x_le_s (x_le_s (x_le_s x_le_0))) (j_Mo_runs_60_J44 E _ _ _ _ h)
set_option maxHeartbeats 4000000 in
set_option maxRecDepth 100000 in
theorem c_Mo_runs_60 {l : Launch} {s0 : State} {a0 : Array Value} {D : va_G} {cA : Nat → ClassId} {sp : Nat → Nat} (E : x_En CL l s0 a0 D cA sp) (v1 : Int32) (v2 : Int32) {σ : xS} {r : Int32} {σ1 : xS} (h : f_Mo_runs_60 v1 v2 σ = some (r, σ1)) : zC l s0 D cA sp 5 M_Mo_runs [.ref 60, .int v1, .int v2] σ (some (.int r)) σ1 := by
  unfold f_Mo_runs_60 at h
  try dsimp only at h
  refine x_enter [some (.ref 60), some (.int v1), some (.int v2)] rfl (Nat.le_of_ble_eq_true rfl) (by decide +kernel) rfl ?_
  refine x_aload_n 1 rfl 0 dX9_runs_0 rfl rfl ?_
  refine x_iconst 2 rfl (v := 0) dX9_runs_1 (by decide) ?_
  refine x_putI E dX9_runs_2 F_RX9_132 sh_60 5 rfl ?_
  refine x_aload_n 6 rfl 0 dX9_runs_5 rfl rfl ?_
  refine x_iload_n 7 rfl 2 dX9_runs_6 rfl rfl ?_
  refine x_iconst 8 rfl (v := 1) dX9_runs_7 (by decide) ?_
  obtain ⟨⟨q3r, q3s⟩, q3h, h⟩ := x_bind h
  try dsimp only at h
  refine z_callV E [.int _, .int _] [] dX9_runs_8 K_RX9_421 ⟨Nat.le_of_ble_eq_true rfl, Nat.le_of_ble_eq_true rfl⟩ sh_60 (by decide) rfl (c_Mo_isWhat_60 E _ _ q3h) rfl rfl (Nat.le_of_ble_eq_true rfl) 11 rfl [.int _] rfl ?_
  refine x_if_ne 14 rfl 16 dX9_runs_11 (by decide) (fun hc => ?_) (fun hc => ?_)
  · replace h := x_ifF hc h
    refine x_aload_n 17 rfl 0 dX9_runs_16 rfl rfl ?_
    obtain ⟨⟨q4r, q4s⟩, q4h, h⟩ := x_bind h
    try dsimp only at h
    refine z_callV E [] [] dX9_runs_17 K_RX9_408 ⟨Nat.le_of_ble_eq_true rfl, Nat.le_of_ble_eq_true rfl⟩ sh_60 (by decide) rfl (c_Mo_goesThrough_60 E  q4h) rfl rfl (Nat.le_of_ble_eq_true rfl) 20 rfl [] rfl ?_
    refine x_aload_n 21 rfl 0 dX9_runs_20 rfl rfl ?_
    refine x_iload_n 22 rfl 1 dX9_runs_21 rfl rfl ?_
    obtain ⟨⟨q5r, q5s⟩, q5h, h⟩ := x_bind h
    try dsimp only at h
    refine z_callV E [.int _] [] dX9_runs_22 K_RX9_457 ⟨Nat.le_of_ble_eq_true rfl, Nat.le_of_ble_eq_true rfl⟩ sh_60 (by decide) rfl (c_Mo_findsRun_60 E _ q5h) rfl rfl (Nat.le_of_ble_eq_true rfl) 25 rfl [] rfl ?_
    refine x_aload_n 26 rfl 0 dX9_runs_25 rfl rfl ?_
    refine x_iload_n 27 rfl 1 dX9_runs_26 rfl rfl ?_
    refine x_iconst 28 rfl (v := -1) dX9_runs_27 (by decide) ?_
    refine x_icmp_lt 31 rfl 43 dX9_runs_28 (by decide) (fun hc => ?_) (fun hc => ?_)
    · replace h := x_ifT hc h
      exact x_wk (x_le_s (x_le_s (x_le_s x_le_0))) (j_Mo_runs_60_J43 E _ _ _ h)
    · replace h := x_ifF hc h
      refine x_iload_n 32 rfl 1 dX9_runs_31 rfl rfl ?_
      refine x_aload_n 33 rfl 0 dX9_runs_32 rfl rfl ?_
      refine x_getI E dX9_runs_33 F_RX9_448 sh_60 36 rfl ?_
      refine x_icmp_ge 39 rfl 43 dX9_runs_36 (by decide) (fun hc => ?_) (fun hc => ?_)
      · replace h := x_ifT hc h
        exact x_wk (x_le_s (x_le_s (x_le_s x_le_0))) (j_Mo_runs_60_J43 E _ _ _ h)
      · replace h := x_ifF hc h
        refine x_iconst 40 rfl (v := 1) dX9_runs_39 (by decide) ?_
        refine x_goto 44 dX9_runs_40 (by decide) ?_
        exact x_wk (x_le_s (x_le_s (x_le_s x_le_0))) (j_Mo_runs_60_J44 E _ _ _ _ h)
  · replace h := x_ifT hc h
    refine x_iconst 15 rfl (v := 0) dX9_runs_14 (by decide) ?_
    cases h
    exact x_iret dX9_runs_15 rfl rfl rfl
abbrev M_Mo_sharpWith : xM := (yX9_sharpWith, cX9_sharpWith, 5, some .int, [])
theorem dX9_sharpWith_0 : decode cX9_sharpWith 0 = .ok (.aload_n 0, 1) := by decide +kernel
theorem dX9_sharpWith_1 : decode cX9_sharpWith 1 = .ok (.getfield 78, 3) := by decide +kernel
theorem dX9_sharpWith_4 : decode cX9_sharpWith 4 = .ok (.iload_n 1, 1) := by decide +kernel
theorem dX9_sharpWith_5 : decode cX9_sharpWith 5 = .ok (.iaload, 1) := by decide +kernel
theorem dX9_sharpWith_6 : decode cX9_sharpWith 6 = .ok (.istore_n 3, 1) := by decide +kernel
theorem dX9_sharpWith_7 : decode cX9_sharpWith 7 = .ok (.aload_n 0, 1) := by decide +kernel
theorem dX9_sharpWith_8 : decode cX9_sharpWith 8 = .ok (.getfield 78, 3) := by decide +kernel
theorem dX9_sharpWith_11 : decode cX9_sharpWith 11 = .ok (.iload_n 1, 1) := by decide +kernel
theorem dX9_sharpWith_12 : decode cX9_sharpWith 12 = .ok (.iload_n 2, 1) := by decide +kernel
theorem dX9_sharpWith_13 : decode cX9_sharpWith 13 = .ok (.iastore, 1) := by decide +kernel
theorem dX9_sharpWith_14 : decode cX9_sharpWith 14 = .ok (.aload_n 0, 1) := by decide +kernel
theorem dX9_sharpWith_15 : decode cX9_sharpWith 15 = .ok (.invokevirtual 445, 3) := by decide +kernel
theorem dX9_sharpWith_18 : decode cX9_sharpWith 18 = .ok (.istore 4, 2) := by decide +kernel
theorem dX9_sharpWith_20 : decode cX9_sharpWith 20 = .ok (.aload_n 0, 1) := by decide +kernel
theorem dX9_sharpWith_21 : decode cX9_sharpWith 21 = .ok (.getfield 78, 3) := by decide +kernel
theorem dX9_sharpWith_24 : decode cX9_sharpWith 24 = .ok (.iload_n 1, 1) := by decide +kernel
theorem dX9_sharpWith_25 : decode cX9_sharpWith 25 = .ok (.iload_n 3, 1) := by decide +kernel
theorem dX9_sharpWith_26 : decode cX9_sharpWith 26 = .ok (.iastore, 1) := by decide +kernel
theorem dX9_sharpWith_27 : decode cX9_sharpWith 27 = .ok (.iload 4, 2) := by decide +kernel
theorem dX9_sharpWith_29 : decode cX9_sharpWith 29 = .ok (.ireturn, 1) := by decide +kernel
def f_Mo_sharpWith_60 (v1 : Int32) (v2 : Int32) (σ : xS) : Option (Int32 × xS) :=
  if v1 < 0 ∨ 12 ≤ v1.toNatClampNeg then none else
  let w1 := σ.1 79 v1.toNatClampNeg
  if v1 < 0 ∨ 12 ≤ v1.toNatClampNeg then none else
  let σ2 := x_pI σ 79 v1.toNatClampNeg v2
  (f_Mo_takesSharp_60  σ2).bind fun q3 =>
  let w4 := q3.1
  if v1 < 0 ∨ 12 ≤ v1.toNatClampNeg then none else
  let σ5 := x_pI q3.2 79 v1.toNatClampNeg w1
  some (w4, σ5)
set_option maxHeartbeats 4000000 in
set_option maxRecDepth 100000 in
theorem c_Mo_sharpWith_60 {l : Launch} {s0 : State} {a0 : Array Value} {D : va_G} {cA : Nat → ClassId} {sp : Nat → Nat} (E : x_En CL l s0 a0 D cA sp) (v1 : Int32) (v2 : Int32) {σ : xS} {r : Int32} {σ1 : xS} (h : f_Mo_sharpWith_60 v1 v2 σ = some (r, σ1)) : zC l s0 D cA sp 6 M_Mo_sharpWith [.ref 60, .int v1, .int v2] σ (some (.int r)) σ1 := by
  unfold f_Mo_sharpWith_60 at h
  try dsimp only at h
  refine x_enter [some (.ref 60), some (.int v1), some (.int v2), none, none] rfl (Nat.le_of_ble_eq_true rfl) (by decide +kernel) rfl ?_
  refine x_aload_n 1 rfl 0 dX9_sharpWith_0 rfl rfl ?_
  refine x_getR E dX9_sharpWith_1 F_RX9_78 sh_60 rf_60_53 4 rfl ?_
  refine x_iload_n 5 rfl 1 dX9_sharpWith_4 rfl rfl ?_
  obtain ⟨hz, h⟩ := x_ifn h
  refine x_iald E dX9_sharpWith_5 sh_79 _ rfl hz 6 rfl ?_
  refine x_istore_n 7 rfl 3 dX9_sharpWith_6 rfl (by decide) [some (.ref 60), some (.int _), some (.int _), some (.int _), none] rfl ?_
  refine x_aload_n 8 rfl 0 dX9_sharpWith_7 rfl rfl ?_
  refine x_getR E dX9_sharpWith_8 F_RX9_78 sh_60 rf_60_53 11 rfl ?_
  refine x_iload_n 12 rfl 1 dX9_sharpWith_11 rfl rfl ?_
  refine x_iload_n 13 rfl 2 dX9_sharpWith_12 rfl rfl ?_
  obtain ⟨hz, h⟩ := x_ifn h
  refine x_iast E dX9_sharpWith_13 sh_79 _ rfl hz 14 rfl ?_
  refine x_aload_n 15 rfl 0 dX9_sharpWith_14 rfl rfl ?_
  obtain ⟨⟨q3r, q3s⟩, q3h, h⟩ := x_bind h
  try dsimp only at h
  refine z_callV E [] [] dX9_sharpWith_15 K_RX9_445 ⟨Nat.le_of_ble_eq_true rfl, Nat.le_of_ble_eq_true rfl⟩ sh_60 (by decide) rfl (c_Mo_takesSharp_60 E  q3h) rfl rfl (Nat.le_of_ble_eq_true rfl) 18 rfl [.int _] rfl ?_
  refine x_istore 20 rfl dX9_sharpWith_18 (by decide) [some (.ref 60), some (.int _), some (.int _), some (.int _), some (.int _)] rfl ?_
  refine x_aload_n 21 rfl 0 dX9_sharpWith_20 rfl rfl ?_
  refine x_getR E dX9_sharpWith_21 F_RX9_78 sh_60 rf_60_53 24 rfl ?_
  refine x_iload_n 25 rfl 1 dX9_sharpWith_24 rfl rfl ?_
  refine x_iload_n 26 rfl 3 dX9_sharpWith_25 rfl rfl ?_
  obtain ⟨hz, h⟩ := x_ifn h
  refine x_iast E dX9_sharpWith_26 sh_79 _ rfl hz 27 rfl ?_
  refine x_iload 29 rfl dX9_sharpWith_27 rfl ?_
  cases h
  exact x_iret dX9_sharpWith_29 rfl rfl rfl
theorem K_RX9_460 : x_KV RX9 460 M_Mo_sharpWith 2 := ⟨⟨(List.mem_append_right _ (List.mem_of_getElem? (i := 1806) (by decide +kernel))), (List.mem_append_right _ (List.mem_of_getElem? (i := 1809) (by decide +kernel))), (List.mem_append_right _ (List.mem_of_getElem? (i := 9) (by decide +kernel))), ⟨by decide +kernel, by decide +kernel⟩, by decide +kernel⟩, (List.mem_append_right _ (List.mem_of_getElem? (i := 1808) (by decide +kernel))), (List.mem_append_left _ (List.mem_of_getElem? (i := 101) (by decide +kernel)))⟩
abbrev M_Mo_cure : xM := (yX9_cure, cX9_cure, 5, some .int, [])
theorem dX9_cure_0 : decode cX9_cure 0 = .ok (.aload_n 0, 1) := by decide +kernel
theorem dX9_cure_1 : decode cX9_cure 1 = .ok (.iconst 0, 1) := by decide +kernel
theorem dX9_cure_2 : decode cX9_cure 2 = .ok (.putfield 132, 3) := by decide +kernel
theorem dX9_cure_5 : decode cX9_cure 5 = .ok (.iconst (-1), 1) := by decide +kernel
theorem dX9_cure_6 : decode cX9_cure 6 = .ok (.istore_n 1, 1) := by decide +kernel
theorem dX9_cure_7 : decode cX9_cure 7 = .ok (.aload_n 0, 1) := by decide +kernel
theorem dX9_cure_8 : decode cX9_cure 8 = .ok (.invokevirtual 445, 3) := by decide +kernel
theorem dX9_cure_11 : decode cX9_cure 11 = .ok (.istore_n 2, 1) := by decide +kernel
theorem dX9_cure_12 : decode cX9_cure 12 = .ok (.iconst 0, 1) := by decide +kernel
theorem dX9_cure_13 : decode cX9_cure 13 = .ok (.istore_n 3, 1) := by decide +kernel
theorem dX9_cure_14 : decode cX9_cure 14 = .ok (.iload_n 3, 1) := by decide +kernel
theorem dX9_cure_15 : decode cX9_cure 15 = .ok (.iconst 3, 1) := by decide +kernel
theorem dX9_cure_16 : decode cX9_cure 16 = .ok (.if_icmp .ge 58, 3) := by decide +kernel
theorem dX9_cure_19 : decode cX9_cure 19 = .ok (.aload_n 0, 1) := by decide +kernel
theorem dX9_cure_20 : decode cX9_cure 20 = .ok (.iload_n 3, 1) := by decide +kernel
theorem dX9_cure_21 : decode cX9_cure 21 = .ok (.ifCond .ne 7, 3) := by decide +kernel
theorem dX9_cure_24 : decode cX9_cure 24 = .ok (.iconst 3, 1) := by decide +kernel
theorem dX9_cure_25 : decode cX9_cure 25 = .ok (.goto 13, 3) := by decide +kernel
theorem dX9_cure_28 : decode cX9_cure 28 = .ok (.iload_n 3, 1) := by decide +kernel
theorem dX9_cure_29 : decode cX9_cure 29 = .ok (.iconst 1, 1) := by decide +kernel
theorem dX9_cure_30 : decode cX9_cure 30 = .ok (.if_icmp .ne 7, 3) := by decide +kernel
theorem dX9_cure_33 : decode cX9_cure 33 = .ok (.iconst 1, 1) := by decide +kernel
theorem dX9_cure_34 : decode cX9_cure 34 = .ok (.goto 4, 3) := by decide +kernel
theorem dX9_cure_37 : decode cX9_cure 37 = .ok (.iconst 2, 1) := by decide +kernel
theorem dX9_cure_38 : decode cX9_cure 38 = .ok (.iload_n 3, 1) := by decide +kernel
theorem dX9_cure_39 : decode cX9_cure 39 = .ok (.iconst 2, 1) := by decide +kernel
theorem dX9_cure_40 : decode cX9_cure 40 = .ok (.if_icmp .ne 8, 3) := by decide +kernel
theorem dX9_cure_43 : decode cX9_cure 43 = .ok (.bipush 90, 2) := by decide +kernel
theorem dX9_cure_45 : decode cX9_cure 45 = .ok (.goto 4, 3) := by decide +kernel
theorem dX9_cure_48 : decode cX9_cure 48 = .ok (.iconst 0, 1) := by decide +kernel
theorem dX9_cure_49 : decode cX9_cure 49 = .ok (.invokevirtual 460, 3) := by decide +kernel
theorem dX9_cure_52 : decode cX9_cure 52 = .ok (.istore 4, 2) := by decide +kernel
theorem dX9_cure_54 : decode cX9_cure 54 = .ok (.iload 4, 2) := by decide +kernel
theorem dX9_cure_56 : decode cX9_cure 56 = .ok (.iload_n 2, 1) := by decide +kernel
theorem dX9_cure_57 : decode cX9_cure 57 = .ok (.if_icmp .gt 6, 3) := by decide +kernel
theorem dX9_cure_60 : decode cX9_cure 60 = .ok (.goto 8, 3) := by decide +kernel
theorem dX9_cure_63 : decode cX9_cure 63 = .ok (.iload_n 3, 1) := by decide +kernel
theorem dX9_cure_64 : decode cX9_cure 64 = .ok (.istore_n 1, 1) := by decide +kernel
theorem dX9_cure_65 : decode cX9_cure 65 = .ok (.iload 4, 2) := by decide +kernel
theorem dX9_cure_67 : decode cX9_cure 67 = .ok (.istore_n 2, 1) := by decide +kernel
theorem dX9_cure_68 : decode cX9_cure 68 = .ok (.iinc 3 1, 3) := by decide +kernel
theorem dX9_cure_71 : decode cX9_cure 71 = .ok (.goto (-57), 3) := by decide +kernel
theorem dX9_cure_74 : decode cX9_cure 74 = .ok (.iload_n 1, 1) := by decide +kernel
theorem dX9_cure_75 : decode cX9_cure 75 = .ok (.ireturn, 1) := by decide +kernel
def f_Mo_cure_60_J49 (v1 : Int32) (v2 : Int32) (v3 : Int32) (y1 : Int32) (y2 : Int32) (σ : xS) : Option ((Int32 × Int32 × Int32 × xS) ⊕ (Int32 × Int32 × Int32 × xS)) :=
  (f_Mo_sharpWith_60 y1 y2 σ).bind fun q1 =>
  let w2 := q1.1
  if v2 < w2 then
    let w3 := v3 + (1 : Int32)
    some (.inr (v3, w2, w3, q1.2))
  else
    let w4 := v3 + (1 : Int32)
    some (.inr (v1, v2, w4, q1.2))
def f_Mo_cure_60_J38 (v1 : Int32) (v2 : Int32) (v3 : Int32) (y1 : Int32) (σ : xS) : Option ((Int32 × Int32 × Int32 × xS) ⊕ (Int32 × Int32 × Int32 × xS)) :=
  if v3 = (2 : Int32) then
    f_Mo_cure_60_J49 v1 v2 v3 y1 (90 : Int32) σ
  else
    f_Mo_cure_60_J49 v1 v2 v3 y1 (0 : Int32) σ
def f_Mo_cure_60_L14  (a : Int32 × Int32 × Int32 × xS) : Option ((Int32 × Int32 × Int32 × xS) ⊕ (Int32 × Int32 × Int32 × xS)) :=
  let v1 := a.1; let v2 := a.2.1; let v3 := a.2.2.1; let σ := a.2.2.2;
  if (3 : Int32) ≤ v3 then
    some (.inl (v1, v2, v3, σ))
  else
    if v3 = 0 then
      f_Mo_cure_60_J38 v1 v2 v3 (3 : Int32) σ
    else
      if v3 = (1 : Int32) then
        f_Mo_cure_60_J38 v1 v2 v3 (1 : Int32) σ
      else
        f_Mo_cure_60_J38 v1 v2 v3 (2 : Int32) σ
def f_Mo_cure_60  (σ : xS) : Option (Int32 × xS) :=
  let σ5 := x_pI σ 60 0 (0 : Int32)
  (f_Mo_takesSharp_60  σ5).bind fun q6 =>
  let w7 := q6.1
  (x_it (f_Mo_cure_60_L14 ) 10000 ((-1 : Int32), w7, (0 : Int32), q6.2)).bind fun b8 =>
  some (b8.1, b8.2.2.2)
set_option maxHeartbeats 4000000 in
set_option maxRecDepth 100000 in
theorem j_Mo_cure_60_J49 {l : Launch} {s0 : State} {a0 : Array Value} {D : va_G} {cA : Nat → ClassId} {sp : Nat → Nat} (E : x_En CL l s0 a0 D cA sp) (v1 : Int32) (v2 : Int32) (v3 : Int32) (y1 : Int32) (y2 : Int32)  (σ : xS) {r : Int32} {σ1 : xS} (o : (Int32 × Int32 × Int32 × xS) ⊕ (Int32 × Int32 × Int32 × xS)) (h : f_Mo_cure_60_J49 v1 v2 v3 y1 y2 σ = some o) (hK : ∀ b, o = .inl b → zW l s0 D cA sp (zQ s0 D cA sp (some (.int r)) σ1) (x_rm 7 0 0) M_Mo_cure 0 0 74 [none, some (.int b.1), none, none, none] [] b.2.2.2) (hG : ∀ a', o = .inr a' → zW l s0 D cA sp (zQ s0 D cA sp (some (.int r)) σ1) (x_rm 7 0 0) M_Mo_cure 0 0 14 [some (.ref 60), some (.int a'.1), some (.int a'.2.1), some (.int a'.2.2.1), none] [] a'.2.2.2) : zW l s0 D cA sp (zQ s0 D cA sp (some (.int r)) σ1) (x_rm 7 0 0) M_Mo_cure 0 0 49 [some (.ref 60), some (.int v1), some (.int v2), some (.int v3), none] [.int y2, .int y1, .ref 60] σ := by
  unfold f_Mo_cure_60_J49 at h
  try dsimp only at h
  obtain ⟨⟨q1r, q1s⟩, q1h, h⟩ := x_bind h
  try dsimp only at h
  refine z_callV E [.int _, .int _] [] dX9_cure_49 K_RX9_460 ⟨Nat.le_of_ble_eq_true rfl, Nat.le_of_ble_eq_true rfl⟩ sh_60 (by decide) rfl (c_Mo_sharpWith_60 E _ _ q1h) rfl rfl (Nat.le_of_ble_eq_true rfl) 52 rfl [.int _] rfl ?_
  refine x_istore 54 rfl dX9_cure_52 (by decide) [some (.ref 60), some (.int _), some (.int _), some (.int _), some (.int _)] rfl ?_
  refine x_iload 56 rfl dX9_cure_54 rfl ?_
  refine x_iload_n 57 rfl 2 dX9_cure_56 rfl rfl ?_
  refine x_icmp_gt 60 rfl 63 dX9_cure_57 (by decide) (fun hc => ?_) (fun hc => ?_)
  · replace h := x_ifT hc h
    refine x_iload_n 64 rfl 3 dX9_cure_63 rfl rfl ?_
    refine x_istore_n 65 rfl 1 dX9_cure_64 rfl (by decide) [some (.ref 60), some (.int _), some (.int _), some (.int _), some (.int _)] rfl ?_
    refine x_iload 67 rfl dX9_cure_65 rfl ?_
    refine x_istore_n 68 rfl 2 dX9_cure_67 rfl (by decide) [some (.ref 60), some (.int _), some (.int _), some (.int _), some (.int _)] rfl ?_
    refine x_iinc 71 rfl (1) dX9_cure_68 rfl (by decide) (by decide) [some (.ref 60), some (.int _), some (.int _), some (.int _), some (.int _)] rfl ?_
    refine x_goto 14 dX9_cure_71 (by decide) ?_
    cases h
    exact x_wk (x_le_s (x_le_s (x_le_s (x_le_s (x_le_n x_le_0))))) (hG (_, _, _, _) rfl)
  · replace h := x_ifF hc h
    refine x_goto 68 dX9_cure_60 (by decide) ?_
    refine x_iinc 71 rfl (1) dX9_cure_68 rfl (by decide) (by decide) [some (.ref 60), some (.int _), some (.int _), some (.int _), some (.int _)] rfl ?_
    refine x_goto 14 dX9_cure_71 (by decide) ?_
    cases h
    exact x_wk (x_le_s (x_le_s (x_le_s (x_le_s (x_le_n x_le_0))))) (hG (_, _, _, _) rfl)
set_option maxHeartbeats 4000000 in
set_option maxRecDepth 100000 in
theorem j_Mo_cure_60_J38 {l : Launch} {s0 : State} {a0 : Array Value} {D : va_G} {cA : Nat → ClassId} {sp : Nat → Nat} (E : x_En CL l s0 a0 D cA sp) (v1 : Int32) (v2 : Int32) (v3 : Int32) (y1 : Int32)  (σ : xS) {r : Int32} {σ1 : xS} (o : (Int32 × Int32 × Int32 × xS) ⊕ (Int32 × Int32 × Int32 × xS)) (h : f_Mo_cure_60_J38 v1 v2 v3 y1 σ = some o) (hK : ∀ b, o = .inl b → zW l s0 D cA sp (zQ s0 D cA sp (some (.int r)) σ1) (x_rm 7 0 0) M_Mo_cure 0 0 74 [none, some (.int b.1), none, none, none] [] b.2.2.2) (hG : ∀ a', o = .inr a' → zW l s0 D cA sp (zQ s0 D cA sp (some (.int r)) σ1) (x_rm 7 0 0) M_Mo_cure 0 0 14 [some (.ref 60), some (.int a'.1), some (.int a'.2.1), some (.int a'.2.2.1), none] [] a'.2.2.2) : zW l s0 D cA sp (zQ s0 D cA sp (some (.int r)) σ1) (x_rm 7 0 0) M_Mo_cure 0 0 38 [some (.ref 60), some (.int v1), some (.int v2), some (.int v3), none] [.int y1, .ref 60] σ := by
  unfold f_Mo_cure_60_J38 at h
  try dsimp only at h
  refine x_iload_n 39 rfl 3 dX9_cure_38 rfl rfl ?_
  refine x_iconst 40 rfl (v := 2) dX9_cure_39 (by decide) ?_
  refine x_icmp_ne 43 rfl 48 dX9_cure_40 (by decide) (fun hc => ?_) (fun hc => ?_)
  · replace h := x_ifF hc h
    refine x_iconst 49 rfl (v := 0) dX9_cure_48 (by decide) ?_
    exact x_wk (x_le_s (x_le_s (x_le_s (x_le_s (x_le_n x_le_0))))) (j_Mo_cure_60_J49 (r := r) (σ1 := σ1) E _ _ _ _ _  _ _ h hK hG)
  · replace h := x_ifT hc h
    refine x_bipush 45 rfl (v := 90) dX9_cure_43 (by decide) ?_
    refine x_goto 49 dX9_cure_45 (by decide) ?_
    exact x_wk (x_le_s (x_le_s (x_le_s (x_le_s (x_le_n x_le_0))))) (j_Mo_cure_60_J49 (r := r) (σ1 := σ1) E _ _ _ _ _  _ _ h hK hG)
set_option maxHeartbeats 4000000 in
set_option maxRecDepth 100000 in
theorem b_Mo_cure_60_L14 {l : Launch} {s0 : State} {a0 : Array Value} {D : va_G} {cA : Nat → ClassId} {sp : Nat → Nat} (E : x_En CL l s0 a0 D cA sp)  {r : Int32} {σ1 : xS} (a : Int32 × Int32 × Int32 × xS) (o : (Int32 × Int32 × Int32 × xS) ⊕ (Int32 × Int32 × Int32 × xS)) (h : f_Mo_cure_60_L14  a = some o) (hK : ∀ b, o = .inl b → zW l s0 D cA sp (zQ s0 D cA sp (some (.int r)) σ1) (x_rm 7 0 0) M_Mo_cure 0 0 74 [none, some (.int b.1), none, none, none] [] b.2.2.2) (hG : ∀ a', o = .inr a' → zW l s0 D cA sp (zQ s0 D cA sp (some (.int r)) σ1) (x_rm 7 0 0) M_Mo_cure 0 0 14 [some (.ref 60), some (.int a'.1), some (.int a'.2.1), some (.int a'.2.2.1), none] [] a'.2.2.2) : zW l s0 D cA sp (zQ s0 D cA sp (some (.int r)) σ1) (x_rm 7 0 0) M_Mo_cure 0 0 14 [some (.ref 60), some (.int a.1), some (.int a.2.1), some (.int a.2.2.1), none] [] a.2.2.2 := by
  obtain ⟨v1, v2, v3, σ⟩ := a
  unfold f_Mo_cure_60_L14 at h
  try dsimp only at h ⊢
  refine x_iload_n 15 rfl 3 dX9_cure_14 rfl rfl ?_
  refine x_iconst 16 rfl (v := 3) dX9_cure_15 (by decide) ?_
  refine x_icmp_ge 19 rfl 74 dX9_cure_16 (by decide) (fun hc => ?_) (fun hc => ?_)
  · replace h := x_ifT hc h
    cases h
    exact x_wk (x_le_n (x_le_s (x_le_n (x_le_n (x_le_n x_le_0))))) (hK (_, _, _, _) rfl)
  · replace h := x_ifF hc h
    refine x_aload_n 20 rfl 0 dX9_cure_19 rfl rfl ?_
    refine x_iload_n 21 rfl 3 dX9_cure_20 rfl rfl ?_
    refine x_if_ne 24 rfl 28 dX9_cure_21 (by decide) (fun hc => ?_) (fun hc => ?_)
    · replace h := x_ifF hc h
      refine x_iload_n 29 rfl 3 dX9_cure_28 rfl rfl ?_
      refine x_iconst 30 rfl (v := 1) dX9_cure_29 (by decide) ?_
      refine x_icmp_ne 33 rfl 37 dX9_cure_30 (by decide) (fun hc => ?_) (fun hc => ?_)
      · replace h := x_ifF hc h
        refine x_iconst 38 rfl (v := 2) dX9_cure_37 (by decide) ?_
        exact x_wk (x_le_s (x_le_s (x_le_s (x_le_s (x_le_n x_le_0))))) (j_Mo_cure_60_J38 (r := r) (σ1 := σ1) E _ _ _ _  _ _ h hK hG)
      · replace h := x_ifT hc h
        refine x_iconst 34 rfl (v := 1) dX9_cure_33 (by decide) ?_
        refine x_goto 38 dX9_cure_34 (by decide) ?_
        exact x_wk (x_le_s (x_le_s (x_le_s (x_le_s (x_le_n x_le_0))))) (j_Mo_cure_60_J38 (r := r) (σ1 := σ1) E _ _ _ _  _ _ h hK hG)
    · replace h := x_ifT hc h
      refine x_iconst 25 rfl (v := 3) dX9_cure_24 (by decide) ?_
      refine x_goto 38 dX9_cure_25 (by decide) ?_
      exact x_wk (x_le_s (x_le_s (x_le_s (x_le_s (x_le_n x_le_0))))) (j_Mo_cure_60_J38 (r := r) (σ1 := σ1) E _ _ _ _  _ _ h hK hG)
set_option maxHeartbeats 4000000 in
set_option maxRecDepth 100000 in
theorem c_Mo_cure_60 {l : Launch} {s0 : State} {a0 : Array Value} {D : va_G} {cA : Nat → ClassId} {sp : Nat → Nat} (E : x_En CL l s0 a0 D cA sp)  {σ : xS} {r : Int32} {σ1 : xS} (h : f_Mo_cure_60  σ = some (r, σ1)) : zC l s0 D cA sp 7 M_Mo_cure [.ref 60] σ (some (.int r)) σ1 := by
  unfold f_Mo_cure_60 at h
  try dsimp only at h
  refine x_enter [some (.ref 60), none, none, none, none] rfl (Nat.le_of_ble_eq_true rfl) (by decide +kernel) rfl ?_
  refine x_aload_n 1 rfl 0 dX9_cure_0 rfl rfl ?_
  refine x_iconst 2 rfl (v := 0) dX9_cure_1 (by decide) ?_
  refine x_putI E dX9_cure_2 F_RX9_132 sh_60 5 rfl ?_
  refine x_iconst 6 rfl (v := -1) dX9_cure_5 (by decide) ?_
  refine x_istore_n 7 rfl 1 dX9_cure_6 rfl (by decide) [some (.ref 60), some (.int _), none, none, none] rfl ?_
  refine x_aload_n 8 rfl 0 dX9_cure_7 rfl rfl ?_
  obtain ⟨⟨q6r, q6s⟩, q6h, h⟩ := x_bind h
  try dsimp only at h
  refine z_callV E [] [] dX9_cure_8 K_RX9_445 ⟨Nat.le_of_ble_eq_true rfl, Nat.le_of_ble_eq_true rfl⟩ sh_60 (by decide) rfl (c_Mo_takesSharp_60 E  q6h) rfl rfl (Nat.le_of_ble_eq_true rfl) 11 rfl [.int _] rfl ?_
  refine x_istore_n 12 rfl 2 dX9_cure_11 rfl (by decide) [some (.ref 60), some (.int _), some (.int _), none, none] rfl ?_
  refine x_iconst 13 rfl (v := 0) dX9_cure_12 (by decide) ?_
  refine x_istore_n 14 rfl 3 dX9_cure_13 rfl (by decide) [some (.ref 60), some (.int _), some (.int _), some (.int _), none] rfl ?_
  obtain ⟨b8, b8h, h⟩ := x_bind h
  try dsimp only at h
  refine x_wk (x_le_s (x_le_s (x_le_s (x_le_s (x_le_n x_le_0))))) (x_loop (fun a o h hK hG => b_Mo_cure_60_L14 (r := r) (σ1 := σ1) E  a o h hK hG) _ _ _ b8h ?_)
  refine x_iload_n 75 rfl 1 dX9_cure_74 rfl rfl ?_
  cases h
  exact x_iret dX9_cure_75 rfl rfl rfl
