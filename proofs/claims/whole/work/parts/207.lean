/-! The class's methods: functions and contracts. Written by wip/gen/emit.py. -/
abbrev M_RH_cure : xM := (yX8_cure, cX8_cure, 5, some .int, [])
theorem dX8_cure_0 : decode cX8_cure 0 = .ok (.aload_n 0, 1) := by decide +kernel
theorem dX8_cure_1 : decode cX8_cure 1 = .ok (.invokevirtual 164, 3) := by decide +kernel
theorem dX8_cure_4 : decode cX8_cure 4 = .ok (.aload_n 0, 1) := by decide +kernel
theorem dX8_cure_5 : decode cX8_cure 5 = .ok (.getfield 51, 3) := by decide +kernel
theorem dX8_cure_8 : decode cX8_cure 8 = .ok (.aload_n 0, 1) := by decide +kernel
theorem dX8_cure_9 : decode cX8_cure 9 = .ok (.getfield 37, 3) := by decide +kernel
theorem dX8_cure_12 : decode cX8_cure 12 = .ok (.getfield 118, 3) := by decide +kernel
theorem dX8_cure_15 : decode cX8_cure 15 = .ok (.iconst 0, 1) := by decide +kernel
theorem dX8_cure_16 : decode cX8_cure 16 = .ok (.iaload, 1) := by decide +kernel
theorem dX8_cure_17 : decode cX8_cure 17 = .ok (.invokevirtual 197, 3) := by decide +kernel
theorem dX8_cure_20 : decode cX8_cure 20 = .ok (.istore_n 1, 1) := by decide +kernel
theorem dX8_cure_21 : decode cX8_cure 21 = .ok (.iconst (-1), 1) := by decide +kernel
theorem dX8_cure_22 : decode cX8_cure 22 = .ok (.istore_n 2, 1) := by decide +kernel
theorem dX8_cure_23 : decode cX8_cure 23 = .ok (.iconst 0, 1) := by decide +kernel
theorem dX8_cure_24 : decode cX8_cure 24 = .ok (.istore_n 3, 1) := by decide +kernel
theorem dX8_cure_25 : decode cX8_cure 25 = .ok (.iload_n 3, 1) := by decide +kernel
theorem dX8_cure_26 : decode cX8_cure 26 = .ok (.iconst 2, 1) := by decide +kernel
theorem dX8_cure_27 : decode cX8_cure 27 = .ok (.if_icmp .gt 93, 3) := by decide +kernel
theorem dX8_cure_30 : decode cX8_cure 30 = .ok (.aload_n 0, 1) := by decide +kernel
theorem dX8_cure_31 : decode cX8_cure 31 = .ok (.invokevirtual 187, 3) := by decide +kernel
theorem dX8_cure_34 : decode cX8_cure 34 = .ok (.iload_n 3, 1) := by decide +kernel
theorem dX8_cure_35 : decode cX8_cure 35 = .ok (.lookupswitch 51 #[(0, 25), (1, 38)], 25) := by decide +kernel
theorem dX8_cure_60 : decode cX8_cure 60 = .ok (.aload_n 0, 1) := by decide +kernel
theorem dX8_cure_61 : decode cX8_cure 61 = .ok (.getfield 51, 3) := by decide +kernel
theorem dX8_cure_64 : decode cX8_cure 64 = .ok (.getfield 196, 3) := by decide +kernel
theorem dX8_cure_67 : decode cX8_cure 67 = .ok (.iconst 3, 1) := by decide +kernel
theorem dX8_cure_68 : decode cX8_cure 68 = .ok (.iconst 0, 1) := by decide +kernel
theorem dX8_cure_69 : decode cX8_cure 69 = .ok (.iastore, 1) := by decide +kernel
theorem dX8_cure_70 : decode cX8_cure 70 = .ok (.goto 27, 3) := by decide +kernel
theorem dX8_cure_73 : decode cX8_cure 73 = .ok (.aload_n 0, 1) := by decide +kernel
theorem dX8_cure_74 : decode cX8_cure 74 = .ok (.getfield 51, 3) := by decide +kernel
theorem dX8_cure_77 : decode cX8_cure 77 = .ok (.getfield 196, 3) := by decide +kernel
theorem dX8_cure_80 : decode cX8_cure 80 = .ok (.iconst 1, 1) := by decide +kernel
theorem dX8_cure_81 : decode cX8_cure 81 = .ok (.iconst 0, 1) := by decide +kernel
theorem dX8_cure_82 : decode cX8_cure 82 = .ok (.iastore, 1) := by decide +kernel
theorem dX8_cure_83 : decode cX8_cure 83 = .ok (.goto 14, 3) := by decide +kernel
theorem dX8_cure_86 : decode cX8_cure 86 = .ok (.aload_n 0, 1) := by decide +kernel
theorem dX8_cure_87 : decode cX8_cure 87 = .ok (.getfield 51, 3) := by decide +kernel
theorem dX8_cure_90 : decode cX8_cure 90 = .ok (.getfield 196, 3) := by decide +kernel
theorem dX8_cure_93 : decode cX8_cure 93 = .ok (.iconst 2, 1) := by decide +kernel
theorem dX8_cure_94 : decode cX8_cure 94 = .ok (.bipush 90, 2) := by decide +kernel
theorem dX8_cure_96 : decode cX8_cure 96 = .ok (.iastore, 1) := by decide +kernel
theorem dX8_cure_97 : decode cX8_cure 97 = .ok (.aload_n 0, 1) := by decide +kernel
theorem dX8_cure_98 : decode cX8_cure 98 = .ok (.invokevirtual 276, 3) := by decide +kernel
theorem dX8_cure_101 : decode cX8_cure 101 = .ok (.istore 4, 2) := by decide +kernel
theorem dX8_cure_103 : decode cX8_cure 103 = .ok (.iload 4, 2) := by decide +kernel
theorem dX8_cure_105 : decode cX8_cure 105 = .ok (.iload_n 1, 1) := by decide +kernel
theorem dX8_cure_106 : decode cX8_cure 106 = .ok (.if_icmp .le 8, 3) := by decide +kernel
theorem dX8_cure_109 : decode cX8_cure 109 = .ok (.iload 4, 2) := by decide +kernel
theorem dX8_cure_111 : decode cX8_cure 111 = .ok (.istore_n 1, 1) := by decide +kernel
theorem dX8_cure_112 : decode cX8_cure 112 = .ok (.iload_n 3, 1) := by decide +kernel
theorem dX8_cure_113 : decode cX8_cure 113 = .ok (.istore_n 2, 1) := by decide +kernel
theorem dX8_cure_114 : decode cX8_cure 114 = .ok (.iinc 3 1, 3) := by decide +kernel
theorem dX8_cure_117 : decode cX8_cure 117 = .ok (.goto (-92), 3) := by decide +kernel
theorem dX8_cure_120 : decode cX8_cure 120 = .ok (.iload_n 2, 1) := by decide +kernel
theorem dX8_cure_121 : decode cX8_cure 121 = .ok (.ireturn, 1) := by decide +kernel
def f_RH_cure_0_J97 (v1 : Int32) (v2 : Int32) (v3 : Int32) (σ : xS) : Option ((Int32 × Int32 × Int32 × xS) ⊕ (Int32 × Int32 × Int32 × xS)) :=
  (f_RH_sharpAsTried_0  σ).bind fun q1 =>
  let w2 := q1.1
  if w2 ≤ v1 then
    let w3 := v3 + (1 : Int32)
    some (.inr (v1, v2, w3, q1.2))
  else
    let w4 := v3 + (1 : Int32)
    some (.inr (w2, v3, w4, q1.2))
def f_RH_cure_0_L25  (a : Int32 × Int32 × Int32 × xS) : Option ((Int32 × Int32 × Int32 × xS) ⊕ (Int32 × Int32 × Int32 × xS)) :=
  let v1 := a.1; let v2 := a.2.1; let v3 := a.2.2.1; let σ := a.2.2.2;
  if (2 : Int32) < v3 then
    some (.inl (v1, v2, v3, σ))
  else
    (f_RH_takeSettings_0  σ).bind fun q5 =>
    if v3 = (0 : Int32) then
      let σ6 := x_pI q5.2 50 3 (0 : Int32)
      f_RH_cure_0_J97 v1 v2 v3 σ6
    else if v3 = (1 : Int32) then
      let σ7 := x_pI q5.2 50 1 (0 : Int32)
      f_RH_cure_0_J97 v1 v2 v3 σ7
    else 
      let σ8 := x_pI q5.2 50 2 (90 : Int32)
      f_RH_cure_0_J97 v1 v2 v3 σ8
def f_RH_cure_0  (σ : xS) : Option (Int32 × xS) :=
  (f_RH_walkAsSet_0  σ).bind fun q9 =>
  (f_Tr_sharpBy_49 (q9.2.1 36 0) q9.2).bind fun q10 =>
  let w11 := q10.1
  (x_it (f_RH_cure_0_L25 ) 10000 (w11, (-1 : Int32), (0 : Int32), q10.2)).bind fun b12 =>
  some (b12.2.1, b12.2.2.2)
set_option maxHeartbeats 4000000 in
set_option maxRecDepth 100000 in
theorem j_RH_cure_0_J97 {l : Launch} {s0 : State} {a0 : Array Value} {D : va_G} {cA : Nat → ClassId} {sp : Nat → Nat} (E : x_En CL l s0 a0 D cA sp) (v1 : Int32) (v2 : Int32) (v3 : Int32)  (σ : xS) {r : Int32} {σ1 : xS} (o : (Int32 × Int32 × Int32 × xS) ⊕ (Int32 × Int32 × Int32 × xS)) (h : f_RH_cure_0_J97 v1 v2 v3 σ = some o) (hK : ∀ b, o = .inl b → zW l s0 D cA sp (zQ s0 D cA sp (some (.int r)) σ1) (x_rm 7 0 0) M_RH_cure 0 0 120 [none, none, some (.int b.2.1), none, none] [] b.2.2.2) (hG : ∀ a', o = .inr a' → zW l s0 D cA sp (zQ s0 D cA sp (some (.int r)) σ1) (x_rm 7 0 0) M_RH_cure 0 0 25 [some (.ref 0), some (.int a'.1), some (.int a'.2.1), some (.int a'.2.2.1), none] [] a'.2.2.2) : zW l s0 D cA sp (zQ s0 D cA sp (some (.int r)) σ1) (x_rm 7 0 0) M_RH_cure 0 0 97 [some (.ref 0), some (.int v1), some (.int v2), some (.int v3), none] [] σ := by
  unfold f_RH_cure_0_J97 at h
  try dsimp only at h
  refine x_aload_n 98 rfl 0 dX8_cure_97 rfl rfl ?_
  obtain ⟨⟨q1r, q1s⟩, q1h, h⟩ := x_bind h
  try dsimp only at h
  refine z_callV E [] [] dX8_cure_98 K_RX8_276 ⟨Nat.le_of_ble_eq_true rfl, Nat.le_of_ble_eq_true rfl⟩ sh_0 (by decide) rfl (c_RH_sharpAsTried_0 E  q1h) rfl rfl (Nat.le_of_ble_eq_true rfl) 101 rfl [.int _] rfl ?_
  refine x_istore 103 rfl dX8_cure_101 (by decide) [some (.ref 0), some (.int _), some (.int _), some (.int _), some (.int _)] rfl ?_
  refine x_iload 105 rfl dX8_cure_103 rfl ?_
  refine x_iload_n 106 rfl 1 dX8_cure_105 rfl rfl ?_
  refine x_icmp_le 109 rfl 114 dX8_cure_106 (by decide) (fun hc => ?_) (fun hc => ?_)
  · replace h := x_ifT hc h
    refine x_iinc 117 rfl (1) dX8_cure_114 rfl (by decide) (by decide) [some (.ref 0), some (.int _), some (.int _), some (.int _), some (.int _)] rfl ?_
    refine x_goto 25 dX8_cure_117 (by decide) ?_
    cases h
    exact x_wk (x_le_s (x_le_s (x_le_s (x_le_s (x_le_n x_le_0))))) (hG (_, _, _, _) rfl)
  · replace h := x_ifF hc h
    refine x_iload 111 rfl dX8_cure_109 rfl ?_
    refine x_istore_n 112 rfl 1 dX8_cure_111 rfl (by decide) [some (.ref 0), some (.int _), some (.int _), some (.int _), some (.int _)] rfl ?_
    refine x_iload_n 113 rfl 3 dX8_cure_112 rfl rfl ?_
    refine x_istore_n 114 rfl 2 dX8_cure_113 rfl (by decide) [some (.ref 0), some (.int _), some (.int _), some (.int _), some (.int _)] rfl ?_
    refine x_iinc 117 rfl (1) dX8_cure_114 rfl (by decide) (by decide) [some (.ref 0), some (.int _), some (.int _), some (.int _), some (.int _)] rfl ?_
    refine x_goto 25 dX8_cure_117 (by decide) ?_
    cases h
    exact x_wk (x_le_s (x_le_s (x_le_s (x_le_s (x_le_n x_le_0))))) (hG (_, _, _, _) rfl)
set_option maxHeartbeats 4000000 in
set_option maxRecDepth 100000 in
theorem b_RH_cure_0_L25 {l : Launch} {s0 : State} {a0 : Array Value} {D : va_G} {cA : Nat → ClassId} {sp : Nat → Nat} (E : x_En CL l s0 a0 D cA sp)  {r : Int32} {σ1 : xS} (a : Int32 × Int32 × Int32 × xS) (o : (Int32 × Int32 × Int32 × xS) ⊕ (Int32 × Int32 × Int32 × xS)) (h : f_RH_cure_0_L25  a = some o) (hK : ∀ b, o = .inl b → zW l s0 D cA sp (zQ s0 D cA sp (some (.int r)) σ1) (x_rm 7 0 0) M_RH_cure 0 0 120 [none, none, some (.int b.2.1), none, none] [] b.2.2.2) (hG : ∀ a', o = .inr a' → zW l s0 D cA sp (zQ s0 D cA sp (some (.int r)) σ1) (x_rm 7 0 0) M_RH_cure 0 0 25 [some (.ref 0), some (.int a'.1), some (.int a'.2.1), some (.int a'.2.2.1), none] [] a'.2.2.2) : zW l s0 D cA sp (zQ s0 D cA sp (some (.int r)) σ1) (x_rm 7 0 0) M_RH_cure 0 0 25 [some (.ref 0), some (.int a.1), some (.int a.2.1), some (.int a.2.2.1), none] [] a.2.2.2 := by
  obtain ⟨v1, v2, v3, σ⟩ := a
  unfold f_RH_cure_0_L25 at h
  try dsimp only at h ⊢
  refine x_iload_n 26 rfl 3 dX8_cure_25 rfl rfl ?_
  refine x_iconst 27 rfl (v := 2) dX8_cure_26 (by decide) ?_
  refine x_icmp_gt 30 rfl 120 dX8_cure_27 (by decide) (fun hc => ?_) (fun hc => ?_)
  · replace h := x_ifT hc h
    cases h
    exact x_wk (x_le_n (x_le_n (x_le_s (x_le_n (x_le_n x_le_0))))) (hK (_, _, _, _) rfl)
  · replace h := x_ifF hc h
    refine x_aload_n 31 rfl 0 dX8_cure_30 rfl rfl ?_
    obtain ⟨⟨q5r, q5s⟩, q5h, h⟩ := x_bind h
    try dsimp only at h
    refine z_callV E [] [] dX8_cure_31 K_RX8_187 ⟨Nat.le_of_ble_eq_true rfl, Nat.le_of_ble_eq_true rfl⟩ sh_0 (by decide) rfl (c_RH_takeSettings_0 E  q5h) rfl rfl (Nat.le_of_ble_eq_true rfl) 34 rfl [] rfl ?_
    refine x_iload_n 35 rfl 3 dX8_cure_34 rfl rfl ?_
    refine x_case (0) (fun hc0 => ?_) (fun hc0 => ?_)
    · replace h := x_ifT hc0 h
      refine x_look (off := 25) 60 dX8_cure_35 (by decide +kernel) (by rw [hc0]; decide +kernel) (by decide) ?_
      refine x_aload_n 61 rfl 0 dX8_cure_60 rfl rfl ?_
      refine x_getR E dX8_cure_61 F_RX8_51 sh_0 rf_0_8 64 rfl ?_
      refine x_getR E dX8_cure_64 F_RX8_196 sh_49 rf_49_0 67 rfl ?_
      refine x_iconst 68 rfl (v := 3) dX8_cure_67 (by decide) ?_
      refine x_iconst 69 rfl (v := 0) dX8_cure_68 (by decide) ?_
      refine x_iast E dX8_cure_69 sh_50 3 (by decide) (by decide) 70 rfl ?_
      refine x_goto 97 dX8_cure_70 (by decide) ?_
      exact x_wk (x_le_s (x_le_s (x_le_s (x_le_s (x_le_n x_le_0))))) (j_RH_cure_0_J97 (r := r) (σ1 := σ1) E _ _ _  _ _ h hK hG)
    replace h := x_ifF hc0 h
    refine x_case (1) (fun hc1 => ?_) (fun hc1 => ?_)
    · replace h := x_ifT hc1 h
      refine x_look (off := 38) 73 dX8_cure_35 (by decide +kernel) (by rw [hc1]; decide +kernel) (by decide) ?_
      refine x_aload_n 74 rfl 0 dX8_cure_73 rfl rfl ?_
      refine x_getR E dX8_cure_74 F_RX8_51 sh_0 rf_0_8 77 rfl ?_
      refine x_getR E dX8_cure_77 F_RX8_196 sh_49 rf_49_0 80 rfl ?_
      refine x_iconst 81 rfl (v := 1) dX8_cure_80 (by decide) ?_
      refine x_iconst 82 rfl (v := 0) dX8_cure_81 (by decide) ?_
      refine x_iast E dX8_cure_82 sh_50 1 (by decide) (by decide) 83 rfl ?_
      refine x_goto 97 dX8_cure_83 (by decide) ?_
      exact x_wk (x_le_s (x_le_s (x_le_s (x_le_s (x_le_n x_le_0))))) (j_RH_cure_0_J97 (r := r) (σ1 := σ1) E _ _ _  _ _ h hK hG)
    replace h := x_ifF hc1 h
    refine x_look (off := 51) 86 dX8_cure_35 (by decide +kernel) (by have g0 := x_toNe hc0 (k := 0) (by decide); have g1 := x_toNe hc1 (k := 1) (by decide); simp [Op.lookupswitch.offset, g0, g1, g0.symm, g1.symm]) (by decide) ?_
    refine x_aload_n 87 rfl 0 dX8_cure_86 rfl rfl ?_
    refine x_getR E dX8_cure_87 F_RX8_51 sh_0 rf_0_8 90 rfl ?_
    refine x_getR E dX8_cure_90 F_RX8_196 sh_49 rf_49_0 93 rfl ?_
    refine x_iconst 94 rfl (v := 2) dX8_cure_93 (by decide) ?_
    refine x_bipush 96 rfl (v := 90) dX8_cure_94 (by decide) ?_
    refine x_iast E dX8_cure_96 sh_50 2 (by decide) (by decide) 97 rfl ?_
    exact x_wk (x_le_s (x_le_s (x_le_s (x_le_s (x_le_n x_le_0))))) (j_RH_cure_0_J97 (r := r) (σ1 := σ1) E _ _ _  _ _ h hK hG)
set_option maxHeartbeats 4000000 in
set_option maxRecDepth 100000 in
theorem c_RH_cure_0 {l : Launch} {s0 : State} {a0 : Array Value} {D : va_G} {cA : Nat → ClassId} {sp : Nat → Nat} (E : x_En CL l s0 a0 D cA sp)  {σ : xS} {r : Int32} {σ1 : xS} (h : f_RH_cure_0  σ = some (r, σ1)) : zC l s0 D cA sp 7 M_RH_cure [.ref 0] σ (some (.int r)) σ1 := by
  unfold f_RH_cure_0 at h
  try dsimp only at h
  refine x_enter [some (.ref 0), none, none, none, none] rfl (Nat.le_of_ble_eq_true rfl) (by decide +kernel) rfl ?_
  refine x_aload_n 1 rfl 0 dX8_cure_0 rfl rfl ?_
  obtain ⟨⟨q9r, q9s⟩, q9h, h⟩ := x_bind h
  try dsimp only at h
  refine z_callV E [] [] dX8_cure_1 K_RX8_164 ⟨Nat.le_of_ble_eq_true rfl, Nat.le_of_ble_eq_true rfl⟩ sh_0 (by decide) rfl (c_RH_walkAsSet_0 E  q9h) rfl rfl (Nat.le_of_ble_eq_true rfl) 4 rfl [] rfl ?_
  refine x_aload_n 5 rfl 0 dX8_cure_4 rfl rfl ?_
  refine x_getR E dX8_cure_5 F_RX8_51 sh_0 rf_0_8 8 rfl ?_
  refine x_aload_n 9 rfl 0 dX8_cure_8 rfl rfl ?_
  refine x_getR E dX8_cure_9 F_RX8_37 sh_0 rf_0_5 12 rfl ?_
  refine x_getR E dX8_cure_12 F_RX8_118 sh_35 rf_35_0 15 rfl ?_
  refine x_iconst 16 rfl (v := 0) dX8_cure_15 (by decide) ?_
  refine x_iald E dX8_cure_16 sh_36 0 (by decide) (by decide) 17 rfl ?_
  obtain ⟨⟨q10r, q10s⟩, q10h, h⟩ := x_bind h
  try dsimp only at h
  refine z_callV E [.int _] [] dX8_cure_17 K_RX8_197 ⟨Nat.le_of_ble_eq_true rfl, Nat.le_of_ble_eq_true rfl⟩ sh_49 (by decide) rfl (c_Tr_sharpBy_49 E _ q10h) rfl rfl (Nat.le_of_ble_eq_true rfl) 20 rfl [.int _] rfl ?_
  refine x_istore_n 21 rfl 1 dX8_cure_20 rfl (by decide) [some (.ref 0), some (.int _), none, none, none] rfl ?_
  refine x_iconst 22 rfl (v := -1) dX8_cure_21 (by decide) ?_
  refine x_istore_n 23 rfl 2 dX8_cure_22 rfl (by decide) [some (.ref 0), some (.int _), some (.int _), none, none] rfl ?_
  refine x_iconst 24 rfl (v := 0) dX8_cure_23 (by decide) ?_
  refine x_istore_n 25 rfl 3 dX8_cure_24 rfl (by decide) [some (.ref 0), some (.int _), some (.int _), some (.int _), none] rfl ?_
  obtain ⟨b12, b12h, h⟩ := x_bind h
  try dsimp only at h
  refine x_wk (x_le_s (x_le_s (x_le_s (x_le_s (x_le_n x_le_0))))) (x_loop (fun a o h hK hG => b_RH_cure_0_L25 (r := r) (σ1 := σ1) E  a o h hK hG) _ _ _ b12h ?_)
  refine x_iload_n 121 rfl 2 dX8_cure_120 rfl rfl ?_
  cases h
  exact x_iret dX8_cure_121 rfl rfl rfl
abbrev M_RH_wrists : xM := (yX8_wrists, cX8_wrists, 5, some .int, [])
theorem dX8_wrists_0 : decode cX8_wrists 0 = .ok (.iconst 1, 1) := by decide +kernel
theorem dX8_wrists_1 : decode cX8_wrists 1 = .ok (.istore_n 1, 1) := by decide +kernel
theorem dX8_wrists_2 : decode cX8_wrists 2 = .ok (.iconst (-1), 1) := by decide +kernel
theorem dX8_wrists_3 : decode cX8_wrists 3 = .ok (.istore_n 2, 1) := by decide +kernel
theorem dX8_wrists_4 : decode cX8_wrists 4 = .ok (.aload_n 0, 1) := by decide +kernel
theorem dX8_wrists_5 : decode cX8_wrists 5 = .ok (.invokevirtual 187, 3) := by decide +kernel
theorem dX8_wrists_8 : decode cX8_wrists 8 = .ok (.aload_n 0, 1) := by decide +kernel
theorem dX8_wrists_9 : decode cX8_wrists 9 = .ok (.getfield 51, 3) := by decide +kernel
theorem dX8_wrists_12 : decode cX8_wrists 12 = .ok (.aload_n 0, 1) := by decide +kernel
theorem dX8_wrists_13 : decode cX8_wrists 13 = .ok (.getfield 27, 3) := by decide +kernel
theorem dX8_wrists_16 : decode cX8_wrists 16 = .ok (.invokevirtual 238, 3) := by decide +kernel
theorem dX8_wrists_19 : decode cX8_wrists 19 = .ok (.iconst 1, 1) := by decide +kernel
theorem dX8_wrists_20 : decode cX8_wrists 20 = .ok (.istore_n 3, 1) := by decide +kernel
theorem dX8_wrists_21 : decode cX8_wrists 21 = .ok (.iload_n 3, 1) := by decide +kernel
theorem dX8_wrists_22 : decode cX8_wrists 22 = .ok (.bipush 90, 2) := by decide +kernel
theorem dX8_wrists_24 : decode cX8_wrists 24 = .ok (.if_icmp .gt 59, 3) := by decide +kernel
theorem dX8_wrists_27 : decode cX8_wrists 27 = .ok (.aload_n 0, 1) := by decide +kernel
theorem dX8_wrists_28 : decode cX8_wrists 28 = .ok (.getfield 51, 3) := by decide +kernel
theorem dX8_wrists_31 : decode cX8_wrists 31 = .ok (.getfield 196, 3) := by decide +kernel
theorem dX8_wrists_34 : decode cX8_wrists 34 = .ok (.iconst 2, 1) := by decide +kernel
theorem dX8_wrists_35 : decode cX8_wrists 35 = .ok (.iload_n 3, 1) := by decide +kernel
theorem dX8_wrists_36 : decode cX8_wrists 36 = .ok (.iastore, 1) := by decide +kernel
theorem dX8_wrists_37 : decode cX8_wrists 37 = .ok (.aload_n 0, 1) := by decide +kernel
theorem dX8_wrists_38 : decode cX8_wrists 38 = .ok (.getfield 51, 3) := by decide +kernel
theorem dX8_wrists_41 : decode cX8_wrists 41 = .ok (.aload_n 0, 1) := by decide +kernel
theorem dX8_wrists_42 : decode cX8_wrists 42 = .ok (.getfield 27, 3) := by decide +kernel
theorem dX8_wrists_45 : decode cX8_wrists 45 = .ok (.invokevirtual 241, 3) := by decide +kernel
theorem dX8_wrists_48 : decode cX8_wrists 48 = .ok (.aload_n 0, 1) := by decide +kernel
theorem dX8_wrists_49 : decode cX8_wrists 49 = .ok (.getfield 51, 3) := by decide +kernel
theorem dX8_wrists_52 : decode cX8_wrists 52 = .ok (.aload_n 0, 1) := by decide +kernel
theorem dX8_wrists_53 : decode cX8_wrists 53 = .ok (.getfield 51, 3) := by decide +kernel
theorem dX8_wrists_56 : decode cX8_wrists 56 = .ok (.getfield 196, 3) := by decide +kernel
theorem dX8_wrists_59 : decode cX8_wrists 59 = .ok (.iconst 0, 1) := by decide +kernel
theorem dX8_wrists_60 : decode cX8_wrists 60 = .ok (.iaload, 1) := by decide +kernel
theorem dX8_wrists_61 : decode cX8_wrists 61 = .ok (.invokevirtual 197, 3) := by decide +kernel
theorem dX8_wrists_64 : decode cX8_wrists 64 = .ok (.istore 4, 2) := by decide +kernel
theorem dX8_wrists_66 : decode cX8_wrists 66 = .ok (.iload 4, 2) := by decide +kernel
theorem dX8_wrists_68 : decode cX8_wrists 68 = .ok (.iload_n 2, 1) := by decide +kernel
theorem dX8_wrists_69 : decode cX8_wrists 69 = .ok (.if_icmp .le 8, 3) := by decide +kernel
theorem dX8_wrists_72 : decode cX8_wrists 72 = .ok (.iload 4, 2) := by decide +kernel
theorem dX8_wrists_74 : decode cX8_wrists 74 = .ok (.istore_n 2, 1) := by decide +kernel
theorem dX8_wrists_75 : decode cX8_wrists 75 = .ok (.iload_n 3, 1) := by decide +kernel
theorem dX8_wrists_76 : decode cX8_wrists 76 = .ok (.istore_n 1, 1) := by decide +kernel
theorem dX8_wrists_77 : decode cX8_wrists 77 = .ok (.iinc 3 1, 3) := by decide +kernel
theorem dX8_wrists_80 : decode cX8_wrists 80 = .ok (.goto (-59), 3) := by decide +kernel
theorem dX8_wrists_83 : decode cX8_wrists 83 = .ok (.iload_n 1, 1) := by decide +kernel
theorem dX8_wrists_84 : decode cX8_wrists 84 = .ok (.ireturn, 1) := by decide +kernel
def f_RH_wrists_0_L21  (a : Int32 × Int32 × Int32 × xS) : Option ((Int32 × Int32 × Int32 × xS) ⊕ (Int32 × Int32 × Int32 × xS)) :=
  let v1 := a.1; let v2 := a.2.1; let v3 := a.2.2.1; let σ := a.2.2.2;
  if (90 : Int32) < v3 then
    some (.inl (v1, v2, v3, σ))
  else
    let σ1 := x_pI σ 50 2 v3
    (f_Tr_follow_49_7  σ1).bind fun q2 =>
    (f_Tr_sharpBy_49 (q2.2.1 50 0) q2.2).bind fun q3 =>
    let w4 := q3.1
    if w4 ≤ v2 then
      let w5 := v3 + (1 : Int32)
      some (.inr (v1, v2, w5, q3.2))
    else
      let w6 := v3 + (1 : Int32)
      some (.inr (v3, w4, w6, q3.2))
def f_RH_wrists_0  (σ : xS) : Option (Int32 × xS) :=
  (f_RH_takeSettings_0  σ).bind fun q7 =>
  (f_Tr_look_49_7  q7.2).bind fun q8 =>
  (x_it (f_RH_wrists_0_L21 ) 10000 ((1 : Int32), (-1 : Int32), (1 : Int32), q8.2)).bind fun b9 =>
  some (b9.1, b9.2.2.2)
set_option maxHeartbeats 4000000 in
set_option maxRecDepth 100000 in
theorem b_RH_wrists_0_L21 {l : Launch} {s0 : State} {a0 : Array Value} {D : va_G} {cA : Nat → ClassId} {sp : Nat → Nat} (E : x_En CL l s0 a0 D cA sp)  {r : Int32} {σ1 : xS} (a : Int32 × Int32 × Int32 × xS) (o : (Int32 × Int32 × Int32 × xS) ⊕ (Int32 × Int32 × Int32 × xS)) (h : f_RH_wrists_0_L21  a = some o) (hK : ∀ b, o = .inl b → zW l s0 D cA sp (zQ s0 D cA sp (some (.int r)) σ1) (x_rm 5 0 0) M_RH_wrists 0 0 83 [none, some (.int b.1), none, none, none] [] b.2.2.2) (hG : ∀ a', o = .inr a' → zW l s0 D cA sp (zQ s0 D cA sp (some (.int r)) σ1) (x_rm 5 0 0) M_RH_wrists 0 0 21 [some (.ref 0), some (.int a'.1), some (.int a'.2.1), some (.int a'.2.2.1), none] [] a'.2.2.2) : zW l s0 D cA sp (zQ s0 D cA sp (some (.int r)) σ1) (x_rm 5 0 0) M_RH_wrists 0 0 21 [some (.ref 0), some (.int a.1), some (.int a.2.1), some (.int a.2.2.1), none] [] a.2.2.2 := by
  obtain ⟨v1, v2, v3, σ⟩ := a
  unfold f_RH_wrists_0_L21 at h
  try dsimp only at h ⊢
  refine x_iload_n 22 rfl 3 dX8_wrists_21 rfl rfl ?_
  refine x_bipush 24 rfl (v := 90) dX8_wrists_22 (by decide) ?_
  refine x_icmp_gt 27 rfl 83 dX8_wrists_24 (by decide) (fun hc => ?_) (fun hc => ?_)
  · replace h := x_ifT hc h
    cases h
    exact x_wk (x_le_n (x_le_s (x_le_n (x_le_n (x_le_n x_le_0))))) (hK (_, _, _, _) rfl)
  · replace h := x_ifF hc h
    refine x_aload_n 28 rfl 0 dX8_wrists_27 rfl rfl ?_
    refine x_getR E dX8_wrists_28 F_RX8_51 sh_0 rf_0_8 31 rfl ?_
    refine x_getR E dX8_wrists_31 F_RX8_196 sh_49 rf_49_0 34 rfl ?_
    refine x_iconst 35 rfl (v := 2) dX8_wrists_34 (by decide) ?_
    refine x_iload_n 36 rfl 3 dX8_wrists_35 rfl rfl ?_
    refine x_iast E dX8_wrists_36 sh_50 2 (by decide) (by decide) 37 rfl ?_
    refine x_aload_n 38 rfl 0 dX8_wrists_37 rfl rfl ?_
    refine x_getR E dX8_wrists_38 F_RX8_51 sh_0 rf_0_8 41 rfl ?_
    refine x_aload_n 42 rfl 0 dX8_wrists_41 rfl rfl ?_
    refine x_getR E dX8_wrists_42 F_RX8_27 sh_0 rf_0_3 45 rfl ?_
    obtain ⟨⟨q2r, q2s⟩, q2h, h⟩ := x_bind h
    try dsimp only at h
    refine z_callV E [.ref 7] [] dX8_wrists_45 K_RX8_241 ⟨Nat.le_of_ble_eq_true rfl, Nat.le_of_ble_eq_true rfl⟩ sh_49 (by decide) rfl (c_Tr_follow_49_7 E  q2h) rfl rfl (Nat.le_of_ble_eq_true rfl) 48 rfl [] rfl ?_
    refine x_aload_n 49 rfl 0 dX8_wrists_48 rfl rfl ?_
    refine x_getR E dX8_wrists_49 F_RX8_51 sh_0 rf_0_8 52 rfl ?_
    refine x_aload_n 53 rfl 0 dX8_wrists_52 rfl rfl ?_
    refine x_getR E dX8_wrists_53 F_RX8_51 sh_0 rf_0_8 56 rfl ?_
    refine x_getR E dX8_wrists_56 F_RX8_196 sh_49 rf_49_0 59 rfl ?_
    refine x_iconst 60 rfl (v := 0) dX8_wrists_59 (by decide) ?_
    refine x_iald E dX8_wrists_60 sh_50 0 (by decide) (by decide) 61 rfl ?_
    obtain ⟨⟨q3r, q3s⟩, q3h, h⟩ := x_bind h
    try dsimp only at h
    refine z_callV E [.int _] [] dX8_wrists_61 K_RX8_197 ⟨Nat.le_of_ble_eq_true rfl, Nat.le_of_ble_eq_true rfl⟩ sh_49 (by decide) rfl (c_Tr_sharpBy_49 E _ q3h) rfl rfl (Nat.le_of_ble_eq_true rfl) 64 rfl [.int _] rfl ?_
    refine x_istore 66 rfl dX8_wrists_64 (by decide) [some (.ref 0), some (.int _), some (.int _), some (.int _), some (.int _)] rfl ?_
    refine x_iload 68 rfl dX8_wrists_66 rfl ?_
    refine x_iload_n 69 rfl 2 dX8_wrists_68 rfl rfl ?_
    refine x_icmp_le 72 rfl 77 dX8_wrists_69 (by decide) (fun hc => ?_) (fun hc => ?_)
    · replace h := x_ifT hc h
      refine x_iinc 80 rfl (1) dX8_wrists_77 rfl (by decide) (by decide) [some (.ref 0), some (.int _), some (.int _), some (.int _), some (.int _)] rfl ?_
      refine x_goto 21 dX8_wrists_80 (by decide) ?_
      cases h
      exact x_wk (x_le_s (x_le_s (x_le_s (x_le_s (x_le_n x_le_0))))) (hG (_, _, _, _) rfl)
    · replace h := x_ifF hc h
      refine x_iload 74 rfl dX8_wrists_72 rfl ?_
      refine x_istore_n 75 rfl 2 dX8_wrists_74 rfl (by decide) [some (.ref 0), some (.int _), some (.int _), some (.int _), some (.int _)] rfl ?_
      refine x_iload_n 76 rfl 3 dX8_wrists_75 rfl rfl ?_
      refine x_istore_n 77 rfl 1 dX8_wrists_76 rfl (by decide) [some (.ref 0), some (.int _), some (.int _), some (.int _), some (.int _)] rfl ?_
      refine x_iinc 80 rfl (1) dX8_wrists_77 rfl (by decide) (by decide) [some (.ref 0), some (.int _), some (.int _), some (.int _), some (.int _)] rfl ?_
      refine x_goto 21 dX8_wrists_80 (by decide) ?_
      cases h
      exact x_wk (x_le_s (x_le_s (x_le_s (x_le_s (x_le_n x_le_0))))) (hG (_, _, _, _) rfl)
set_option maxHeartbeats 4000000 in
set_option maxRecDepth 100000 in
theorem c_RH_wrists_0 {l : Launch} {s0 : State} {a0 : Array Value} {D : va_G} {cA : Nat → ClassId} {sp : Nat → Nat} (E : x_En CL l s0 a0 D cA sp)  {σ : xS} {r : Int32} {σ1 : xS} (h : f_RH_wrists_0  σ = some (r, σ1)) : zC l s0 D cA sp 5 M_RH_wrists [.ref 0] σ (some (.int r)) σ1 := by
  unfold f_RH_wrists_0 at h
  try dsimp only at h
  refine x_enter [some (.ref 0), none, none, none, none] rfl (Nat.le_of_ble_eq_true rfl) (by decide +kernel) rfl ?_
  refine x_iconst 1 rfl (v := 1) dX8_wrists_0 (by decide) ?_
  refine x_istore_n 2 rfl 1 dX8_wrists_1 rfl (by decide) [some (.ref 0), some (.int _), none, none, none] rfl ?_
  refine x_iconst 3 rfl (v := -1) dX8_wrists_2 (by decide) ?_
  refine x_istore_n 4 rfl 2 dX8_wrists_3 rfl (by decide) [some (.ref 0), some (.int _), some (.int _), none, none] rfl ?_
  refine x_aload_n 5 rfl 0 dX8_wrists_4 rfl rfl ?_
  obtain ⟨⟨q7r, q7s⟩, q7h, h⟩ := x_bind h
  try dsimp only at h
  refine z_callV E [] [] dX8_wrists_5 K_RX8_187 ⟨Nat.le_of_ble_eq_true rfl, Nat.le_of_ble_eq_true rfl⟩ sh_0 (by decide) rfl (c_RH_takeSettings_0 E  q7h) rfl rfl (Nat.le_of_ble_eq_true rfl) 8 rfl [] rfl ?_
  refine x_aload_n 9 rfl 0 dX8_wrists_8 rfl rfl ?_
  refine x_getR E dX8_wrists_9 F_RX8_51 sh_0 rf_0_8 12 rfl ?_
  refine x_aload_n 13 rfl 0 dX8_wrists_12 rfl rfl ?_
  refine x_getR E dX8_wrists_13 F_RX8_27 sh_0 rf_0_3 16 rfl ?_
  obtain ⟨⟨q8r, q8s⟩, q8h, h⟩ := x_bind h
  try dsimp only at h
  refine z_callV E [.ref 7] [] dX8_wrists_16 K_RX8_238 ⟨Nat.le_of_ble_eq_true rfl, Nat.le_of_ble_eq_true rfl⟩ sh_49 (by decide) rfl (c_Tr_look_49_7 E  q8h) rfl rfl (Nat.le_of_ble_eq_true rfl) 19 rfl [] rfl ?_
  refine x_iconst 20 rfl (v := 1) dX8_wrists_19 (by decide) ?_
  refine x_istore_n 21 rfl 3 dX8_wrists_20 rfl (by decide) [some (.ref 0), some (.int _), some (.int _), some (.int _), none] rfl ?_
  obtain ⟨b9, b9h, h⟩ := x_bind h
  try dsimp only at h
  refine x_wk (x_le_s (x_le_s (x_le_s (x_le_s (x_le_n x_le_0))))) (x_loop (fun a o h hK hG => b_RH_wrists_0_L21 (r := r) (σ1 := σ1) E  a o h hK hG) _ _ _ b9h ?_)
  refine x_iload_n 84 rfl 1 dX8_wrists_83 rfl rfl ?_
  cases h
  exact x_iret dX8_wrists_84 rfl rfl rfl
abbrev M_RH_learn : xM := (yX8_learn, cX8_learn, 6, some .int, [])
theorem dX8_learn_0 : decode cX8_learn 0 = .ok (.aload_n 0, 1) := by decide +kernel
theorem dX8_learn_1 : decode cX8_learn 1 = .ok (.getfield 37, 3) := by decide +kernel
theorem dX8_learn_4 : decode cX8_learn 4 = .ok (.getfield 118, 3) := by decide +kernel
theorem dX8_learn_7 : decode cX8_learn 7 = .ok (.iconst 3, 1) := by decide +kernel
theorem dX8_learn_8 : decode cX8_learn 8 = .ok (.iaload, 1) := by decide +kernel
theorem dX8_learn_9 : decode cX8_learn 9 = .ok (.istore_n 1, 1) := by decide +kernel
theorem dX8_learn_10 : decode cX8_learn 10 = .ok (.iconst 0, 1) := by decide +kernel
theorem dX8_learn_11 : decode cX8_learn 11 = .ok (.istore_n 2, 1) := by decide +kernel
theorem dX8_learn_12 : decode cX8_learn 12 = .ok (.iconst (-1), 1) := by decide +kernel
theorem dX8_learn_13 : decode cX8_learn 13 = .ok (.istore_n 3, 1) := by decide +kernel
theorem dX8_learn_14 : decode cX8_learn 14 = .ok (.iconst 0, 1) := by decide +kernel
theorem dX8_learn_15 : decode cX8_learn 15 = .ok (.istore 4, 2) := by decide +kernel
theorem dX8_learn_17 : decode cX8_learn 17 = .ok (.iload 4, 2) := by decide +kernel
theorem dX8_learn_19 : decode cX8_learn 19 = .ok (.iload_n 1, 1) := by decide +kernel
theorem dX8_learn_20 : decode cX8_learn 20 = .ok (.invokestatic 256, 3) := by decide +kernel
theorem dX8_learn_23 : decode cX8_learn 23 = .ok (.if_icmp .gt 55, 3) := by decide +kernel
theorem dX8_learn_26 : decode cX8_learn 26 = .ok (.aload_n 0, 1) := by decide +kernel
theorem dX8_learn_27 : decode cX8_learn 27 = .ok (.invokevirtual 187, 3) := by decide +kernel
theorem dX8_learn_30 : decode cX8_learn 30 = .ok (.aload_n 0, 1) := by decide +kernel
theorem dX8_learn_31 : decode cX8_learn 31 = .ok (.getfield 51, 3) := by decide +kernel
theorem dX8_learn_34 : decode cX8_learn 34 = .ok (.getfield 196, 3) := by decide +kernel
theorem dX8_learn_37 : decode cX8_learn 37 = .ok (.iconst 3, 1) := by decide +kernel
theorem dX8_learn_38 : decode cX8_learn 38 = .ok (.iload_n 1, 1) := by decide +kernel
theorem dX8_learn_39 : decode cX8_learn 39 = .ok (.ifCond .ge 10, 3) := by decide +kernel
theorem dX8_learn_42 : decode cX8_learn 42 = .ok (.iload_n 1, 1) := by decide +kernel
theorem dX8_learn_43 : decode cX8_learn 43 = .ok (.iload 4, 2) := by decide +kernel
theorem dX8_learn_45 : decode cX8_learn 45 = .ok (.iadd, 1) := by decide +kernel
theorem dX8_learn_46 : decode cX8_learn 46 = .ok (.goto 7, 3) := by decide +kernel
theorem dX8_learn_49 : decode cX8_learn 49 = .ok (.iload_n 1, 1) := by decide +kernel
theorem dX8_learn_50 : decode cX8_learn 50 = .ok (.iload 4, 2) := by decide +kernel
theorem dX8_learn_52 : decode cX8_learn 52 = .ok (.isub, 1) := by decide +kernel
theorem dX8_learn_53 : decode cX8_learn 53 = .ok (.iastore, 1) := by decide +kernel
theorem dX8_learn_54 : decode cX8_learn 54 = .ok (.aload_n 0, 1) := by decide +kernel
theorem dX8_learn_55 : decode cX8_learn 55 = .ok (.invokevirtual 276, 3) := by decide +kernel
theorem dX8_learn_58 : decode cX8_learn 58 = .ok (.istore 5, 2) := by decide +kernel
theorem dX8_learn_60 : decode cX8_learn 60 = .ok (.iload 5, 2) := by decide +kernel
theorem dX8_learn_62 : decode cX8_learn 62 = .ok (.iload_n 3, 1) := by decide +kernel
theorem dX8_learn_63 : decode cX8_learn 63 = .ok (.if_icmp .le 9, 3) := by decide +kernel
theorem dX8_learn_66 : decode cX8_learn 66 = .ok (.iload 5, 2) := by decide +kernel
theorem dX8_learn_68 : decode cX8_learn 68 = .ok (.istore_n 3, 1) := by decide +kernel
theorem dX8_learn_69 : decode cX8_learn 69 = .ok (.iload 4, 2) := by decide +kernel
theorem dX8_learn_71 : decode cX8_learn 71 = .ok (.istore_n 2, 1) := by decide +kernel
theorem dX8_learn_72 : decode cX8_learn 72 = .ok (.iinc 4 1, 3) := by decide +kernel
theorem dX8_learn_75 : decode cX8_learn 75 = .ok (.goto (-58), 3) := by decide +kernel
theorem dX8_learn_78 : decode cX8_learn 78 = .ok (.iload_n 2, 1) := by decide +kernel
theorem dX8_learn_79 : decode cX8_learn 79 = .ok (.ireturn, 1) := by decide +kernel
def f_RH_learn_0_J53 (v1 : Int32) (v2 : Int32) (v3 : Int32) (v4 : Int32) (y1 : Int32) (y2 : Int32) (σ : xS) : Option ((Int32 × Int32 × Int32 × xS) ⊕ (Int32 × Int32 × Int32 × xS)) :=
  if y1 < 0 ∨ 12 ≤ y1.toNatClampNeg then none else
  let σ1 := x_pI σ 50 y1.toNatClampNeg y2
  (f_RH_sharpAsTried_0  σ1).bind fun q2 =>
  let w3 := q2.1
  if w3 ≤ v3 then
    let w4 := v4 + (1 : Int32)
    some (.inr (v2, v3, w4, q2.2))
  else
    let w5 := v4 + (1 : Int32)
    some (.inr (v4, w3, w5, q2.2))
def f_RH_learn_0_L17 (v1 : Int32) (a : Int32 × Int32 × Int32 × xS) : Option ((Int32 × Int32 × Int32 × xS) ⊕ (Int32 × Int32 × Int32 × xS)) :=
  let v2 := a.1; let v3 := a.2.1; let v4 := a.2.2.1; let σ := a.2.2.2;
  if (if 0 ≤ v1 then v1 else 0 - v1) < v4 then
    some (.inl (v2, v3, v4, σ))
  else
    (f_RH_takeSettings_0  σ).bind fun q6 =>
    if 0 ≤ v1 then
      f_RH_learn_0_J53 v1 v2 v3 v4 (3 : Int32) (v1 - v4) q6.2
    else
      f_RH_learn_0_J53 v1 v2 v3 v4 (3 : Int32) (v1 + v4) q6.2
def f_RH_learn_0  (σ : xS) : Option (Int32 × xS) :=
  let w7 := σ.1 36 3
  (x_it (f_RH_learn_0_L17 w7) 10000 ((0 : Int32), (-1 : Int32), (0 : Int32), σ)).bind fun b8 =>
  some (b8.1, b8.2.2.2)
set_option maxHeartbeats 4000000 in
set_option maxRecDepth 100000 in
theorem j_RH_learn_0_J53 {l : Launch} {s0 : State} {a0 : Array Value} {D : va_G} {cA : Nat → ClassId} {sp : Nat → Nat} (E : x_En CL l s0 a0 D cA sp) (v1 : Int32) (v2 : Int32) (v3 : Int32) (v4 : Int32) (y1 : Int32) (y2 : Int32)  (σ : xS) {r : Int32} {σ1 : xS} (o : (Int32 × Int32 × Int32 × xS) ⊕ (Int32 × Int32 × Int32 × xS)) (h : f_RH_learn_0_J53 v1 v2 v3 v4 y1 y2 σ = some o) (hK : ∀ b, o = .inl b → zW l s0 D cA sp (zQ s0 D cA sp (some (.int r)) σ1) (x_rm 7 0 0) M_RH_learn 0 0 78 [none, none, some (.int b.1), none, none, none] [] b.2.2.2) (hG : ∀ a', o = .inr a' → zW l s0 D cA sp (zQ s0 D cA sp (some (.int r)) σ1) (x_rm 7 0 0) M_RH_learn 0 0 17 [some (.ref 0), some (.int v1), some (.int a'.1), some (.int a'.2.1), some (.int a'.2.2.1), none] [] a'.2.2.2) : zW l s0 D cA sp (zQ s0 D cA sp (some (.int r)) σ1) (x_rm 7 0 0) M_RH_learn 0 0 53 [some (.ref 0), some (.int v1), some (.int v2), some (.int v3), some (.int v4), none] [.int y2, .int y1, .ref 50] σ := by
  unfold f_RH_learn_0_J53 at h
  try dsimp only at h
  obtain ⟨hz, h⟩ := x_ifn h
  refine x_iast E dX8_learn_53 sh_50 _ rfl hz 54 rfl ?_
  refine x_aload_n 55 rfl 0 dX8_learn_54 rfl rfl ?_
  obtain ⟨⟨q2r, q2s⟩, q2h, h⟩ := x_bind h
  try dsimp only at h
  refine z_callV E [] [] dX8_learn_55 K_RX8_276 ⟨Nat.le_of_ble_eq_true rfl, Nat.le_of_ble_eq_true rfl⟩ sh_0 (by decide) rfl (c_RH_sharpAsTried_0 E  q2h) rfl rfl (Nat.le_of_ble_eq_true rfl) 58 rfl [.int _] rfl ?_
  refine x_istore 60 rfl dX8_learn_58 (by decide) [some (.ref 0), some (.int _), some (.int _), some (.int _), some (.int _), some (.int _)] rfl ?_
  refine x_iload 62 rfl dX8_learn_60 rfl ?_
  refine x_iload_n 63 rfl 3 dX8_learn_62 rfl rfl ?_
  refine x_icmp_le 66 rfl 72 dX8_learn_63 (by decide) (fun hc => ?_) (fun hc => ?_)
  · replace h := x_ifT hc h
    refine x_iinc 75 rfl (1) dX8_learn_72 rfl (by decide) (by decide) [some (.ref 0), some (.int _), some (.int _), some (.int _), some (.int _), some (.int _)] rfl ?_
    refine x_goto 17 dX8_learn_75 (by decide) ?_
    cases h
    exact x_wk (x_le_s (x_le_s (x_le_s (x_le_s (x_le_s (x_le_n x_le_0)))))) (hG (_, _, _, _) rfl)
  · replace h := x_ifF hc h
    refine x_iload 68 rfl dX8_learn_66 rfl ?_
    refine x_istore_n 69 rfl 3 dX8_learn_68 rfl (by decide) [some (.ref 0), some (.int _), some (.int _), some (.int _), some (.int _), some (.int _)] rfl ?_
    refine x_iload 71 rfl dX8_learn_69 rfl ?_
    refine x_istore_n 72 rfl 2 dX8_learn_71 rfl (by decide) [some (.ref 0), some (.int _), some (.int _), some (.int _), some (.int _), some (.int _)] rfl ?_
    refine x_iinc 75 rfl (1) dX8_learn_72 rfl (by decide) (by decide) [some (.ref 0), some (.int _), some (.int _), some (.int _), some (.int _), some (.int _)] rfl ?_
    refine x_goto 17 dX8_learn_75 (by decide) ?_
    cases h
    exact x_wk (x_le_s (x_le_s (x_le_s (x_le_s (x_le_s (x_le_n x_le_0)))))) (hG (_, _, _, _) rfl)
set_option maxHeartbeats 4000000 in
set_option maxRecDepth 100000 in
theorem b_RH_learn_0_L17 {l : Launch} {s0 : State} {a0 : Array Value} {D : va_G} {cA : Nat → ClassId} {sp : Nat → Nat} (E : x_En CL l s0 a0 D cA sp) (v1 : Int32) {r : Int32} {σ1 : xS} (a : Int32 × Int32 × Int32 × xS) (o : (Int32 × Int32 × Int32 × xS) ⊕ (Int32 × Int32 × Int32 × xS)) (h : f_RH_learn_0_L17 v1 a = some o) (hK : ∀ b, o = .inl b → zW l s0 D cA sp (zQ s0 D cA sp (some (.int r)) σ1) (x_rm 7 0 0) M_RH_learn 0 0 78 [none, none, some (.int b.1), none, none, none] [] b.2.2.2) (hG : ∀ a', o = .inr a' → zW l s0 D cA sp (zQ s0 D cA sp (some (.int r)) σ1) (x_rm 7 0 0) M_RH_learn 0 0 17 [some (.ref 0), some (.int v1), some (.int a'.1), some (.int a'.2.1), some (.int a'.2.2.1), none] [] a'.2.2.2) : zW l s0 D cA sp (zQ s0 D cA sp (some (.int r)) σ1) (x_rm 7 0 0) M_RH_learn 0 0 17 [some (.ref 0), some (.int v1), some (.int a.1), some (.int a.2.1), some (.int a.2.2.1), none] [] a.2.2.2 := by
  obtain ⟨v2, v3, v4, σ⟩ := a
  unfold f_RH_learn_0_L17 at h
  try dsimp only at h ⊢
  refine x_iload 19 rfl dX8_learn_17 rfl ?_
  refine x_iload_n 20 rfl 1 dX8_learn_19 rfl rfl ?_
  refine x_mabs E dX8_learn_20 K_RX8_256 (Nat.le_of_ble_eq_true rfl) (Nat.le_of_ble_eq_true rfl) 23 rfl ?_
  refine x_icmp_gt 26 rfl 78 dX8_learn_23 (by decide) (fun hc => ?_) (fun hc => ?_)
  · replace h := x_ifT hc h
    cases h
    exact x_wk (x_le_n (x_le_n (x_le_s (x_le_n (x_le_n (x_le_n x_le_0)))))) (hK (_, _, _, _) rfl)
  · replace h := x_ifF hc h
    refine x_aload_n 27 rfl 0 dX8_learn_26 rfl rfl ?_
    obtain ⟨⟨q6r, q6s⟩, q6h, h⟩ := x_bind h
    try dsimp only at h
    refine z_callV E [] [] dX8_learn_27 K_RX8_187 ⟨Nat.le_of_ble_eq_true rfl, Nat.le_of_ble_eq_true rfl⟩ sh_0 (by decide) rfl (c_RH_takeSettings_0 E  q6h) rfl rfl (Nat.le_of_ble_eq_true rfl) 30 rfl [] rfl ?_
    refine x_aload_n 31 rfl 0 dX8_learn_30 rfl rfl ?_
    refine x_getR E dX8_learn_31 F_RX8_51 sh_0 rf_0_8 34 rfl ?_
    refine x_getR E dX8_learn_34 F_RX8_196 sh_49 rf_49_0 37 rfl ?_
    refine x_iconst 38 rfl (v := 3) dX8_learn_37 (by decide) ?_
    refine x_iload_n 39 rfl 1 dX8_learn_38 rfl rfl ?_
    refine x_if_ge 42 rfl 49 dX8_learn_39 (by decide) (fun hc => ?_) (fun hc => ?_)
    · replace h := x_ifT hc h
      refine x_iload_n 50 rfl 1 dX8_learn_49 rfl rfl ?_
      refine x_iload 52 rfl dX8_learn_50 rfl ?_
      refine x_isub 53 rfl dX8_learn_52 ?_
      exact x_wk (x_le_s (x_le_s (x_le_s (x_le_s (x_le_s (x_le_n x_le_0)))))) (j_RH_learn_0_J53 (r := r) (σ1 := σ1) E _ _ _ _ _ _  _ _ h hK hG)
    · replace h := x_ifF hc h
      refine x_iload_n 43 rfl 1 dX8_learn_42 rfl rfl ?_
      refine x_iload 45 rfl dX8_learn_43 rfl ?_
      refine x_iadd 46 rfl dX8_learn_45 ?_
      refine x_goto 53 dX8_learn_46 (by decide) ?_
      exact x_wk (x_le_s (x_le_s (x_le_s (x_le_s (x_le_s (x_le_n x_le_0)))))) (j_RH_learn_0_J53 (r := r) (σ1 := σ1) E _ _ _ _ _ _  _ _ h hK hG)
set_option maxHeartbeats 4000000 in
set_option maxRecDepth 100000 in
theorem c_RH_learn_0 {l : Launch} {s0 : State} {a0 : Array Value} {D : va_G} {cA : Nat → ClassId} {sp : Nat → Nat} (E : x_En CL l s0 a0 D cA sp)  {σ : xS} {r : Int32} {σ1 : xS} (h : f_RH_learn_0  σ = some (r, σ1)) : zC l s0 D cA sp 7 M_RH_learn [.ref 0] σ (some (.int r)) σ1 := by
  unfold f_RH_learn_0 at h
  try dsimp only at h
  refine x_enter [some (.ref 0), none, none, none, none, none] rfl (Nat.le_of_ble_eq_true rfl) (by decide +kernel) rfl ?_
  refine x_aload_n 1 rfl 0 dX8_learn_0 rfl rfl ?_
  refine x_getR E dX8_learn_1 F_RX8_37 sh_0 rf_0_5 4 rfl ?_
  refine x_getR E dX8_learn_4 F_RX8_118 sh_35 rf_35_0 7 rfl ?_
  refine x_iconst 8 rfl (v := 3) dX8_learn_7 (by decide) ?_
  refine x_iald E dX8_learn_8 sh_36 3 (by decide) (by decide) 9 rfl ?_
  refine x_istore_n 10 rfl 1 dX8_learn_9 rfl (by decide) [some (.ref 0), some (.int _), none, none, none, none] rfl ?_
  refine x_iconst 11 rfl (v := 0) dX8_learn_10 (by decide) ?_
  refine x_istore_n 12 rfl 2 dX8_learn_11 rfl (by decide) [some (.ref 0), some (.int _), some (.int _), none, none, none] rfl ?_
  refine x_iconst 13 rfl (v := -1) dX8_learn_12 (by decide) ?_
  refine x_istore_n 14 rfl 3 dX8_learn_13 rfl (by decide) [some (.ref 0), some (.int _), some (.int _), some (.int _), none, none] rfl ?_
  refine x_iconst 15 rfl (v := 0) dX8_learn_14 (by decide) ?_
  refine x_istore 17 rfl dX8_learn_15 (by decide) [some (.ref 0), some (.int _), some (.int _), some (.int _), some (.int _), none] rfl ?_
  obtain ⟨b8, b8h, h⟩ := x_bind h
  try dsimp only at h
  refine x_wk (x_le_s (x_le_s (x_le_s (x_le_s (x_le_s (x_le_n x_le_0)))))) (x_loop (fun a o h hK hG => b_RH_learn_0_L17 (r := r) (σ1 := σ1) E _ a o h hK hG) _ _ _ b8h ?_)
  refine x_iload_n 79 rfl 2 dX8_learn_78 rfl rfl ?_
  cases h
  exact x_iret dX8_learn_79 rfl rfl rfl
theorem KX_RX8_352 : x_KN2 RX8 130 352 134 (x_Xn 2) "nothing such of THE SHIFT" := ⟨by decide +kernel, (List.mem_append_right _ (List.mem_of_getElem? (i := 881) (by decide +kernel))), (List.mem_append_right _ (List.mem_of_getElem? (i := 22) (by decide +kernel))), (List.mem_append_right _ (List.mem_of_getElem? (i := 1169) (by decide +kernel))), (List.mem_of_getElem? (i := 946) (by decide +kernel)), AX_134, AO_130_134⟩
abbrev M_RH_shift : xM := (yX8_shift, cX8_shift, 6, some .int, [])
theorem dX8_shift_0 : decode cX8_shift 0 = .ok (.iload_n 1, 1) := by decide +kernel
theorem dX8_shift_1 : decode cX8_shift 1 = .ok (.ifCond .lt 8, 3) := by decide +kernel
theorem dX8_shift_4 : decode cX8_shift 4 = .ok (.iload_n 1, 1) := by decide +kernel
theorem dX8_shift_5 : decode cX8_shift 5 = .ok (.iconst 1, 1) := by decide +kernel
theorem dX8_shift_6 : decode cX8_shift 6 = .ok (.if_icmp .le 14, 3) := by decide +kernel
theorem dX8_shift_9 : decode cX8_shift 9 = .ok (.new 130, 3) := by decide +kernel
theorem dX8_shift_12 : decode cX8_shift 12 = .ok (.dup, 1) := by decide +kernel
theorem dX8_shift_13 : decode cX8_shift 13 = .ok (.ldc_w 352, 3) := by decide +kernel
theorem dX8_shift_16 : decode cX8_shift 16 = .ok (.invokespecial 134, 3) := by decide +kernel
theorem dX8_shift_19 : decode cX8_shift 19 = .ok (.athrow, 1) := by decide +kernel
theorem dX8_shift_20 : decode cX8_shift 20 = .ok (.iconst 0, 1) := by decide +kernel
theorem dX8_shift_21 : decode cX8_shift 21 = .ok (.istore_n 2, 1) := by decide +kernel
theorem dX8_shift_22 : decode cX8_shift 22 = .ok (.iconst (-1), 1) := by decide +kernel
theorem dX8_shift_23 : decode cX8_shift 23 = .ok (.istore_n 3, 1) := by decide +kernel
theorem dX8_shift_24 : decode cX8_shift 24 = .ok (.iconst 0, 1) := by decide +kernel
theorem dX8_shift_25 : decode cX8_shift 25 = .ok (.istore 4, 2) := by decide +kernel
theorem dX8_shift_27 : decode cX8_shift 27 = .ok (.iload 4, 2) := by decide +kernel
theorem dX8_shift_29 : decode cX8_shift 29 = .ok (.bipush 48, 2) := by decide +kernel
theorem dX8_shift_31 : decode cX8_shift 31 = .ok (.if_icmp .gt 46, 3) := by decide +kernel
theorem dX8_shift_34 : decode cX8_shift 34 = .ok (.aload_n 0, 1) := by decide +kernel
theorem dX8_shift_35 : decode cX8_shift 35 = .ok (.invokevirtual 187, 3) := by decide +kernel
theorem dX8_shift_38 : decode cX8_shift 38 = .ok (.aload_n 0, 1) := by decide +kernel
theorem dX8_shift_39 : decode cX8_shift 39 = .ok (.getfield 51, 3) := by decide +kernel
theorem dX8_shift_42 : decode cX8_shift 42 = .ok (.iload 4, 2) := by decide +kernel
theorem dX8_shift_44 : decode cX8_shift 44 = .ok (.invokestatic 246, 3) := by decide +kernel
theorem dX8_shift_47 : decode cX8_shift 47 = .ok (.putfield 354, 3) := by decide +kernel
theorem dX8_shift_50 : decode cX8_shift 50 = .ok (.aload_n 0, 1) := by decide +kernel
theorem dX8_shift_51 : decode cX8_shift 51 = .ok (.invokevirtual 276, 3) := by decide +kernel
theorem dX8_shift_54 : decode cX8_shift 54 = .ok (.istore 5, 2) := by decide +kernel
theorem dX8_shift_56 : decode cX8_shift 56 = .ok (.iload 5, 2) := by decide +kernel
theorem dX8_shift_58 : decode cX8_shift 58 = .ok (.iload_n 3, 1) := by decide +kernel
theorem dX8_shift_59 : decode cX8_shift 59 = .ok (.if_icmp .le 12, 3) := by decide +kernel
theorem dX8_shift_62 : decode cX8_shift 62 = .ok (.iload 5, 2) := by decide +kernel
theorem dX8_shift_64 : decode cX8_shift 64 = .ok (.istore_n 3, 1) := by decide +kernel
theorem dX8_shift_65 : decode cX8_shift 65 = .ok (.iload 4, 2) := by decide +kernel
theorem dX8_shift_67 : decode cX8_shift 67 = .ok (.invokestatic 246, 3) := by decide +kernel
theorem dX8_shift_70 : decode cX8_shift 70 = .ok (.istore_n 2, 1) := by decide +kernel
theorem dX8_shift_71 : decode cX8_shift 71 = .ok (.iinc 4 1, 3) := by decide +kernel
theorem dX8_shift_74 : decode cX8_shift 74 = .ok (.goto (-47), 3) := by decide +kernel
theorem dX8_shift_77 : decode cX8_shift 77 = .ok (.iload_n 1, 1) := by decide +kernel
theorem dX8_shift_78 : decode cX8_shift 78 = .ok (.ifCond .ne 7, 3) := by decide +kernel
theorem dX8_shift_81 : decode cX8_shift 81 = .ok (.iload_n 2, 1) := by decide +kernel
theorem dX8_shift_82 : decode cX8_shift 82 = .ok (.goto 4, 3) := by decide +kernel
theorem dX8_shift_85 : decode cX8_shift 85 = .ok (.iload_n 3, 1) := by decide +kernel
theorem dX8_shift_86 : decode cX8_shift 86 = .ok (.ireturn, 1) := by decide +kernel
def f_RH_shift_0_L27 (v1 : Int32) (a : Int32 × Int32 × Int32 × xS) : Option ((Int32 × Int32 × Int32 × xS) ⊕ (Int32 × Int32 × Int32 × xS)) :=
  let v2 := a.1; let v3 := a.2.1; let v4 := a.2.2.1; let σ := a.2.2.2;
  if (48 : Int32) < v4 then
    some (.inl (v2, v3, v4, σ))
  else
    (f_RH_takeSettings_0  σ).bind fun q1 =>
    (f_RH_outward v4 q1.2).bind fun q2 =>
    let σ3 := x_pI q2.2 49 3 q2.1
    (f_RH_sharpAsTried_0  σ3).bind fun q4 =>
    let w5 := q4.1
    if w5 ≤ v3 then
      let w6 := v4 + (1 : Int32)
      some (.inr (v2, v3, w6, q4.2))
    else
      (f_RH_outward v4 q4.2).bind fun q7 =>
      let w8 := q7.1
      let w9 := v4 + (1 : Int32)
      some (.inr (w8, w5, w9, q7.2))
def f_RH_shift_0 (v1 : Int32) (σ : xS) : Option ((Int32 ⊕ Nat) × xS) :=
  if v1 < 0 then
    some (.inr 2, σ)
  else
    if v1 ≤ (1 : Int32) then
      (x_it (f_RH_shift_0_L27 v1) 10000 ((0 : Int32), (-1 : Int32), (0 : Int32), σ)).bind fun b10 =>
      if v1 = 0 then
        some (.inl b10.1, b10.2.2.2)
      else
        some (.inl b10.2.1, b10.2.2.2)
    else
      some (.inr 2, σ)
set_option maxHeartbeats 4000000 in
set_option maxRecDepth 100000 in
theorem b_RH_shift_0_L27 {l : Launch} {s0 : State} {a0 : Array Value} {D : va_G} {cA : Nat → ClassId} {sp : Nat → Nat} (E : x_En CL l s0 a0 D cA sp) (v1 : Int32) {r : Int32 ⊕ Nat} {σ1 : xS} (a : Int32 × Int32 × Int32 × xS) (o : (Int32 × Int32 × Int32 × xS) ⊕ (Int32 × Int32 × Int32 × xS)) (h : f_RH_shift_0_L27 v1 a = some o) (hK : ∀ b, o = .inl b → zW l s0 D cA sp (oQ s0 D cA sp (x_oi r) σ1) (x_rm 7 1 6) M_RH_shift 1 6 77 [none, some (.int v1), some (.int b.1), some (.int b.2.1), none, none] [] b.2.2.2) (hG : ∀ a', o = .inr a' → zW l s0 D cA sp (oQ s0 D cA sp (x_oi r) σ1) (x_rm 7 1 6) M_RH_shift 1 6 27 [some (.ref 0), some (.int v1), some (.int a'.1), some (.int a'.2.1), some (.int a'.2.2.1), none] [] a'.2.2.2) : zW l s0 D cA sp (oQ s0 D cA sp (x_oi r) σ1) (x_rm 7 1 6) M_RH_shift 1 6 27 [some (.ref 0), some (.int v1), some (.int a.1), some (.int a.2.1), some (.int a.2.2.1), none] [] a.2.2.2 := by
  obtain ⟨v2, v3, v4, σ⟩ := a
  unfold f_RH_shift_0_L27 at h
  try dsimp only at h ⊢
  refine x_iload 29 rfl dX8_shift_27 rfl ?_
  refine x_bipush 31 rfl (v := 48) dX8_shift_29 (by decide) ?_
  refine x_icmp_gt 34 rfl 77 dX8_shift_31 (by decide) (fun hc => ?_) (fun hc => ?_)
  · replace h := x_ifT hc h
    cases h
    exact x_wk (x_le_n (x_le_s (x_le_s (x_le_s (x_le_n (x_le_n x_le_0)))))) (hK (_, _, _, _) rfl)
  · replace h := x_ifF hc h
    refine x_aload_n 35 rfl 0 dX8_shift_34 rfl rfl ?_
    obtain ⟨⟨q1r, q1s⟩, q1h, h⟩ := x_bind h
    try dsimp only at h
    refine z_callV E [] [] dX8_shift_35 K_RX8_187 ⟨Nat.le_of_ble_eq_true rfl, Nat.le_of_ble_eq_true rfl⟩ sh_0 (by decide) rfl (c_RH_takeSettings_0 E  q1h) rfl rfl (Nat.le_of_ble_eq_true rfl) 38 rfl [] rfl ?_
    refine x_aload_n 39 rfl 0 dX8_shift_38 rfl rfl ?_
    refine x_getR E dX8_shift_39 F_RX8_51 sh_0 rf_0_8 42 rfl ?_
    refine x_iload 44 rfl dX8_shift_42 rfl ?_
    obtain ⟨⟨q2r, q2s⟩, q2h, h⟩ := x_bind h
    try dsimp only at h
    refine z_callS E [.int _] [.ref 49] dX8_shift_44 K_RX8_246 ⟨Nat.le_of_ble_eq_true rfl, Nat.le_of_ble_eq_true rfl⟩ (c_RH_outward E _ q2h) rfl rfl (Nat.le_of_ble_eq_true rfl) 47 rfl [.int _, .ref 49] rfl ?_
    refine x_putI E dX8_shift_47 F_RX8_354 sh_49 50 rfl ?_
    refine x_aload_n 51 rfl 0 dX8_shift_50 rfl rfl ?_
    obtain ⟨⟨q4r, q4s⟩, q4h, h⟩ := x_bind h
    try dsimp only at h
    refine z_callV E [] [] dX8_shift_51 K_RX8_276 ⟨Nat.le_of_ble_eq_true rfl, Nat.le_of_ble_eq_true rfl⟩ sh_0 (by decide) rfl (c_RH_sharpAsTried_0 E  q4h) rfl rfl (Nat.le_of_ble_eq_true rfl) 54 rfl [.int _] rfl ?_
    refine x_istore 56 rfl dX8_shift_54 (by decide) [some (.ref 0), some (.int _), some (.int _), some (.int _), some (.int _), some (.int _)] rfl ?_
    refine x_iload 58 rfl dX8_shift_56 rfl ?_
    refine x_iload_n 59 rfl 3 dX8_shift_58 rfl rfl ?_
    refine x_icmp_le 62 rfl 71 dX8_shift_59 (by decide) (fun hc => ?_) (fun hc => ?_)
    · replace h := x_ifT hc h
      refine x_iinc 74 rfl (1) dX8_shift_71 rfl (by decide) (by decide) [some (.ref 0), some (.int _), some (.int _), some (.int _), some (.int _), some (.int _)] rfl ?_
      refine x_goto 27 dX8_shift_74 (by decide) ?_
      cases h
      exact x_wk (x_le_s (x_le_s (x_le_s (x_le_s (x_le_s (x_le_n x_le_0)))))) (hG (_, _, _, _) rfl)
    · replace h := x_ifF hc h
      refine x_iload 64 rfl dX8_shift_62 rfl ?_
      refine x_istore_n 65 rfl 3 dX8_shift_64 rfl (by decide) [some (.ref 0), some (.int _), some (.int _), some (.int _), some (.int _), some (.int _)] rfl ?_
      refine x_iload 67 rfl dX8_shift_65 rfl ?_
      obtain ⟨⟨q7r, q7s⟩, q7h, h⟩ := x_bind h
      try dsimp only at h
      refine z_callS E [.int _] [] dX8_shift_67 K_RX8_246 ⟨Nat.le_of_ble_eq_true rfl, Nat.le_of_ble_eq_true rfl⟩ (c_RH_outward E _ q7h) rfl rfl (Nat.le_of_ble_eq_true rfl) 70 rfl [.int _] rfl ?_
      refine x_istore_n 71 rfl 2 dX8_shift_70 rfl (by decide) [some (.ref 0), some (.int _), some (.int _), some (.int _), some (.int _), some (.int _)] rfl ?_
      refine x_iinc 74 rfl (1) dX8_shift_71 rfl (by decide) (by decide) [some (.ref 0), some (.int _), some (.int _), some (.int _), some (.int _), some (.int _)] rfl ?_
      refine x_goto 27 dX8_shift_74 (by decide) ?_
      cases h
      exact x_wk (x_le_s (x_le_s (x_le_s (x_le_s (x_le_s (x_le_n x_le_0)))))) (hG (_, _, _, _) rfl)
set_option maxHeartbeats 4000000 in
set_option maxRecDepth 100000 in
theorem c_RH_shift_0 {l : Launch} {s0 : State} {a0 : Array Value} {D : va_G} {cA : Nat → ClassId} {sp : Nat → Nat} (E : x_En CL l s0 a0 D cA sp) (v1 : Int32) {σ : xS} {r : Int32 ⊕ Nat} {σ1 : xS} (h : f_RH_shift_0 v1 σ = some (r, σ1)) : oC l s0 D cA sp 7 M_RH_shift [.ref 0, .int v1] σ (x_oi r) σ1 := by
  unfold f_RH_shift_0 at h
  try dsimp only at h
  refine x_enterO [some (.ref 0), some (.int v1), none, none, none, none] rfl (Nat.le_of_ble_eq_true rfl) (by decide +kernel) rfl ?_
  refine x_iload_n 1 rfl 1 dX8_shift_0 rfl rfl ?_
  refine x_if_lt 4 rfl 9 dX8_shift_1 (by decide) (fun hc => ?_) (fun hc => ?_)
  · replace h := x_ifT hc h
    cases h
    exact x_throwNW2 E KU_ (k := 2) KX_RX8_352 rfl dX8_shift_9 dX8_shift_12 dX8_shift_13 dX8_shift_16 dX8_shift_19 (Nat.le_of_ble_eq_true rfl)
  · replace h := x_ifF hc h
    refine x_iload_n 5 rfl 1 dX8_shift_4 rfl rfl ?_
    refine x_iconst 6 rfl (v := 1) dX8_shift_5 (by decide) ?_
    refine x_icmp_le 9 rfl 20 dX8_shift_6 (by decide) (fun hc => ?_) (fun hc => ?_)
    · replace h := x_ifT hc h
      refine x_iconst 21 rfl (v := 0) dX8_shift_20 (by decide) ?_
      refine x_istore_n 22 rfl 2 dX8_shift_21 rfl (by decide) [some (.ref 0), some (.int _), some (.int _), none, none, none] rfl ?_
      refine x_iconst 23 rfl (v := -1) dX8_shift_22 (by decide) ?_
      refine x_istore_n 24 rfl 3 dX8_shift_23 rfl (by decide) [some (.ref 0), some (.int _), some (.int _), some (.int _), none, none] rfl ?_
      refine x_iconst 25 rfl (v := 0) dX8_shift_24 (by decide) ?_
      refine x_istore 27 rfl dX8_shift_25 (by decide) [some (.ref 0), some (.int _), some (.int _), some (.int _), some (.int _), none] rfl ?_
      obtain ⟨b10, b10h, h⟩ := x_bind h
      try dsimp only at h
      refine x_wk (x_le_s (x_le_s (x_le_s (x_le_s (x_le_s (x_le_n x_le_0)))))) (x_loop (fun a o h hK hG => b_RH_shift_0_L27 (r := r) (σ1 := σ1) E _ a o h hK hG) _ _ _ b10h ?_)
      refine x_iload_n 78 rfl 1 dX8_shift_77 rfl rfl ?_
      refine x_if_ne 81 rfl 85 dX8_shift_78 (by decide) (fun hc => ?_) (fun hc => ?_)
      · replace h := x_ifF hc h
        refine x_iload_n 86 rfl 3 dX8_shift_85 rfl rfl ?_
        cases h
        exact x_Oret (x_iret dX8_shift_86 rfl rfl rfl)
      · replace h := x_ifT hc h
        refine x_iload_n 82 rfl 2 dX8_shift_81 rfl rfl ?_
        refine x_goto 86 dX8_shift_82 (by decide) ?_
        cases h
        exact x_Oret (x_iret dX8_shift_86 rfl rfl rfl)
    · replace h := x_ifF hc h
      cases h
      exact x_throwNW2 E KU_ (k := 2) KX_RX8_352 rfl dX8_shift_9 dX8_shift_12 dX8_shift_13 dX8_shift_16 dX8_shift_19 (Nat.le_of_ble_eq_true rfl)
theorem KX_RX8_357 : x_KN2 RX8 130 357 134 (x_Xn 2) "nothing such of THE WORST SLIP" := ⟨by decide +kernel, (List.mem_append_right _ (List.mem_of_getElem? (i := 881) (by decide +kernel))), (List.mem_append_right _ (List.mem_of_getElem? (i := 22) (by decide +kernel))), (List.mem_append_right _ (List.mem_of_getElem? (i := 1177) (by decide +kernel))), (List.mem_of_getElem? (i := 975) (by decide +kernel)), AX_134, AO_130_134⟩
abbrev M_RH_slip : xM := (yX8_slip, cX8_slip, 6, some .int, [])
theorem dX8_slip_0 : decode cX8_slip 0 = .ok (.iload_n 1, 1) := by decide +kernel
theorem dX8_slip_1 : decode cX8_slip 1 = .ok (.ifCond .lt 8, 3) := by decide +kernel
theorem dX8_slip_4 : decode cX8_slip 4 = .ok (.iload_n 1, 1) := by decide +kernel
theorem dX8_slip_5 : decode cX8_slip 5 = .ok (.iconst 1, 1) := by decide +kernel
theorem dX8_slip_6 : decode cX8_slip 6 = .ok (.if_icmp .le 14, 3) := by decide +kernel
theorem dX8_slip_9 : decode cX8_slip 9 = .ok (.new 130, 3) := by decide +kernel
theorem dX8_slip_12 : decode cX8_slip 12 = .ok (.dup, 1) := by decide +kernel
theorem dX8_slip_13 : decode cX8_slip 13 = .ok (.ldc_w 357, 3) := by decide +kernel
theorem dX8_slip_16 : decode cX8_slip 16 = .ok (.invokespecial 134, 3) := by decide +kernel
theorem dX8_slip_19 : decode cX8_slip 19 = .ok (.athrow, 1) := by decide +kernel
theorem dX8_slip_20 : decode cX8_slip 20 = .ok (.iconst 0, 1) := by decide +kernel
theorem dX8_slip_21 : decode cX8_slip 21 = .ok (.istore_n 2, 1) := by decide +kernel
theorem dX8_slip_22 : decode cX8_slip 22 = .ok (.aload_n 0, 1) := by decide +kernel
theorem dX8_slip_23 : decode cX8_slip 23 = .ok (.iconst 0, 1) := by decide +kernel
theorem dX8_slip_24 : decode cX8_slip 24 = .ok (.invokevirtual 298, 3) := by decide +kernel
theorem dX8_slip_27 : decode cX8_slip 27 = .ok (.istore_n 3, 1) := by decide +kernel
theorem dX8_slip_28 : decode cX8_slip 28 = .ok (.iconst 1, 1) := by decide +kernel
theorem dX8_slip_29 : decode cX8_slip 29 = .ok (.istore 4, 2) := by decide +kernel
theorem dX8_slip_31 : decode cX8_slip 31 = .ok (.iload 4, 2) := by decide +kernel
theorem dX8_slip_33 : decode cX8_slip 33 = .ok (.bipush 30, 2) := by decide +kernel
theorem dX8_slip_35 : decode cX8_slip 35 = .ok (.if_icmp .gt 29, 3) := by decide +kernel
theorem dX8_slip_38 : decode cX8_slip 38 = .ok (.aload_n 0, 1) := by decide +kernel
theorem dX8_slip_39 : decode cX8_slip 39 = .ok (.iload 4, 2) := by decide +kernel
theorem dX8_slip_41 : decode cX8_slip 41 = .ok (.invokevirtual 298, 3) := by decide +kernel
theorem dX8_slip_44 : decode cX8_slip 44 = .ok (.istore 5, 2) := by decide +kernel
theorem dX8_slip_46 : decode cX8_slip 46 = .ok (.iload 5, 2) := by decide +kernel
theorem dX8_slip_48 : decode cX8_slip 48 = .ok (.iload_n 3, 1) := by decide +kernel
theorem dX8_slip_49 : decode cX8_slip 49 = .ok (.if_icmp .ge 9, 3) := by decide +kernel
theorem dX8_slip_52 : decode cX8_slip 52 = .ok (.iload 5, 2) := by decide +kernel
theorem dX8_slip_54 : decode cX8_slip 54 = .ok (.istore_n 3, 1) := by decide +kernel
theorem dX8_slip_55 : decode cX8_slip 55 = .ok (.iload 4, 2) := by decide +kernel
theorem dX8_slip_57 : decode cX8_slip 57 = .ok (.istore_n 2, 1) := by decide +kernel
theorem dX8_slip_58 : decode cX8_slip 58 = .ok (.iinc 4 1, 3) := by decide +kernel
theorem dX8_slip_61 : decode cX8_slip 61 = .ok (.goto (-30), 3) := by decide +kernel
theorem dX8_slip_64 : decode cX8_slip 64 = .ok (.iload_n 1, 1) := by decide +kernel
theorem dX8_slip_65 : decode cX8_slip 65 = .ok (.ifCond .ne 7, 3) := by decide +kernel
theorem dX8_slip_68 : decode cX8_slip 68 = .ok (.iload_n 2, 1) := by decide +kernel
theorem dX8_slip_69 : decode cX8_slip 69 = .ok (.goto 4, 3) := by decide +kernel
theorem dX8_slip_72 : decode cX8_slip 72 = .ok (.iload_n 3, 1) := by decide +kernel
theorem dX8_slip_73 : decode cX8_slip 73 = .ok (.ireturn, 1) := by decide +kernel
def f_RH_slip_0_L31 (v1 : Int32) (a : Int32 × Int32 × Int32 × xS) : Option ((Int32 × Int32 × Int32 × xS) ⊕ (Int32 × Int32 × Int32 × xS)) :=
  let v2 := a.1; let v3 := a.2.1; let v4 := a.2.2.1; let σ := a.2.2.2;
  if (30 : Int32) < v4 then
    some (.inl (v2, v3, v4, σ))
  else
    (f_RH_sharpLate_0 v4 σ).bind fun q1 =>
    let w2 := q1.1
    if v3 ≤ w2 then
      let w3 := v4 + (1 : Int32)
      some (.inr (v2, v3, w3, q1.2))
    else
      let w4 := v4 + (1 : Int32)
      some (.inr (v4, w2, w4, q1.2))
def f_RH_slip_0 (v1 : Int32) (σ : xS) : Option ((Int32 ⊕ Nat) × xS) :=
  if v1 < 0 then
    some (.inr 2, σ)
  else
    if v1 ≤ (1 : Int32) then
      (f_RH_sharpLate_0 (0 : Int32) σ).bind fun q5 =>
      let w6 := q5.1
      (x_it (f_RH_slip_0_L31 v1) 10000 ((0 : Int32), w6, (1 : Int32), q5.2)).bind fun b7 =>
      if v1 = 0 then
        some (.inl b7.1, b7.2.2.2)
      else
        some (.inl b7.2.1, b7.2.2.2)
    else
      some (.inr 2, σ)
set_option maxHeartbeats 4000000 in
set_option maxRecDepth 100000 in
theorem b_RH_slip_0_L31 {l : Launch} {s0 : State} {a0 : Array Value} {D : va_G} {cA : Nat → ClassId} {sp : Nat → Nat} (E : x_En CL l s0 a0 D cA sp) (v1 : Int32) {r : Int32 ⊕ Nat} {σ1 : xS} (a : Int32 × Int32 × Int32 × xS) (o : (Int32 × Int32 × Int32 × xS) ⊕ (Int32 × Int32 × Int32 × xS)) (h : f_RH_slip_0_L31 v1 a = some o) (hK : ∀ b, o = .inl b → zW l s0 D cA sp (oQ s0 D cA sp (x_oi r) σ1) (x_rm 8 1 6) M_RH_slip 1 6 64 [none, some (.int v1), some (.int b.1), some (.int b.2.1), none, none] [] b.2.2.2) (hG : ∀ a', o = .inr a' → zW l s0 D cA sp (oQ s0 D cA sp (x_oi r) σ1) (x_rm 8 1 6) M_RH_slip 1 6 31 [some (.ref 0), some (.int v1), some (.int a'.1), some (.int a'.2.1), some (.int a'.2.2.1), none] [] a'.2.2.2) : zW l s0 D cA sp (oQ s0 D cA sp (x_oi r) σ1) (x_rm 8 1 6) M_RH_slip 1 6 31 [some (.ref 0), some (.int v1), some (.int a.1), some (.int a.2.1), some (.int a.2.2.1), none] [] a.2.2.2 := by
  obtain ⟨v2, v3, v4, σ⟩ := a
  unfold f_RH_slip_0_L31 at h
  try dsimp only at h ⊢
  refine x_iload 33 rfl dX8_slip_31 rfl ?_
  refine x_bipush 35 rfl (v := 30) dX8_slip_33 (by decide) ?_
  refine x_icmp_gt 38 rfl 64 dX8_slip_35 (by decide) (fun hc => ?_) (fun hc => ?_)
  · replace h := x_ifT hc h
    cases h
    exact x_wk (x_le_n (x_le_s (x_le_s (x_le_s (x_le_n (x_le_n x_le_0)))))) (hK (_, _, _, _) rfl)
  · replace h := x_ifF hc h
    refine x_aload_n 39 rfl 0 dX8_slip_38 rfl rfl ?_
    refine x_iload 41 rfl dX8_slip_39 rfl ?_
    obtain ⟨⟨q1r, q1s⟩, q1h, h⟩ := x_bind h
    try dsimp only at h
    refine z_callV E [.int _] [] dX8_slip_41 K_RX8_298 ⟨Nat.le_of_ble_eq_true rfl, Nat.le_of_ble_eq_true rfl⟩ sh_0 (by decide) rfl (c_RH_sharpLate_0 E _ q1h) rfl rfl (Nat.le_of_ble_eq_true rfl) 44 rfl [.int _] rfl ?_
    refine x_istore 46 rfl dX8_slip_44 (by decide) [some (.ref 0), some (.int _), some (.int _), some (.int _), some (.int _), some (.int _)] rfl ?_
    refine x_iload 48 rfl dX8_slip_46 rfl ?_
    refine x_iload_n 49 rfl 3 dX8_slip_48 rfl rfl ?_
    refine x_icmp_ge 52 rfl 58 dX8_slip_49 (by decide) (fun hc => ?_) (fun hc => ?_)
    · replace h := x_ifT hc h
      refine x_iinc 61 rfl (1) dX8_slip_58 rfl (by decide) (by decide) [some (.ref 0), some (.int _), some (.int _), some (.int _), some (.int _), some (.int _)] rfl ?_
      refine x_goto 31 dX8_slip_61 (by decide) ?_
      cases h
      exact x_wk (x_le_s (x_le_s (x_le_s (x_le_s (x_le_s (x_le_n x_le_0)))))) (hG (_, _, _, _) rfl)
    · replace h := x_ifF hc h
      refine x_iload 54 rfl dX8_slip_52 rfl ?_
      refine x_istore_n 55 rfl 3 dX8_slip_54 rfl (by decide) [some (.ref 0), some (.int _), some (.int _), some (.int _), some (.int _), some (.int _)] rfl ?_
      refine x_iload 57 rfl dX8_slip_55 rfl ?_
      refine x_istore_n 58 rfl 2 dX8_slip_57 rfl (by decide) [some (.ref 0), some (.int _), some (.int _), some (.int _), some (.int _), some (.int _)] rfl ?_
      refine x_iinc 61 rfl (1) dX8_slip_58 rfl (by decide) (by decide) [some (.ref 0), some (.int _), some (.int _), some (.int _), some (.int _), some (.int _)] rfl ?_
      refine x_goto 31 dX8_slip_61 (by decide) ?_
      cases h
      exact x_wk (x_le_s (x_le_s (x_le_s (x_le_s (x_le_s (x_le_n x_le_0)))))) (hG (_, _, _, _) rfl)
set_option maxHeartbeats 4000000 in
set_option maxRecDepth 100000 in
theorem c_RH_slip_0 {l : Launch} {s0 : State} {a0 : Array Value} {D : va_G} {cA : Nat → ClassId} {sp : Nat → Nat} (E : x_En CL l s0 a0 D cA sp) (v1 : Int32) {σ : xS} {r : Int32 ⊕ Nat} {σ1 : xS} (h : f_RH_slip_0 v1 σ = some (r, σ1)) : oC l s0 D cA sp 8 M_RH_slip [.ref 0, .int v1] σ (x_oi r) σ1 := by
  unfold f_RH_slip_0 at h
  try dsimp only at h
  refine x_enterO [some (.ref 0), some (.int v1), none, none, none, none] rfl (Nat.le_of_ble_eq_true rfl) (by decide +kernel) rfl ?_
  refine x_iload_n 1 rfl 1 dX8_slip_0 rfl rfl ?_
  refine x_if_lt 4 rfl 9 dX8_slip_1 (by decide) (fun hc => ?_) (fun hc => ?_)
  · replace h := x_ifT hc h
    cases h
    exact x_throwNW2 E KU_ (k := 2) KX_RX8_357 rfl dX8_slip_9 dX8_slip_12 dX8_slip_13 dX8_slip_16 dX8_slip_19 (Nat.le_of_ble_eq_true rfl)
  · replace h := x_ifF hc h
    refine x_iload_n 5 rfl 1 dX8_slip_4 rfl rfl ?_
    refine x_iconst 6 rfl (v := 1) dX8_slip_5 (by decide) ?_
    refine x_icmp_le 9 rfl 20 dX8_slip_6 (by decide) (fun hc => ?_) (fun hc => ?_)
    · replace h := x_ifT hc h
      refine x_iconst 21 rfl (v := 0) dX8_slip_20 (by decide) ?_
      refine x_istore_n 22 rfl 2 dX8_slip_21 rfl (by decide) [some (.ref 0), some (.int _), some (.int _), none, none, none] rfl ?_
      refine x_aload_n 23 rfl 0 dX8_slip_22 rfl rfl ?_
      refine x_iconst 24 rfl (v := 0) dX8_slip_23 (by decide) ?_
      obtain ⟨⟨q5r, q5s⟩, q5h, h⟩ := x_bind h
      try dsimp only at h
      refine z_callV E [.int _] [] dX8_slip_24 K_RX8_298 ⟨Nat.le_of_ble_eq_true rfl, Nat.le_of_ble_eq_true rfl⟩ sh_0 (by decide) rfl (c_RH_sharpLate_0 E _ q5h) rfl rfl (Nat.le_of_ble_eq_true rfl) 27 rfl [.int _] rfl ?_
      refine x_istore_n 28 rfl 3 dX8_slip_27 rfl (by decide) [some (.ref 0), some (.int _), some (.int _), some (.int _), none, none] rfl ?_
      refine x_iconst 29 rfl (v := 1) dX8_slip_28 (by decide) ?_
      refine x_istore 31 rfl dX8_slip_29 (by decide) [some (.ref 0), some (.int _), some (.int _), some (.int _), some (.int _), none] rfl ?_
      obtain ⟨b7, b7h, h⟩ := x_bind h
      try dsimp only at h
      refine x_wk (x_le_s (x_le_s (x_le_s (x_le_s (x_le_s (x_le_n x_le_0)))))) (x_loop (fun a o h hK hG => b_RH_slip_0_L31 (r := r) (σ1 := σ1) E _ a o h hK hG) _ _ _ b7h ?_)
      refine x_iload_n 65 rfl 1 dX8_slip_64 rfl rfl ?_
      refine x_if_ne 68 rfl 72 dX8_slip_65 (by decide) (fun hc => ?_) (fun hc => ?_)
      · replace h := x_ifF hc h
        refine x_iload_n 73 rfl 3 dX8_slip_72 rfl rfl ?_
        cases h
        exact x_Oret (x_iret dX8_slip_73 rfl rfl rfl)
      · replace h := x_ifT hc h
        refine x_iload_n 69 rfl 2 dX8_slip_68 rfl rfl ?_
        refine x_goto 73 dX8_slip_69 (by decide) ?_
        cases h
        exact x_Oret (x_iret dX8_slip_73 rfl rfl rfl)
    · replace h := x_ifF hc h
      cases h
      exact x_throwNW2 E KU_ (k := 2) KX_RX8_357 rfl dX8_slip_9 dX8_slip_12 dX8_slip_13 dX8_slip_16 dX8_slip_19 (Nat.le_of_ble_eq_true rfl)
theorem KX_RX8_359 : x_KN2 RX8 130 359 134 (x_Xn 2) "nothing such of LAGS" := ⟨by decide +kernel, (List.mem_append_right _ (List.mem_of_getElem? (i := 881) (by decide +kernel))), (List.mem_append_right _ (List.mem_of_getElem? (i := 22) (by decide +kernel))), (List.mem_append_right _ (List.mem_of_getElem? (i := 1185) (by decide +kernel))), (List.mem_of_getElem? (i := 1009) (by decide +kernel)), AX_134, AO_130_134⟩
abbrev M_RH_lags : xM := (yX8_lags, cX8_lags, 4, some .int, [])
theorem dX8_lags_0 : decode cX8_lags 0 = .ok (.iload_n 1, 1) := by decide +kernel
theorem dX8_lags_1 : decode cX8_lags 1 = .ok (.ifCond .lt 8, 3) := by decide +kernel
theorem dX8_lags_4 : decode cX8_lags 4 = .ok (.iload_n 1, 1) := by decide +kernel
theorem dX8_lags_5 : decode cX8_lags 5 = .ok (.iconst 1, 1) := by decide +kernel
theorem dX8_lags_6 : decode cX8_lags 6 = .ok (.if_icmp .le 14, 3) := by decide +kernel
theorem dX8_lags_9 : decode cX8_lags 9 = .ok (.new 130, 3) := by decide +kernel
theorem dX8_lags_12 : decode cX8_lags 12 = .ok (.dup, 1) := by decide +kernel
theorem dX8_lags_13 : decode cX8_lags 13 = .ok (.ldc_w 359, 3) := by decide +kernel
theorem dX8_lags_16 : decode cX8_lags 16 = .ok (.invokespecial 134, 3) := by decide +kernel
theorem dX8_lags_19 : decode cX8_lags 19 = .ok (.athrow, 1) := by decide +kernel
theorem dX8_lags_20 : decode cX8_lags 20 = .ok (.iconst (-1), 1) := by decide +kernel
theorem dX8_lags_21 : decode cX8_lags 21 = .ok (.istore_n 2, 1) := by decide +kernel
theorem dX8_lags_22 : decode cX8_lags 22 = .ok (.iconst 0, 1) := by decide +kernel
theorem dX8_lags_23 : decode cX8_lags 23 = .ok (.istore_n 3, 1) := by decide +kernel
theorem dX8_lags_24 : decode cX8_lags 24 = .ok (.iload_n 3, 1) := by decide +kernel
theorem dX8_lags_25 : decode cX8_lags 25 = .ok (.bipush 24, 2) := by decide +kernel
theorem dX8_lags_27 : decode cX8_lags 27 = .ok (.if_icmp .gt 60, 3) := by decide +kernel
theorem dX8_lags_30 : decode cX8_lags 30 = .ok (.aload_n 0, 1) := by decide +kernel
theorem dX8_lags_31 : decode cX8_lags 31 = .ok (.invokevirtual 187, 3) := by decide +kernel
theorem dX8_lags_34 : decode cX8_lags 34 = .ok (.aload_n 0, 1) := by decide +kernel
theorem dX8_lags_35 : decode cX8_lags 35 = .ok (.getfield 51, 3) := by decide +kernel
theorem dX8_lags_38 : decode cX8_lags 38 = .ok (.getfield 196, 3) := by decide +kernel
theorem dX8_lags_41 : decode cX8_lags 41 = .ok (.iconst 1, 1) := by decide +kernel
theorem dX8_lags_42 : decode cX8_lags 42 = .ok (.iload_n 3, 1) := by decide +kernel
theorem dX8_lags_43 : decode cX8_lags 43 = .ok (.iastore, 1) := by decide +kernel
theorem dX8_lags_44 : decode cX8_lags 44 = .ok (.aload_n 0, 1) := by decide +kernel
theorem dX8_lags_45 : decode cX8_lags 45 = .ok (.getfield 51, 3) := by decide +kernel
theorem dX8_lags_48 : decode cX8_lags 48 = .ok (.aload_n 0, 1) := by decide +kernel
theorem dX8_lags_49 : decode cX8_lags 49 = .ok (.getfield 27, 3) := by decide +kernel
theorem dX8_lags_52 : decode cX8_lags 52 = .ok (.invokevirtual 190, 3) := by decide +kernel
theorem dX8_lags_55 : decode cX8_lags 55 = .ok (.aload_n 0, 1) := by decide +kernel
theorem dX8_lags_56 : decode cX8_lags 56 = .ok (.getfield 37, 3) := by decide +kernel
theorem dX8_lags_59 : decode cX8_lags 59 = .ok (.aload_n 0, 1) := by decide +kernel
theorem dX8_lags_60 : decode cX8_lags 60 = .ok (.getfield 51, 3) := by decide +kernel
theorem dX8_lags_63 : decode cX8_lags 63 = .ok (.invokevirtual 319, 3) := by decide +kernel
theorem dX8_lags_66 : decode cX8_lags 66 = .ok (.ifCond .eq 15, 3) := by decide +kernel
theorem dX8_lags_69 : decode cX8_lags 69 = .ok (.iload_n 2, 1) := by decide +kernel
theorem dX8_lags_70 : decode cX8_lags 70 = .ok (.iconst (-1), 1) := by decide +kernel
theorem dX8_lags_71 : decode cX8_lags 71 = .ok (.if_icmp .eq 8, 3) := by decide +kernel
theorem dX8_lags_74 : decode cX8_lags 74 = .ok (.iload_n 1, 1) := by decide +kernel
theorem dX8_lags_75 : decode cX8_lags 75 = .ok (.iconst 1, 1) := by decide +kernel
theorem dX8_lags_76 : decode cX8_lags 76 = .ok (.if_icmp .ne 5, 3) := by decide +kernel
theorem dX8_lags_79 : decode cX8_lags 79 = .ok (.iload_n 3, 1) := by decide +kernel
theorem dX8_lags_80 : decode cX8_lags 80 = .ok (.istore_n 2, 1) := by decide +kernel
theorem dX8_lags_81 : decode cX8_lags 81 = .ok (.iinc 3 1, 3) := by decide +kernel
theorem dX8_lags_84 : decode cX8_lags 84 = .ok (.goto (-60), 3) := by decide +kernel
theorem dX8_lags_87 : decode cX8_lags 87 = .ok (.iload_n 2, 1) := by decide +kernel
theorem dX8_lags_88 : decode cX8_lags 88 = .ok (.ireturn, 1) := by decide +kernel
def f_RH_lags_0_L24 (v1 : Int32) (a : Int32 × Int32 × xS) : Option ((Int32 × Int32 × xS) ⊕ (Int32 × Int32 × xS)) :=
  let v2 := a.1; let v3 := a.2.1; let σ := a.2.2;
  if (24 : Int32) < v3 then
    some (.inl (v2, v3, σ))
  else
    (f_RH_takeSettings_0  σ).bind fun q1 =>
    let σ2 := x_pI q1.2 50 1 v3
    (f_Tr_walk_49_7  σ2).bind fun q3 =>
    (f_Se_isFilmOf_35_49  q3.2).bind fun q4 =>
    if q4.1 = 0 then
      let w5 := v3 + (1 : Int32)
      some (.inr (v2, w5, q4.2))
    else
      if v2 = (-1 : Int32) then
        let w6 := v3 + (1 : Int32)
        some (.inr (v3, w6, q4.2))
      else
        if v1 = (1 : Int32) then
          let w8 := v3 + (1 : Int32)
          some (.inr (v3, w8, q4.2))
        else
          let w7 := v3 + (1 : Int32)
          some (.inr (v2, w7, q4.2))
def f_RH_lags_0 (v1 : Int32) (σ : xS) : Option ((Int32 ⊕ Nat) × xS) :=
  if v1 < 0 then
    some (.inr 2, σ)
  else
    if v1 ≤ (1 : Int32) then
      (x_it (f_RH_lags_0_L24 v1) 10000 ((-1 : Int32), (0 : Int32), σ)).bind fun b9 =>
      some (.inl b9.1, b9.2.2)
    else
      some (.inr 2, σ)
set_option maxHeartbeats 4000000 in
set_option maxRecDepth 100000 in
theorem b_RH_lags_0_L24 {l : Launch} {s0 : State} {a0 : Array Value} {D : va_G} {cA : Nat → ClassId} {sp : Nat → Nat} (E : x_En CL l s0 a0 D cA sp) (v1 : Int32) {r : Int32 ⊕ Nat} {σ1 : xS} (a : Int32 × Int32 × xS) (o : (Int32 × Int32 × xS) ⊕ (Int32 × Int32 × xS)) (h : f_RH_lags_0_L24 v1 a = some o) (hK : ∀ b, o = .inl b → zW l s0 D cA sp (oQ s0 D cA sp (x_oi r) σ1) (x_rm 6 1 6) M_RH_lags 1 6 87 [none, none, some (.int b.1), none] [] b.2.2) (hG : ∀ a', o = .inr a' → zW l s0 D cA sp (oQ s0 D cA sp (x_oi r) σ1) (x_rm 6 1 6) M_RH_lags 1 6 24 [some (.ref 0), some (.int v1), some (.int a'.1), some (.int a'.2.1)] [] a'.2.2) : zW l s0 D cA sp (oQ s0 D cA sp (x_oi r) σ1) (x_rm 6 1 6) M_RH_lags 1 6 24 [some (.ref 0), some (.int v1), some (.int a.1), some (.int a.2.1)] [] a.2.2 := by
  obtain ⟨v2, v3, σ⟩ := a
  unfold f_RH_lags_0_L24 at h
  try dsimp only at h ⊢
  refine x_iload_n 25 rfl 3 dX8_lags_24 rfl rfl ?_
  refine x_bipush 27 rfl (v := 24) dX8_lags_25 (by decide) ?_
  refine x_icmp_gt 30 rfl 87 dX8_lags_27 (by decide) (fun hc => ?_) (fun hc => ?_)
  · replace h := x_ifT hc h
    cases h
    exact x_wk (x_le_n (x_le_n (x_le_s (x_le_n x_le_0)))) (hK (_, _, _) rfl)
  · replace h := x_ifF hc h
    refine x_aload_n 31 rfl 0 dX8_lags_30 rfl rfl ?_
    obtain ⟨⟨q1r, q1s⟩, q1h, h⟩ := x_bind h
    try dsimp only at h
    refine z_callV E [] [] dX8_lags_31 K_RX8_187 ⟨Nat.le_of_ble_eq_true rfl, Nat.le_of_ble_eq_true rfl⟩ sh_0 (by decide) rfl (c_RH_takeSettings_0 E  q1h) rfl rfl (Nat.le_of_ble_eq_true rfl) 34 rfl [] rfl ?_
    refine x_aload_n 35 rfl 0 dX8_lags_34 rfl rfl ?_
    refine x_getR E dX8_lags_35 F_RX8_51 sh_0 rf_0_8 38 rfl ?_
    refine x_getR E dX8_lags_38 F_RX8_196 sh_49 rf_49_0 41 rfl ?_
    refine x_iconst 42 rfl (v := 1) dX8_lags_41 (by decide) ?_
    refine x_iload_n 43 rfl 3 dX8_lags_42 rfl rfl ?_
    refine x_iast E dX8_lags_43 sh_50 1 (by decide) (by decide) 44 rfl ?_
    refine x_aload_n 45 rfl 0 dX8_lags_44 rfl rfl ?_
    refine x_getR E dX8_lags_45 F_RX8_51 sh_0 rf_0_8 48 rfl ?_
    refine x_aload_n 49 rfl 0 dX8_lags_48 rfl rfl ?_
    refine x_getR E dX8_lags_49 F_RX8_27 sh_0 rf_0_3 52 rfl ?_
    obtain ⟨⟨q3r, q3s⟩, q3h, h⟩ := x_bind h
    try dsimp only at h
    refine z_callV E [.ref 7] [] dX8_lags_52 K_RX8_190 ⟨Nat.le_of_ble_eq_true rfl, Nat.le_of_ble_eq_true rfl⟩ sh_49 (by decide) rfl (c_Tr_walk_49_7 E  q3h) rfl rfl (Nat.le_of_ble_eq_true rfl) 55 rfl [] rfl ?_
    refine x_aload_n 56 rfl 0 dX8_lags_55 rfl rfl ?_
    refine x_getR E dX8_lags_56 F_RX8_37 sh_0 rf_0_5 59 rfl ?_
    refine x_aload_n 60 rfl 0 dX8_lags_59 rfl rfl ?_
    refine x_getR E dX8_lags_60 F_RX8_51 sh_0 rf_0_8 63 rfl ?_
    obtain ⟨⟨q4r, q4s⟩, q4h, h⟩ := x_bind h
    try dsimp only at h
    refine z_callV E [.ref 49] [] dX8_lags_63 K_RX8_319 ⟨Nat.le_of_ble_eq_true rfl, Nat.le_of_ble_eq_true rfl⟩ sh_35 (by decide) rfl (c_Se_isFilmOf_35_49 E  q4h) rfl rfl (Nat.le_of_ble_eq_true rfl) 66 rfl [.int _] rfl ?_
    refine x_if_eq 69 rfl 81 dX8_lags_66 (by decide) (fun hc => ?_) (fun hc => ?_)
    · replace h := x_ifT hc h
      refine x_iinc 84 rfl (1) dX8_lags_81 rfl (by decide) (by decide) [some (.ref 0), some (.int _), some (.int _), some (.int _)] rfl ?_
      refine x_goto 24 dX8_lags_84 (by decide) ?_
      cases h
      exact x_wk (x_le_s (x_le_s (x_le_s (x_le_s x_le_0)))) (hG (_, _, _) rfl)
    · replace h := x_ifF hc h
      refine x_iload_n 70 rfl 2 dX8_lags_69 rfl rfl ?_
      refine x_iconst 71 rfl (v := -1) dX8_lags_70 (by decide) ?_
      refine x_icmp_eq 74 rfl 79 dX8_lags_71 (by decide) (fun hc => ?_) (fun hc => ?_)
      · replace h := x_ifT hc h
        refine x_iload_n 80 rfl 3 dX8_lags_79 rfl rfl ?_
        refine x_istore_n 81 rfl 2 dX8_lags_80 rfl (by decide) [some (.ref 0), some (.int _), some (.int _), some (.int _)] rfl ?_
        refine x_iinc 84 rfl (1) dX8_lags_81 rfl (by decide) (by decide) [some (.ref 0), some (.int _), some (.int _), some (.int _)] rfl ?_
        refine x_goto 24 dX8_lags_84 (by decide) ?_
        cases h
        exact x_wk (x_le_s (x_le_s (x_le_s (x_le_s x_le_0)))) (hG (_, _, _) rfl)
      · replace h := x_ifF hc h
        refine x_iload_n 75 rfl 1 dX8_lags_74 rfl rfl ?_
        refine x_iconst 76 rfl (v := 1) dX8_lags_75 (by decide) ?_
        refine x_icmp_ne 79 rfl 81 dX8_lags_76 (by decide) (fun hc => ?_) (fun hc => ?_)
        · replace h := x_ifF hc h
          refine x_iinc 84 rfl (1) dX8_lags_81 rfl (by decide) (by decide) [some (.ref 0), some (.int _), some (.int _), some (.int _)] rfl ?_
          refine x_goto 24 dX8_lags_84 (by decide) ?_
          cases h
          exact x_wk (x_le_s (x_le_s (x_le_s (x_le_s x_le_0)))) (hG (_, _, _) rfl)
        · replace h := x_ifT hc h
          refine x_iload_n 80 rfl 3 dX8_lags_79 rfl rfl ?_
          refine x_istore_n 81 rfl 2 dX8_lags_80 rfl (by decide) [some (.ref 0), some (.int _), some (.int _), some (.int _)] rfl ?_
          refine x_iinc 84 rfl (1) dX8_lags_81 rfl (by decide) (by decide) [some (.ref 0), some (.int _), some (.int _), some (.int _)] rfl ?_
          refine x_goto 24 dX8_lags_84 (by decide) ?_
          cases h
          exact x_wk (x_le_s (x_le_s (x_le_s (x_le_s x_le_0)))) (hG (_, _, _) rfl)
set_option maxHeartbeats 4000000 in
set_option maxRecDepth 100000 in
theorem c_RH_lags_0 {l : Launch} {s0 : State} {a0 : Array Value} {D : va_G} {cA : Nat → ClassId} {sp : Nat → Nat} (E : x_En CL l s0 a0 D cA sp) (v1 : Int32) {σ : xS} {r : Int32 ⊕ Nat} {σ1 : xS} (h : f_RH_lags_0 v1 σ = some (r, σ1)) : oC l s0 D cA sp 6 M_RH_lags [.ref 0, .int v1] σ (x_oi r) σ1 := by
  unfold f_RH_lags_0 at h
  try dsimp only at h
  refine x_enterO [some (.ref 0), some (.int v1), none, none] rfl (Nat.le_of_ble_eq_true rfl) (by decide +kernel) rfl ?_
  refine x_iload_n 1 rfl 1 dX8_lags_0 rfl rfl ?_
  refine x_if_lt 4 rfl 9 dX8_lags_1 (by decide) (fun hc => ?_) (fun hc => ?_)
  · replace h := x_ifT hc h
    cases h
    exact x_throwNW2 E KU_ (k := 2) KX_RX8_359 rfl dX8_lags_9 dX8_lags_12 dX8_lags_13 dX8_lags_16 dX8_lags_19 (Nat.le_of_ble_eq_true rfl)
  · replace h := x_ifF hc h
    refine x_iload_n 5 rfl 1 dX8_lags_4 rfl rfl ?_
    refine x_iconst 6 rfl (v := 1) dX8_lags_5 (by decide) ?_
    refine x_icmp_le 9 rfl 20 dX8_lags_6 (by decide) (fun hc => ?_) (fun hc => ?_)
    · replace h := x_ifT hc h
      refine x_iconst 21 rfl (v := -1) dX8_lags_20 (by decide) ?_
      refine x_istore_n 22 rfl 2 dX8_lags_21 rfl (by decide) [some (.ref 0), some (.int _), some (.int _), none] rfl ?_
      refine x_iconst 23 rfl (v := 0) dX8_lags_22 (by decide) ?_
      refine x_istore_n 24 rfl 3 dX8_lags_23 rfl (by decide) [some (.ref 0), some (.int _), some (.int _), some (.int _)] rfl ?_
      obtain ⟨b9, b9h, h⟩ := x_bind h
      try dsimp only at h
      refine x_wk (x_le_s (x_le_s (x_le_s (x_le_s x_le_0)))) (x_loop (fun a o h hK hG => b_RH_lags_0_L24 (r := r) (σ1 := σ1) E _ a o h hK hG) _ _ _ b9h ?_)
      refine x_iload_n 88 rfl 2 dX8_lags_87 rfl rfl ?_
      cases h
      exact x_Oret (x_iret dX8_lags_88 rfl rfl rfl)
    · replace h := x_ifF hc h
      cases h
      exact x_throwNW2 E KU_ (k := 2) KX_RX8_359 rfl dX8_lags_9 dX8_lags_12 dX8_lags_13 dX8_lags_16 dX8_lags_19 (Nat.le_of_ble_eq_true rfl)
theorem KX_RX8_361 : x_KN2 RX8 130 361 134 (x_Xn 2) "nothing such of DEPTH" := ⟨by decide +kernel, (List.mem_append_right _ (List.mem_of_getElem? (i := 881) (by decide +kernel))), (List.mem_append_right _ (List.mem_of_getElem? (i := 22) (by decide +kernel))), (List.mem_append_right _ (List.mem_of_getElem? (i := 1193) (by decide +kernel))), (List.mem_of_getElem? (i := 1033) (by decide +kernel)), AX_134, AO_130_134⟩
theorem KX_RX8_363 : x_KX RX8 85 363 89 (x_Xn 1) "the ring can't be there" := ⟨by decide +kernel, (List.mem_append_right _ (List.mem_of_getElem? (i := 544) (by decide +kernel))), (List.mem_append_right _ (List.mem_of_getElem? (i := 13) (by decide +kernel))), (List.mem_append_right _ (List.mem_of_getElem? (i := 1194) (by decide +kernel))), (List.mem_of_getElem? (i := 1058) (by decide +kernel)), AX_89, AO_85_89⟩
abbrev M_RH_depth : xM := (yX8_depth, cX8_depth, 6, some .int, [])
theorem dX8_depth_0 : decode cX8_depth 0 = .ok (.iload_n 2, 1) := by decide +kernel
theorem dX8_depth_1 : decode cX8_depth 1 = .ok (.ifCond .lt 8, 3) := by decide +kernel
theorem dX8_depth_4 : decode cX8_depth 4 = .ok (.iload_n 2, 1) := by decide +kernel
theorem dX8_depth_5 : decode cX8_depth 5 = .ok (.iconst 1, 1) := by decide +kernel
theorem dX8_depth_6 : decode cX8_depth 6 = .ok (.if_icmp .le 14, 3) := by decide +kernel
theorem dX8_depth_9 : decode cX8_depth 9 = .ok (.new 130, 3) := by decide +kernel
theorem dX8_depth_12 : decode cX8_depth 12 = .ok (.dup, 1) := by decide +kernel
theorem dX8_depth_13 : decode cX8_depth 13 = .ok (.ldc_w 361, 3) := by decide +kernel
theorem dX8_depth_16 : decode cX8_depth 16 = .ok (.invokespecial 134, 3) := by decide +kernel
theorem dX8_depth_19 : decode cX8_depth 19 = .ok (.athrow, 1) := by decide +kernel
theorem dX8_depth_20 : decode cX8_depth 20 = .ok (.iload_n 1, 1) := by decide +kernel
theorem dX8_depth_21 : decode cX8_depth 21 = .ok (.ifCond .lt 10, 3) := by decide +kernel
theorem dX8_depth_24 : decode cX8_depth 24 = .ok (.iload_n 1, 1) := by decide +kernel
theorem dX8_depth_25 : decode cX8_depth 25 = .ok (.sipush 999, 3) := by decide +kernel
theorem dX8_depth_28 : decode cX8_depth 28 = .ok (.if_icmp .le 14, 3) := by decide +kernel
theorem dX8_depth_31 : decode cX8_depth 31 = .ok (.new 85, 3) := by decide +kernel
theorem dX8_depth_34 : decode cX8_depth 34 = .ok (.dup, 1) := by decide +kernel
theorem dX8_depth_35 : decode cX8_depth 35 = .ok (.ldc_w 363, 3) := by decide +kernel
theorem dX8_depth_38 : decode cX8_depth 38 = .ok (.invokespecial 89, 3) := by decide +kernel
theorem dX8_depth_41 : decode cX8_depth 41 = .ok (.athrow, 1) := by decide +kernel
theorem dX8_depth_42 : decode cX8_depth 42 = .ok (.iconst (-1), 1) := by decide +kernel
theorem dX8_depth_43 : decode cX8_depth 43 = .ok (.istore_n 3, 1) := by decide +kernel
theorem dX8_depth_44 : decode cX8_depth 44 = .ok (.bipush 12, 2) := by decide +kernel
theorem dX8_depth_46 : decode cX8_depth 46 = .ok (.istore 4, 2) := by decide +kernel
theorem dX8_depth_48 : decode cX8_depth 48 = .ok (.iload 4, 2) := by decide +kernel
theorem dX8_depth_50 : decode cX8_depth 50 = .ok (.sipush 480, 3) := by decide +kernel
theorem dX8_depth_53 : decode cX8_depth 53 = .ok (.if_icmp .gt 60, 3) := by decide +kernel
theorem dX8_depth_56 : decode cX8_depth 56 = .ok (.aload_n 0, 1) := by decide +kernel
theorem dX8_depth_57 : decode cX8_depth 57 = .ok (.getfield 27, 3) := by decide +kernel
theorem dX8_depth_60 : decode cX8_depth 60 = .ok (.iload 4, 2) := by decide +kernel
theorem dX8_depth_62 : decode cX8_depth 62 = .ok (.invokevirtual 159, 3) := by decide +kernel
theorem dX8_depth_65 : decode cX8_depth 65 = .ok (.iload_n 1, 1) := by decide +kernel
theorem dX8_depth_66 : decode cX8_depth 66 = .ok (.isub, 1) := by decide +kernel
theorem dX8_depth_67 : decode cX8_depth 67 = .ok (.invokestatic 256, 3) := by decide +kernel
theorem dX8_depth_70 : decode cX8_depth 70 = .ok (.aload_n 0, 1) := by decide +kernel
theorem dX8_depth_71 : decode cX8_depth 71 = .ok (.getfield 37, 3) := by decide +kernel
theorem dX8_depth_74 : decode cX8_depth 74 = .ok (.getfield 118, 3) := by decide +kernel
theorem dX8_depth_77 : decode cX8_depth 77 = .ok (.iconst 0, 1) := by decide +kernel
theorem dX8_depth_78 : decode cX8_depth 78 = .ok (.iaload, 1) := by decide +kernel
theorem dX8_depth_79 : decode cX8_depth 79 = .ok (.if_icmp .gt 7, 3) := by decide +kernel
theorem dX8_depth_82 : decode cX8_depth 82 = .ok (.iconst 1, 1) := by decide +kernel
theorem dX8_depth_83 : decode cX8_depth 83 = .ok (.goto 4, 3) := by decide +kernel
theorem dX8_depth_86 : decode cX8_depth 86 = .ok (.iconst 0, 1) := by decide +kernel
theorem dX8_depth_87 : decode cX8_depth 87 = .ok (.istore 5, 2) := by decide +kernel
theorem dX8_depth_89 : decode cX8_depth 89 = .ok (.iload 5, 2) := by decide +kernel
theorem dX8_depth_91 : decode cX8_depth 91 = .ok (.ifCond .eq 16, 3) := by decide +kernel
theorem dX8_depth_94 : decode cX8_depth 94 = .ok (.iload_n 3, 1) := by decide +kernel
theorem dX8_depth_95 : decode cX8_depth 95 = .ok (.iconst (-1), 1) := by decide +kernel
theorem dX8_depth_96 : decode cX8_depth 96 = .ok (.if_icmp .eq 8, 3) := by decide +kernel
theorem dX8_depth_99 : decode cX8_depth 99 = .ok (.iload_n 2, 1) := by decide +kernel
theorem dX8_depth_100 : decode cX8_depth 100 = .ok (.iconst 1, 1) := by decide +kernel
theorem dX8_depth_101 : decode cX8_depth 101 = .ok (.if_icmp .ne 6, 3) := by decide +kernel
theorem dX8_depth_104 : decode cX8_depth 104 = .ok (.iload 4, 2) := by decide +kernel
theorem dX8_depth_106 : decode cX8_depth 106 = .ok (.istore_n 3, 1) := by decide +kernel
theorem dX8_depth_107 : decode cX8_depth 107 = .ok (.iinc 4 1, 3) := by decide +kernel
theorem dX8_depth_110 : decode cX8_depth 110 = .ok (.goto (-62), 3) := by decide +kernel
theorem dX8_depth_113 : decode cX8_depth 113 = .ok (.iload_n 3, 1) := by decide +kernel
theorem dX8_depth_114 : decode cX8_depth 114 = .ok (.ireturn, 1) := by decide +kernel
def f_RH_depth_0_J87 (v1 : Int32) (v2 : Int32) (v3 : Int32) (v4 : Int32) (y0 : Int32) (σ : xS) : Option ((Int32 × Int32 × xS) ⊕ (Int32 × Int32 × xS)) :=
  if y0 = 0 then
    let w1 := v4 + (1 : Int32)
    some (.inr (v3, w1, σ))
  else
    if v3 = (-1 : Int32) then
      let w2 := v4 + (1 : Int32)
      some (.inr (v4, w2, σ))
    else
      if v2 = (1 : Int32) then
        let w4 := v4 + (1 : Int32)
        some (.inr (v4, w4, σ))
      else
        let w3 := v4 + (1 : Int32)
        some (.inr (v3, w3, σ))
def f_RH_depth_0_L48 (v1 : Int32) (v2 : Int32) (a : Int32 × Int32 × xS) : Option ((Int32 × Int32 × xS) ⊕ (Int32 × Int32 × xS)) :=
  let v3 := a.1; let v4 := a.2.1; let σ := a.2.2;
  if (480 : Int32) < v4 then
    some (.inl (v3, v4, σ))
  else
    (f_Sc_turnOf_7 v4 σ).bind fun q5 =>
    if q5.2.1 36 0 < (if 0 ≤ (q5.1 - v1) then (q5.1 - v1) else 0 - (q5.1 - v1)) then
      f_RH_depth_0_J87 v1 v2 v3 v4 (0 : Int32) q5.2
    else
      f_RH_depth_0_J87 v1 v2 v3 v4 (1 : Int32) q5.2
def f_RH_depth_0 (v1 : Int32) (v2 : Int32) (σ : xS) : Option ((Int32 ⊕ Nat) × xS) :=
  if v2 < 0 then
    some (.inr 2, σ)
  else
    if v2 ≤ (1 : Int32) then
      if v1 < 0 then
        some (.inr 1, σ)
      else
        if v1 ≤ (999 : Int32) then
          (x_it (f_RH_depth_0_L48 v1 v2) 10000 ((-1 : Int32), (12 : Int32), σ)).bind fun b6 =>
          some (.inl b6.1, b6.2.2)
        else
          some (.inr 1, σ)
    else
      some (.inr 2, σ)
set_option maxHeartbeats 4000000 in
set_option maxRecDepth 100000 in
theorem j_RH_depth_0_J87 {l : Launch} {s0 : State} {a0 : Array Value} {D : va_G} {cA : Nat → ClassId} {sp : Nat → Nat} (E : x_En CL l s0 a0 D cA sp) (v1 : Int32) (v2 : Int32) (v3 : Int32) (v4 : Int32) (y0 : Int32)  (σ : xS) {r : Int32 ⊕ Nat} {σ1 : xS} (o : (Int32 × Int32 × xS) ⊕ (Int32 × Int32 × xS)) (h : f_RH_depth_0_J87 v1 v2 v3 v4 y0 σ = some o) (hK : ∀ b, o = .inl b → zW l s0 D cA sp (oQ s0 D cA sp (x_oi r) σ1) (x_rm 1 1 6) M_RH_depth 1 6 113 [none, none, none, some (.int b.1), none, none] [] b.2.2) (hG : ∀ a', o = .inr a' → zW l s0 D cA sp (oQ s0 D cA sp (x_oi r) σ1) (x_rm 1 1 6) M_RH_depth 1 6 48 [some (.ref 0), some (.int v1), some (.int v2), some (.int a'.1), some (.int a'.2.1), none] [] a'.2.2) : zW l s0 D cA sp (oQ s0 D cA sp (x_oi r) σ1) (x_rm 1 1 6) M_RH_depth 1 6 87 [some (.ref 0), some (.int v1), some (.int v2), some (.int v3), some (.int v4), none] [.int y0] σ := by
  unfold f_RH_depth_0_J87 at h
  try dsimp only at h
  refine x_istore 89 rfl dX8_depth_87 (by decide) [some (.ref 0), some (.int _), some (.int _), some (.int _), some (.int _), some (.int _)] rfl ?_
  refine x_iload 91 rfl dX8_depth_89 rfl ?_
  refine x_if_eq 94 rfl 107 dX8_depth_91 (by decide) (fun hc => ?_) (fun hc => ?_)
  · replace h := x_ifT hc h
    refine x_iinc 110 rfl (1) dX8_depth_107 rfl (by decide) (by decide) [some (.ref 0), some (.int _), some (.int _), some (.int _), some (.int _), some (.int _)] rfl ?_
    refine x_goto 48 dX8_depth_110 (by decide) ?_
    cases h
    exact x_wk (x_le_s (x_le_s (x_le_s (x_le_s (x_le_s (x_le_n x_le_0)))))) (hG (_, _, _) rfl)
  · replace h := x_ifF hc h
    refine x_iload_n 95 rfl 3 dX8_depth_94 rfl rfl ?_
    refine x_iconst 96 rfl (v := -1) dX8_depth_95 (by decide) ?_
    refine x_icmp_eq 99 rfl 104 dX8_depth_96 (by decide) (fun hc => ?_) (fun hc => ?_)
    · replace h := x_ifT hc h
      refine x_iload 106 rfl dX8_depth_104 rfl ?_
      refine x_istore_n 107 rfl 3 dX8_depth_106 rfl (by decide) [some (.ref 0), some (.int _), some (.int _), some (.int _), some (.int _), some (.int _)] rfl ?_
      refine x_iinc 110 rfl (1) dX8_depth_107 rfl (by decide) (by decide) [some (.ref 0), some (.int _), some (.int _), some (.int _), some (.int _), some (.int _)] rfl ?_
      refine x_goto 48 dX8_depth_110 (by decide) ?_
      cases h
      exact x_wk (x_le_s (x_le_s (x_le_s (x_le_s (x_le_s (x_le_n x_le_0)))))) (hG (_, _, _) rfl)
    · replace h := x_ifF hc h
      refine x_iload_n 100 rfl 2 dX8_depth_99 rfl rfl ?_
      refine x_iconst 101 rfl (v := 1) dX8_depth_100 (by decide) ?_
      refine x_icmp_ne 104 rfl 107 dX8_depth_101 (by decide) (fun hc => ?_) (fun hc => ?_)
      · replace h := x_ifF hc h
        refine x_iinc 110 rfl (1) dX8_depth_107 rfl (by decide) (by decide) [some (.ref 0), some (.int _), some (.int _), some (.int _), some (.int _), some (.int _)] rfl ?_
        refine x_goto 48 dX8_depth_110 (by decide) ?_
        cases h
        exact x_wk (x_le_s (x_le_s (x_le_s (x_le_s (x_le_s (x_le_n x_le_0)))))) (hG (_, _, _) rfl)
      · replace h := x_ifT hc h
        refine x_iload 106 rfl dX8_depth_104 rfl ?_
        refine x_istore_n 107 rfl 3 dX8_depth_106 rfl (by decide) [some (.ref 0), some (.int _), some (.int _), some (.int _), some (.int _), some (.int _)] rfl ?_
        refine x_iinc 110 rfl (1) dX8_depth_107 rfl (by decide) (by decide) [some (.ref 0), some (.int _), some (.int _), some (.int _), some (.int _), some (.int _)] rfl ?_
        refine x_goto 48 dX8_depth_110 (by decide) ?_
        cases h
        exact x_wk (x_le_s (x_le_s (x_le_s (x_le_s (x_le_s (x_le_n x_le_0)))))) (hG (_, _, _) rfl)
set_option maxHeartbeats 4000000 in
set_option maxRecDepth 100000 in
theorem b_RH_depth_0_L48 {l : Launch} {s0 : State} {a0 : Array Value} {D : va_G} {cA : Nat → ClassId} {sp : Nat → Nat} (E : x_En CL l s0 a0 D cA sp) (v1 : Int32) (v2 : Int32) {r : Int32 ⊕ Nat} {σ1 : xS} (a : Int32 × Int32 × xS) (o : (Int32 × Int32 × xS) ⊕ (Int32 × Int32 × xS)) (h : f_RH_depth_0_L48 v1 v2 a = some o) (hK : ∀ b, o = .inl b → zW l s0 D cA sp (oQ s0 D cA sp (x_oi r) σ1) (x_rm 1 1 6) M_RH_depth 1 6 113 [none, none, none, some (.int b.1), none, none] [] b.2.2) (hG : ∀ a', o = .inr a' → zW l s0 D cA sp (oQ s0 D cA sp (x_oi r) σ1) (x_rm 1 1 6) M_RH_depth 1 6 48 [some (.ref 0), some (.int v1), some (.int v2), some (.int a'.1), some (.int a'.2.1), none] [] a'.2.2) : zW l s0 D cA sp (oQ s0 D cA sp (x_oi r) σ1) (x_rm 1 1 6) M_RH_depth 1 6 48 [some (.ref 0), some (.int v1), some (.int v2), some (.int a.1), some (.int a.2.1), none] [] a.2.2 := by
  obtain ⟨v3, v4, σ⟩ := a
  unfold f_RH_depth_0_L48 at h
  try dsimp only at h ⊢
  refine x_iload 50 rfl dX8_depth_48 rfl ?_
  refine x_sipush 53 rfl (v := 480) dX8_depth_50 (by decide) ?_
  refine x_icmp_gt 56 rfl 113 dX8_depth_53 (by decide) (fun hc => ?_) (fun hc => ?_)
  · replace h := x_ifT hc h
    cases h
    exact x_wk (x_le_n (x_le_n (x_le_n (x_le_s (x_le_n (x_le_n x_le_0)))))) (hK (_, _, _) rfl)
  · replace h := x_ifF hc h
    refine x_aload_n 57 rfl 0 dX8_depth_56 rfl rfl ?_
    refine x_getR E dX8_depth_57 F_RX8_27 sh_0 rf_0_3 60 rfl ?_
    refine x_iload 62 rfl dX8_depth_60 rfl ?_
    obtain ⟨⟨q5r, q5s⟩, q5h, h⟩ := x_bind h
    try dsimp only at h
    refine z_callV E [.int _] [] dX8_depth_62 K_RX8_159 ⟨Nat.le_of_ble_eq_true rfl, Nat.le_of_ble_eq_true rfl⟩ sh_7 (by decide) rfl (c_Sc_turnOf_7 E _ q5h) rfl rfl (Nat.le_of_ble_eq_true rfl) 65 rfl [.int _] rfl ?_
    refine x_iload_n 66 rfl 1 dX8_depth_65 rfl rfl ?_
    refine x_isub 67 rfl dX8_depth_66 ?_
    refine x_mabs E dX8_depth_67 K_RX8_256 (Nat.le_of_ble_eq_true rfl) (Nat.le_of_ble_eq_true rfl) 70 rfl ?_
    refine x_aload_n 71 rfl 0 dX8_depth_70 rfl rfl ?_
    refine x_getR E dX8_depth_71 F_RX8_37 sh_0 rf_0_5 74 rfl ?_
    refine x_getR E dX8_depth_74 F_RX8_118 sh_35 rf_35_0 77 rfl ?_
    refine x_iconst 78 rfl (v := 0) dX8_depth_77 (by decide) ?_
    refine x_iald E dX8_depth_78 sh_36 0 (by decide) (by decide) 79 rfl ?_
    refine x_icmp_gt 82 rfl 86 dX8_depth_79 (by decide) (fun hc => ?_) (fun hc => ?_)
    · replace h := x_ifT hc h
      refine x_iconst 87 rfl (v := 0) dX8_depth_86 (by decide) ?_
      exact x_wk (x_le_s (x_le_s (x_le_s (x_le_s (x_le_s (x_le_n x_le_0)))))) (j_RH_depth_0_J87 (r := r) (σ1 := σ1) E _ _ _ _ _  _ _ h hK hG)
    · replace h := x_ifF hc h
      refine x_iconst 83 rfl (v := 1) dX8_depth_82 (by decide) ?_
      refine x_goto 87 dX8_depth_83 (by decide) ?_
      exact x_wk (x_le_s (x_le_s (x_le_s (x_le_s (x_le_s (x_le_n x_le_0)))))) (j_RH_depth_0_J87 (r := r) (σ1 := σ1) E _ _ _ _ _  _ _ h hK hG)
set_option maxHeartbeats 4000000 in
set_option maxRecDepth 100000 in
theorem c_RH_depth_0 {l : Launch} {s0 : State} {a0 : Array Value} {D : va_G} {cA : Nat → ClassId} {sp : Nat → Nat} (E : x_En CL l s0 a0 D cA sp) (v1 : Int32) (v2 : Int32) {σ : xS} {r : Int32 ⊕ Nat} {σ1 : xS} (h : f_RH_depth_0 v1 v2 σ = some (r, σ1)) : oC l s0 D cA sp 1 M_RH_depth [.ref 0, .int v1, .int v2] σ (x_oi r) σ1 := by
  unfold f_RH_depth_0 at h
  try dsimp only at h
  refine x_enterO [some (.ref 0), some (.int v1), some (.int v2), none, none, none] rfl (Nat.le_of_ble_eq_true rfl) (by decide +kernel) rfl ?_
  refine x_iload_n 1 rfl 2 dX8_depth_0 rfl rfl ?_
  refine x_if_lt 4 rfl 9 dX8_depth_1 (by decide) (fun hc => ?_) (fun hc => ?_)
  · replace h := x_ifT hc h
    cases h
    exact x_throwNW2 E KU_ (k := 2) KX_RX8_361 rfl dX8_depth_9 dX8_depth_12 dX8_depth_13 dX8_depth_16 dX8_depth_19 (Nat.le_of_ble_eq_true rfl)
  · replace h := x_ifF hc h
    refine x_iload_n 5 rfl 2 dX8_depth_4 rfl rfl ?_
    refine x_iconst 6 rfl (v := 1) dX8_depth_5 (by decide) ?_
    refine x_icmp_le 9 rfl 20 dX8_depth_6 (by decide) (fun hc => ?_) (fun hc => ?_)
    · replace h := x_ifT hc h
      refine x_iload_n 21 rfl 1 dX8_depth_20 rfl rfl ?_
      refine x_if_lt 24 rfl 31 dX8_depth_21 (by decide) (fun hc => ?_) (fun hc => ?_)
      · replace h := x_ifT hc h
        cases h
        exact x_throwW E KU_ (k := 1) KX_RX8_363 rfl dX8_depth_31 dX8_depth_34 dX8_depth_35 dX8_depth_38 dX8_depth_41 (Nat.le_of_ble_eq_true rfl)
      · replace h := x_ifF hc h
        refine x_iload_n 25 rfl 1 dX8_depth_24 rfl rfl ?_
        refine x_sipush 28 rfl (v := 999) dX8_depth_25 (by decide) ?_
        refine x_icmp_le 31 rfl 42 dX8_depth_28 (by decide) (fun hc => ?_) (fun hc => ?_)
        · replace h := x_ifT hc h
          refine x_iconst 43 rfl (v := -1) dX8_depth_42 (by decide) ?_
          refine x_istore_n 44 rfl 3 dX8_depth_43 rfl (by decide) [some (.ref 0), some (.int _), some (.int _), some (.int _), none, none] rfl ?_
          refine x_bipush 46 rfl (v := 12) dX8_depth_44 (by decide) ?_
          refine x_istore 48 rfl dX8_depth_46 (by decide) [some (.ref 0), some (.int _), some (.int _), some (.int _), some (.int _), none] rfl ?_
          obtain ⟨b6, b6h, h⟩ := x_bind h
          try dsimp only at h
          refine x_wk (x_le_s (x_le_s (x_le_s (x_le_s (x_le_s (x_le_n x_le_0)))))) (x_loop (fun a o h hK hG => b_RH_depth_0_L48 (r := r) (σ1 := σ1) E _ _ a o h hK hG) _ _ _ b6h ?_)
          refine x_iload_n 114 rfl 3 dX8_depth_113 rfl rfl ?_
          cases h
          exact x_Oret (x_iret dX8_depth_114 rfl rfl rfl)
        · replace h := x_ifF hc h
          cases h
          exact x_throwW E KU_ (k := 1) KX_RX8_363 rfl dX8_depth_31 dX8_depth_34 dX8_depth_35 dX8_depth_38 dX8_depth_41 (Nat.le_of_ble_eq_true rfl)
    · replace h := x_ifF hc h
      cases h
      exact x_throwNW2 E KU_ (k := 2) KX_RX8_361 rfl dX8_depth_9 dX8_depth_12 dX8_depth_13 dX8_depth_16 dX8_depth_19 (Nat.le_of_ble_eq_true rfl)
abbrev M_RH_shots : xM := (yX8_shots, cX8_shots, 5, some .int, [])
theorem dX8_shots_0 : decode cX8_shots 0 = .ok (.iload_n 1, 1) := by decide +kernel
theorem dX8_shots_1 : decode cX8_shots 1 = .ok (.iconst 1, 1) := by decide +kernel
theorem dX8_shots_2 : decode cX8_shots 2 = .ok (.if_icmp .lt 10, 3) := by decide +kernel
theorem dX8_shots_5 : decode cX8_shots 5 = .ok (.iload_n 1, 1) := by decide +kernel
theorem dX8_shots_6 : decode cX8_shots 6 = .ok (.sipush 601, 3) := by decide +kernel
theorem dX8_shots_9 : decode cX8_shots 9 = .ok (.if_icmp .le 13, 3) := by decide +kernel
theorem dX8_shots_12 : decode cX8_shots 12 = .ok (.new 85, 3) := by decide +kernel
theorem dX8_shots_15 : decode cX8_shots 15 = .ok (.dup, 1) := by decide +kernel
theorem dX8_shots_16 : decode cX8_shots 16 = .ok (.ldc 252, 2) := by decide +kernel
theorem dX8_shots_18 : decode cX8_shots 18 = .ok (.invokespecial 89, 3) := by decide +kernel
theorem dX8_shots_21 : decode cX8_shots 21 = .ok (.athrow, 1) := by decide +kernel
theorem dX8_shots_22 : decode cX8_shots 22 = .ok (.aload_n 0, 1) := by decide +kernel
theorem dX8_shots_23 : decode cX8_shots 23 = .ok (.invokevirtual 164, 3) := by decide +kernel
theorem dX8_shots_26 : decode cX8_shots 26 = .ok (.iconst 0, 1) := by decide +kernel
theorem dX8_shots_27 : decode cX8_shots 27 = .ok (.istore_n 2, 1) := by decide +kernel
theorem dX8_shots_28 : decode cX8_shots 28 = .ok (.iconst 0, 1) := by decide +kernel
theorem dX8_shots_29 : decode cX8_shots 29 = .ok (.istore_n 3, 1) := by decide +kernel
theorem dX8_shots_30 : decode cX8_shots 30 = .ok (.iconst 0, 1) := by decide +kernel
theorem dX8_shots_31 : decode cX8_shots 31 = .ok (.istore 4, 2) := by decide +kernel
theorem dX8_shots_33 : decode cX8_shots 33 = .ok (.iload 4, 2) := by decide +kernel
theorem dX8_shots_35 : decode cX8_shots 35 = .ok (.aload_n 0, 1) := by decide +kernel
theorem dX8_shots_36 : decode cX8_shots 36 = .ok (.getfield 27, 3) := by decide +kernel
theorem dX8_shots_39 : decode cX8_shots 39 = .ok (.getfield 103, 3) := by decide +kernel
theorem dX8_shots_42 : decode cX8_shots 42 = .ok (.if_icmp .gt 42, 3) := by decide +kernel
theorem dX8_shots_45 : decode cX8_shots 45 = .ok (.aload_n 0, 1) := by decide +kernel
theorem dX8_shots_46 : decode cX8_shots 46 = .ok (.getfield 51, 3) := by decide +kernel
theorem dX8_shots_49 : decode cX8_shots 49 = .ok (.iload 4, 2) := by decide +kernel
theorem dX8_shots_51 : decode cX8_shots 51 = .ok (.invokevirtual 180, 3) := by decide +kernel
theorem dX8_shots_54 : decode cX8_shots 54 = .ok (.ifCond .eq 9, 3) := by decide +kernel
theorem dX8_shots_57 : decode cX8_shots 57 = .ok (.iload_n 3, 1) := by decide +kernel
theorem dX8_shots_58 : decode cX8_shots 58 = .ok (.iconst 1, 1) := by decide +kernel
theorem dX8_shots_59 : decode cX8_shots 59 = .ok (.iadd, 1) := by decide +kernel
theorem dX8_shots_60 : decode cX8_shots 60 = .ok (.goto 4, 3) := by decide +kernel
theorem dX8_shots_63 : decode cX8_shots 63 = .ok (.iconst 0, 1) := by decide +kernel
theorem dX8_shots_64 : decode cX8_shots 64 = .ok (.istore_n 3, 1) := by decide +kernel
theorem dX8_shots_65 : decode cX8_shots 65 = .ok (.iload_n 2, 1) := by decide +kernel
theorem dX8_shots_66 : decode cX8_shots 66 = .ok (.iload_n 3, 1) := by decide +kernel
theorem dX8_shots_67 : decode cX8_shots 67 = .ok (.iload_n 1, 1) := by decide +kernel
theorem dX8_shots_68 : decode cX8_shots 68 = .ok (.if_icmp .lt 7, 3) := by decide +kernel
theorem dX8_shots_71 : decode cX8_shots 71 = .ok (.iconst 1, 1) := by decide +kernel
theorem dX8_shots_72 : decode cX8_shots 72 = .ok (.goto 4, 3) := by decide +kernel
theorem dX8_shots_75 : decode cX8_shots 75 = .ok (.iconst 0, 1) := by decide +kernel
theorem dX8_shots_76 : decode cX8_shots 76 = .ok (.iadd, 1) := by decide +kernel
theorem dX8_shots_77 : decode cX8_shots 77 = .ok (.istore_n 2, 1) := by decide +kernel
theorem dX8_shots_78 : decode cX8_shots 78 = .ok (.iinc 4 1, 3) := by decide +kernel
theorem dX8_shots_81 : decode cX8_shots 81 = .ok (.goto (-48), 3) := by decide +kernel
theorem dX8_shots_84 : decode cX8_shots 84 = .ok (.iload_n 2, 1) := by decide +kernel
theorem dX8_shots_85 : decode cX8_shots 85 = .ok (.ireturn, 1) := by decide +kernel
def f_RH_shots_0_J64 (v1 : Int32) (v2 : Int32) (v4 : Int32) (y0 : Int32) (σ : xS) : Option ((Int32 × Int32 × Int32 × xS) ⊕ (Int32 × Int32 × Int32 × xS)) :=
  if y0 < v1 then
    let w1 := (v2 + (0 : Int32))
    let w2 := v4 + (1 : Int32)
    some (.inr (w1, y0, w2, σ))
  else
    let w3 := (v2 + (1 : Int32))
    let w4 := v4 + (1 : Int32)
    some (.inr (w3, y0, w4, σ))
def f_RH_shots_0_L33 (v1 : Int32) (a : Int32 × Int32 × Int32 × xS) : Option ((Int32 × Int32 × Int32 × xS) ⊕ (Int32 × Int32 × Int32 × xS)) :=
  let v2 := a.1; let v3 := a.2.1; let v4 := a.2.2.1; let σ := a.2.2.2;
  if σ.1 7 4 < v4 then
    some (.inl (v2, v3, v4, σ))
  else
    (f_Tr_isSharp_49 v4 σ).bind fun q5 =>
    if q5.1 = 0 then
      f_RH_shots_0_J64 v1 v2 v4 (0 : Int32) q5.2
    else
      f_RH_shots_0_J64 v1 v2 v4 (v3 + (1 : Int32)) q5.2
def f_RH_shots_0 (v1 : Int32) (σ : xS) : Option ((Int32 ⊕ Nat) × xS) :=
  if v1 < (1 : Int32) then
    some (.inr 1, σ)
  else
    if v1 ≤ (601 : Int32) then
      (f_RH_walkAsSet_0  σ).bind fun q6 =>
      (x_it (f_RH_shots_0_L33 v1) 10000 ((0 : Int32), (0 : Int32), (0 : Int32), q6.2)).bind fun b7 =>
      some (.inl b7.1, b7.2.2.2)
    else
      some (.inr 1, σ)
set_option maxHeartbeats 4000000 in
set_option maxRecDepth 100000 in
theorem j_RH_shots_0_J64 {l : Launch} {s0 : State} {a0 : Array Value} {D : va_G} {cA : Nat → ClassId} {sp : Nat → Nat} (E : x_En CL l s0 a0 D cA sp) (v1 : Int32) (v2 : Int32) (v4 : Int32) (y0 : Int32)  (σ : xS) {r : Int32 ⊕ Nat} {σ1 : xS} (o : (Int32 × Int32 × Int32 × xS) ⊕ (Int32 × Int32 × Int32 × xS)) (h : f_RH_shots_0_J64 v1 v2 v4 y0 σ = some o) (hK : ∀ b, o = .inl b → zW l s0 D cA sp (oQ s0 D cA sp (x_oi r) σ1) (x_rm 7 1 6) M_RH_shots 1 6 84 [none, none, some (.int b.1), none, none] [] b.2.2.2) (hG : ∀ a', o = .inr a' → zW l s0 D cA sp (oQ s0 D cA sp (x_oi r) σ1) (x_rm 7 1 6) M_RH_shots 1 6 33 [some (.ref 0), some (.int v1), some (.int a'.1), some (.int a'.2.1), some (.int a'.2.2.1)] [] a'.2.2.2) : zW l s0 D cA sp (oQ s0 D cA sp (x_oi r) σ1) (x_rm 7 1 6) M_RH_shots 1 6 64 [some (.ref 0), some (.int v1), some (.int v2), none, some (.int v4)] [.int y0] σ := by
  unfold f_RH_shots_0_J64 at h
  try dsimp only at h
  refine x_istore_n 65 rfl 3 dX8_shots_64 rfl (by decide) [some (.ref 0), some (.int _), some (.int _), some (.int _), some (.int _)] rfl ?_
  refine x_iload_n 66 rfl 2 dX8_shots_65 rfl rfl ?_
  refine x_iload_n 67 rfl 3 dX8_shots_66 rfl rfl ?_
  refine x_iload_n 68 rfl 1 dX8_shots_67 rfl rfl ?_
  refine x_icmp_lt 71 rfl 75 dX8_shots_68 (by decide) (fun hc => ?_) (fun hc => ?_)
  · replace h := x_ifT hc h
    refine x_iconst 76 rfl (v := 0) dX8_shots_75 (by decide) ?_
    refine x_iadd 77 rfl dX8_shots_76 ?_
    refine x_istore_n 78 rfl 2 dX8_shots_77 rfl (by decide) [some (.ref 0), some (.int _), some (.int _), some (.int _), some (.int _)] rfl ?_
    refine x_iinc 81 rfl (1) dX8_shots_78 rfl (by decide) (by decide) [some (.ref 0), some (.int _), some (.int _), some (.int _), some (.int _)] rfl ?_
    refine x_goto 33 dX8_shots_81 (by decide) ?_
    cases h
    exact x_wk (x_le_s (x_le_s (x_le_s (x_le_s (x_le_s x_le_0))))) (hG (_, _, _, _) rfl)
  · replace h := x_ifF hc h
    refine x_iconst 72 rfl (v := 1) dX8_shots_71 (by decide) ?_
    refine x_goto 76 dX8_shots_72 (by decide) ?_
    refine x_iadd 77 rfl dX8_shots_76 ?_
    refine x_istore_n 78 rfl 2 dX8_shots_77 rfl (by decide) [some (.ref 0), some (.int _), some (.int _), some (.int _), some (.int _)] rfl ?_
    refine x_iinc 81 rfl (1) dX8_shots_78 rfl (by decide) (by decide) [some (.ref 0), some (.int _), some (.int _), some (.int _), some (.int _)] rfl ?_
    refine x_goto 33 dX8_shots_81 (by decide) ?_
    cases h
    exact x_wk (x_le_s (x_le_s (x_le_s (x_le_s (x_le_s x_le_0))))) (hG (_, _, _, _) rfl)
set_option maxHeartbeats 4000000 in
set_option maxRecDepth 100000 in
theorem b_RH_shots_0_L33 {l : Launch} {s0 : State} {a0 : Array Value} {D : va_G} {cA : Nat → ClassId} {sp : Nat → Nat} (E : x_En CL l s0 a0 D cA sp) (v1 : Int32) {r : Int32 ⊕ Nat} {σ1 : xS} (a : Int32 × Int32 × Int32 × xS) (o : (Int32 × Int32 × Int32 × xS) ⊕ (Int32 × Int32 × Int32 × xS)) (h : f_RH_shots_0_L33 v1 a = some o) (hK : ∀ b, o = .inl b → zW l s0 D cA sp (oQ s0 D cA sp (x_oi r) σ1) (x_rm 7 1 6) M_RH_shots 1 6 84 [none, none, some (.int b.1), none, none] [] b.2.2.2) (hG : ∀ a', o = .inr a' → zW l s0 D cA sp (oQ s0 D cA sp (x_oi r) σ1) (x_rm 7 1 6) M_RH_shots 1 6 33 [some (.ref 0), some (.int v1), some (.int a'.1), some (.int a'.2.1), some (.int a'.2.2.1)] [] a'.2.2.2) : zW l s0 D cA sp (oQ s0 D cA sp (x_oi r) σ1) (x_rm 7 1 6) M_RH_shots 1 6 33 [some (.ref 0), some (.int v1), some (.int a.1), some (.int a.2.1), some (.int a.2.2.1)] [] a.2.2.2 := by
  obtain ⟨v2, v3, v4, σ⟩ := a
  unfold f_RH_shots_0_L33 at h
  try dsimp only at h ⊢
  refine x_iload 35 rfl dX8_shots_33 rfl ?_
  refine x_aload_n 36 rfl 0 dX8_shots_35 rfl rfl ?_
  refine x_getR E dX8_shots_36 F_RX8_27 sh_0 rf_0_3 39 rfl ?_
  refine x_getI E dX8_shots_39 F_RX8_103 sh_7 42 rfl ?_
  refine x_icmp_gt 45 rfl 84 dX8_shots_42 (by decide) (fun hc => ?_) (fun hc => ?_)
  · replace h := x_ifT hc h
    cases h
    exact x_wk (x_le_n (x_le_n (x_le_s (x_le_n (x_le_n x_le_0))))) (hK (_, _, _, _) rfl)
  · replace h := x_ifF hc h
    refine x_aload_n 46 rfl 0 dX8_shots_45 rfl rfl ?_
    refine x_getR E dX8_shots_46 F_RX8_51 sh_0 rf_0_8 49 rfl ?_
    refine x_iload 51 rfl dX8_shots_49 rfl ?_
    obtain ⟨⟨q5r, q5s⟩, q5h, h⟩ := x_bind h
    try dsimp only at h
    refine z_callV E [.int _] [] dX8_shots_51 K_RX8_180 ⟨Nat.le_of_ble_eq_true rfl, Nat.le_of_ble_eq_true rfl⟩ sh_49 (by decide) rfl (c_Tr_isSharp_49 E _ q5h) rfl rfl (Nat.le_of_ble_eq_true rfl) 54 rfl [.int _] rfl ?_
    refine x_if_eq 57 rfl 63 dX8_shots_54 (by decide) (fun hc => ?_) (fun hc => ?_)
    · replace h := x_ifT hc h
      refine x_iconst 64 rfl (v := 0) dX8_shots_63 (by decide) ?_
      exact x_wk (x_le_s (x_le_s (x_le_s (x_le_n (x_le_s x_le_0))))) (j_RH_shots_0_J64 (r := r) (σ1 := σ1) E _ _ _ _  _ _ h hK hG)
    · replace h := x_ifF hc h
      refine x_iload_n 58 rfl 3 dX8_shots_57 rfl rfl ?_
      refine x_iconst 59 rfl (v := 1) dX8_shots_58 (by decide) ?_
      refine x_iadd 60 rfl dX8_shots_59 ?_
      refine x_goto 64 dX8_shots_60 (by decide) ?_
      exact x_wk (x_le_s (x_le_s (x_le_s (x_le_n (x_le_s x_le_0))))) (j_RH_shots_0_J64 (r := r) (σ1 := σ1) E _ _ _ _  _ _ h hK hG)
set_option maxHeartbeats 4000000 in
set_option maxRecDepth 100000 in
theorem c_RH_shots_0 {l : Launch} {s0 : State} {a0 : Array Value} {D : va_G} {cA : Nat → ClassId} {sp : Nat → Nat} (E : x_En CL l s0 a0 D cA sp) (v1 : Int32) {σ : xS} {r : Int32 ⊕ Nat} {σ1 : xS} (h : f_RH_shots_0 v1 σ = some (r, σ1)) : oC l s0 D cA sp 7 M_RH_shots [.ref 0, .int v1] σ (x_oi r) σ1 := by
  unfold f_RH_shots_0 at h
  try dsimp only at h
  refine x_enterO [some (.ref 0), some (.int v1), none, none, none] rfl (Nat.le_of_ble_eq_true rfl) (by decide +kernel) rfl ?_
  refine x_iload_n 1 rfl 1 dX8_shots_0 rfl rfl ?_
  refine x_iconst 2 rfl (v := 1) dX8_shots_1 (by decide) ?_
  refine x_icmp_lt 5 rfl 12 dX8_shots_2 (by decide) (fun hc => ?_) (fun hc => ?_)
  · replace h := x_ifT hc h
    cases h
    exact x_throw E KU_ (k := 1) KX_RX8_252 rfl dX8_shots_12 dX8_shots_15 dX8_shots_16 dX8_shots_18 dX8_shots_21 (Nat.le_of_ble_eq_true rfl)
  · replace h := x_ifF hc h
    refine x_iload_n 6 rfl 1 dX8_shots_5 rfl rfl ?_
    refine x_sipush 9 rfl (v := 601) dX8_shots_6 (by decide) ?_
    refine x_icmp_le 12 rfl 22 dX8_shots_9 (by decide) (fun hc => ?_) (fun hc => ?_)
    · replace h := x_ifT hc h
      refine x_aload_n 23 rfl 0 dX8_shots_22 rfl rfl ?_
      obtain ⟨⟨q6r, q6s⟩, q6h, h⟩ := x_bind h
      try dsimp only at h
      refine z_callV E [] [] dX8_shots_23 K_RX8_164 ⟨Nat.le_of_ble_eq_true rfl, Nat.le_of_ble_eq_true rfl⟩ sh_0 (by decide) rfl (c_RH_walkAsSet_0 E  q6h) rfl rfl (Nat.le_of_ble_eq_true rfl) 26 rfl [] rfl ?_
      refine x_iconst 27 rfl (v := 0) dX8_shots_26 (by decide) ?_
      refine x_istore_n 28 rfl 2 dX8_shots_27 rfl (by decide) [some (.ref 0), some (.int _), some (.int _), none, none] rfl ?_
      refine x_iconst 29 rfl (v := 0) dX8_shots_28 (by decide) ?_
      refine x_istore_n 30 rfl 3 dX8_shots_29 rfl (by decide) [some (.ref 0), some (.int _), some (.int _), some (.int _), none] rfl ?_
      refine x_iconst 31 rfl (v := 0) dX8_shots_30 (by decide) ?_
      refine x_istore 33 rfl dX8_shots_31 (by decide) [some (.ref 0), some (.int _), some (.int _), some (.int _), some (.int _)] rfl ?_
      obtain ⟨b7, b7h, h⟩ := x_bind h
      try dsimp only at h
      refine x_wk (x_le_s (x_le_s (x_le_s (x_le_s (x_le_s x_le_0))))) (x_loop (fun a o h hK hG => b_RH_shots_0_L33 (r := r) (σ1 := σ1) E _ a o h hK hG) _ _ _ b7h ?_)
      refine x_iload_n 85 rfl 2 dX8_shots_84 rfl rfl ?_
      cases h
      exact x_Oret (x_iret dX8_shots_85 rfl rfl rfl)
    · replace h := x_ifF hc h
      cases h
      exact x_throw E KU_ (k := 1) KX_RX8_252 rfl dX8_shots_12 dX8_shots_15 dX8_shots_16 dX8_shots_18 dX8_shots_21 (Nat.le_of_ble_eq_true rfl)
