/-! The reference's methods: functions and contracts. Written by wip/gen/emit.py. -/
abbrev M_Mo_readsMark : xM := (yX9_readsMark, cX9_readsMark, 2, none, [])
theorem dX9_readsMark_0 : decode cX9_readsMark 0 = .ok (.aload_n 0, 1) := by decide +kernel
theorem dX9_readsMark_1 : decode cX9_readsMark 1 = .ok (.getfield 277, 3) := by decide +kernel
theorem dX9_readsMark_4 : decode cX9_readsMark 4 = .ok (.bipush 6, 2) := by decide +kernel
theorem dX9_readsMark_6 : decode cX9_readsMark 6 = .ok (.if_icmp .ne 8, 3) := by decide +kernel
theorem dX9_readsMark_9 : decode cX9_readsMark 9 = .ok (.aload_n 0, 1) := by decide +kernel
theorem dX9_readsMark_10 : decode cX9_readsMark 10 = .ok (.iconst 2, 1) := by decide +kernel
theorem dX9_readsMark_11 : decode cX9_readsMark 11 = .ok (.invokevirtual 198, 3) := by decide +kernel
theorem dX9_readsMark_14 : decode cX9_readsMark 14 = .ok (.aload_n 0, 1) := by decide +kernel
theorem dX9_readsMark_15 : decode cX9_readsMark 15 = .ok (.invokevirtual 191, 3) := by decide +kernel
theorem dX9_readsMark_18 : decode cX9_readsMark 18 = .ok (.ifCond .ne 4, 3) := by decide +kernel
theorem dX9_readsMark_21 : decode cX9_readsMark 21 = .ok (.return_, 1) := by decide +kernel
theorem dX9_readsMark_22 : decode cX9_readsMark 22 = .ok (.aload_n 0, 1) := by decide +kernel
theorem dX9_readsMark_23 : decode cX9_readsMark 23 = .ok (.invokevirtual 195, 3) := by decide +kernel
theorem dX9_readsMark_26 : decode cX9_readsMark 26 = .ok (.aload_n 0, 1) := by decide +kernel
theorem dX9_readsMark_27 : decode cX9_readsMark 27 = .ok (.bipush 12, 2) := by decide +kernel
theorem dX9_readsMark_29 : decode cX9_readsMark 29 = .ok (.sipush 480, 3) := by decide +kernel
theorem dX9_readsMark_32 : decode cX9_readsMark 32 = .ok (.invokevirtual 201, 3) := by decide +kernel
theorem dX9_readsMark_35 : decode cX9_readsMark 35 = .ok (.ifCond .ne 4, 3) := by decide +kernel
theorem dX9_readsMark_38 : decode cX9_readsMark 38 = .ok (.return_, 1) := by decide +kernel
theorem dX9_readsMark_39 : decode cX9_readsMark 39 = .ok (.iconst 0, 1) := by decide +kernel
theorem dX9_readsMark_40 : decode cX9_readsMark 40 = .ok (.istore_n 1, 1) := by decide +kernel
theorem dX9_readsMark_41 : decode cX9_readsMark 41 = .ok (.iload_n 1, 1) := by decide +kernel
theorem dX9_readsMark_42 : decode cX9_readsMark 42 = .ok (.aload_n 0, 1) := by decide +kernel
theorem dX9_readsMark_43 : decode cX9_readsMark 43 = .ok (.getfield 277, 3) := by decide +kernel
theorem dX9_readsMark_46 : decode cX9_readsMark 46 = .ok (.if_icmp .ge 34, 3) := by decide +kernel
theorem dX9_readsMark_49 : decode cX9_readsMark 49 = .ok (.aload_n 0, 1) := by decide +kernel
theorem dX9_readsMark_50 : decode cX9_readsMark 50 = .ok (.invokevirtual 191, 3) := by decide +kernel
theorem dX9_readsMark_53 : decode cX9_readsMark 53 = .ok (.ifCond .eq 27, 3) := by decide +kernel
theorem dX9_readsMark_56 : decode cX9_readsMark 56 = .ok (.aload_n 0, 1) := by decide +kernel
theorem dX9_readsMark_57 : decode cX9_readsMark 57 = .ok (.getfield 59, 3) := by decide +kernel
theorem dX9_readsMark_60 : decode cX9_readsMark 60 = .ok (.iload_n 1, 1) := by decide +kernel
theorem dX9_readsMark_61 : decode cX9_readsMark 61 = .ok (.iaload, 1) := by decide +kernel
theorem dX9_readsMark_62 : decode cX9_readsMark 62 = .ok (.aload_n 0, 1) := by decide +kernel
theorem dX9_readsMark_63 : decode cX9_readsMark 63 = .ok (.getfield 159, 3) := by decide +kernel
theorem dX9_readsMark_66 : decode cX9_readsMark 66 = .ok (.if_icmp .ne 8, 3) := by decide +kernel
theorem dX9_readsMark_69 : decode cX9_readsMark 69 = .ok (.aload_n 0, 1) := by decide +kernel
theorem dX9_readsMark_70 : decode cX9_readsMark 70 = .ok (.iconst 4, 1) := by decide +kernel
theorem dX9_readsMark_71 : decode cX9_readsMark 71 = .ok (.invokevirtual 198, 3) := by decide +kernel
theorem dX9_readsMark_74 : decode cX9_readsMark 74 = .ok (.iinc 1 1, 3) := by decide +kernel
theorem dX9_readsMark_77 : decode cX9_readsMark 77 = .ok (.goto (-36), 3) := by decide +kernel
theorem dX9_readsMark_80 : decode cX9_readsMark 80 = .ok (.aload_n 0, 1) := by decide +kernel
theorem dX9_readsMark_81 : decode cX9_readsMark 81 = .ok (.invokevirtual 191, 3) := by decide +kernel
theorem dX9_readsMark_84 : decode cX9_readsMark 84 = .ok (.ifCond .ne 4, 3) := by decide +kernel
theorem dX9_readsMark_87 : decode cX9_readsMark 87 = .ok (.return_, 1) := by decide +kernel
theorem dX9_readsMark_88 : decode cX9_readsMark 88 = .ok (.aload_n 0, 1) := by decide +kernel
theorem dX9_readsMark_89 : decode cX9_readsMark 89 = .ok (.getfield 59, 3) := by decide +kernel
theorem dX9_readsMark_92 : decode cX9_readsMark 92 = .ok (.aload_n 0, 1) := by decide +kernel
theorem dX9_readsMark_93 : decode cX9_readsMark 93 = .ok (.getfield 277, 3) := by decide +kernel
theorem dX9_readsMark_96 : decode cX9_readsMark 96 = .ok (.aload_n 0, 1) := by decide +kernel
theorem dX9_readsMark_97 : decode cX9_readsMark 97 = .ok (.getfield 159, 3) := by decide +kernel
theorem dX9_readsMark_100 : decode cX9_readsMark 100 = .ok (.iastore, 1) := by decide +kernel
theorem dX9_readsMark_101 : decode cX9_readsMark 101 = .ok (.aload_n 0, 1) := by decide +kernel
theorem dX9_readsMark_102 : decode cX9_readsMark 102 = .ok (.dup, 1) := by decide +kernel
theorem dX9_readsMark_103 : decode cX9_readsMark 103 = .ok (.getfield 277, 3) := by decide +kernel
theorem dX9_readsMark_106 : decode cX9_readsMark 106 = .ok (.iconst 1, 1) := by decide +kernel
theorem dX9_readsMark_107 : decode cX9_readsMark 107 = .ok (.iadd, 1) := by decide +kernel
theorem dX9_readsMark_108 : decode cX9_readsMark 108 = .ok (.putfield 277, 3) := by decide +kernel
theorem dX9_readsMark_111 : decode cX9_readsMark 111 = .ok (.aload_n 0, 1) := by decide +kernel
theorem dX9_readsMark_112 : decode cX9_readsMark 112 = .ok (.invokevirtual 195, 3) := by decide +kernel
theorem dX9_readsMark_115 : decode cX9_readsMark 115 = .ok (.return_, 1) := by decide +kernel
def f_Mo_readsMark_60_L41  (a : Int32 × xS) : Option ((Int32 × xS) ⊕ (Int32 × xS)) :=
  let v1 := a.1; let σ := a.2;
  if σ.1 60 30 ≤ v1 then
    some (.inl (v1, σ))
  else
    (f_Mo_isGood_60  σ).bind fun q1 =>
    if q1.1 = 0 then
      some (.inl (v1, q1.2))
    else
      if v1 < 0 ∨ 6 ≤ v1.toNatClampNeg then none else
      if q1.2.1 73 v1.toNatClampNeg = q1.2.1 60 24 then
        (f_Mo_wrong_60 (4 : Int32) q1.2).bind fun q3 =>
        let w4 := v1 + (1 : Int32)
        some (.inr (w4, q3.2))
      else
        let w2 := v1 + (1 : Int32)
        some (.inr (w2, q1.2))
def f_Mo_readsMark_60_J80  (σ : xS) : Option (Unit × xS) :=
  (f_Mo_isGood_60  σ).bind fun q5 =>
  if q5.1 = 0 then
    some ((), q5.2)
  else
    if q5.2.1 60 30 < 0 ∨ 6 ≤ (q5.2.1 60 30).toNatClampNeg then none else
    let σ6 := x_pI q5.2 73 (q5.2.1 60 30).toNatClampNeg (q5.2.1 60 24)
    let σ7 := x_pI σ6 60 30 (σ6.1 60 30 + (1 : Int32))
    (f_Mo_goes_60  σ7).bind fun q8 =>
    some ((), q8.2)
def f_Mo_readsMark_60_J14  (σ : xS) : Option (Unit × xS) :=
  (f_Mo_isGood_60  σ).bind fun q9 =>
  if q9.1 = 0 then
    some ((), q9.2)
  else
    (f_Mo_goes_60  q9.2).bind fun q10 =>
    (f_Mo_numberHere_60 (12 : Int32) (480 : Int32) q10.2).bind fun q11 =>
    if q11.1 = 0 then
      some ((), q11.2)
    else
      (x_it (f_Mo_readsMark_60_L41 ) 10000 ((0 : Int32), q11.2)).bind fun b12 =>
      f_Mo_readsMark_60_J80  b12.2
def f_Mo_readsMark_60  (σ : xS) : Option (Unit × xS) :=
  if σ.1 60 30 = (6 : Int32) then
    (f_Mo_wrong_60 (2 : Int32) σ).bind fun q13 =>
    f_Mo_readsMark_60_J14  q13.2
  else
    f_Mo_readsMark_60_J14  σ
set_option maxHeartbeats 4000000 in
set_option maxRecDepth 100000 in
theorem b_Mo_readsMark_60_L41 {l : Launch} {s0 : State} {a0 : Array Value} {D : va_G} {cA : Nat → ClassId} {sp : Nat → Nat} (E : x_En CL l s0 a0 D cA sp)  {r : Unit} {σ1 : xS} (a : Int32 × xS) (o : (Int32 × xS) ⊕ (Int32 × xS)) (h : f_Mo_readsMark_60_L41  a = some o) (hK : ∀ b, o = .inl b → zW l s0 D cA sp (zQ s0 D cA sp none σ1) (x_rm 2 0 0) M_Mo_readsMark 0 0 80 [some (.ref 60), none] [] b.2) (hG : ∀ a', o = .inr a' → zW l s0 D cA sp (zQ s0 D cA sp none σ1) (x_rm 2 0 0) M_Mo_readsMark 0 0 41 [some (.ref 60), some (.int a'.1)] [] a'.2) : zW l s0 D cA sp (zQ s0 D cA sp none σ1) (x_rm 2 0 0) M_Mo_readsMark 0 0 41 [some (.ref 60), some (.int a.1)] [] a.2 := by
  obtain ⟨v1, σ⟩ := a
  unfold f_Mo_readsMark_60_L41 at h
  try dsimp only at h ⊢
  refine x_iload_n 42 rfl 1 dX9_readsMark_41 rfl rfl ?_
  refine x_aload_n 43 rfl 0 dX9_readsMark_42 rfl rfl ?_
  refine x_getI E dX9_readsMark_43 F_RX9_277 sh_60 46 rfl ?_
  refine x_icmp_ge 49 rfl 80 dX9_readsMark_46 (by decide) (fun hc => ?_) (fun hc => ?_)
  · replace h := x_ifT hc h
    cases h
    exact x_wk (x_le_s (x_le_n x_le_0)) (hK (_, _) rfl)
  · replace h := x_ifF hc h
    refine x_aload_n 50 rfl 0 dX9_readsMark_49 rfl rfl ?_
    obtain ⟨⟨q1r, q1s⟩, q1h, h⟩ := x_bind h
    try dsimp only at h
    refine z_callV E [] [] dX9_readsMark_50 K_RX9_191 ⟨Nat.le_of_ble_eq_true rfl, Nat.le_of_ble_eq_true rfl⟩ sh_60 (by decide) rfl (c_Mo_isGood_60 E  q1h) rfl rfl (Nat.le_of_ble_eq_true rfl) 53 rfl [.int _] rfl ?_
    refine x_if_eq 56 rfl 80 dX9_readsMark_53 (by decide) (fun hc => ?_) (fun hc => ?_)
    · replace h := x_ifT hc h
      cases h
      exact x_wk (x_le_s (x_le_n x_le_0)) (hK (_, _) rfl)
    · replace h := x_ifF hc h
      refine x_aload_n 57 rfl 0 dX9_readsMark_56 rfl rfl ?_
      refine x_getR E dX9_readsMark_57 F_RX9_59 sh_60 rf_60_47 60 rfl ?_
      refine x_iload_n 61 rfl 1 dX9_readsMark_60 rfl rfl ?_
      obtain ⟨hz, h⟩ := x_ifn h
      refine x_iald E dX9_readsMark_61 sh_73 _ rfl hz 62 rfl ?_
      refine x_aload_n 63 rfl 0 dX9_readsMark_62 rfl rfl ?_
      refine x_getI E dX9_readsMark_63 F_RX9_159 sh_60 66 rfl ?_
      refine x_icmp_ne 69 rfl 74 dX9_readsMark_66 (by decide) (fun hc => ?_) (fun hc => ?_)
      · replace h := x_ifF hc h
        refine x_iinc 77 rfl (1) dX9_readsMark_74 rfl (by decide) (by decide) [some (.ref 60), some (.int _)] rfl ?_
        refine x_goto 41 dX9_readsMark_77 (by decide) ?_
        cases h
        exact x_wk (x_le_s (x_le_s x_le_0)) (hG (_, _) rfl)
      · replace h := x_ifT hc h
        refine x_aload_n 70 rfl 0 dX9_readsMark_69 rfl rfl ?_
        refine x_iconst 71 rfl (v := 4) dX9_readsMark_70 (by decide) ?_
        obtain ⟨⟨q3r, q3s⟩, q3h, h⟩ := x_bind h
        try dsimp only at h
        refine z_callV E [.int _] [] dX9_readsMark_71 K_RX9_198 ⟨Nat.le_of_ble_eq_true rfl, Nat.le_of_ble_eq_true rfl⟩ sh_60 (by decide) rfl (c_Mo_wrong_60 E _ q3h) rfl rfl (Nat.le_of_ble_eq_true rfl) 74 rfl [] rfl ?_
        refine x_iinc 77 rfl (1) dX9_readsMark_74 rfl (by decide) (by decide) [some (.ref 60), some (.int _)] rfl ?_
        refine x_goto 41 dX9_readsMark_77 (by decide) ?_
        cases h
        exact x_wk (x_le_s (x_le_s x_le_0)) (hG (_, _) rfl)
set_option maxHeartbeats 4000000 in
set_option maxRecDepth 100000 in
theorem j_Mo_readsMark_60_J80 {l : Launch} {s0 : State} {a0 : Array Value} {D : va_G} {cA : Nat → ClassId} {sp : Nat → Nat} (E : x_En CL l s0 a0 D cA sp)  (σ : xS) {r : Unit} {σ1 : xS} (h : f_Mo_readsMark_60_J80  σ = some (r, σ1)) : zW l s0 D cA sp (zQ s0 D cA sp none σ1) (x_rm 2 0 0) M_Mo_readsMark 0 0 80 [some (.ref 60), none] [] σ := by
  unfold f_Mo_readsMark_60_J80 at h
  try dsimp only at h
  refine x_aload_n 81 rfl 0 dX9_readsMark_80 rfl rfl ?_
  obtain ⟨⟨q5r, q5s⟩, q5h, h⟩ := x_bind h
  try dsimp only at h
  refine z_callV E [] [] dX9_readsMark_81 K_RX9_191 ⟨Nat.le_of_ble_eq_true rfl, Nat.le_of_ble_eq_true rfl⟩ sh_60 (by decide) rfl (c_Mo_isGood_60 E  q5h) rfl rfl (Nat.le_of_ble_eq_true rfl) 84 rfl [.int _] rfl ?_
  refine x_if_ne 87 rfl 88 dX9_readsMark_84 (by decide) (fun hc => ?_) (fun hc => ?_)
  · replace h := x_ifF hc h
    refine x_aload_n 89 rfl 0 dX9_readsMark_88 rfl rfl ?_
    refine x_getR E dX9_readsMark_89 F_RX9_59 sh_60 rf_60_47 92 rfl ?_
    refine x_aload_n 93 rfl 0 dX9_readsMark_92 rfl rfl ?_
    refine x_getI E dX9_readsMark_93 F_RX9_277 sh_60 96 rfl ?_
    refine x_aload_n 97 rfl 0 dX9_readsMark_96 rfl rfl ?_
    refine x_getI E dX9_readsMark_97 F_RX9_159 sh_60 100 rfl ?_
    obtain ⟨hz, h⟩ := x_ifn h
    refine x_iast E dX9_readsMark_100 sh_73 _ rfl hz 101 rfl ?_
    refine x_aload_n 102 rfl 0 dX9_readsMark_101 rfl rfl ?_
    refine x_dup 103 rfl dX9_readsMark_102 rfl ?_
    refine x_getI E dX9_readsMark_103 F_RX9_277 sh_60 106 rfl ?_
    refine x_iconst 107 rfl (v := 1) dX9_readsMark_106 (by decide) ?_
    refine x_iadd 108 rfl dX9_readsMark_107 ?_
    refine x_putI E dX9_readsMark_108 F_RX9_277 sh_60 111 rfl ?_
    refine x_aload_n 112 rfl 0 dX9_readsMark_111 rfl rfl ?_
    obtain ⟨⟨q8r, q8s⟩, q8h, h⟩ := x_bind h
    try dsimp only at h
    refine z_callV E [] [] dX9_readsMark_112 K_RX9_195 ⟨Nat.le_of_ble_eq_true rfl, Nat.le_of_ble_eq_true rfl⟩ sh_60 (by decide) rfl (c_Mo_goes_60 E  q8h) rfl rfl (Nat.le_of_ble_eq_true rfl) 115 rfl [] rfl ?_
    cases h
    exact x_vret dX9_readsMark_115 rfl rfl rfl
  · replace h := x_ifT hc h
    cases h
    exact x_vret dX9_readsMark_87 rfl rfl rfl
set_option maxHeartbeats 4000000 in
set_option maxRecDepth 100000 in
theorem j_Mo_readsMark_60_J14 {l : Launch} {s0 : State} {a0 : Array Value} {D : va_G} {cA : Nat → ClassId} {sp : Nat → Nat} (E : x_En CL l s0 a0 D cA sp)  (σ : xS) {r : Unit} {σ1 : xS} (h : f_Mo_readsMark_60_J14  σ = some (r, σ1)) : zW l s0 D cA sp (zQ s0 D cA sp none σ1) (x_rm 2 0 0) M_Mo_readsMark 0 0 14 [some (.ref 60), none] [] σ := by
  unfold f_Mo_readsMark_60_J14 at h
  try dsimp only at h
  refine x_aload_n 15 rfl 0 dX9_readsMark_14 rfl rfl ?_
  obtain ⟨⟨q9r, q9s⟩, q9h, h⟩ := x_bind h
  try dsimp only at h
  refine z_callV E [] [] dX9_readsMark_15 K_RX9_191 ⟨Nat.le_of_ble_eq_true rfl, Nat.le_of_ble_eq_true rfl⟩ sh_60 (by decide) rfl (c_Mo_isGood_60 E  q9h) rfl rfl (Nat.le_of_ble_eq_true rfl) 18 rfl [.int _] rfl ?_
  refine x_if_ne 21 rfl 22 dX9_readsMark_18 (by decide) (fun hc => ?_) (fun hc => ?_)
  · replace h := x_ifF hc h
    refine x_aload_n 23 rfl 0 dX9_readsMark_22 rfl rfl ?_
    obtain ⟨⟨q10r, q10s⟩, q10h, h⟩ := x_bind h
    try dsimp only at h
    refine z_callV E [] [] dX9_readsMark_23 K_RX9_195 ⟨Nat.le_of_ble_eq_true rfl, Nat.le_of_ble_eq_true rfl⟩ sh_60 (by decide) rfl (c_Mo_goes_60 E  q10h) rfl rfl (Nat.le_of_ble_eq_true rfl) 26 rfl [] rfl ?_
    refine x_aload_n 27 rfl 0 dX9_readsMark_26 rfl rfl ?_
    refine x_bipush 29 rfl (v := 12) dX9_readsMark_27 (by decide) ?_
    refine x_sipush 32 rfl (v := 480) dX9_readsMark_29 (by decide) ?_
    obtain ⟨⟨q11r, q11s⟩, q11h, h⟩ := x_bind h
    try dsimp only at h
    refine z_callV E [.int _, .int _] [] dX9_readsMark_32 K_RX9_201 ⟨Nat.le_of_ble_eq_true rfl, Nat.le_of_ble_eq_true rfl⟩ sh_60 (by decide) rfl (c_Mo_numberHere_60 E _ _ q11h) rfl rfl (Nat.le_of_ble_eq_true rfl) 35 rfl [.int _] rfl ?_
    refine x_if_ne 38 rfl 39 dX9_readsMark_35 (by decide) (fun hc => ?_) (fun hc => ?_)
    · replace h := x_ifF hc h
      refine x_iconst 40 rfl (v := 0) dX9_readsMark_39 (by decide) ?_
      refine x_istore_n 41 rfl 1 dX9_readsMark_40 rfl (by decide) [some (.ref 60), some (.int _)] rfl ?_
      obtain ⟨b12, b12h, h⟩ := x_bind h
      try dsimp only at h
      refine x_wk (x_le_s (x_le_s x_le_0)) (x_loop (fun a o h hK hG => b_Mo_readsMark_60_L41 (r := r) (σ1 := σ1) E  a o h hK hG) _ _ _ b12h ?_)
      exact x_wk (x_le_s (x_le_n x_le_0)) (j_Mo_readsMark_60_J80 E  _ h)
    · replace h := x_ifT hc h
      cases h
      exact x_vret dX9_readsMark_38 rfl rfl rfl
  · replace h := x_ifT hc h
    cases h
    exact x_vret dX9_readsMark_21 rfl rfl rfl
set_option maxHeartbeats 4000000 in
set_option maxRecDepth 100000 in
theorem c_Mo_readsMark_60 {l : Launch} {s0 : State} {a0 : Array Value} {D : va_G} {cA : Nat → ClassId} {sp : Nat → Nat} (E : x_En CL l s0 a0 D cA sp)  {σ : xS} {r : Unit} {σ1 : xS} (h : f_Mo_readsMark_60  σ = some (r, σ1)) : zC l s0 D cA sp 2 M_Mo_readsMark [.ref 60] σ none σ1 := by
  unfold f_Mo_readsMark_60 at h
  try dsimp only at h
  refine x_enter [some (.ref 60), none] rfl (Nat.le_of_ble_eq_true rfl) (by decide +kernel) rfl ?_
  refine x_aload_n 1 rfl 0 dX9_readsMark_0 rfl rfl ?_
  refine x_getI E dX9_readsMark_1 F_RX9_277 sh_60 4 rfl ?_
  refine x_bipush 6 rfl (v := 6) dX9_readsMark_4 (by decide) ?_
  refine x_icmp_ne 9 rfl 14 dX9_readsMark_6 (by decide) (fun hc => ?_) (fun hc => ?_)
  · replace h := x_ifF hc h
    exact x_wk (x_le_s (x_le_n x_le_0)) (j_Mo_readsMark_60_J14 E  _ h)
  · replace h := x_ifT hc h
    refine x_aload_n 10 rfl 0 dX9_readsMark_9 rfl rfl ?_
    refine x_iconst 11 rfl (v := 2) dX9_readsMark_10 (by decide) ?_
    obtain ⟨⟨q13r, q13s⟩, q13h, h⟩ := x_bind h
    try dsimp only at h
    refine z_callV E [.int _] [] dX9_readsMark_11 K_RX9_198 ⟨Nat.le_of_ble_eq_true rfl, Nat.le_of_ble_eq_true rfl⟩ sh_60 (by decide) rfl (c_Mo_wrong_60 E _ q13h) rfl rfl (Nat.le_of_ble_eq_true rfl) 14 rfl [] rfl ?_
    exact x_wk (x_le_s (x_le_n x_le_0)) (j_Mo_readsMark_60_J14 E  _ h)
theorem K_RX9_283 : x_KV RX9 283 M_Mo_expression 2 := ⟨⟨(List.mem_append_right _ (List.mem_of_getElem? (i := 1568) (by decide +kernel))), (List.mem_append_right _ (List.mem_of_getElem? (i := 1571) (by decide +kernel))), (List.mem_append_right _ (List.mem_of_getElem? (i := 9) (by decide +kernel))), ⟨by decide +kernel, by decide +kernel⟩, by decide +kernel⟩, (List.mem_append_right _ (List.mem_of_getElem? (i := 1570) (by decide +kernel))), (List.mem_append_left _ (List.mem_of_getElem? (i := 65) (by decide +kernel)))⟩
theorem K_RX9_287 : x_KV RX9 287 M_Mo_once 1 := ⟨⟨(List.mem_append_right _ (List.mem_of_getElem? (i := 1610) (by decide +kernel))), (List.mem_append_right _ (List.mem_of_getElem? (i := 1613) (by decide +kernel))), (List.mem_append_right _ (List.mem_of_getElem? (i := 9) (by decide +kernel))), ⟨by decide +kernel, by decide +kernel⟩, by decide +kernel⟩, (List.mem_append_right _ (List.mem_of_getElem? (i := 1612) (by decide +kernel))), (List.mem_append_left _ (List.mem_of_getElem? (i := 74) (by decide +kernel)))⟩
abbrev M_Mo_readsRule : xM := (yX9_readsRule, cX9_readsRule, 2, none, [])
theorem dX9_readsRule_0 : decode cX9_readsRule 0 = .ok (.iload_n 1, 1) := by decide +kernel
theorem dX9_readsRule_1 : decode cX9_readsRule 1 = .ok (.bipush 18, 2) := by decide +kernel
theorem dX9_readsRule_3 : decode cX9_readsRule 3 = .ok (.if_icmp .ne 60, 3) := by decide +kernel
theorem dX9_readsRule_6 : decode cX9_readsRule 6 = .ok (.aload_n 0, 1) := by decide +kernel
theorem dX9_readsRule_7 : decode cX9_readsRule 7 = .ok (.getfield 280, 3) := by decide +kernel
theorem dX9_readsRule_10 : decode cX9_readsRule 10 = .ok (.iconst 4, 1) := by decide +kernel
theorem dX9_readsRule_11 : decode cX9_readsRule 11 = .ok (.if_icmp .ne 8, 3) := by decide +kernel
theorem dX9_readsRule_14 : decode cX9_readsRule 14 = .ok (.aload_n 0, 1) := by decide +kernel
theorem dX9_readsRule_15 : decode cX9_readsRule 15 = .ok (.iconst 2, 1) := by decide +kernel
theorem dX9_readsRule_16 : decode cX9_readsRule 16 = .ok (.invokevirtual 198, 3) := by decide +kernel
theorem dX9_readsRule_19 : decode cX9_readsRule 19 = .ok (.aload_n 0, 1) := by decide +kernel
theorem dX9_readsRule_20 : decode cX9_readsRule 20 = .ok (.invokevirtual 191, 3) := by decide +kernel
theorem dX9_readsRule_23 : decode cX9_readsRule 23 = .ok (.ifCond .ne 4, 3) := by decide +kernel
theorem dX9_readsRule_26 : decode cX9_readsRule 26 = .ok (.return_, 1) := by decide +kernel
theorem dX9_readsRule_27 : decode cX9_readsRule 27 = .ok (.aload_n 0, 1) := by decide +kernel
theorem dX9_readsRule_28 : decode cX9_readsRule 28 = .ok (.invokevirtual 195, 3) := by decide +kernel
theorem dX9_readsRule_31 : decode cX9_readsRule 31 = .ok (.aload_n 0, 1) := by decide +kernel
theorem dX9_readsRule_32 : decode cX9_readsRule 32 = .ok (.getfield 65, 3) := by decide +kernel
theorem dX9_readsRule_35 : decode cX9_readsRule 35 = .ok (.aload_n 0, 1) := by decide +kernel
theorem dX9_readsRule_36 : decode cX9_readsRule 36 = .ok (.getfield 280, 3) := by decide +kernel
theorem dX9_readsRule_39 : decode cX9_readsRule 39 = .ok (.aload_n 0, 1) := by decide +kernel
theorem dX9_readsRule_40 : decode cX9_readsRule 40 = .ok (.getfield 205, 3) := by decide +kernel
theorem dX9_readsRule_43 : decode cX9_readsRule 43 = .ok (.iastore, 1) := by decide +kernel
theorem dX9_readsRule_44 : decode cX9_readsRule 44 = .ok (.aload_n 0, 1) := by decide +kernel
theorem dX9_readsRule_45 : decode cX9_readsRule 45 = .ok (.dup, 1) := by decide +kernel
theorem dX9_readsRule_46 : decode cX9_readsRule 46 = .ok (.getfield 280, 3) := by decide +kernel
theorem dX9_readsRule_49 : decode cX9_readsRule 49 = .ok (.iconst 1, 1) := by decide +kernel
theorem dX9_readsRule_50 : decode cX9_readsRule 50 = .ok (.iadd, 1) := by decide +kernel
theorem dX9_readsRule_51 : decode cX9_readsRule 51 = .ok (.putfield 280, 3) := by decide +kernel
theorem dX9_readsRule_54 : decode cX9_readsRule 54 = .ok (.aload_n 0, 1) := by decide +kernel
theorem dX9_readsRule_55 : decode cX9_readsRule 55 = .ok (.iconst 0, 1) := by decide +kernel
theorem dX9_readsRule_56 : decode cX9_readsRule 56 = .ok (.iconst 4, 1) := by decide +kernel
theorem dX9_readsRule_57 : decode cX9_readsRule 57 = .ok (.invokevirtual 283, 3) := by decide +kernel
theorem dX9_readsRule_60 : decode cX9_readsRule 60 = .ok (.goto 51, 3) := by decide +kernel
theorem dX9_readsRule_63 : decode cX9_readsRule 63 = .ok (.aload_n 0, 1) := by decide +kernel
theorem dX9_readsRule_64 : decode cX9_readsRule 64 = .ok (.iload_n 1, 1) := by decide +kernel
theorem dX9_readsRule_65 : decode cX9_readsRule 65 = .ok (.invokevirtual 287, 3) := by decide +kernel
theorem dX9_readsRule_68 : decode cX9_readsRule 68 = .ok (.ifCond .eq 43, 3) := by decide +kernel
theorem dX9_readsRule_71 : decode cX9_readsRule 71 = .ok (.iload_n 1, 1) := by decide +kernel
theorem dX9_readsRule_72 : decode cX9_readsRule 72 = .ok (.iconst 2, 1) := by decide +kernel
theorem dX9_readsRule_73 : decode cX9_readsRule 73 = .ok (.if_icmp .ne 14, 3) := by decide +kernel
theorem dX9_readsRule_76 : decode cX9_readsRule 76 = .ok (.aload_n 0, 1) := by decide +kernel
theorem dX9_readsRule_77 : decode cX9_readsRule 77 = .ok (.aload_n 0, 1) := by decide +kernel
theorem dX9_readsRule_78 : decode cX9_readsRule 78 = .ok (.getfield 205, 3) := by decide +kernel
theorem dX9_readsRule_81 : decode cX9_readsRule 81 = .ok (.putfield 290, 3) := by decide +kernel
theorem dX9_readsRule_84 : decode cX9_readsRule 84 = .ok (.goto 11, 3) := by decide +kernel
theorem dX9_readsRule_87 : decode cX9_readsRule 87 = .ok (.aload_n 0, 1) := by decide +kernel
theorem dX9_readsRule_88 : decode cX9_readsRule 88 = .ok (.aload_n 0, 1) := by decide +kernel
theorem dX9_readsRule_89 : decode cX9_readsRule 89 = .ok (.getfield 205, 3) := by decide +kernel
theorem dX9_readsRule_92 : decode cX9_readsRule 92 = .ok (.putfield 293, 3) := by decide +kernel
theorem dX9_readsRule_95 : decode cX9_readsRule 95 = .ok (.aload_n 0, 1) := by decide +kernel
theorem dX9_readsRule_96 : decode cX9_readsRule 96 = .ok (.iconst 5, 1) := by decide +kernel
theorem dX9_readsRule_97 : decode cX9_readsRule 97 = .ok (.iload_n 1, 1) := by decide +kernel
theorem dX9_readsRule_98 : decode cX9_readsRule 98 = .ok (.iconst 2, 1) := by decide +kernel
theorem dX9_readsRule_99 : decode cX9_readsRule 99 = .ok (.if_icmp .ne 7, 3) := by decide +kernel
theorem dX9_readsRule_102 : decode cX9_readsRule 102 = .ok (.iconst 5, 1) := by decide +kernel
theorem dX9_readsRule_103 : decode cX9_readsRule 103 = .ok (.goto 5, 3) := by decide +kernel
theorem dX9_readsRule_106 : decode cX9_readsRule 106 = .ok (.bipush 7, 2) := by decide +kernel
theorem dX9_readsRule_108 : decode cX9_readsRule 108 = .ok (.invokevirtual 283, 3) := by decide +kernel
theorem dX9_readsRule_111 : decode cX9_readsRule 111 = .ok (.return_, 1) := by decide +kernel
def f_Mo_readsRule_60_J95 (v1 : Int32) (σ : xS) : Option (Unit × xS) :=
  if v1 = (2 : Int32) then
    (f_Mo_expression_60 (5 : Int32) (5 : Int32) σ).bind fun q2 =>
    some ((), q2.2)
  else
    (f_Mo_expression_60 (5 : Int32) (7 : Int32) σ).bind fun q1 =>
    some ((), q1.2)
def f_Mo_readsRule_60_J19  (σ : xS) : Option (Unit × xS) :=
  (f_Mo_isGood_60  σ).bind fun q3 =>
  if q3.1 = 0 then
    some ((), q3.2)
  else
    (f_Mo_goes_60  q3.2).bind fun q4 =>
    if q4.2.1 60 31 < 0 ∨ 4 ≤ (q4.2.1 60 31).toNatClampNeg then none else
    let σ5 := x_pI q4.2 75 (q4.2.1 60 31).toNatClampNeg (q4.2.1 60 40)
    let σ6 := x_pI σ5 60 31 (σ5.1 60 31 + (1 : Int32))
    (f_Mo_expression_60 (0 : Int32) (4 : Int32) σ6).bind fun q7 =>
    some ((), q7.2)
def f_Mo_readsRule_60 (v1 : Int32) (σ : xS) : Option (Unit × xS) :=
  if v1 = (18 : Int32) then
    if σ.1 60 31 = (4 : Int32) then
      (f_Mo_wrong_60 (2 : Int32) σ).bind fun q11 =>
      f_Mo_readsRule_60_J19  q11.2
    else
      f_Mo_readsRule_60_J19  σ
  else
    (f_Mo_once_60 v1 σ).bind fun q8 =>
    if q8.1 = 0 then
      some ((), q8.2)
    else
      if v1 = (2 : Int32) then
        let σ10 := x_pI q8.2 60 32 (q8.2.1 60 40)
        f_Mo_readsRule_60_J95 v1 σ10
      else
        let σ9 := x_pI q8.2 60 33 (q8.2.1 60 40)
        f_Mo_readsRule_60_J95 v1 σ9
set_option maxHeartbeats 4000000 in
set_option maxRecDepth 100000 in
theorem j_Mo_readsRule_60_J95 {l : Launch} {s0 : State} {a0 : Array Value} {D : va_G} {cA : Nat → ClassId} {sp : Nat → Nat} (E : x_En CL l s0 a0 D cA sp) (v1 : Int32) (σ : xS) {r : Unit} {σ1 : xS} (h : f_Mo_readsRule_60_J95 v1 σ = some (r, σ1)) : zW l s0 D cA sp (zQ s0 D cA sp none σ1) (x_rm 6 0 0) M_Mo_readsRule 0 0 95 [some (.ref 60), some (.int v1)] [] σ := by
  unfold f_Mo_readsRule_60_J95 at h
  try dsimp only at h
  refine x_aload_n 96 rfl 0 dX9_readsRule_95 rfl rfl ?_
  refine x_iconst 97 rfl (v := 5) dX9_readsRule_96 (by decide) ?_
  refine x_iload_n 98 rfl 1 dX9_readsRule_97 rfl rfl ?_
  refine x_iconst 99 rfl (v := 2) dX9_readsRule_98 (by decide) ?_
  refine x_icmp_ne 102 rfl 106 dX9_readsRule_99 (by decide) (fun hc => ?_) (fun hc => ?_)
  · replace h := x_ifF hc h
    refine x_bipush 108 rfl (v := 7) dX9_readsRule_106 (by decide) ?_
    obtain ⟨⟨q1r, q1s⟩, q1h, h⟩ := x_bind h
    try dsimp only at h
    refine z_callV E [.int _, .int _] [] dX9_readsRule_108 K_RX9_283 ⟨Nat.le_of_ble_eq_true rfl, Nat.le_of_ble_eq_true rfl⟩ sh_60 (by decide) rfl (c_Mo_expression_60 E _ _ q1h) rfl rfl (Nat.le_of_ble_eq_true rfl) 111 rfl [] rfl ?_
    cases h
    exact x_vret dX9_readsRule_111 rfl rfl rfl
  · replace h := x_ifT hc h
    refine x_iconst 103 rfl (v := 5) dX9_readsRule_102 (by decide) ?_
    refine x_goto 108 dX9_readsRule_103 (by decide) ?_
    obtain ⟨⟨q2r, q2s⟩, q2h, h⟩ := x_bind h
    try dsimp only at h
    refine z_callV E [.int _, .int _] [] dX9_readsRule_108 K_RX9_283 ⟨Nat.le_of_ble_eq_true rfl, Nat.le_of_ble_eq_true rfl⟩ sh_60 (by decide) rfl (c_Mo_expression_60 E _ _ q2h) rfl rfl (Nat.le_of_ble_eq_true rfl) 111 rfl [] rfl ?_
    cases h
    exact x_vret dX9_readsRule_111 rfl rfl rfl
set_option maxHeartbeats 4000000 in
set_option maxRecDepth 100000 in
theorem j_Mo_readsRule_60_J19 {l : Launch} {s0 : State} {a0 : Array Value} {D : va_G} {cA : Nat → ClassId} {sp : Nat → Nat} (E : x_En CL l s0 a0 D cA sp)  (σ : xS) {r : Unit} {σ1 : xS} (h : f_Mo_readsRule_60_J19  σ = some (r, σ1)) : zW l s0 D cA sp (zQ s0 D cA sp none σ1) (x_rm 6 0 0) M_Mo_readsRule 0 0 19 [some (.ref 60), none] [] σ := by
  unfold f_Mo_readsRule_60_J19 at h
  try dsimp only at h
  refine x_aload_n 20 rfl 0 dX9_readsRule_19 rfl rfl ?_
  obtain ⟨⟨q3r, q3s⟩, q3h, h⟩ := x_bind h
  try dsimp only at h
  refine z_callV E [] [] dX9_readsRule_20 K_RX9_191 ⟨Nat.le_of_ble_eq_true rfl, Nat.le_of_ble_eq_true rfl⟩ sh_60 (by decide) rfl (c_Mo_isGood_60 E  q3h) rfl rfl (Nat.le_of_ble_eq_true rfl) 23 rfl [.int _] rfl ?_
  refine x_if_ne 26 rfl 27 dX9_readsRule_23 (by decide) (fun hc => ?_) (fun hc => ?_)
  · replace h := x_ifF hc h
    refine x_aload_n 28 rfl 0 dX9_readsRule_27 rfl rfl ?_
    obtain ⟨⟨q4r, q4s⟩, q4h, h⟩ := x_bind h
    try dsimp only at h
    refine z_callV E [] [] dX9_readsRule_28 K_RX9_195 ⟨Nat.le_of_ble_eq_true rfl, Nat.le_of_ble_eq_true rfl⟩ sh_60 (by decide) rfl (c_Mo_goes_60 E  q4h) rfl rfl (Nat.le_of_ble_eq_true rfl) 31 rfl [] rfl ?_
    refine x_aload_n 32 rfl 0 dX9_readsRule_31 rfl rfl ?_
    refine x_getR E dX9_readsRule_32 F_RX9_65 sh_60 rf_60_49 35 rfl ?_
    refine x_aload_n 36 rfl 0 dX9_readsRule_35 rfl rfl ?_
    refine x_getI E dX9_readsRule_36 F_RX9_280 sh_60 39 rfl ?_
    refine x_aload_n 40 rfl 0 dX9_readsRule_39 rfl rfl ?_
    refine x_getI E dX9_readsRule_40 F_RX9_205 sh_60 43 rfl ?_
    obtain ⟨hz, h⟩ := x_ifn h
    refine x_iast E dX9_readsRule_43 sh_75 _ rfl hz 44 rfl ?_
    refine x_aload_n 45 rfl 0 dX9_readsRule_44 rfl rfl ?_
    refine x_dup 46 rfl dX9_readsRule_45 rfl ?_
    refine x_getI E dX9_readsRule_46 F_RX9_280 sh_60 49 rfl ?_
    refine x_iconst 50 rfl (v := 1) dX9_readsRule_49 (by decide) ?_
    refine x_iadd 51 rfl dX9_readsRule_50 ?_
    refine x_putI E dX9_readsRule_51 F_RX9_280 sh_60 54 rfl ?_
    refine x_aload_n 55 rfl 0 dX9_readsRule_54 rfl rfl ?_
    refine x_iconst 56 rfl (v := 0) dX9_readsRule_55 (by decide) ?_
    refine x_iconst 57 rfl (v := 4) dX9_readsRule_56 (by decide) ?_
    obtain ⟨⟨q7r, q7s⟩, q7h, h⟩ := x_bind h
    try dsimp only at h
    refine z_callV E [.int _, .int _] [] dX9_readsRule_57 K_RX9_283 ⟨Nat.le_of_ble_eq_true rfl, Nat.le_of_ble_eq_true rfl⟩ sh_60 (by decide) rfl (c_Mo_expression_60 E _ _ q7h) rfl rfl (Nat.le_of_ble_eq_true rfl) 60 rfl [] rfl ?_
    refine x_goto 111 dX9_readsRule_60 (by decide) ?_
    cases h
    exact x_vret dX9_readsRule_111 rfl rfl rfl
  · replace h := x_ifT hc h
    cases h
    exact x_vret dX9_readsRule_26 rfl rfl rfl
set_option maxHeartbeats 4000000 in
set_option maxRecDepth 100000 in
theorem c_Mo_readsRule_60 {l : Launch} {s0 : State} {a0 : Array Value} {D : va_G} {cA : Nat → ClassId} {sp : Nat → Nat} (E : x_En CL l s0 a0 D cA sp) (v1 : Int32) {σ : xS} {r : Unit} {σ1 : xS} (h : f_Mo_readsRule_60 v1 σ = some (r, σ1)) : zC l s0 D cA sp 6 M_Mo_readsRule [.ref 60, .int v1] σ none σ1 := by
  unfold f_Mo_readsRule_60 at h
  try dsimp only at h
  refine x_enter [some (.ref 60), some (.int v1)] rfl (Nat.le_of_ble_eq_true rfl) (by decide +kernel) rfl ?_
  refine x_iload_n 1 rfl 1 dX9_readsRule_0 rfl rfl ?_
  refine x_bipush 3 rfl (v := 18) dX9_readsRule_1 (by decide) ?_
  refine x_icmp_ne 6 rfl 63 dX9_readsRule_3 (by decide) (fun hc => ?_) (fun hc => ?_)
  · replace h := x_ifF hc h
    refine x_aload_n 64 rfl 0 dX9_readsRule_63 rfl rfl ?_
    refine x_iload_n 65 rfl 1 dX9_readsRule_64 rfl rfl ?_
    obtain ⟨⟨q8r, q8s⟩, q8h, h⟩ := x_bind h
    try dsimp only at h
    refine z_callV E [.int _] [] dX9_readsRule_65 K_RX9_287 ⟨Nat.le_of_ble_eq_true rfl, Nat.le_of_ble_eq_true rfl⟩ sh_60 (by decide) rfl (c_Mo_once_60 E _ q8h) rfl rfl (Nat.le_of_ble_eq_true rfl) 68 rfl [.int _] rfl ?_
    refine x_if_eq 71 rfl 111 dX9_readsRule_68 (by decide) (fun hc => ?_) (fun hc => ?_)
    · replace h := x_ifT hc h
      cases h
      exact x_vret dX9_readsRule_111 rfl rfl rfl
    · replace h := x_ifF hc h
      refine x_iload_n 72 rfl 1 dX9_readsRule_71 rfl rfl ?_
      refine x_iconst 73 rfl (v := 2) dX9_readsRule_72 (by decide) ?_
      refine x_icmp_ne 76 rfl 87 dX9_readsRule_73 (by decide) (fun hc => ?_) (fun hc => ?_)
      · replace h := x_ifF hc h
        refine x_aload_n 88 rfl 0 dX9_readsRule_87 rfl rfl ?_
        refine x_aload_n 89 rfl 0 dX9_readsRule_88 rfl rfl ?_
        refine x_getI E dX9_readsRule_89 F_RX9_205 sh_60 92 rfl ?_
        refine x_putI E dX9_readsRule_92 F_RX9_293 sh_60 95 rfl ?_
        exact x_wk (x_le_s (x_le_s x_le_0)) (j_Mo_readsRule_60_J95 E _ _ h)
      · replace h := x_ifT hc h
        refine x_aload_n 77 rfl 0 dX9_readsRule_76 rfl rfl ?_
        refine x_aload_n 78 rfl 0 dX9_readsRule_77 rfl rfl ?_
        refine x_getI E dX9_readsRule_78 F_RX9_205 sh_60 81 rfl ?_
        refine x_putI E dX9_readsRule_81 F_RX9_290 sh_60 84 rfl ?_
        refine x_goto 95 dX9_readsRule_84 (by decide) ?_
        exact x_wk (x_le_s (x_le_s x_le_0)) (j_Mo_readsRule_60_J95 E _ _ h)
  · replace h := x_ifT hc h
    refine x_aload_n 7 rfl 0 dX9_readsRule_6 rfl rfl ?_
    refine x_getI E dX9_readsRule_7 F_RX9_280 sh_60 10 rfl ?_
    refine x_iconst 11 rfl (v := 4) dX9_readsRule_10 (by decide) ?_
    refine x_icmp_ne 14 rfl 19 dX9_readsRule_11 (by decide) (fun hc => ?_) (fun hc => ?_)
    · replace h := x_ifF hc h
      exact x_wk (x_le_s (x_le_n x_le_0)) (j_Mo_readsRule_60_J19 E  _ h)
    · replace h := x_ifT hc h
      refine x_aload_n 15 rfl 0 dX9_readsRule_14 rfl rfl ?_
      refine x_iconst 16 rfl (v := 2) dX9_readsRule_15 (by decide) ?_
      obtain ⟨⟨q11r, q11s⟩, q11h, h⟩ := x_bind h
      try dsimp only at h
      refine z_callV E [.int _] [] dX9_readsRule_16 K_RX9_198 ⟨Nat.le_of_ble_eq_true rfl, Nat.le_of_ble_eq_true rfl⟩ sh_60 (by decide) rfl (c_Mo_wrong_60 E _ q11h) rfl rfl (Nat.le_of_ble_eq_true rfl) 19 rfl [] rfl ?_
      exact x_wk (x_le_s (x_le_n x_le_0)) (j_Mo_readsRule_60_J19 E  _ h)
theorem K_RX9_296 : x_KV RX9 296 M_Mo_readsMove 1 := ⟨⟨(List.mem_append_right _ (List.mem_of_getElem? (i := 1552) (by decide +kernel))), (List.mem_append_right _ (List.mem_of_getElem? (i := 1555) (by decide +kernel))), (List.mem_append_right _ (List.mem_of_getElem? (i := 9) (by decide +kernel))), ⟨by decide +kernel, by decide +kernel⟩, by decide +kernel⟩, (List.mem_append_right _ (List.mem_of_getElem? (i := 1554) (by decide +kernel))), (List.mem_append_left _ (List.mem_of_getElem? (i := 61) (by decide +kernel)))⟩
theorem K_RX9_299 : x_KV RX9 299 M_Mo_readsChange 1 := ⟨⟨(List.mem_append_right _ (List.mem_of_getElem? (i := 1556) (by decide +kernel))), (List.mem_append_right _ (List.mem_of_getElem? (i := 1559) (by decide +kernel))), (List.mem_append_right _ (List.mem_of_getElem? (i := 9) (by decide +kernel))), ⟨by decide +kernel, by decide +kernel⟩, by decide +kernel⟩, (List.mem_append_right _ (List.mem_of_getElem? (i := 1558) (by decide +kernel))), (List.mem_append_left _ (List.mem_of_getElem? (i := 62) (by decide +kernel)))⟩
theorem K_RX9_302 : x_KV RX9 302 M_Mo_readsMark 0 := ⟨⟨(List.mem_append_right _ (List.mem_of_getElem? (i := 1560) (by decide +kernel))), (List.mem_append_right _ (List.mem_of_getElem? (i := 1563) (by decide +kernel))), (List.mem_append_right _ (List.mem_of_getElem? (i := 9) (by decide +kernel))), ⟨by decide +kernel, by decide +kernel⟩, by decide +kernel⟩, (List.mem_append_right _ (List.mem_of_getElem? (i := 1562) (by decide +kernel))), (List.mem_append_left _ (List.mem_of_getElem? (i := 63) (by decide +kernel)))⟩
theorem K_RX9_305 : x_KV RX9 305 M_Mo_readsRule 1 := ⟨⟨(List.mem_append_right _ (List.mem_of_getElem? (i := 1564) (by decide +kernel))), (List.mem_append_right _ (List.mem_of_getElem? (i := 1567) (by decide +kernel))), (List.mem_append_right _ (List.mem_of_getElem? (i := 9) (by decide +kernel))), ⟨by decide +kernel, by decide +kernel⟩, by decide +kernel⟩, (List.mem_append_right _ (List.mem_of_getElem? (i := 1566) (by decide +kernel))), (List.mem_append_left _ (List.mem_of_getElem? (i := 64) (by decide +kernel)))⟩
theorem K_RX9_308 : x_KV RX9 308 M_Mo_need 1 := ⟨⟨(List.mem_append_right _ (List.mem_of_getElem? (i := 1544) (by decide +kernel))), (List.mem_append_right _ (List.mem_of_getElem? (i := 1547) (by decide +kernel))), (List.mem_append_right _ (List.mem_of_getElem? (i := 9) (by decide +kernel))), ⟨by decide +kernel, by decide +kernel⟩, by decide +kernel⟩, (List.mem_append_right _ (List.mem_of_getElem? (i := 1546) (by decide +kernel))), (List.mem_append_left _ (List.mem_of_getElem? (i := 59) (by decide +kernel)))⟩
abbrev M_Mo_line : xM := (yX9_line, cX9_line, 4, none, [])
theorem dX9_line_0 : decode cX9_line 0 = .ok (.aload_n 0, 1) := by decide +kernel
theorem dX9_line_1 : decode cX9_line 1 = .ok (.invokevirtual 220, 3) := by decide +kernel
theorem dX9_line_4 : decode cX9_line 4 = .ok (.istore_n 1, 1) := by decide +kernel
theorem dX9_line_5 : decode cX9_line 5 = .ok (.iload_n 1, 1) := by decide +kernel
theorem dX9_line_6 : decode cX9_line 6 = .ok (.bipush 9, 2) := by decide +kernel
theorem dX9_line_8 : decode cX9_line 8 = .ok (.if_icmp .eq 9, 3) := by decide +kernel
theorem dX9_line_11 : decode cX9_line 11 = .ok (.iload_n 1, 1) := by decide +kernel
theorem dX9_line_12 : decode cX9_line 12 = .ok (.bipush 10, 2) := by decide +kernel
theorem dX9_line_14 : decode cX9_line 14 = .ok (.if_icmp .ne 21, 3) := by decide +kernel
theorem dX9_line_17 : decode cX9_line 17 = .ok (.aload_n 0, 1) := by decide +kernel
theorem dX9_line_18 : decode cX9_line 18 = .ok (.iload_n 1, 1) := by decide +kernel
theorem dX9_line_19 : decode cX9_line 19 = .ok (.bipush 10, 2) := by decide +kernel
theorem dX9_line_21 : decode cX9_line 21 = .ok (.if_icmp .ne 7, 3) := by decide +kernel
theorem dX9_line_24 : decode cX9_line 24 = .ok (.iconst 1, 1) := by decide +kernel
theorem dX9_line_25 : decode cX9_line 25 = .ok (.goto 4, 3) := by decide +kernel
theorem dX9_line_28 : decode cX9_line 28 = .ok (.iconst 0, 1) := by decide +kernel
theorem dX9_line_29 : decode cX9_line 29 = .ok (.invokevirtual 296, 3) := by decide +kernel
theorem dX9_line_32 : decode cX9_line 32 = .ok (.goto 254, 3) := by decide +kernel
theorem dX9_line_35 : decode cX9_line 35 = .ok (.iload_n 1, 1) := by decide +kernel
theorem dX9_line_36 : decode cX9_line 36 = .ok (.bipush 12, 2) := by decide +kernel
theorem dX9_line_38 : decode cX9_line 38 = .ok (.if_icmp .eq 9, 3) := by decide +kernel
theorem dX9_line_41 : decode cX9_line 41 = .ok (.iload_n 1, 1) := by decide +kernel
theorem dX9_line_42 : decode cX9_line 42 = .ok (.bipush 13, 2) := by decide +kernel
theorem dX9_line_44 : decode cX9_line 44 = .ok (.if_icmp .ne 21, 3) := by decide +kernel
theorem dX9_line_47 : decode cX9_line 47 = .ok (.aload_n 0, 1) := by decide +kernel
theorem dX9_line_48 : decode cX9_line 48 = .ok (.iload_n 1, 1) := by decide +kernel
theorem dX9_line_49 : decode cX9_line 49 = .ok (.bipush 12, 2) := by decide +kernel
theorem dX9_line_51 : decode cX9_line 51 = .ok (.if_icmp .ne 7, 3) := by decide +kernel
theorem dX9_line_54 : decode cX9_line 54 = .ok (.iconst 1, 1) := by decide +kernel
theorem dX9_line_55 : decode cX9_line 55 = .ok (.goto 4, 3) := by decide +kernel
theorem dX9_line_58 : decode cX9_line 58 = .ok (.iconst 0, 1) := by decide +kernel
theorem dX9_line_59 : decode cX9_line 59 = .ok (.invokevirtual 299, 3) := by decide +kernel
theorem dX9_line_62 : decode cX9_line 62 = .ok (.goto 224, 3) := by decide +kernel
theorem dX9_line_65 : decode cX9_line 65 = .ok (.iload_n 1, 1) := by decide +kernel
theorem dX9_line_66 : decode cX9_line 66 = .ok (.iconst 4, 1) := by decide +kernel
theorem dX9_line_67 : decode cX9_line 67 = .ok (.if_icmp .ne 10, 3) := by decide +kernel
theorem dX9_line_70 : decode cX9_line 70 = .ok (.aload_n 0, 1) := by decide +kernel
theorem dX9_line_71 : decode cX9_line 71 = .ok (.invokevirtual 302, 3) := by decide +kernel
theorem dX9_line_74 : decode cX9_line 74 = .ok (.goto 212, 3) := by decide +kernel
theorem dX9_line_77 : decode cX9_line 77 = .ok (.iload_n 1, 1) := by decide +kernel
theorem dX9_line_78 : decode cX9_line 78 = .ok (.iconst 2, 1) := by decide +kernel
theorem dX9_line_79 : decode cX9_line 79 = .ok (.if_icmp .eq 15, 3) := by decide +kernel
theorem dX9_line_82 : decode cX9_line 82 = .ok (.iload_n 1, 1) := by decide +kernel
theorem dX9_line_83 : decode cX9_line 83 = .ok (.bipush 17, 2) := by decide +kernel
theorem dX9_line_85 : decode cX9_line 85 = .ok (.if_icmp .eq 9, 3) := by decide +kernel
theorem dX9_line_88 : decode cX9_line 88 = .ok (.iload_n 1, 1) := by decide +kernel
theorem dX9_line_89 : decode cX9_line 89 = .ok (.bipush 18, 2) := by decide +kernel
theorem dX9_line_91 : decode cX9_line 91 = .ok (.if_icmp .ne 11, 3) := by decide +kernel
theorem dX9_line_94 : decode cX9_line 94 = .ok (.aload_n 0, 1) := by decide +kernel
theorem dX9_line_95 : decode cX9_line 95 = .ok (.iload_n 1, 1) := by decide +kernel
theorem dX9_line_96 : decode cX9_line 96 = .ok (.invokevirtual 305, 3) := by decide +kernel
theorem dX9_line_99 : decode cX9_line 99 = .ok (.goto 187, 3) := by decide +kernel
theorem dX9_line_102 : decode cX9_line 102 = .ok (.iload_n 1, 1) := by decide +kernel
theorem dX9_line_103 : decode cX9_line 103 = .ok (.bipush 11, 2) := by decide +kernel
theorem dX9_line_105 : decode cX9_line 105 = .ok (.if_icmp .ne 28, 3) := by decide +kernel
theorem dX9_line_108 : decode cX9_line 108 = .ok (.aload_n 0, 1) := by decide +kernel
theorem dX9_line_109 : decode cX9_line 109 = .ok (.iload_n 1, 1) := by decide +kernel
theorem dX9_line_110 : decode cX9_line 110 = .ok (.invokevirtual 287, 3) := by decide +kernel
theorem dX9_line_113 : decode cX9_line 113 = .ok (.ifCond .eq 173, 3) := by decide +kernel
theorem dX9_line_116 : decode cX9_line 116 = .ok (.aload_n 0, 1) := by decide +kernel
theorem dX9_line_117 : decode cX9_line 117 = .ok (.getfield 62, 3) := by decide +kernel
theorem dX9_line_120 : decode cX9_line 120 = .ok (.iconst 4, 1) := by decide +kernel
theorem dX9_line_121 : decode cX9_line 121 = .ok (.aload_n 0, 1) := by decide +kernel
theorem dX9_line_122 : decode cX9_line 122 = .ok (.iconst 0, 1) := by decide +kernel
theorem dX9_line_123 : decode cX9_line 123 = .ok (.sipush 200, 3) := by decide +kernel
theorem dX9_line_126 : decode cX9_line 126 = .ok (.invokevirtual 267, 3) := by decide +kernel
theorem dX9_line_129 : decode cX9_line 129 = .ok (.iastore, 1) := by decide +kernel
theorem dX9_line_130 : decode cX9_line 130 = .ok (.goto 156, 3) := by decide +kernel
theorem dX9_line_133 : decode cX9_line 133 = .ok (.iload_n 1, 1) := by decide +kernel
theorem dX9_line_134 : decode cX9_line 134 = .ok (.bipush 7, 2) := by decide +kernel
theorem dX9_line_136 : decode cX9_line 136 = .ok (.if_icmp .ne 27, 3) := by decide +kernel
theorem dX9_line_139 : decode cX9_line 139 = .ok (.aload_n 0, 1) := by decide +kernel
theorem dX9_line_140 : decode cX9_line 140 = .ok (.iload_n 1, 1) := by decide +kernel
theorem dX9_line_141 : decode cX9_line 141 = .ok (.invokevirtual 287, 3) := by decide +kernel
theorem dX9_line_144 : decode cX9_line 144 = .ok (.ifCond .eq 142, 3) := by decide +kernel
theorem dX9_line_147 : decode cX9_line 147 = .ok (.aload_n 0, 1) := by decide +kernel
theorem dX9_line_148 : decode cX9_line 148 = .ok (.getfield 62, 3) := by decide +kernel
theorem dX9_line_151 : decode cX9_line 151 = .ok (.iconst 0, 1) := by decide +kernel
theorem dX9_line_152 : decode cX9_line 152 = .ok (.aload_n 0, 1) := by decide +kernel
theorem dX9_line_153 : decode cX9_line 153 = .ok (.iconst 1, 1) := by decide +kernel
theorem dX9_line_154 : decode cX9_line 154 = .ok (.bipush 60, 2) := by decide +kernel
theorem dX9_line_156 : decode cX9_line 156 = .ok (.invokevirtual 267, 3) := by decide +kernel
theorem dX9_line_159 : decode cX9_line 159 = .ok (.iastore, 1) := by decide +kernel
theorem dX9_line_160 : decode cX9_line 160 = .ok (.goto 126, 3) := by decide +kernel
theorem dX9_line_163 : decode cX9_line 163 = .ok (.iload_n 1, 1) := by decide +kernel
theorem dX9_line_164 : decode cX9_line 164 = .ok (.bipush 14, 2) := by decide +kernel
theorem dX9_line_166 : decode cX9_line 166 = .ok (.if_icmp .ne 27, 3) := by decide +kernel
theorem dX9_line_169 : decode cX9_line 169 = .ok (.aload_n 0, 1) := by decide +kernel
theorem dX9_line_170 : decode cX9_line 170 = .ok (.iload_n 1, 1) := by decide +kernel
theorem dX9_line_171 : decode cX9_line 171 = .ok (.invokevirtual 287, 3) := by decide +kernel
theorem dX9_line_174 : decode cX9_line 174 = .ok (.ifCond .eq 112, 3) := by decide +kernel
theorem dX9_line_177 : decode cX9_line 177 = .ok (.aload_n 0, 1) := by decide +kernel
theorem dX9_line_178 : decode cX9_line 178 = .ok (.getfield 62, 3) := by decide +kernel
theorem dX9_line_181 : decode cX9_line 181 = .ok (.iconst 1, 1) := by decide +kernel
theorem dX9_line_182 : decode cX9_line 182 = .ok (.aload_n 0, 1) := by decide +kernel
theorem dX9_line_183 : decode cX9_line 183 = .ok (.iconst 0, 1) := by decide +kernel
theorem dX9_line_184 : decode cX9_line 184 = .ok (.bipush 24, 2) := by decide +kernel
theorem dX9_line_186 : decode cX9_line 186 = .ok (.invokevirtual 267, 3) := by decide +kernel
theorem dX9_line_189 : decode cX9_line 189 = .ok (.iastore, 1) := by decide +kernel
theorem dX9_line_190 : decode cX9_line 190 = .ok (.goto 96, 3) := by decide +kernel
theorem dX9_line_193 : decode cX9_line 193 = .ok (.iload_n 1, 1) := by decide +kernel
theorem dX9_line_194 : decode cX9_line 194 = .ok (.bipush 15, 2) := by decide +kernel
theorem dX9_line_196 : decode cX9_line 196 = .ok (.if_icmp .ne 27, 3) := by decide +kernel
theorem dX9_line_199 : decode cX9_line 199 = .ok (.aload_n 0, 1) := by decide +kernel
theorem dX9_line_200 : decode cX9_line 200 = .ok (.iload_n 1, 1) := by decide +kernel
theorem dX9_line_201 : decode cX9_line 201 = .ok (.invokevirtual 287, 3) := by decide +kernel
theorem dX9_line_204 : decode cX9_line 204 = .ok (.ifCond .eq 82, 3) := by decide +kernel
theorem dX9_line_207 : decode cX9_line 207 = .ok (.aload_n 0, 1) := by decide +kernel
theorem dX9_line_208 : decode cX9_line 208 = .ok (.getfield 62, 3) := by decide +kernel
theorem dX9_line_211 : decode cX9_line 211 = .ok (.iconst 2, 1) := by decide +kernel
theorem dX9_line_212 : decode cX9_line 212 = .ok (.aload_n 0, 1) := by decide +kernel
theorem dX9_line_213 : decode cX9_line 213 = .ok (.iconst 1, 1) := by decide +kernel
theorem dX9_line_214 : decode cX9_line 214 = .ok (.bipush 90, 2) := by decide +kernel
theorem dX9_line_216 : decode cX9_line 216 = .ok (.invokevirtual 267, 3) := by decide +kernel
theorem dX9_line_219 : decode cX9_line 219 = .ok (.iastore, 1) := by decide +kernel
theorem dX9_line_220 : decode cX9_line 220 = .ok (.goto 66, 3) := by decide +kernel
theorem dX9_line_223 : decode cX9_line 223 = .ok (.iload_n 1, 1) := by decide +kernel
theorem dX9_line_224 : decode cX9_line 224 = .ok (.bipush 16, 2) := by decide +kernel
theorem dX9_line_226 : decode cX9_line 226 = .ok (.if_icmp .ne 55, 3) := by decide +kernel
theorem dX9_line_229 : decode cX9_line 229 = .ok (.aload_n 0, 1) := by decide +kernel
theorem dX9_line_230 : decode cX9_line 230 = .ok (.iload_n 1, 1) := by decide +kernel
theorem dX9_line_231 : decode cX9_line 231 = .ok (.invokevirtual 287, 3) := by decide +kernel
theorem dX9_line_234 : decode cX9_line 234 = .ok (.ifCond .ne 4, 3) := by decide +kernel
theorem dX9_line_237 : decode cX9_line 237 = .ok (.return_, 1) := by decide +kernel
theorem dX9_line_238 : decode cX9_line 238 = .ok (.aload_n 0, 1) := by decide +kernel
theorem dX9_line_239 : decode cX9_line 239 = .ok (.bipush 45, 2) := by decide +kernel
theorem dX9_line_241 : decode cX9_line 241 = .ok (.invokevirtual 233, 3) := by decide +kernel
theorem dX9_line_244 : decode cX9_line 244 = .ok (.istore_n 2, 1) := by decide +kernel
theorem dX9_line_245 : decode cX9_line 245 = .ok (.iload_n 2, 1) := by decide +kernel
theorem dX9_line_246 : decode cX9_line 246 = .ok (.ifCond .eq 7, 3) := by decide +kernel
theorem dX9_line_249 : decode cX9_line 249 = .ok (.aload_n 0, 1) := by decide +kernel
theorem dX9_line_250 : decode cX9_line 250 = .ok (.invokevirtual 195, 3) := by decide +kernel
theorem dX9_line_253 : decode cX9_line 253 = .ok (.aload_n 0, 1) := by decide +kernel
theorem dX9_line_254 : decode cX9_line 254 = .ok (.iconst 0, 1) := by decide +kernel
theorem dX9_line_255 : decode cX9_line 255 = .ok (.bipush 30, 2) := by decide +kernel
theorem dX9_line_257 : decode cX9_line 257 = .ok (.invokevirtual 267, 3) := by decide +kernel
theorem dX9_line_260 : decode cX9_line 260 = .ok (.istore_n 3, 1) := by decide +kernel
theorem dX9_line_261 : decode cX9_line 261 = .ok (.aload_n 0, 1) := by decide +kernel
theorem dX9_line_262 : decode cX9_line 262 = .ok (.getfield 62, 3) := by decide +kernel
theorem dX9_line_265 : decode cX9_line 265 = .ok (.iconst 3, 1) := by decide +kernel
theorem dX9_line_266 : decode cX9_line 266 = .ok (.iload_n 2, 1) := by decide +kernel
theorem dX9_line_267 : decode cX9_line 267 = .ok (.ifCond .eq 9, 3) := by decide +kernel
theorem dX9_line_270 : decode cX9_line 270 = .ok (.iconst 0, 1) := by decide +kernel
theorem dX9_line_271 : decode cX9_line 271 = .ok (.iload_n 3, 1) := by decide +kernel
theorem dX9_line_272 : decode cX9_line 272 = .ok (.isub, 1) := by decide +kernel
theorem dX9_line_273 : decode cX9_line 273 = .ok (.goto 4, 3) := by decide +kernel
theorem dX9_line_276 : decode cX9_line 276 = .ok (.iload_n 3, 1) := by decide +kernel
theorem dX9_line_277 : decode cX9_line 277 = .ok (.iastore, 1) := by decide +kernel
theorem dX9_line_278 : decode cX9_line 278 = .ok (.goto 8, 3) := by decide +kernel
theorem dX9_line_281 : decode cX9_line 281 = .ok (.aload_n 0, 1) := by decide +kernel
theorem dX9_line_282 : decode cX9_line 282 = .ok (.iconst 1, 1) := by decide +kernel
theorem dX9_line_283 : decode cX9_line 283 = .ok (.invokevirtual 198, 3) := by decide +kernel
theorem dX9_line_286 : decode cX9_line 286 = .ok (.aload_n 0, 1) := by decide +kernel
theorem dX9_line_287 : decode cX9_line 287 = .ok (.aload_n 0, 1) := by decide +kernel
theorem dX9_line_288 : decode cX9_line 288 = .ok (.bipush 59, 2) := by decide +kernel
theorem dX9_line_290 : decode cX9_line 290 = .ok (.invokevirtual 233, 3) := by decide +kernel
theorem dX9_line_293 : decode cX9_line 293 = .ok (.invokevirtual 308, 3) := by decide +kernel
theorem dX9_line_296 : decode cX9_line 296 = .ok (.return_, 1) := by decide +kernel
def f_Mo_line_60_J253 (v2 : Int32) (σ : xS) : Option (Unit × xS) :=
  (f_Mo_number_60 (0 : Int32) (30 : Int32) σ).bind fun q1 =>
  let w2 := q1.1
  if v2 = 0 then
    let σ3 := x_pI q1.2 74 3 w2
    (f_Mo_isSign_60 (59 : Int32) σ3).bind fun q4 =>
    (f_Mo_need_60 q4.1 q4.2).bind fun q5 =>
    some ((), q5.2)
  else
    let σ6 := x_pI q1.2 74 3 ((0 : Int32) - w2)
    (f_Mo_isSign_60 (59 : Int32) σ6).bind fun q7 =>
    (f_Mo_need_60 q7.1 q7.2).bind fun q8 =>
    some ((), q8.2)
def f_Mo_line_60_J47 (v1 : Int32) (σ : xS) : Option (Unit × xS) :=
  if v1 = (12 : Int32) then
    (f_Mo_readsChange_60 (1 : Int32) σ).bind fun q12 =>
    (f_Mo_isSign_60 (59 : Int32) q12.2).bind fun q13 =>
    (f_Mo_need_60 q13.1 q13.2).bind fun q14 =>
    some ((), q14.2)
  else
    (f_Mo_readsChange_60 (0 : Int32) σ).bind fun q9 =>
    (f_Mo_isSign_60 (59 : Int32) q9.2).bind fun q10 =>
    (f_Mo_need_60 q10.1 q10.2).bind fun q11 =>
    some ((), q11.2)
def f_Mo_line_60_J17 (v1 : Int32) (σ : xS) : Option (Unit × xS) :=
  if v1 = (10 : Int32) then
    (f_Mo_readsMove_60 (1 : Int32) σ).bind fun q18 =>
    (f_Mo_isSign_60 (59 : Int32) q18.2).bind fun q19 =>
    (f_Mo_need_60 q19.1 q19.2).bind fun q20 =>
    some ((), q20.2)
  else
    (f_Mo_readsMove_60 (0 : Int32) σ).bind fun q15 =>
    (f_Mo_isSign_60 (59 : Int32) q15.2).bind fun q16 =>
    (f_Mo_need_60 q16.1 q16.2).bind fun q17 =>
    some ((), q17.2)
def f_Mo_line_60  (σ : xS) : Option (Unit × xS) :=
  (f_Mo_knownWord_60  σ).bind fun q21 =>
  let w22 := q21.1
  if w22 = (9 : Int32) then
    f_Mo_line_60_J17 w22 q21.2
  else
    if w22 = (10 : Int32) then
      f_Mo_line_60_J17 w22 q21.2
    else
      if w22 = (12 : Int32) then
        f_Mo_line_60_J47 w22 q21.2
      else
        if w22 = (13 : Int32) then
          f_Mo_line_60_J47 w22 q21.2
        else
          if w22 = (4 : Int32) then
            (f_Mo_readsMark_60  q21.2).bind fun q67 =>
            (f_Mo_isSign_60 (59 : Int32) q67.2).bind fun q68 =>
            (f_Mo_need_60 q68.1 q68.2).bind fun q69 =>
            some ((), q69.2)
          else
            if w22 = (2 : Int32) then
              (f_Mo_readsRule_60 w22 q21.2).bind fun q23 =>
              (f_Mo_isSign_60 (59 : Int32) q23.2).bind fun q24 =>
              (f_Mo_need_60 q24.1 q24.2).bind fun q25 =>
              some ((), q25.2)
            else
              if w22 = (17 : Int32) then
                (f_Mo_readsRule_60 w22 q21.2).bind fun q26 =>
                (f_Mo_isSign_60 (59 : Int32) q26.2).bind fun q27 =>
                (f_Mo_need_60 q27.1 q27.2).bind fun q28 =>
                some ((), q28.2)
              else
                if w22 = (18 : Int32) then
                  (f_Mo_readsRule_60 w22 q21.2).bind fun q64 =>
                  (f_Mo_isSign_60 (59 : Int32) q64.2).bind fun q65 =>
                  (f_Mo_need_60 q65.1 q65.2).bind fun q66 =>
                  some ((), q66.2)
                else
                  if w22 = (11 : Int32) then
                    (f_Mo_once_60 w22 q21.2).bind fun q57 =>
                    if q57.1 = 0 then
                      (f_Mo_isSign_60 (59 : Int32) q57.2).bind fun q58 =>
                      (f_Mo_need_60 q58.1 q58.2).bind fun q59 =>
                      some ((), q59.2)
                    else
                      (f_Mo_number_60 (0 : Int32) (200 : Int32) q57.2).bind fun q60 =>
                      let σ61 := x_pI q60.2 74 4 q60.1
                      (f_Mo_isSign_60 (59 : Int32) σ61).bind fun q62 =>
                      (f_Mo_need_60 q62.1 q62.2).bind fun q63 =>
                      some ((), q63.2)
                  else
                    if w22 = (7 : Int32) then
                      (f_Mo_once_60 w22 q21.2).bind fun q50 =>
                      if q50.1 = 0 then
                        (f_Mo_isSign_60 (59 : Int32) q50.2).bind fun q51 =>
                        (f_Mo_need_60 q51.1 q51.2).bind fun q52 =>
                        some ((), q52.2)
                      else
                        (f_Mo_number_60 (1 : Int32) (60 : Int32) q50.2).bind fun q53 =>
                        let σ54 := x_pI q53.2 74 0 q53.1
                        (f_Mo_isSign_60 (59 : Int32) σ54).bind fun q55 =>
                        (f_Mo_need_60 q55.1 q55.2).bind fun q56 =>
                        some ((), q56.2)
                    else
                      if w22 = (14 : Int32) then
                        (f_Mo_once_60 w22 q21.2).bind fun q43 =>
                        if q43.1 = 0 then
                          (f_Mo_isSign_60 (59 : Int32) q43.2).bind fun q44 =>
                          (f_Mo_need_60 q44.1 q44.2).bind fun q45 =>
                          some ((), q45.2)
                        else
                          (f_Mo_number_60 (0 : Int32) (24 : Int32) q43.2).bind fun q46 =>
                          let σ47 := x_pI q46.2 74 1 q46.1
                          (f_Mo_isSign_60 (59 : Int32) σ47).bind fun q48 =>
                          (f_Mo_need_60 q48.1 q48.2).bind fun q49 =>
                          some ((), q49.2)
                      else
                        if w22 = (15 : Int32) then
                          (f_Mo_once_60 w22 q21.2).bind fun q36 =>
                          if q36.1 = 0 then
                            (f_Mo_isSign_60 (59 : Int32) q36.2).bind fun q37 =>
                            (f_Mo_need_60 q37.1 q37.2).bind fun q38 =>
                            some ((), q38.2)
                          else
                            (f_Mo_number_60 (1 : Int32) (90 : Int32) q36.2).bind fun q39 =>
                            let σ40 := x_pI q39.2 74 2 q39.1
                            (f_Mo_isSign_60 (59 : Int32) σ40).bind fun q41 =>
                            (f_Mo_need_60 q41.1 q41.2).bind fun q42 =>
                            some ((), q42.2)
                        else
                          if w22 = (16 : Int32) then
                            (f_Mo_once_60 w22 q21.2).bind fun q32 =>
                            if q32.1 = 0 then
                              some ((), q32.2)
                            else
                              (f_Mo_isSign_60 (45 : Int32) q32.2).bind fun q33 =>
                              let w34 := q33.1
                              if w34 = 0 then
                                f_Mo_line_60_J253 w34 q33.2
                              else
                                (f_Mo_goes_60  q33.2).bind fun q35 =>
                                f_Mo_line_60_J253 w34 q35.2
                          else
                            (f_Mo_wrong_60 (1 : Int32) q21.2).bind fun q29 =>
                            (f_Mo_isSign_60 (59 : Int32) q29.2).bind fun q30 =>
                            (f_Mo_need_60 q30.1 q30.2).bind fun q31 =>
                            some ((), q31.2)
set_option maxHeartbeats 4000000 in
set_option maxRecDepth 100000 in
theorem j_Mo_line_60_J253 {l : Launch} {s0 : State} {a0 : Array Value} {D : va_G} {cA : Nat → ClassId} {sp : Nat → Nat} (E : x_En CL l s0 a0 D cA sp) (v2 : Int32) (σ : xS) {r : Unit} {σ1 : xS} (h : f_Mo_line_60_J253 v2 σ = some (r, σ1)) : zW l s0 D cA sp (zQ s0 D cA sp none σ1) (x_rm 7 0 0) M_Mo_line 0 0 253 [some (.ref 60), none, some (.int v2), none] [] σ := by
  unfold f_Mo_line_60_J253 at h
  try dsimp only at h
  refine x_aload_n 254 rfl 0 dX9_line_253 rfl rfl ?_
  refine x_iconst 255 rfl (v := 0) dX9_line_254 (by decide) ?_
  refine x_bipush 257 rfl (v := 30) dX9_line_255 (by decide) ?_
  obtain ⟨⟨q1r, q1s⟩, q1h, h⟩ := x_bind h
  try dsimp only at h
  refine z_callV E [.int _, .int _] [] dX9_line_257 K_RX9_267 ⟨Nat.le_of_ble_eq_true rfl, Nat.le_of_ble_eq_true rfl⟩ sh_60 (by decide) rfl (c_Mo_number_60 E _ _ q1h) rfl rfl (Nat.le_of_ble_eq_true rfl) 260 rfl [.int _] rfl ?_
  refine x_istore_n 261 rfl 3 dX9_line_260 rfl (by decide) [some (.ref 60), none, some (.int _), some (.int _)] rfl ?_
  refine x_aload_n 262 rfl 0 dX9_line_261 rfl rfl ?_
  refine x_getR E dX9_line_262 F_RX9_62 sh_60 rf_60_48 265 rfl ?_
  refine x_iconst 266 rfl (v := 3) dX9_line_265 (by decide) ?_
  refine x_iload_n 267 rfl 2 dX9_line_266 rfl rfl ?_
  refine x_if_eq 270 rfl 276 dX9_line_267 (by decide) (fun hc => ?_) (fun hc => ?_)
  · replace h := x_ifT hc h
    refine x_iload_n 277 rfl 3 dX9_line_276 rfl rfl ?_
    refine x_iast E dX9_line_277 sh_74 3 (by decide) (by decide) 278 rfl ?_
    refine x_goto 286 dX9_line_278 (by decide) ?_
    refine x_aload_n 287 rfl 0 dX9_line_286 rfl rfl ?_
    refine x_aload_n 288 rfl 0 dX9_line_287 rfl rfl ?_
    refine x_bipush 290 rfl (v := 59) dX9_line_288 (by decide) ?_
    obtain ⟨⟨q4r, q4s⟩, q4h, h⟩ := x_bind h
    try dsimp only at h
    refine z_callV E [.int _] [.ref 60] dX9_line_290 K_RX9_233 ⟨Nat.le_of_ble_eq_true rfl, Nat.le_of_ble_eq_true rfl⟩ sh_60 (by decide) rfl (c_Mo_isSign_60 E _ q4h) rfl rfl (Nat.le_of_ble_eq_true rfl) 293 rfl [.int _, .ref 60] rfl ?_
    obtain ⟨⟨q5r, q5s⟩, q5h, h⟩ := x_bind h
    try dsimp only at h
    refine z_callV E [.int _] [] dX9_line_293 K_RX9_308 ⟨Nat.le_of_ble_eq_true rfl, Nat.le_of_ble_eq_true rfl⟩ sh_60 (by decide) rfl (c_Mo_need_60 E _ q5h) rfl rfl (Nat.le_of_ble_eq_true rfl) 296 rfl [] rfl ?_
    cases h
    exact x_vret dX9_line_296 rfl rfl rfl
  · replace h := x_ifF hc h
    refine x_iconst 271 rfl (v := 0) dX9_line_270 (by decide) ?_
    refine x_iload_n 272 rfl 3 dX9_line_271 rfl rfl ?_
    refine x_isub 273 rfl dX9_line_272 ?_
    refine x_goto 277 dX9_line_273 (by decide) ?_
    refine x_iast E dX9_line_277 sh_74 3 (by decide) (by decide) 278 rfl ?_
    refine x_goto 286 dX9_line_278 (by decide) ?_
    refine x_aload_n 287 rfl 0 dX9_line_286 rfl rfl ?_
    refine x_aload_n 288 rfl 0 dX9_line_287 rfl rfl ?_
    refine x_bipush 290 rfl (v := 59) dX9_line_288 (by decide) ?_
    obtain ⟨⟨q7r, q7s⟩, q7h, h⟩ := x_bind h
    try dsimp only at h
    refine z_callV E [.int _] [.ref 60] dX9_line_290 K_RX9_233 ⟨Nat.le_of_ble_eq_true rfl, Nat.le_of_ble_eq_true rfl⟩ sh_60 (by decide) rfl (c_Mo_isSign_60 E _ q7h) rfl rfl (Nat.le_of_ble_eq_true rfl) 293 rfl [.int _, .ref 60] rfl ?_
    obtain ⟨⟨q8r, q8s⟩, q8h, h⟩ := x_bind h
    try dsimp only at h
    refine z_callV E [.int _] [] dX9_line_293 K_RX9_308 ⟨Nat.le_of_ble_eq_true rfl, Nat.le_of_ble_eq_true rfl⟩ sh_60 (by decide) rfl (c_Mo_need_60 E _ q8h) rfl rfl (Nat.le_of_ble_eq_true rfl) 296 rfl [] rfl ?_
    cases h
    exact x_vret dX9_line_296 rfl rfl rfl
set_option maxHeartbeats 4000000 in
set_option maxRecDepth 100000 in
theorem j_Mo_line_60_J47 {l : Launch} {s0 : State} {a0 : Array Value} {D : va_G} {cA : Nat → ClassId} {sp : Nat → Nat} (E : x_En CL l s0 a0 D cA sp) (v1 : Int32) (σ : xS) {r : Unit} {σ1 : xS} (h : f_Mo_line_60_J47 v1 σ = some (r, σ1)) : zW l s0 D cA sp (zQ s0 D cA sp none σ1) (x_rm 7 0 0) M_Mo_line 0 0 47 [some (.ref 60), some (.int v1), none, none] [] σ := by
  unfold f_Mo_line_60_J47 at h
  try dsimp only at h
  refine x_aload_n 48 rfl 0 dX9_line_47 rfl rfl ?_
  refine x_iload_n 49 rfl 1 dX9_line_48 rfl rfl ?_
  refine x_bipush 51 rfl (v := 12) dX9_line_49 (by decide) ?_
  refine x_icmp_ne 54 rfl 58 dX9_line_51 (by decide) (fun hc => ?_) (fun hc => ?_)
  · replace h := x_ifF hc h
    refine x_iconst 59 rfl (v := 0) dX9_line_58 (by decide) ?_
    obtain ⟨⟨q9r, q9s⟩, q9h, h⟩ := x_bind h
    try dsimp only at h
    refine z_callV E [.int _] [] dX9_line_59 K_RX9_299 ⟨Nat.le_of_ble_eq_true rfl, Nat.le_of_ble_eq_true rfl⟩ sh_60 (by decide) rfl (c_Mo_readsChange_60 E _ q9h) rfl rfl (Nat.le_of_ble_eq_true rfl) 62 rfl [] rfl ?_
    refine x_goto 286 dX9_line_62 (by decide) ?_
    refine x_aload_n 287 rfl 0 dX9_line_286 rfl rfl ?_
    refine x_aload_n 288 rfl 0 dX9_line_287 rfl rfl ?_
    refine x_bipush 290 rfl (v := 59) dX9_line_288 (by decide) ?_
    obtain ⟨⟨q10r, q10s⟩, q10h, h⟩ := x_bind h
    try dsimp only at h
    refine z_callV E [.int _] [.ref 60] dX9_line_290 K_RX9_233 ⟨Nat.le_of_ble_eq_true rfl, Nat.le_of_ble_eq_true rfl⟩ sh_60 (by decide) rfl (c_Mo_isSign_60 E _ q10h) rfl rfl (Nat.le_of_ble_eq_true rfl) 293 rfl [.int _, .ref 60] rfl ?_
    obtain ⟨⟨q11r, q11s⟩, q11h, h⟩ := x_bind h
    try dsimp only at h
    refine z_callV E [.int _] [] dX9_line_293 K_RX9_308 ⟨Nat.le_of_ble_eq_true rfl, Nat.le_of_ble_eq_true rfl⟩ sh_60 (by decide) rfl (c_Mo_need_60 E _ q11h) rfl rfl (Nat.le_of_ble_eq_true rfl) 296 rfl [] rfl ?_
    cases h
    exact x_vret dX9_line_296 rfl rfl rfl
  · replace h := x_ifT hc h
    refine x_iconst 55 rfl (v := 1) dX9_line_54 (by decide) ?_
    refine x_goto 59 dX9_line_55 (by decide) ?_
    obtain ⟨⟨q12r, q12s⟩, q12h, h⟩ := x_bind h
    try dsimp only at h
    refine z_callV E [.int _] [] dX9_line_59 K_RX9_299 ⟨Nat.le_of_ble_eq_true rfl, Nat.le_of_ble_eq_true rfl⟩ sh_60 (by decide) rfl (c_Mo_readsChange_60 E _ q12h) rfl rfl (Nat.le_of_ble_eq_true rfl) 62 rfl [] rfl ?_
    refine x_goto 286 dX9_line_62 (by decide) ?_
    refine x_aload_n 287 rfl 0 dX9_line_286 rfl rfl ?_
    refine x_aload_n 288 rfl 0 dX9_line_287 rfl rfl ?_
    refine x_bipush 290 rfl (v := 59) dX9_line_288 (by decide) ?_
    obtain ⟨⟨q13r, q13s⟩, q13h, h⟩ := x_bind h
    try dsimp only at h
    refine z_callV E [.int _] [.ref 60] dX9_line_290 K_RX9_233 ⟨Nat.le_of_ble_eq_true rfl, Nat.le_of_ble_eq_true rfl⟩ sh_60 (by decide) rfl (c_Mo_isSign_60 E _ q13h) rfl rfl (Nat.le_of_ble_eq_true rfl) 293 rfl [.int _, .ref 60] rfl ?_
    obtain ⟨⟨q14r, q14s⟩, q14h, h⟩ := x_bind h
    try dsimp only at h
    refine z_callV E [.int _] [] dX9_line_293 K_RX9_308 ⟨Nat.le_of_ble_eq_true rfl, Nat.le_of_ble_eq_true rfl⟩ sh_60 (by decide) rfl (c_Mo_need_60 E _ q14h) rfl rfl (Nat.le_of_ble_eq_true rfl) 296 rfl [] rfl ?_
    cases h
    exact x_vret dX9_line_296 rfl rfl rfl
set_option maxHeartbeats 4000000 in
set_option maxRecDepth 100000 in
theorem j_Mo_line_60_J17 {l : Launch} {s0 : State} {a0 : Array Value} {D : va_G} {cA : Nat → ClassId} {sp : Nat → Nat} (E : x_En CL l s0 a0 D cA sp) (v1 : Int32) (σ : xS) {r : Unit} {σ1 : xS} (h : f_Mo_line_60_J17 v1 σ = some (r, σ1)) : zW l s0 D cA sp (zQ s0 D cA sp none σ1) (x_rm 7 0 0) M_Mo_line 0 0 17 [some (.ref 60), some (.int v1), none, none] [] σ := by
  unfold f_Mo_line_60_J17 at h
  try dsimp only at h
  refine x_aload_n 18 rfl 0 dX9_line_17 rfl rfl ?_
  refine x_iload_n 19 rfl 1 dX9_line_18 rfl rfl ?_
  refine x_bipush 21 rfl (v := 10) dX9_line_19 (by decide) ?_
  refine x_icmp_ne 24 rfl 28 dX9_line_21 (by decide) (fun hc => ?_) (fun hc => ?_)
  · replace h := x_ifF hc h
    refine x_iconst 29 rfl (v := 0) dX9_line_28 (by decide) ?_
    obtain ⟨⟨q15r, q15s⟩, q15h, h⟩ := x_bind h
    try dsimp only at h
    refine z_callV E [.int _] [] dX9_line_29 K_RX9_296 ⟨Nat.le_of_ble_eq_true rfl, Nat.le_of_ble_eq_true rfl⟩ sh_60 (by decide) rfl (c_Mo_readsMove_60 E _ q15h) rfl rfl (Nat.le_of_ble_eq_true rfl) 32 rfl [] rfl ?_
    refine x_goto 286 dX9_line_32 (by decide) ?_
    refine x_aload_n 287 rfl 0 dX9_line_286 rfl rfl ?_
    refine x_aload_n 288 rfl 0 dX9_line_287 rfl rfl ?_
    refine x_bipush 290 rfl (v := 59) dX9_line_288 (by decide) ?_
    obtain ⟨⟨q16r, q16s⟩, q16h, h⟩ := x_bind h
    try dsimp only at h
    refine z_callV E [.int _] [.ref 60] dX9_line_290 K_RX9_233 ⟨Nat.le_of_ble_eq_true rfl, Nat.le_of_ble_eq_true rfl⟩ sh_60 (by decide) rfl (c_Mo_isSign_60 E _ q16h) rfl rfl (Nat.le_of_ble_eq_true rfl) 293 rfl [.int _, .ref 60] rfl ?_
    obtain ⟨⟨q17r, q17s⟩, q17h, h⟩ := x_bind h
    try dsimp only at h
    refine z_callV E [.int _] [] dX9_line_293 K_RX9_308 ⟨Nat.le_of_ble_eq_true rfl, Nat.le_of_ble_eq_true rfl⟩ sh_60 (by decide) rfl (c_Mo_need_60 E _ q17h) rfl rfl (Nat.le_of_ble_eq_true rfl) 296 rfl [] rfl ?_
    cases h
    exact x_vret dX9_line_296 rfl rfl rfl
  · replace h := x_ifT hc h
    refine x_iconst 25 rfl (v := 1) dX9_line_24 (by decide) ?_
    refine x_goto 29 dX9_line_25 (by decide) ?_
    obtain ⟨⟨q18r, q18s⟩, q18h, h⟩ := x_bind h
    try dsimp only at h
    refine z_callV E [.int _] [] dX9_line_29 K_RX9_296 ⟨Nat.le_of_ble_eq_true rfl, Nat.le_of_ble_eq_true rfl⟩ sh_60 (by decide) rfl (c_Mo_readsMove_60 E _ q18h) rfl rfl (Nat.le_of_ble_eq_true rfl) 32 rfl [] rfl ?_
    refine x_goto 286 dX9_line_32 (by decide) ?_
    refine x_aload_n 287 rfl 0 dX9_line_286 rfl rfl ?_
    refine x_aload_n 288 rfl 0 dX9_line_287 rfl rfl ?_
    refine x_bipush 290 rfl (v := 59) dX9_line_288 (by decide) ?_
    obtain ⟨⟨q19r, q19s⟩, q19h, h⟩ := x_bind h
    try dsimp only at h
    refine z_callV E [.int _] [.ref 60] dX9_line_290 K_RX9_233 ⟨Nat.le_of_ble_eq_true rfl, Nat.le_of_ble_eq_true rfl⟩ sh_60 (by decide) rfl (c_Mo_isSign_60 E _ q19h) rfl rfl (Nat.le_of_ble_eq_true rfl) 293 rfl [.int _, .ref 60] rfl ?_
    obtain ⟨⟨q20r, q20s⟩, q20h, h⟩ := x_bind h
    try dsimp only at h
    refine z_callV E [.int _] [] dX9_line_293 K_RX9_308 ⟨Nat.le_of_ble_eq_true rfl, Nat.le_of_ble_eq_true rfl⟩ sh_60 (by decide) rfl (c_Mo_need_60 E _ q20h) rfl rfl (Nat.le_of_ble_eq_true rfl) 296 rfl [] rfl ?_
    cases h
    exact x_vret dX9_line_296 rfl rfl rfl
set_option maxHeartbeats 4000000 in
set_option maxRecDepth 100000 in
theorem c_Mo_line_60 {l : Launch} {s0 : State} {a0 : Array Value} {D : va_G} {cA : Nat → ClassId} {sp : Nat → Nat} (E : x_En CL l s0 a0 D cA sp)  {σ : xS} {r : Unit} {σ1 : xS} (h : f_Mo_line_60  σ = some (r, σ1)) : zC l s0 D cA sp 7 M_Mo_line [.ref 60] σ none σ1 := by
  unfold f_Mo_line_60 at h
  try dsimp only at h
  refine x_enter [some (.ref 60), none, none, none] rfl (Nat.le_of_ble_eq_true rfl) (by decide +kernel) rfl ?_
  refine x_aload_n 1 rfl 0 dX9_line_0 rfl rfl ?_
  obtain ⟨⟨q21r, q21s⟩, q21h, h⟩ := x_bind h
  try dsimp only at h
  refine z_callV E [] [] dX9_line_1 K_RX9_220 ⟨Nat.le_of_ble_eq_true rfl, Nat.le_of_ble_eq_true rfl⟩ sh_60 (by decide) rfl (c_Mo_knownWord_60 E  q21h) rfl rfl (Nat.le_of_ble_eq_true rfl) 4 rfl [.int _] rfl ?_
  refine x_istore_n 5 rfl 1 dX9_line_4 rfl (by decide) [some (.ref 60), some (.int _), none, none] rfl ?_
  refine x_iload_n 6 rfl 1 dX9_line_5 rfl rfl ?_
  refine x_bipush 8 rfl (v := 9) dX9_line_6 (by decide) ?_
  refine x_icmp_eq 11 rfl 17 dX9_line_8 (by decide) (fun hc => ?_) (fun hc => ?_)
  · replace h := x_ifT hc h
    exact x_wk (x_le_s (x_le_s (x_le_n (x_le_n x_le_0)))) (j_Mo_line_60_J17 E _ _ h)
  · replace h := x_ifF hc h
    refine x_iload_n 12 rfl 1 dX9_line_11 rfl rfl ?_
    refine x_bipush 14 rfl (v := 10) dX9_line_12 (by decide) ?_
    refine x_icmp_ne 17 rfl 35 dX9_line_14 (by decide) (fun hc => ?_) (fun hc => ?_)
    · replace h := x_ifF hc h
      refine x_iload_n 36 rfl 1 dX9_line_35 rfl rfl ?_
      refine x_bipush 38 rfl (v := 12) dX9_line_36 (by decide) ?_
      refine x_icmp_eq 41 rfl 47 dX9_line_38 (by decide) (fun hc => ?_) (fun hc => ?_)
      · replace h := x_ifT hc h
        exact x_wk (x_le_s (x_le_s (x_le_n (x_le_n x_le_0)))) (j_Mo_line_60_J47 E _ _ h)
      · replace h := x_ifF hc h
        refine x_iload_n 42 rfl 1 dX9_line_41 rfl rfl ?_
        refine x_bipush 44 rfl (v := 13) dX9_line_42 (by decide) ?_
        refine x_icmp_ne 47 rfl 65 dX9_line_44 (by decide) (fun hc => ?_) (fun hc => ?_)
        · replace h := x_ifF hc h
          refine x_iload_n 66 rfl 1 dX9_line_65 rfl rfl ?_
          refine x_iconst 67 rfl (v := 4) dX9_line_66 (by decide) ?_
          refine x_icmp_ne 70 rfl 77 dX9_line_67 (by decide) (fun hc => ?_) (fun hc => ?_)
          · replace h := x_ifF hc h
            refine x_iload_n 78 rfl 1 dX9_line_77 rfl rfl ?_
            refine x_iconst 79 rfl (v := 2) dX9_line_78 (by decide) ?_
            refine x_icmp_eq 82 rfl 94 dX9_line_79 (by decide) (fun hc => ?_) (fun hc => ?_)
            · replace h := x_ifT hc h
              refine x_aload_n 95 rfl 0 dX9_line_94 rfl rfl ?_
              refine x_iload_n 96 rfl 1 dX9_line_95 rfl rfl ?_
              obtain ⟨⟨q23r, q23s⟩, q23h, h⟩ := x_bind h
              try dsimp only at h
              refine z_callV E [.int _] [] dX9_line_96 K_RX9_305 ⟨Nat.le_of_ble_eq_true rfl, Nat.le_of_ble_eq_true rfl⟩ sh_60 (by decide) rfl (c_Mo_readsRule_60 E _ q23h) rfl rfl (Nat.le_of_ble_eq_true rfl) 99 rfl [] rfl ?_
              refine x_goto 286 dX9_line_99 (by decide) ?_
              refine x_aload_n 287 rfl 0 dX9_line_286 rfl rfl ?_
              refine x_aload_n 288 rfl 0 dX9_line_287 rfl rfl ?_
              refine x_bipush 290 rfl (v := 59) dX9_line_288 (by decide) ?_
              obtain ⟨⟨q24r, q24s⟩, q24h, h⟩ := x_bind h
              try dsimp only at h
              refine z_callV E [.int _] [.ref 60] dX9_line_290 K_RX9_233 ⟨Nat.le_of_ble_eq_true rfl, Nat.le_of_ble_eq_true rfl⟩ sh_60 (by decide) rfl (c_Mo_isSign_60 E _ q24h) rfl rfl (Nat.le_of_ble_eq_true rfl) 293 rfl [.int _, .ref 60] rfl ?_
              obtain ⟨⟨q25r, q25s⟩, q25h, h⟩ := x_bind h
              try dsimp only at h
              refine z_callV E [.int _] [] dX9_line_293 K_RX9_308 ⟨Nat.le_of_ble_eq_true rfl, Nat.le_of_ble_eq_true rfl⟩ sh_60 (by decide) rfl (c_Mo_need_60 E _ q25h) rfl rfl (Nat.le_of_ble_eq_true rfl) 296 rfl [] rfl ?_
              cases h
              exact x_vret dX9_line_296 rfl rfl rfl
            · replace h := x_ifF hc h
              refine x_iload_n 83 rfl 1 dX9_line_82 rfl rfl ?_
              refine x_bipush 85 rfl (v := 17) dX9_line_83 (by decide) ?_
              refine x_icmp_eq 88 rfl 94 dX9_line_85 (by decide) (fun hc => ?_) (fun hc => ?_)
              · replace h := x_ifT hc h
                refine x_aload_n 95 rfl 0 dX9_line_94 rfl rfl ?_
                refine x_iload_n 96 rfl 1 dX9_line_95 rfl rfl ?_
                obtain ⟨⟨q26r, q26s⟩, q26h, h⟩ := x_bind h
                try dsimp only at h
                refine z_callV E [.int _] [] dX9_line_96 K_RX9_305 ⟨Nat.le_of_ble_eq_true rfl, Nat.le_of_ble_eq_true rfl⟩ sh_60 (by decide) rfl (c_Mo_readsRule_60 E _ q26h) rfl rfl (Nat.le_of_ble_eq_true rfl) 99 rfl [] rfl ?_
                refine x_goto 286 dX9_line_99 (by decide) ?_
                refine x_aload_n 287 rfl 0 dX9_line_286 rfl rfl ?_
                refine x_aload_n 288 rfl 0 dX9_line_287 rfl rfl ?_
                refine x_bipush 290 rfl (v := 59) dX9_line_288 (by decide) ?_
                obtain ⟨⟨q27r, q27s⟩, q27h, h⟩ := x_bind h
                try dsimp only at h
                refine z_callV E [.int _] [.ref 60] dX9_line_290 K_RX9_233 ⟨Nat.le_of_ble_eq_true rfl, Nat.le_of_ble_eq_true rfl⟩ sh_60 (by decide) rfl (c_Mo_isSign_60 E _ q27h) rfl rfl (Nat.le_of_ble_eq_true rfl) 293 rfl [.int _, .ref 60] rfl ?_
                obtain ⟨⟨q28r, q28s⟩, q28h, h⟩ := x_bind h
                try dsimp only at h
                refine z_callV E [.int _] [] dX9_line_293 K_RX9_308 ⟨Nat.le_of_ble_eq_true rfl, Nat.le_of_ble_eq_true rfl⟩ sh_60 (by decide) rfl (c_Mo_need_60 E _ q28h) rfl rfl (Nat.le_of_ble_eq_true rfl) 296 rfl [] rfl ?_
                cases h
                exact x_vret dX9_line_296 rfl rfl rfl
              · replace h := x_ifF hc h
                refine x_iload_n 89 rfl 1 dX9_line_88 rfl rfl ?_
                refine x_bipush 91 rfl (v := 18) dX9_line_89 (by decide) ?_
                refine x_icmp_ne 94 rfl 102 dX9_line_91 (by decide) (fun hc => ?_) (fun hc => ?_)
                · replace h := x_ifF hc h
                  refine x_iload_n 103 rfl 1 dX9_line_102 rfl rfl ?_
                  refine x_bipush 105 rfl (v := 11) dX9_line_103 (by decide) ?_
                  refine x_icmp_ne 108 rfl 133 dX9_line_105 (by decide) (fun hc => ?_) (fun hc => ?_)
                  · replace h := x_ifF hc h
                    refine x_iload_n 134 rfl 1 dX9_line_133 rfl rfl ?_
                    refine x_bipush 136 rfl (v := 7) dX9_line_134 (by decide) ?_
                    refine x_icmp_ne 139 rfl 163 dX9_line_136 (by decide) (fun hc => ?_) (fun hc => ?_)
                    · replace h := x_ifF hc h
                      refine x_iload_n 164 rfl 1 dX9_line_163 rfl rfl ?_
                      refine x_bipush 166 rfl (v := 14) dX9_line_164 (by decide) ?_
                      refine x_icmp_ne 169 rfl 193 dX9_line_166 (by decide) (fun hc => ?_) (fun hc => ?_)
                      · replace h := x_ifF hc h
                        refine x_iload_n 194 rfl 1 dX9_line_193 rfl rfl ?_
                        refine x_bipush 196 rfl (v := 15) dX9_line_194 (by decide) ?_
                        refine x_icmp_ne 199 rfl 223 dX9_line_196 (by decide) (fun hc => ?_) (fun hc => ?_)
                        · replace h := x_ifF hc h
                          refine x_iload_n 224 rfl 1 dX9_line_223 rfl rfl ?_
                          refine x_bipush 226 rfl (v := 16) dX9_line_224 (by decide) ?_
                          refine x_icmp_ne 229 rfl 281 dX9_line_226 (by decide) (fun hc => ?_) (fun hc => ?_)
                          · replace h := x_ifF hc h
                            refine x_aload_n 282 rfl 0 dX9_line_281 rfl rfl ?_
                            refine x_iconst 283 rfl (v := 1) dX9_line_282 (by decide) ?_
                            obtain ⟨⟨q29r, q29s⟩, q29h, h⟩ := x_bind h
                            try dsimp only at h
                            refine z_callV E [.int _] [] dX9_line_283 K_RX9_198 ⟨Nat.le_of_ble_eq_true rfl, Nat.le_of_ble_eq_true rfl⟩ sh_60 (by decide) rfl (c_Mo_wrong_60 E _ q29h) rfl rfl (Nat.le_of_ble_eq_true rfl) 286 rfl [] rfl ?_
                            refine x_aload_n 287 rfl 0 dX9_line_286 rfl rfl ?_
                            refine x_aload_n 288 rfl 0 dX9_line_287 rfl rfl ?_
                            refine x_bipush 290 rfl (v := 59) dX9_line_288 (by decide) ?_
                            obtain ⟨⟨q30r, q30s⟩, q30h, h⟩ := x_bind h
                            try dsimp only at h
                            refine z_callV E [.int _] [.ref 60] dX9_line_290 K_RX9_233 ⟨Nat.le_of_ble_eq_true rfl, Nat.le_of_ble_eq_true rfl⟩ sh_60 (by decide) rfl (c_Mo_isSign_60 E _ q30h) rfl rfl (Nat.le_of_ble_eq_true rfl) 293 rfl [.int _, .ref 60] rfl ?_
                            obtain ⟨⟨q31r, q31s⟩, q31h, h⟩ := x_bind h
                            try dsimp only at h
                            refine z_callV E [.int _] [] dX9_line_293 K_RX9_308 ⟨Nat.le_of_ble_eq_true rfl, Nat.le_of_ble_eq_true rfl⟩ sh_60 (by decide) rfl (c_Mo_need_60 E _ q31h) rfl rfl (Nat.le_of_ble_eq_true rfl) 296 rfl [] rfl ?_
                            cases h
                            exact x_vret dX9_line_296 rfl rfl rfl
                          · replace h := x_ifT hc h
                            refine x_aload_n 230 rfl 0 dX9_line_229 rfl rfl ?_
                            refine x_iload_n 231 rfl 1 dX9_line_230 rfl rfl ?_
                            obtain ⟨⟨q32r, q32s⟩, q32h, h⟩ := x_bind h
                            try dsimp only at h
                            refine z_callV E [.int _] [] dX9_line_231 K_RX9_287 ⟨Nat.le_of_ble_eq_true rfl, Nat.le_of_ble_eq_true rfl⟩ sh_60 (by decide) rfl (c_Mo_once_60 E _ q32h) rfl rfl (Nat.le_of_ble_eq_true rfl) 234 rfl [.int _] rfl ?_
                            refine x_if_ne 237 rfl 238 dX9_line_234 (by decide) (fun hc => ?_) (fun hc => ?_)
                            · replace h := x_ifF hc h
                              refine x_aload_n 239 rfl 0 dX9_line_238 rfl rfl ?_
                              refine x_bipush 241 rfl (v := 45) dX9_line_239 (by decide) ?_
                              obtain ⟨⟨q33r, q33s⟩, q33h, h⟩ := x_bind h
                              try dsimp only at h
                              refine z_callV E [.int _] [] dX9_line_241 K_RX9_233 ⟨Nat.le_of_ble_eq_true rfl, Nat.le_of_ble_eq_true rfl⟩ sh_60 (by decide) rfl (c_Mo_isSign_60 E _ q33h) rfl rfl (Nat.le_of_ble_eq_true rfl) 244 rfl [.int _] rfl ?_
                              refine x_istore_n 245 rfl 2 dX9_line_244 rfl (by decide) [some (.ref 60), some (.int _), some (.int _), none] rfl ?_
                              refine x_iload_n 246 rfl 2 dX9_line_245 rfl rfl ?_
                              refine x_if_eq 249 rfl 253 dX9_line_246 (by decide) (fun hc => ?_) (fun hc => ?_)
                              · replace h := x_ifT hc h
                                exact x_wk (x_le_s (x_le_n (x_le_s (x_le_n x_le_0)))) (j_Mo_line_60_J253 E _ _ h)
                              · replace h := x_ifF hc h
                                refine x_aload_n 250 rfl 0 dX9_line_249 rfl rfl ?_
                                obtain ⟨⟨q35r, q35s⟩, q35h, h⟩ := x_bind h
                                try dsimp only at h
                                refine z_callV E [] [] dX9_line_250 K_RX9_195 ⟨Nat.le_of_ble_eq_true rfl, Nat.le_of_ble_eq_true rfl⟩ sh_60 (by decide) rfl (c_Mo_goes_60 E  q35h) rfl rfl (Nat.le_of_ble_eq_true rfl) 253 rfl [] rfl ?_
                                exact x_wk (x_le_s (x_le_n (x_le_s (x_le_n x_le_0)))) (j_Mo_line_60_J253 E _ _ h)
                            · replace h := x_ifT hc h
                              cases h
                              exact x_vret dX9_line_237 rfl rfl rfl
                        · replace h := x_ifT hc h
                          refine x_aload_n 200 rfl 0 dX9_line_199 rfl rfl ?_
                          refine x_iload_n 201 rfl 1 dX9_line_200 rfl rfl ?_
                          obtain ⟨⟨q36r, q36s⟩, q36h, h⟩ := x_bind h
                          try dsimp only at h
                          refine z_callV E [.int _] [] dX9_line_201 K_RX9_287 ⟨Nat.le_of_ble_eq_true rfl, Nat.le_of_ble_eq_true rfl⟩ sh_60 (by decide) rfl (c_Mo_once_60 E _ q36h) rfl rfl (Nat.le_of_ble_eq_true rfl) 204 rfl [.int _] rfl ?_
                          refine x_if_eq 207 rfl 286 dX9_line_204 (by decide) (fun hc => ?_) (fun hc => ?_)
                          · replace h := x_ifT hc h
                            refine x_aload_n 287 rfl 0 dX9_line_286 rfl rfl ?_
                            refine x_aload_n 288 rfl 0 dX9_line_287 rfl rfl ?_
                            refine x_bipush 290 rfl (v := 59) dX9_line_288 (by decide) ?_
                            obtain ⟨⟨q37r, q37s⟩, q37h, h⟩ := x_bind h
                            try dsimp only at h
                            refine z_callV E [.int _] [.ref 60] dX9_line_290 K_RX9_233 ⟨Nat.le_of_ble_eq_true rfl, Nat.le_of_ble_eq_true rfl⟩ sh_60 (by decide) rfl (c_Mo_isSign_60 E _ q37h) rfl rfl (Nat.le_of_ble_eq_true rfl) 293 rfl [.int _, .ref 60] rfl ?_
                            obtain ⟨⟨q38r, q38s⟩, q38h, h⟩ := x_bind h
                            try dsimp only at h
                            refine z_callV E [.int _] [] dX9_line_293 K_RX9_308 ⟨Nat.le_of_ble_eq_true rfl, Nat.le_of_ble_eq_true rfl⟩ sh_60 (by decide) rfl (c_Mo_need_60 E _ q38h) rfl rfl (Nat.le_of_ble_eq_true rfl) 296 rfl [] rfl ?_
                            cases h
                            exact x_vret dX9_line_296 rfl rfl rfl
                          · replace h := x_ifF hc h
                            refine x_aload_n 208 rfl 0 dX9_line_207 rfl rfl ?_
                            refine x_getR E dX9_line_208 F_RX9_62 sh_60 rf_60_48 211 rfl ?_
                            refine x_iconst 212 rfl (v := 2) dX9_line_211 (by decide) ?_
                            refine x_aload_n 213 rfl 0 dX9_line_212 rfl rfl ?_
                            refine x_iconst 214 rfl (v := 1) dX9_line_213 (by decide) ?_
                            refine x_bipush 216 rfl (v := 90) dX9_line_214 (by decide) ?_
                            obtain ⟨⟨q39r, q39s⟩, q39h, h⟩ := x_bind h
                            try dsimp only at h
                            refine z_callV E [.int _, .int _] [.int _, .ref 74] dX9_line_216 K_RX9_267 ⟨Nat.le_of_ble_eq_true rfl, Nat.le_of_ble_eq_true rfl⟩ sh_60 (by decide) rfl (c_Mo_number_60 E _ _ q39h) rfl rfl (Nat.le_of_ble_eq_true rfl) 219 rfl [.int _, .int _, .ref 74] rfl ?_
                            refine x_iast E dX9_line_219 sh_74 2 (by decide) (by decide) 220 rfl ?_
                            refine x_goto 286 dX9_line_220 (by decide) ?_
                            refine x_aload_n 287 rfl 0 dX9_line_286 rfl rfl ?_
                            refine x_aload_n 288 rfl 0 dX9_line_287 rfl rfl ?_
                            refine x_bipush 290 rfl (v := 59) dX9_line_288 (by decide) ?_
                            obtain ⟨⟨q41r, q41s⟩, q41h, h⟩ := x_bind h
                            try dsimp only at h
                            refine z_callV E [.int _] [.ref 60] dX9_line_290 K_RX9_233 ⟨Nat.le_of_ble_eq_true rfl, Nat.le_of_ble_eq_true rfl⟩ sh_60 (by decide) rfl (c_Mo_isSign_60 E _ q41h) rfl rfl (Nat.le_of_ble_eq_true rfl) 293 rfl [.int _, .ref 60] rfl ?_
                            obtain ⟨⟨q42r, q42s⟩, q42h, h⟩ := x_bind h
                            try dsimp only at h
                            refine z_callV E [.int _] [] dX9_line_293 K_RX9_308 ⟨Nat.le_of_ble_eq_true rfl, Nat.le_of_ble_eq_true rfl⟩ sh_60 (by decide) rfl (c_Mo_need_60 E _ q42h) rfl rfl (Nat.le_of_ble_eq_true rfl) 296 rfl [] rfl ?_
                            cases h
                            exact x_vret dX9_line_296 rfl rfl rfl
                      · replace h := x_ifT hc h
                        refine x_aload_n 170 rfl 0 dX9_line_169 rfl rfl ?_
                        refine x_iload_n 171 rfl 1 dX9_line_170 rfl rfl ?_
                        obtain ⟨⟨q43r, q43s⟩, q43h, h⟩ := x_bind h
                        try dsimp only at h
                        refine z_callV E [.int _] [] dX9_line_171 K_RX9_287 ⟨Nat.le_of_ble_eq_true rfl, Nat.le_of_ble_eq_true rfl⟩ sh_60 (by decide) rfl (c_Mo_once_60 E _ q43h) rfl rfl (Nat.le_of_ble_eq_true rfl) 174 rfl [.int _] rfl ?_
                        refine x_if_eq 177 rfl 286 dX9_line_174 (by decide) (fun hc => ?_) (fun hc => ?_)
                        · replace h := x_ifT hc h
                          refine x_aload_n 287 rfl 0 dX9_line_286 rfl rfl ?_
                          refine x_aload_n 288 rfl 0 dX9_line_287 rfl rfl ?_
                          refine x_bipush 290 rfl (v := 59) dX9_line_288 (by decide) ?_
                          obtain ⟨⟨q44r, q44s⟩, q44h, h⟩ := x_bind h
                          try dsimp only at h
                          refine z_callV E [.int _] [.ref 60] dX9_line_290 K_RX9_233 ⟨Nat.le_of_ble_eq_true rfl, Nat.le_of_ble_eq_true rfl⟩ sh_60 (by decide) rfl (c_Mo_isSign_60 E _ q44h) rfl rfl (Nat.le_of_ble_eq_true rfl) 293 rfl [.int _, .ref 60] rfl ?_
                          obtain ⟨⟨q45r, q45s⟩, q45h, h⟩ := x_bind h
                          try dsimp only at h
                          refine z_callV E [.int _] [] dX9_line_293 K_RX9_308 ⟨Nat.le_of_ble_eq_true rfl, Nat.le_of_ble_eq_true rfl⟩ sh_60 (by decide) rfl (c_Mo_need_60 E _ q45h) rfl rfl (Nat.le_of_ble_eq_true rfl) 296 rfl [] rfl ?_
                          cases h
                          exact x_vret dX9_line_296 rfl rfl rfl
                        · replace h := x_ifF hc h
                          refine x_aload_n 178 rfl 0 dX9_line_177 rfl rfl ?_
                          refine x_getR E dX9_line_178 F_RX9_62 sh_60 rf_60_48 181 rfl ?_
                          refine x_iconst 182 rfl (v := 1) dX9_line_181 (by decide) ?_
                          refine x_aload_n 183 rfl 0 dX9_line_182 rfl rfl ?_
                          refine x_iconst 184 rfl (v := 0) dX9_line_183 (by decide) ?_
                          refine x_bipush 186 rfl (v := 24) dX9_line_184 (by decide) ?_
                          obtain ⟨⟨q46r, q46s⟩, q46h, h⟩ := x_bind h
                          try dsimp only at h
                          refine z_callV E [.int _, .int _] [.int _, .ref 74] dX9_line_186 K_RX9_267 ⟨Nat.le_of_ble_eq_true rfl, Nat.le_of_ble_eq_true rfl⟩ sh_60 (by decide) rfl (c_Mo_number_60 E _ _ q46h) rfl rfl (Nat.le_of_ble_eq_true rfl) 189 rfl [.int _, .int _, .ref 74] rfl ?_
                          refine x_iast E dX9_line_189 sh_74 1 (by decide) (by decide) 190 rfl ?_
                          refine x_goto 286 dX9_line_190 (by decide) ?_
                          refine x_aload_n 287 rfl 0 dX9_line_286 rfl rfl ?_
                          refine x_aload_n 288 rfl 0 dX9_line_287 rfl rfl ?_
                          refine x_bipush 290 rfl (v := 59) dX9_line_288 (by decide) ?_
                          obtain ⟨⟨q48r, q48s⟩, q48h, h⟩ := x_bind h
                          try dsimp only at h
                          refine z_callV E [.int _] [.ref 60] dX9_line_290 K_RX9_233 ⟨Nat.le_of_ble_eq_true rfl, Nat.le_of_ble_eq_true rfl⟩ sh_60 (by decide) rfl (c_Mo_isSign_60 E _ q48h) rfl rfl (Nat.le_of_ble_eq_true rfl) 293 rfl [.int _, .ref 60] rfl ?_
                          obtain ⟨⟨q49r, q49s⟩, q49h, h⟩ := x_bind h
                          try dsimp only at h
                          refine z_callV E [.int _] [] dX9_line_293 K_RX9_308 ⟨Nat.le_of_ble_eq_true rfl, Nat.le_of_ble_eq_true rfl⟩ sh_60 (by decide) rfl (c_Mo_need_60 E _ q49h) rfl rfl (Nat.le_of_ble_eq_true rfl) 296 rfl [] rfl ?_
                          cases h
                          exact x_vret dX9_line_296 rfl rfl rfl
                    · replace h := x_ifT hc h
                      refine x_aload_n 140 rfl 0 dX9_line_139 rfl rfl ?_
                      refine x_iload_n 141 rfl 1 dX9_line_140 rfl rfl ?_
                      obtain ⟨⟨q50r, q50s⟩, q50h, h⟩ := x_bind h
                      try dsimp only at h
                      refine z_callV E [.int _] [] dX9_line_141 K_RX9_287 ⟨Nat.le_of_ble_eq_true rfl, Nat.le_of_ble_eq_true rfl⟩ sh_60 (by decide) rfl (c_Mo_once_60 E _ q50h) rfl rfl (Nat.le_of_ble_eq_true rfl) 144 rfl [.int _] rfl ?_
                      refine x_if_eq 147 rfl 286 dX9_line_144 (by decide) (fun hc => ?_) (fun hc => ?_)
                      · replace h := x_ifT hc h
                        refine x_aload_n 287 rfl 0 dX9_line_286 rfl rfl ?_
                        refine x_aload_n 288 rfl 0 dX9_line_287 rfl rfl ?_
                        refine x_bipush 290 rfl (v := 59) dX9_line_288 (by decide) ?_
                        obtain ⟨⟨q51r, q51s⟩, q51h, h⟩ := x_bind h
                        try dsimp only at h
                        refine z_callV E [.int _] [.ref 60] dX9_line_290 K_RX9_233 ⟨Nat.le_of_ble_eq_true rfl, Nat.le_of_ble_eq_true rfl⟩ sh_60 (by decide) rfl (c_Mo_isSign_60 E _ q51h) rfl rfl (Nat.le_of_ble_eq_true rfl) 293 rfl [.int _, .ref 60] rfl ?_
                        obtain ⟨⟨q52r, q52s⟩, q52h, h⟩ := x_bind h
                        try dsimp only at h
                        refine z_callV E [.int _] [] dX9_line_293 K_RX9_308 ⟨Nat.le_of_ble_eq_true rfl, Nat.le_of_ble_eq_true rfl⟩ sh_60 (by decide) rfl (c_Mo_need_60 E _ q52h) rfl rfl (Nat.le_of_ble_eq_true rfl) 296 rfl [] rfl ?_
                        cases h
                        exact x_vret dX9_line_296 rfl rfl rfl
                      · replace h := x_ifF hc h
                        refine x_aload_n 148 rfl 0 dX9_line_147 rfl rfl ?_
                        refine x_getR E dX9_line_148 F_RX9_62 sh_60 rf_60_48 151 rfl ?_
                        refine x_iconst 152 rfl (v := 0) dX9_line_151 (by decide) ?_
                        refine x_aload_n 153 rfl 0 dX9_line_152 rfl rfl ?_
                        refine x_iconst 154 rfl (v := 1) dX9_line_153 (by decide) ?_
                        refine x_bipush 156 rfl (v := 60) dX9_line_154 (by decide) ?_
                        obtain ⟨⟨q53r, q53s⟩, q53h, h⟩ := x_bind h
                        try dsimp only at h
                        refine z_callV E [.int _, .int _] [.int _, .ref 74] dX9_line_156 K_RX9_267 ⟨Nat.le_of_ble_eq_true rfl, Nat.le_of_ble_eq_true rfl⟩ sh_60 (by decide) rfl (c_Mo_number_60 E _ _ q53h) rfl rfl (Nat.le_of_ble_eq_true rfl) 159 rfl [.int _, .int _, .ref 74] rfl ?_
                        refine x_iast E dX9_line_159 sh_74 0 (by decide) (by decide) 160 rfl ?_
                        refine x_goto 286 dX9_line_160 (by decide) ?_
                        refine x_aload_n 287 rfl 0 dX9_line_286 rfl rfl ?_
                        refine x_aload_n 288 rfl 0 dX9_line_287 rfl rfl ?_
                        refine x_bipush 290 rfl (v := 59) dX9_line_288 (by decide) ?_
                        obtain ⟨⟨q55r, q55s⟩, q55h, h⟩ := x_bind h
                        try dsimp only at h
                        refine z_callV E [.int _] [.ref 60] dX9_line_290 K_RX9_233 ⟨Nat.le_of_ble_eq_true rfl, Nat.le_of_ble_eq_true rfl⟩ sh_60 (by decide) rfl (c_Mo_isSign_60 E _ q55h) rfl rfl (Nat.le_of_ble_eq_true rfl) 293 rfl [.int _, .ref 60] rfl ?_
                        obtain ⟨⟨q56r, q56s⟩, q56h, h⟩ := x_bind h
                        try dsimp only at h
                        refine z_callV E [.int _] [] dX9_line_293 K_RX9_308 ⟨Nat.le_of_ble_eq_true rfl, Nat.le_of_ble_eq_true rfl⟩ sh_60 (by decide) rfl (c_Mo_need_60 E _ q56h) rfl rfl (Nat.le_of_ble_eq_true rfl) 296 rfl [] rfl ?_
                        cases h
                        exact x_vret dX9_line_296 rfl rfl rfl
                  · replace h := x_ifT hc h
                    refine x_aload_n 109 rfl 0 dX9_line_108 rfl rfl ?_
                    refine x_iload_n 110 rfl 1 dX9_line_109 rfl rfl ?_
                    obtain ⟨⟨q57r, q57s⟩, q57h, h⟩ := x_bind h
                    try dsimp only at h
                    refine z_callV E [.int _] [] dX9_line_110 K_RX9_287 ⟨Nat.le_of_ble_eq_true rfl, Nat.le_of_ble_eq_true rfl⟩ sh_60 (by decide) rfl (c_Mo_once_60 E _ q57h) rfl rfl (Nat.le_of_ble_eq_true rfl) 113 rfl [.int _] rfl ?_
                    refine x_if_eq 116 rfl 286 dX9_line_113 (by decide) (fun hc => ?_) (fun hc => ?_)
                    · replace h := x_ifT hc h
                      refine x_aload_n 287 rfl 0 dX9_line_286 rfl rfl ?_
                      refine x_aload_n 288 rfl 0 dX9_line_287 rfl rfl ?_
                      refine x_bipush 290 rfl (v := 59) dX9_line_288 (by decide) ?_
                      obtain ⟨⟨q58r, q58s⟩, q58h, h⟩ := x_bind h
                      try dsimp only at h
                      refine z_callV E [.int _] [.ref 60] dX9_line_290 K_RX9_233 ⟨Nat.le_of_ble_eq_true rfl, Nat.le_of_ble_eq_true rfl⟩ sh_60 (by decide) rfl (c_Mo_isSign_60 E _ q58h) rfl rfl (Nat.le_of_ble_eq_true rfl) 293 rfl [.int _, .ref 60] rfl ?_
                      obtain ⟨⟨q59r, q59s⟩, q59h, h⟩ := x_bind h
                      try dsimp only at h
                      refine z_callV E [.int _] [] dX9_line_293 K_RX9_308 ⟨Nat.le_of_ble_eq_true rfl, Nat.le_of_ble_eq_true rfl⟩ sh_60 (by decide) rfl (c_Mo_need_60 E _ q59h) rfl rfl (Nat.le_of_ble_eq_true rfl) 296 rfl [] rfl ?_
                      cases h
                      exact x_vret dX9_line_296 rfl rfl rfl
                    · replace h := x_ifF hc h
                      refine x_aload_n 117 rfl 0 dX9_line_116 rfl rfl ?_
                      refine x_getR E dX9_line_117 F_RX9_62 sh_60 rf_60_48 120 rfl ?_
                      refine x_iconst 121 rfl (v := 4) dX9_line_120 (by decide) ?_
                      refine x_aload_n 122 rfl 0 dX9_line_121 rfl rfl ?_
                      refine x_iconst 123 rfl (v := 0) dX9_line_122 (by decide) ?_
                      refine x_sipush 126 rfl (v := 200) dX9_line_123 (by decide) ?_
                      obtain ⟨⟨q60r, q60s⟩, q60h, h⟩ := x_bind h
                      try dsimp only at h
                      refine z_callV E [.int _, .int _] [.int _, .ref 74] dX9_line_126 K_RX9_267 ⟨Nat.le_of_ble_eq_true rfl, Nat.le_of_ble_eq_true rfl⟩ sh_60 (by decide) rfl (c_Mo_number_60 E _ _ q60h) rfl rfl (Nat.le_of_ble_eq_true rfl) 129 rfl [.int _, .int _, .ref 74] rfl ?_
                      refine x_iast E dX9_line_129 sh_74 4 (by decide) (by decide) 130 rfl ?_
                      refine x_goto 286 dX9_line_130 (by decide) ?_
                      refine x_aload_n 287 rfl 0 dX9_line_286 rfl rfl ?_
                      refine x_aload_n 288 rfl 0 dX9_line_287 rfl rfl ?_
                      refine x_bipush 290 rfl (v := 59) dX9_line_288 (by decide) ?_
                      obtain ⟨⟨q62r, q62s⟩, q62h, h⟩ := x_bind h
                      try dsimp only at h
                      refine z_callV E [.int _] [.ref 60] dX9_line_290 K_RX9_233 ⟨Nat.le_of_ble_eq_true rfl, Nat.le_of_ble_eq_true rfl⟩ sh_60 (by decide) rfl (c_Mo_isSign_60 E _ q62h) rfl rfl (Nat.le_of_ble_eq_true rfl) 293 rfl [.int _, .ref 60] rfl ?_
                      obtain ⟨⟨q63r, q63s⟩, q63h, h⟩ := x_bind h
                      try dsimp only at h
                      refine z_callV E [.int _] [] dX9_line_293 K_RX9_308 ⟨Nat.le_of_ble_eq_true rfl, Nat.le_of_ble_eq_true rfl⟩ sh_60 (by decide) rfl (c_Mo_need_60 E _ q63h) rfl rfl (Nat.le_of_ble_eq_true rfl) 296 rfl [] rfl ?_
                      cases h
                      exact x_vret dX9_line_296 rfl rfl rfl
                · replace h := x_ifT hc h
                  refine x_aload_n 95 rfl 0 dX9_line_94 rfl rfl ?_
                  refine x_iload_n 96 rfl 1 dX9_line_95 rfl rfl ?_
                  obtain ⟨⟨q64r, q64s⟩, q64h, h⟩ := x_bind h
                  try dsimp only at h
                  refine z_callV E [.int _] [] dX9_line_96 K_RX9_305 ⟨Nat.le_of_ble_eq_true rfl, Nat.le_of_ble_eq_true rfl⟩ sh_60 (by decide) rfl (c_Mo_readsRule_60 E _ q64h) rfl rfl (Nat.le_of_ble_eq_true rfl) 99 rfl [] rfl ?_
                  refine x_goto 286 dX9_line_99 (by decide) ?_
                  refine x_aload_n 287 rfl 0 dX9_line_286 rfl rfl ?_
                  refine x_aload_n 288 rfl 0 dX9_line_287 rfl rfl ?_
                  refine x_bipush 290 rfl (v := 59) dX9_line_288 (by decide) ?_
                  obtain ⟨⟨q65r, q65s⟩, q65h, h⟩ := x_bind h
                  try dsimp only at h
                  refine z_callV E [.int _] [.ref 60] dX9_line_290 K_RX9_233 ⟨Nat.le_of_ble_eq_true rfl, Nat.le_of_ble_eq_true rfl⟩ sh_60 (by decide) rfl (c_Mo_isSign_60 E _ q65h) rfl rfl (Nat.le_of_ble_eq_true rfl) 293 rfl [.int _, .ref 60] rfl ?_
                  obtain ⟨⟨q66r, q66s⟩, q66h, h⟩ := x_bind h
                  try dsimp only at h
                  refine z_callV E [.int _] [] dX9_line_293 K_RX9_308 ⟨Nat.le_of_ble_eq_true rfl, Nat.le_of_ble_eq_true rfl⟩ sh_60 (by decide) rfl (c_Mo_need_60 E _ q66h) rfl rfl (Nat.le_of_ble_eq_true rfl) 296 rfl [] rfl ?_
                  cases h
                  exact x_vret dX9_line_296 rfl rfl rfl
          · replace h := x_ifT hc h
            refine x_aload_n 71 rfl 0 dX9_line_70 rfl rfl ?_
            obtain ⟨⟨q67r, q67s⟩, q67h, h⟩ := x_bind h
            try dsimp only at h
            refine z_callV E [] [] dX9_line_71 K_RX9_302 ⟨Nat.le_of_ble_eq_true rfl, Nat.le_of_ble_eq_true rfl⟩ sh_60 (by decide) rfl (c_Mo_readsMark_60 E  q67h) rfl rfl (Nat.le_of_ble_eq_true rfl) 74 rfl [] rfl ?_
            refine x_goto 286 dX9_line_74 (by decide) ?_
            refine x_aload_n 287 rfl 0 dX9_line_286 rfl rfl ?_
            refine x_aload_n 288 rfl 0 dX9_line_287 rfl rfl ?_
            refine x_bipush 290 rfl (v := 59) dX9_line_288 (by decide) ?_
            obtain ⟨⟨q68r, q68s⟩, q68h, h⟩ := x_bind h
            try dsimp only at h
            refine z_callV E [.int _] [.ref 60] dX9_line_290 K_RX9_233 ⟨Nat.le_of_ble_eq_true rfl, Nat.le_of_ble_eq_true rfl⟩ sh_60 (by decide) rfl (c_Mo_isSign_60 E _ q68h) rfl rfl (Nat.le_of_ble_eq_true rfl) 293 rfl [.int _, .ref 60] rfl ?_
            obtain ⟨⟨q69r, q69s⟩, q69h, h⟩ := x_bind h
            try dsimp only at h
            refine z_callV E [.int _] [] dX9_line_293 K_RX9_308 ⟨Nat.le_of_ble_eq_true rfl, Nat.le_of_ble_eq_true rfl⟩ sh_60 (by decide) rfl (c_Mo_need_60 E _ q69h) rfl rfl (Nat.le_of_ble_eq_true rfl) 296 rfl [] rfl ?_
            cases h
            exact x_vret dX9_line_296 rfl rfl rfl
        · replace h := x_ifT hc h
          exact x_wk (x_le_s (x_le_s (x_le_n (x_le_n x_le_0)))) (j_Mo_line_60_J47 E _ _ h)
    · replace h := x_ifT hc h
      exact x_wk (x_le_s (x_le_s (x_le_n (x_le_n x_le_0)))) (j_Mo_line_60_J17 E _ _ h)
abbrev M_Mo_forgetsText : xM := (yX9_forgetsText, cX9_forgetsText, 1, none, [])
theorem dX9_forgetsText_0 : decode cX9_forgetsText 0 = .ok (.aload_n 0, 1) := by decide +kernel
theorem dX9_forgetsText_1 : decode cX9_forgetsText 1 = .ok (.iconst 0, 1) := by decide +kernel
theorem dX9_forgetsText_2 : decode cX9_forgetsText 2 = .ok (.putfield 261, 3) := by decide +kernel
theorem dX9_forgetsText_5 : decode cX9_forgetsText 5 = .ok (.aload_n 0, 1) := by decide +kernel
theorem dX9_forgetsText_6 : decode cX9_forgetsText 6 = .ok (.iconst 0, 1) := by decide +kernel
theorem dX9_forgetsText_7 : decode cX9_forgetsText 7 = .ok (.putfield 274, 3) := by decide +kernel
theorem dX9_forgetsText_10 : decode cX9_forgetsText 10 = .ok (.aload_n 0, 1) := by decide +kernel
theorem dX9_forgetsText_11 : decode cX9_forgetsText 11 = .ok (.iconst 0, 1) := by decide +kernel
theorem dX9_forgetsText_12 : decode cX9_forgetsText 12 = .ok (.putfield 277, 3) := by decide +kernel
theorem dX9_forgetsText_15 : decode cX9_forgetsText 15 = .ok (.aload_n 0, 1) := by decide +kernel
theorem dX9_forgetsText_16 : decode cX9_forgetsText 16 = .ok (.iconst 0, 1) := by decide +kernel
theorem dX9_forgetsText_17 : decode cX9_forgetsText 17 = .ok (.putfield 280, 3) := by decide +kernel
theorem dX9_forgetsText_20 : decode cX9_forgetsText 20 = .ok (.aload_n 0, 1) := by decide +kernel
theorem dX9_forgetsText_21 : decode cX9_forgetsText 21 = .ok (.iconst (-1), 1) := by decide +kernel
theorem dX9_forgetsText_22 : decode cX9_forgetsText 22 = .ok (.putfield 290, 3) := by decide +kernel
theorem dX9_forgetsText_25 : decode cX9_forgetsText 25 = .ok (.aload_n 0, 1) := by decide +kernel
theorem dX9_forgetsText_26 : decode cX9_forgetsText 26 = .ok (.iconst (-1), 1) := by decide +kernel
theorem dX9_forgetsText_27 : decode cX9_forgetsText 27 = .ok (.putfield 293, 3) := by decide +kernel
theorem dX9_forgetsText_30 : decode cX9_forgetsText 30 = .ok (.aload_n 0, 1) := by decide +kernel
theorem dX9_forgetsText_31 : decode cX9_forgetsText 31 = .ok (.iconst 0, 1) := by decide +kernel
theorem dX9_forgetsText_32 : decode cX9_forgetsText 32 = .ok (.putfield 271, 3) := by decide +kernel
theorem dX9_forgetsText_35 : decode cX9_forgetsText 35 = .ok (.aload_n 0, 1) := by decide +kernel
theorem dX9_forgetsText_36 : decode cX9_forgetsText 36 = .ok (.iconst 0, 1) := by decide +kernel
theorem dX9_forgetsText_37 : decode cX9_forgetsText 37 = .ok (.putfield 258, 3) := by decide +kernel
theorem dX9_forgetsText_40 : decode cX9_forgetsText 40 = .ok (.aload_n 0, 1) := by decide +kernel
theorem dX9_forgetsText_41 : decode cX9_forgetsText 41 = .ok (.iconst 0, 1) := by decide +kernel
theorem dX9_forgetsText_42 : decode cX9_forgetsText 42 = .ok (.putfield 205, 3) := by decide +kernel
theorem dX9_forgetsText_45 : decode cX9_forgetsText 45 = .ok (.aload_n 0, 1) := by decide +kernel
theorem dX9_forgetsText_46 : decode cX9_forgetsText 46 = .ok (.getfield 62, 3) := by decide +kernel
theorem dX9_forgetsText_49 : decode cX9_forgetsText 49 = .ok (.iconst 0, 1) := by decide +kernel
theorem dX9_forgetsText_50 : decode cX9_forgetsText 50 = .ok (.iconst 3, 1) := by decide +kernel
theorem dX9_forgetsText_51 : decode cX9_forgetsText 51 = .ok (.iastore, 1) := by decide +kernel
theorem dX9_forgetsText_52 : decode cX9_forgetsText 52 = .ok (.aload_n 0, 1) := by decide +kernel
theorem dX9_forgetsText_53 : decode cX9_forgetsText 53 = .ok (.getfield 62, 3) := by decide +kernel
theorem dX9_forgetsText_56 : decode cX9_forgetsText 56 = .ok (.iconst 1, 1) := by decide +kernel
theorem dX9_forgetsText_57 : decode cX9_forgetsText 57 = .ok (.iconst 2, 1) := by decide +kernel
theorem dX9_forgetsText_58 : decode cX9_forgetsText 58 = .ok (.iastore, 1) := by decide +kernel
theorem dX9_forgetsText_59 : decode cX9_forgetsText 59 = .ok (.aload_n 0, 1) := by decide +kernel
theorem dX9_forgetsText_60 : decode cX9_forgetsText 60 = .ok (.getfield 62, 3) := by decide +kernel
theorem dX9_forgetsText_63 : decode cX9_forgetsText 63 = .ok (.iconst 2, 1) := by decide +kernel
theorem dX9_forgetsText_64 : decode cX9_forgetsText 64 = .ok (.bipush 20, 2) := by decide +kernel
theorem dX9_forgetsText_66 : decode cX9_forgetsText 66 = .ok (.iastore, 1) := by decide +kernel
theorem dX9_forgetsText_67 : decode cX9_forgetsText 67 = .ok (.aload_n 0, 1) := by decide +kernel
theorem dX9_forgetsText_68 : decode cX9_forgetsText 68 = .ok (.getfield 62, 3) := by decide +kernel
theorem dX9_forgetsText_71 : decode cX9_forgetsText 71 = .ok (.iconst 3, 1) := by decide +kernel
theorem dX9_forgetsText_72 : decode cX9_forgetsText 72 = .ok (.iconst 0, 1) := by decide +kernel
theorem dX9_forgetsText_73 : decode cX9_forgetsText 73 = .ok (.iastore, 1) := by decide +kernel
theorem dX9_forgetsText_74 : decode cX9_forgetsText 74 = .ok (.aload_n 0, 1) := by decide +kernel
theorem dX9_forgetsText_75 : decode cX9_forgetsText 75 = .ok (.getfield 62, 3) := by decide +kernel
theorem dX9_forgetsText_78 : decode cX9_forgetsText 78 = .ok (.iconst 4, 1) := by decide +kernel
theorem dX9_forgetsText_79 : decode cX9_forgetsText 79 = .ok (.iconst 0, 1) := by decide +kernel
theorem dX9_forgetsText_80 : decode cX9_forgetsText 80 = .ok (.iastore, 1) := by decide +kernel
theorem dX9_forgetsText_81 : decode cX9_forgetsText 81 = .ok (.return_, 1) := by decide +kernel
def f_Mo_forgetsText_60  (σ : xS) : Option (Unit × xS) :=
  let σ1 := x_pI σ 60 28 (0 : Int32)
  let σ2 := x_pI σ1 60 29 (0 : Int32)
  let σ3 := x_pI σ2 60 30 (0 : Int32)
  let σ4 := x_pI σ3 60 31 (0 : Int32)
  let σ5 := x_pI σ4 60 32 (-1 : Int32)
  let σ6 := x_pI σ5 60 33 (-1 : Int32)
  let σ7 := x_pI σ6 60 34 (0 : Int32)
  let σ8 := x_pI σ7 60 37 (0 : Int32)
  let σ9 := x_pI σ8 60 40 (0 : Int32)
  let σ10 := x_pI σ9 74 0 (3 : Int32)
  let σ11 := x_pI σ10 74 1 (2 : Int32)
  let σ12 := x_pI σ11 74 2 (20 : Int32)
  let σ13 := x_pI σ12 74 3 (0 : Int32)
  let σ14 := x_pI σ13 74 4 (0 : Int32)
  some ((), σ14)
set_option maxHeartbeats 4000000 in
set_option maxRecDepth 100000 in
theorem c_Mo_forgetsText_60 {l : Launch} {s0 : State} {a0 : Array Value} {D : va_G} {cA : Nat → ClassId} {sp : Nat → Nat} (E : x_En CL l s0 a0 D cA sp)  {σ : xS} {r : Unit} {σ1 : xS} (h : f_Mo_forgetsText_60  σ = some (r, σ1)) : zC l s0 D cA sp 0 M_Mo_forgetsText [.ref 60] σ none σ1 := by
  unfold f_Mo_forgetsText_60 at h
  try dsimp only at h
  refine x_enter [some (.ref 60)] rfl (Nat.le_of_ble_eq_true rfl) (by decide +kernel) rfl ?_
  refine x_aload_n 1 rfl 0 dX9_forgetsText_0 rfl rfl ?_
  refine x_iconst 2 rfl (v := 0) dX9_forgetsText_1 (by decide) ?_
  refine x_putI E dX9_forgetsText_2 F_RX9_261 sh_60 5 rfl ?_
  refine x_aload_n 6 rfl 0 dX9_forgetsText_5 rfl rfl ?_
  refine x_iconst 7 rfl (v := 0) dX9_forgetsText_6 (by decide) ?_
  refine x_putI E dX9_forgetsText_7 F_RX9_274 sh_60 10 rfl ?_
  refine x_aload_n 11 rfl 0 dX9_forgetsText_10 rfl rfl ?_
  refine x_iconst 12 rfl (v := 0) dX9_forgetsText_11 (by decide) ?_
  refine x_putI E dX9_forgetsText_12 F_RX9_277 sh_60 15 rfl ?_
  refine x_aload_n 16 rfl 0 dX9_forgetsText_15 rfl rfl ?_
  refine x_iconst 17 rfl (v := 0) dX9_forgetsText_16 (by decide) ?_
  refine x_putI E dX9_forgetsText_17 F_RX9_280 sh_60 20 rfl ?_
  refine x_aload_n 21 rfl 0 dX9_forgetsText_20 rfl rfl ?_
  refine x_iconst 22 rfl (v := -1) dX9_forgetsText_21 (by decide) ?_
  refine x_putI E dX9_forgetsText_22 F_RX9_290 sh_60 25 rfl ?_
  refine x_aload_n 26 rfl 0 dX9_forgetsText_25 rfl rfl ?_
  refine x_iconst 27 rfl (v := -1) dX9_forgetsText_26 (by decide) ?_
  refine x_putI E dX9_forgetsText_27 F_RX9_293 sh_60 30 rfl ?_
  refine x_aload_n 31 rfl 0 dX9_forgetsText_30 rfl rfl ?_
  refine x_iconst 32 rfl (v := 0) dX9_forgetsText_31 (by decide) ?_
  refine x_putI E dX9_forgetsText_32 F_RX9_271 sh_60 35 rfl ?_
  refine x_aload_n 36 rfl 0 dX9_forgetsText_35 rfl rfl ?_
  refine x_iconst 37 rfl (v := 0) dX9_forgetsText_36 (by decide) ?_
  refine x_putI E dX9_forgetsText_37 F_RX9_258 sh_60 40 rfl ?_
  refine x_aload_n 41 rfl 0 dX9_forgetsText_40 rfl rfl ?_
  refine x_iconst 42 rfl (v := 0) dX9_forgetsText_41 (by decide) ?_
  refine x_putI E dX9_forgetsText_42 F_RX9_205 sh_60 45 rfl ?_
  refine x_aload_n 46 rfl 0 dX9_forgetsText_45 rfl rfl ?_
  refine x_getR E dX9_forgetsText_46 F_RX9_62 sh_60 rf_60_48 49 rfl ?_
  refine x_iconst 50 rfl (v := 0) dX9_forgetsText_49 (by decide) ?_
  refine x_iconst 51 rfl (v := 3) dX9_forgetsText_50 (by decide) ?_
  refine x_iast E dX9_forgetsText_51 sh_74 0 (by decide) (by decide) 52 rfl ?_
  refine x_aload_n 53 rfl 0 dX9_forgetsText_52 rfl rfl ?_
  refine x_getR E dX9_forgetsText_53 F_RX9_62 sh_60 rf_60_48 56 rfl ?_
  refine x_iconst 57 rfl (v := 1) dX9_forgetsText_56 (by decide) ?_
  refine x_iconst 58 rfl (v := 2) dX9_forgetsText_57 (by decide) ?_
  refine x_iast E dX9_forgetsText_58 sh_74 1 (by decide) (by decide) 59 rfl ?_
  refine x_aload_n 60 rfl 0 dX9_forgetsText_59 rfl rfl ?_
  refine x_getR E dX9_forgetsText_60 F_RX9_62 sh_60 rf_60_48 63 rfl ?_
  refine x_iconst 64 rfl (v := 2) dX9_forgetsText_63 (by decide) ?_
  refine x_bipush 66 rfl (v := 20) dX9_forgetsText_64 (by decide) ?_
  refine x_iast E dX9_forgetsText_66 sh_74 2 (by decide) (by decide) 67 rfl ?_
  refine x_aload_n 68 rfl 0 dX9_forgetsText_67 rfl rfl ?_
  refine x_getR E dX9_forgetsText_68 F_RX9_62 sh_60 rf_60_48 71 rfl ?_
  refine x_iconst 72 rfl (v := 3) dX9_forgetsText_71 (by decide) ?_
  refine x_iconst 73 rfl (v := 0) dX9_forgetsText_72 (by decide) ?_
  refine x_iast E dX9_forgetsText_73 sh_74 3 (by decide) (by decide) 74 rfl ?_
  refine x_aload_n 75 rfl 0 dX9_forgetsText_74 rfl rfl ?_
  refine x_getR E dX9_forgetsText_75 F_RX9_62 sh_60 rf_60_48 78 rfl ?_
  refine x_iconst 79 rfl (v := 4) dX9_forgetsText_78 (by decide) ?_
  refine x_iconst 80 rfl (v := 0) dX9_forgetsText_79 (by decide) ?_
  refine x_iast E dX9_forgetsText_80 sh_74 4 (by decide) (by decide) 81 rfl ?_
  cases h
  exact x_vret dX9_forgetsText_81 rfl rfl rfl
abbrev M_Mo_copies : xM := (yX9_copies, cX9_copies, 4, none, [])
theorem dX9_copies_0 : decode cX9_copies 0 = .ok (.iconst 0, 1) := by decide +kernel
theorem dX9_copies_1 : decode cX9_copies 1 = .ok (.istore_n 3, 1) := by decide +kernel
theorem dX9_copies_2 : decode cX9_copies 2 = .ok (.iload_n 3, 1) := by decide +kernel
theorem dX9_copies_3 : decode cX9_copies 3 = .ok (.aload_n 1, 1) := by decide +kernel
theorem dX9_copies_4 : decode cX9_copies 4 = .ok (.arraylength, 1) := by decide +kernel
theorem dX9_copies_5 : decode cX9_copies 5 = .ok (.if_icmp .ge 15, 3) := by decide +kernel
theorem dX9_copies_8 : decode cX9_copies 8 = .ok (.aload_n 2, 1) := by decide +kernel
theorem dX9_copies_9 : decode cX9_copies 9 = .ok (.iload_n 3, 1) := by decide +kernel
theorem dX9_copies_10 : decode cX9_copies 10 = .ok (.aload_n 1, 1) := by decide +kernel
theorem dX9_copies_11 : decode cX9_copies 11 = .ok (.iload_n 3, 1) := by decide +kernel
theorem dX9_copies_12 : decode cX9_copies 12 = .ok (.iaload, 1) := by decide +kernel
theorem dX9_copies_13 : decode cX9_copies 13 = .ok (.iastore, 1) := by decide +kernel
theorem dX9_copies_14 : decode cX9_copies 14 = .ok (.iinc 3 1, 3) := by decide +kernel
theorem dX9_copies_17 : decode cX9_copies 17 = .ok (.goto (-15), 3) := by decide +kernel
theorem dX9_copies_20 : decode cX9_copies 20 = .ok (.return_, 1) := by decide +kernel
def f_Mo_copies_60_69_61_L2  (a : Int32 × xS) : Option ((Int32 × xS) ⊕ (Int32 × xS)) :=
  let v3 := a.1; let σ := a.2;
  if (Int32.ofNat 12) ≤ v3 then
    some (.inl (v3, σ))
  else
    if v3 < 0 ∨ 12 ≤ v3.toNatClampNeg then none else
    if v3 < 0 ∨ 12 ≤ v3.toNatClampNeg then none else
    let σ1 := x_pI σ 61 v3.toNatClampNeg (σ.1 69 v3.toNatClampNeg)
    let w2 := v3 + (1 : Int32)
    some (.inr (w2, σ1))
def f_Mo_copies_60_69_61  (σ : xS) : Option (Unit × xS) :=
  (x_it (f_Mo_copies_60_69_61_L2 ) 10000 ((0 : Int32), σ)).bind fun b3 =>
  some ((), b3.2)
set_option maxHeartbeats 4000000 in
set_option maxRecDepth 100000 in
theorem b_Mo_copies_60_69_61_L2 {l : Launch} {s0 : State} {a0 : Array Value} {D : va_G} {cA : Nat → ClassId} {sp : Nat → Nat} (E : x_En CL l s0 a0 D cA sp)  {r : Unit} {σ1 : xS} (a : Int32 × xS) (o : (Int32 × xS) ⊕ (Int32 × xS)) (h : f_Mo_copies_60_69_61_L2  a = some o) (hK : ∀ b, o = .inl b → zW l s0 D cA sp (zQ s0 D cA sp none σ1) (x_rm 0 0 0) M_Mo_copies 0 0 20 [none, none, none, none] [] b.2) (hG : ∀ a', o = .inr a' → zW l s0 D cA sp (zQ s0 D cA sp none σ1) (x_rm 0 0 0) M_Mo_copies 0 0 2 [none, some (.ref 69), some (.ref 61), some (.int a'.1)] [] a'.2) : zW l s0 D cA sp (zQ s0 D cA sp none σ1) (x_rm 0 0 0) M_Mo_copies 0 0 2 [none, some (.ref 69), some (.ref 61), some (.int a.1)] [] a.2 := by
  obtain ⟨v3, σ⟩ := a
  unfold f_Mo_copies_60_69_61_L2 at h
  try dsimp only at h ⊢
  refine x_iload_n 3 rfl 3 dX9_copies_2 rfl rfl ?_
  refine x_aload_n 4 rfl 1 dX9_copies_3 rfl rfl ?_
  refine x_alen E dX9_copies_4 sh_69 5 rfl ?_
  refine x_icmp_ge 8 rfl 20 dX9_copies_5 (by decide) (fun hc => ?_) (fun hc => ?_)
  · replace h := x_ifT hc h
    cases h
    exact x_wk (x_le_n (x_le_n (x_le_n (x_le_n x_le_0)))) (hK (_, _) rfl)
  · replace h := x_ifF hc h
    refine x_aload_n 9 rfl 2 dX9_copies_8 rfl rfl ?_
    refine x_iload_n 10 rfl 3 dX9_copies_9 rfl rfl ?_
    refine x_aload_n 11 rfl 1 dX9_copies_10 rfl rfl ?_
    refine x_iload_n 12 rfl 3 dX9_copies_11 rfl rfl ?_
    obtain ⟨hz, h⟩ := x_ifn h
    refine x_iald E dX9_copies_12 sh_69 _ rfl hz 13 rfl ?_
    obtain ⟨hz, h⟩ := x_ifn h
    refine x_iast E dX9_copies_13 sh_61 _ rfl hz 14 rfl ?_
    refine x_iinc 17 rfl (1) dX9_copies_14 rfl (by decide) (by decide) [none, some (.ref 69), some (.ref 61), some (.int _)] rfl ?_
    refine x_goto 2 dX9_copies_17 (by decide) ?_
    cases h
    exact x_wk (x_le_n (x_le_s (x_le_s (x_le_s x_le_0)))) (hG (_, _) rfl)
set_option maxHeartbeats 4000000 in
set_option maxRecDepth 100000 in
theorem c_Mo_copies_60_69_61 {l : Launch} {s0 : State} {a0 : Array Value} {D : va_G} {cA : Nat → ClassId} {sp : Nat → Nat} (E : x_En CL l s0 a0 D cA sp)  {σ : xS} {r : Unit} {σ1 : xS} (h : f_Mo_copies_60_69_61  σ = some (r, σ1)) : zC l s0 D cA sp 0 M_Mo_copies [.ref 60, .ref 69, .ref 61] σ none σ1 := by
  unfold f_Mo_copies_60_69_61 at h
  try dsimp only at h
  refine x_enter [some (.ref 60), some (.ref 69), some (.ref 61), none] rfl (Nat.le_of_ble_eq_true rfl) (by decide +kernel) rfl ?_
  refine x_iconst 1 rfl (v := 0) dX9_copies_0 (by decide) ?_
  refine x_istore_n 2 rfl 3 dX9_copies_1 rfl (by decide) [some (.ref 60), some (.ref 69), some (.ref 61), some (.int _)] rfl ?_
  obtain ⟨b3, b3h, h⟩ := x_bind h
  try dsimp only at h
  refine x_wk (x_le_n (x_le_s (x_le_s (x_le_s x_le_0)))) (x_loop (fun a o h hK hG => b_Mo_copies_60_69_61_L2 (r := r) (σ1 := σ1) E  a o h hK hG) _ _ _ b3h ?_)
  cases h
  exact x_vret dX9_copies_20 rfl rfl rfl
