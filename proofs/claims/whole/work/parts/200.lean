/-! The class's methods: functions and contracts. Written by wip/gen/emit.py. -/
abbrev M_RH_addBytes : xM := (yX8_addBytes, cX8_addBytes, 3, none, [])
theorem dX8_addBytes_0 : decode cX8_addBytes 0 = .ok (.bipush 24, 2) := by decide +kernel
theorem dX8_addBytes_2 : decode cX8_addBytes 2 = .ok (.istore_n 2, 1) := by decide +kernel
theorem dX8_addBytes_3 : decode cX8_addBytes 3 = .ok (.iload_n 2, 1) := by decide +kernel
theorem dX8_addBytes_4 : decode cX8_addBytes 4 = .ok (.ifCond .lt 47, 3) := by decide +kernel
theorem dX8_addBytes_7 : decode cX8_addBytes 7 = .ok (.aload_n 0, 1) := by decide +kernel
theorem dX8_addBytes_8 : decode cX8_addBytes 8 = .ok (.getfield 13, 3) := by decide +kernel
theorem dX8_addBytes_11 : decode cX8_addBytes 11 = .ok (.aload_n 0, 1) := by decide +kernel
theorem dX8_addBytes_12 : decode cX8_addBytes 12 = .ok (.getfield 9, 3) := by decide +kernel
theorem dX8_addBytes_15 : decode cX8_addBytes 15 = .ok (.arraylength, 1) := by decide +kernel
theorem dX8_addBytes_16 : decode cX8_addBytes 16 = .ok (.if_icmp .ge 35, 3) := by decide +kernel
theorem dX8_addBytes_19 : decode cX8_addBytes 19 = .ok (.aload_n 0, 1) := by decide +kernel
theorem dX8_addBytes_20 : decode cX8_addBytes 20 = .ok (.getfield 9, 3) := by decide +kernel
theorem dX8_addBytes_23 : decode cX8_addBytes 23 = .ok (.aload_n 0, 1) := by decide +kernel
theorem dX8_addBytes_24 : decode cX8_addBytes 24 = .ok (.getfield 13, 3) := by decide +kernel
theorem dX8_addBytes_27 : decode cX8_addBytes 27 = .ok (.iload_n 1, 1) := by decide +kernel
theorem dX8_addBytes_28 : decode cX8_addBytes 28 = .ok (.iload_n 2, 1) := by decide +kernel
theorem dX8_addBytes_29 : decode cX8_addBytes 29 = .ok (.iushr, 1) := by decide +kernel
theorem dX8_addBytes_30 : decode cX8_addBytes 30 = .ok (.sipush 255, 3) := by decide +kernel
theorem dX8_addBytes_33 : decode cX8_addBytes 33 = .ok (.iand, 1) := by decide +kernel
theorem dX8_addBytes_34 : decode cX8_addBytes 34 = .ok (.iastore, 1) := by decide +kernel
theorem dX8_addBytes_35 : decode cX8_addBytes 35 = .ok (.aload_n 0, 1) := by decide +kernel
theorem dX8_addBytes_36 : decode cX8_addBytes 36 = .ok (.dup, 1) := by decide +kernel
theorem dX8_addBytes_37 : decode cX8_addBytes 37 = .ok (.getfield 13, 3) := by decide +kernel
theorem dX8_addBytes_40 : decode cX8_addBytes 40 = .ok (.iconst 1, 1) := by decide +kernel
theorem dX8_addBytes_41 : decode cX8_addBytes 41 = .ok (.iadd, 1) := by decide +kernel
theorem dX8_addBytes_42 : decode cX8_addBytes 42 = .ok (.putfield 13, 3) := by decide +kernel
theorem dX8_addBytes_45 : decode cX8_addBytes 45 = .ok (.iinc 2 (-8), 3) := by decide +kernel
theorem dX8_addBytes_48 : decode cX8_addBytes 48 = .ok (.goto (-45), 3) := by decide +kernel
theorem dX8_addBytes_51 : decode cX8_addBytes 51 = .ok (.return_, 1) := by decide +kernel
def f_RH_addBytes_0_L3 (v1 : Int32) (a : Int32 × xS) : Option ((Int32 × xS) ⊕ (Int32 × xS)) :=
  let v2 := a.1; let σ := a.2;
  if v2 < 0 then
    some (.inl (v2, σ))
  else
    if (Int32.ofNat 700) ≤ σ.1 0 1 then
      some (.inl (v2, σ))
    else
      if σ.1 0 1 < 0 ∨ 700 ≤ (σ.1 0 1).toNatClampNeg then none else
      let σ1 := x_pI σ 1 (σ.1 0 1).toNatClampNeg ((v1.toUInt32 >>> (v2.toUInt32 &&& Int32.toUInt32 31)).toInt32 &&& (255 : Int32))
      let σ2 := x_pI σ1 0 1 (σ1.1 0 1 + (1 : Int32))
      let w3 := v2 + (-8 : Int32)
      some (.inr (w3, σ2))
def f_RH_addBytes_0 (v1 : Int32) (σ : xS) : Option (Unit × xS) :=
  (x_it (f_RH_addBytes_0_L3 v1) 10000 ((24 : Int32), σ)).bind fun b4 =>
  some ((), b4.2)
set_option maxHeartbeats 4000000 in
set_option maxRecDepth 100000 in
theorem b_RH_addBytes_0_L3 {l : Launch} {s0 : State} {a0 : Array Value} {D : va_G} {cA : Nat → ClassId} {sp : Nat → Nat} (E : x_En CL l s0 a0 D cA sp) (v1 : Int32) {r : Unit} {σ1 : xS} (a : Int32 × xS) (o : (Int32 × xS) ⊕ (Int32 × xS)) (h : f_RH_addBytes_0_L3 v1 a = some o) (hK : ∀ b, o = .inl b → zW l s0 D cA sp (zQ s0 D cA sp none σ1) (x_rm 0 0 0) M_RH_addBytes 0 0 51 [none, none, none] [] b.2) (hG : ∀ a', o = .inr a' → zW l s0 D cA sp (zQ s0 D cA sp none σ1) (x_rm 0 0 0) M_RH_addBytes 0 0 3 [some (.ref 0), some (.int v1), some (.int a'.1)] [] a'.2) : zW l s0 D cA sp (zQ s0 D cA sp none σ1) (x_rm 0 0 0) M_RH_addBytes 0 0 3 [some (.ref 0), some (.int v1), some (.int a.1)] [] a.2 := by
  obtain ⟨v2, σ⟩ := a
  unfold f_RH_addBytes_0_L3 at h
  try dsimp only at h ⊢
  refine x_iload_n 4 rfl 2 dX8_addBytes_3 rfl rfl ?_
  refine x_if_lt 7 rfl 51 dX8_addBytes_4 (by decide) (fun hc => ?_) (fun hc => ?_)
  · replace h := x_ifT hc h
    cases h
    exact x_wk (x_le_n (x_le_n (x_le_n x_le_0))) (hK (_, _) rfl)
  · replace h := x_ifF hc h
    refine x_aload_n 8 rfl 0 dX8_addBytes_7 rfl rfl ?_
    refine x_getI E dX8_addBytes_8 F_RX8_13 sh_0 11 rfl ?_
    refine x_aload_n 12 rfl 0 dX8_addBytes_11 rfl rfl ?_
    refine x_getR E dX8_addBytes_12 F_RX8_9 sh_0 rf_0_0 15 rfl ?_
    refine x_alen E dX8_addBytes_15 sh_1 16 rfl ?_
    refine x_icmp_ge 19 rfl 51 dX8_addBytes_16 (by decide) (fun hc => ?_) (fun hc => ?_)
    · replace h := x_ifT hc h
      cases h
      exact x_wk (x_le_n (x_le_n (x_le_n x_le_0))) (hK (_, _) rfl)
    · replace h := x_ifF hc h
      refine x_aload_n 20 rfl 0 dX8_addBytes_19 rfl rfl ?_
      refine x_getR E dX8_addBytes_20 F_RX8_9 sh_0 rf_0_0 23 rfl ?_
      refine x_aload_n 24 rfl 0 dX8_addBytes_23 rfl rfl ?_
      refine x_getI E dX8_addBytes_24 F_RX8_13 sh_0 27 rfl ?_
      refine x_iload_n 28 rfl 1 dX8_addBytes_27 rfl rfl ?_
      refine x_iload_n 29 rfl 2 dX8_addBytes_28 rfl rfl ?_
      refine x_iushr 30 rfl dX8_addBytes_29 ?_
      refine x_sipush 33 rfl (v := 255) dX8_addBytes_30 (by decide) ?_
      refine x_iand 34 rfl dX8_addBytes_33 ?_
      obtain ⟨hz, h⟩ := x_ifn h
      refine x_iast E dX8_addBytes_34 sh_1 _ rfl hz 35 rfl ?_
      refine x_aload_n 36 rfl 0 dX8_addBytes_35 rfl rfl ?_
      refine x_dup 37 rfl dX8_addBytes_36 rfl ?_
      refine x_getI E dX8_addBytes_37 F_RX8_13 sh_0 40 rfl ?_
      refine x_iconst 41 rfl (v := 1) dX8_addBytes_40 (by decide) ?_
      refine x_iadd 42 rfl dX8_addBytes_41 ?_
      refine x_putI E dX8_addBytes_42 F_RX8_13 sh_0 45 rfl ?_
      refine x_iinc 48 rfl (-8) dX8_addBytes_45 rfl (by decide) (by decide) [some (.ref 0), some (.int _), some (.int _)] rfl ?_
      refine x_goto 3 dX8_addBytes_48 (by decide) ?_
      cases h
      exact x_wk (x_le_s (x_le_s (x_le_s x_le_0))) (hG (_, _) rfl)
set_option maxHeartbeats 4000000 in
set_option maxRecDepth 100000 in
theorem c_RH_addBytes_0 {l : Launch} {s0 : State} {a0 : Array Value} {D : va_G} {cA : Nat → ClassId} {sp : Nat → Nat} (E : x_En CL l s0 a0 D cA sp) (v1 : Int32) {σ : xS} {r : Unit} {σ1 : xS} (h : f_RH_addBytes_0 v1 σ = some (r, σ1)) : zC l s0 D cA sp 0 M_RH_addBytes [.ref 0, .int v1] σ none σ1 := by
  unfold f_RH_addBytes_0 at h
  try dsimp only at h
  refine x_enter [some (.ref 0), some (.int v1), none] rfl (Nat.le_of_ble_eq_true rfl) (by decide +kernel) rfl ?_
  refine x_bipush 2 rfl (v := 24) dX8_addBytes_0 (by decide) ?_
  refine x_istore_n 3 rfl 2 dX8_addBytes_2 rfl (by decide) [some (.ref 0), some (.int _), some (.int _)] rfl ?_
  obtain ⟨b4, b4h, h⟩ := x_bind h
  try dsimp only at h
  refine x_wk (x_le_s (x_le_s (x_le_s x_le_0))) (x_loop (fun a o h hK hG => b_RH_addBytes_0_L3 (r := r) (σ1 := σ1) E _ a o h hK hG) _ _ _ b4h ?_)
  cases h
  exact x_vret dX8_addBytes_51 rfl rfl rfl
theorem K_RX8_81 : x_KV RX8 81 M_RH_addBytes 1 := ⟨⟨(List.mem_append_right _ (List.mem_of_getElem? (i := 355) (by decide +kernel))), (List.mem_append_right _ (List.mem_of_getElem? (i := 358) (by decide +kernel))), (List.mem_append_right _ (List.mem_of_getElem? (i := 1) (by decide +kernel))), ⟨by decide +kernel, by decide +kernel⟩, by decide +kernel⟩, (List.mem_append_right _ (List.mem_of_getElem? (i := 357) (by decide +kernel))), (List.mem_append_left _ (List.mem_of_getElem? (i := 2) (by decide +kernel)))⟩
abbrev M_RH_feed : xM := (yX8_feed, cX8_feed, 6, some .int, [])
theorem dX8_feed_0 : decode cX8_feed 0 = .ok (.aload_n 0, 1) := by decide +kernel
theorem dX8_feed_1 : decode cX8_feed 1 = .ok (.getfield 13, 3) := by decide +kernel
theorem dX8_feed_4 : decode cX8_feed 4 = .ok (.bipush 20, 2) := by decide +kernel
theorem dX8_feed_6 : decode cX8_feed 6 = .ok (.iadd, 1) := by decide +kernel
theorem dX8_feed_7 : decode cX8_feed 7 = .ok (.sipush 700, 3) := by decide +kernel
theorem dX8_feed_10 : decode cX8_feed 10 = .ok (.if_icmp .le 5, 3) := by decide +kernel
theorem dX8_feed_13 : decode cX8_feed 13 = .ok (.iconst (-1), 1) := by decide +kernel
theorem dX8_feed_14 : decode cX8_feed 14 = .ok (.ireturn, 1) := by decide +kernel
theorem dX8_feed_15 : decode cX8_feed 15 = .ok (.aload_n 0, 1) := by decide +kernel
theorem dX8_feed_16 : decode cX8_feed 16 = .ok (.iload_n 1, 1) := by decide +kernel
theorem dX8_feed_17 : decode cX8_feed 17 = .ok (.invokevirtual 81, 3) := by decide +kernel
theorem dX8_feed_20 : decode cX8_feed 20 = .ok (.aload_n 0, 1) := by decide +kernel
theorem dX8_feed_21 : decode cX8_feed 21 = .ok (.iload_n 2, 1) := by decide +kernel
theorem dX8_feed_22 : decode cX8_feed 22 = .ok (.invokevirtual 81, 3) := by decide +kernel
theorem dX8_feed_25 : decode cX8_feed 25 = .ok (.aload_n 0, 1) := by decide +kernel
theorem dX8_feed_26 : decode cX8_feed 26 = .ok (.iload_n 3, 1) := by decide +kernel
theorem dX8_feed_27 : decode cX8_feed 27 = .ok (.invokevirtual 81, 3) := by decide +kernel
theorem dX8_feed_30 : decode cX8_feed 30 = .ok (.aload_n 0, 1) := by decide +kernel
theorem dX8_feed_31 : decode cX8_feed 31 = .ok (.iload 4, 2) := by decide +kernel
theorem dX8_feed_33 : decode cX8_feed 33 = .ok (.invokevirtual 81, 3) := by decide +kernel
theorem dX8_feed_36 : decode cX8_feed 36 = .ok (.aload_n 0, 1) := by decide +kernel
theorem dX8_feed_37 : decode cX8_feed 37 = .ok (.iload 5, 2) := by decide +kernel
theorem dX8_feed_39 : decode cX8_feed 39 = .ok (.invokevirtual 81, 3) := by decide +kernel
theorem dX8_feed_42 : decode cX8_feed 42 = .ok (.aload_n 0, 1) := by decide +kernel
theorem dX8_feed_43 : decode cX8_feed 43 = .ok (.getfield 13, 3) := by decide +kernel
theorem dX8_feed_46 : decode cX8_feed 46 = .ok (.ireturn, 1) := by decide +kernel
def f_RH_feed_0 (v1 : Int32) (v2 : Int32) (v3 : Int32) (v4 : Int32) (v5 : Int32) (σ : xS) : Option (Int32 × xS) :=
  if (σ.1 0 1 + (20 : Int32)) ≤ (700 : Int32) then
    (f_RH_addBytes_0 v1 σ).bind fun q1 =>
    (f_RH_addBytes_0 v2 q1.2).bind fun q2 =>
    (f_RH_addBytes_0 v3 q2.2).bind fun q3 =>
    (f_RH_addBytes_0 v4 q3.2).bind fun q4 =>
    (f_RH_addBytes_0 v5 q4.2).bind fun q5 =>
    some (q5.2.1 0 1, q5.2)
  else
    some ((-1 : Int32), σ)
set_option maxHeartbeats 4000000 in
set_option maxRecDepth 100000 in
theorem c_RH_feed_0 {l : Launch} {s0 : State} {a0 : Array Value} {D : va_G} {cA : Nat → ClassId} {sp : Nat → Nat} (E : x_En CL l s0 a0 D cA sp) (v1 : Int32) (v2 : Int32) (v3 : Int32) (v4 : Int32) (v5 : Int32) {σ : xS} {r : Int32} {σ1 : xS} (h : f_RH_feed_0 v1 v2 v3 v4 v5 σ = some (r, σ1)) : zC l s0 D cA sp 1 M_RH_feed [.ref 0, .int v1, .int v2, .int v3, .int v4, .int v5] σ (some (.int r)) σ1 := by
  unfold f_RH_feed_0 at h
  try dsimp only at h
  refine x_enter [some (.ref 0), some (.int v1), some (.int v2), some (.int v3), some (.int v4), some (.int v5)] rfl (Nat.le_of_ble_eq_true rfl) (by decide +kernel) rfl ?_
  refine x_aload_n 1 rfl 0 dX8_feed_0 rfl rfl ?_
  refine x_getI E dX8_feed_1 F_RX8_13 sh_0 4 rfl ?_
  refine x_bipush 6 rfl (v := 20) dX8_feed_4 (by decide) ?_
  refine x_iadd 7 rfl dX8_feed_6 ?_
  refine x_sipush 10 rfl (v := 700) dX8_feed_7 (by decide) ?_
  refine x_icmp_le 13 rfl 15 dX8_feed_10 (by decide) (fun hc => ?_) (fun hc => ?_)
  · replace h := x_ifT hc h
    refine x_aload_n 16 rfl 0 dX8_feed_15 rfl rfl ?_
    refine x_iload_n 17 rfl 1 dX8_feed_16 rfl rfl ?_
    obtain ⟨⟨q1r, q1s⟩, q1h, h⟩ := x_bind h
    try dsimp only at h
    refine z_callV E [.int _] [] dX8_feed_17 K_RX8_81 ⟨Nat.le_of_ble_eq_true rfl, Nat.le_of_ble_eq_true rfl⟩ sh_0 (by decide) rfl (c_RH_addBytes_0 E _ q1h) rfl rfl (Nat.le_of_ble_eq_true rfl) 20 rfl [] rfl ?_
    refine x_aload_n 21 rfl 0 dX8_feed_20 rfl rfl ?_
    refine x_iload_n 22 rfl 2 dX8_feed_21 rfl rfl ?_
    obtain ⟨⟨q2r, q2s⟩, q2h, h⟩ := x_bind h
    try dsimp only at h
    refine z_callV E [.int _] [] dX8_feed_22 K_RX8_81 ⟨Nat.le_of_ble_eq_true rfl, Nat.le_of_ble_eq_true rfl⟩ sh_0 (by decide) rfl (c_RH_addBytes_0 E _ q2h) rfl rfl (Nat.le_of_ble_eq_true rfl) 25 rfl [] rfl ?_
    refine x_aload_n 26 rfl 0 dX8_feed_25 rfl rfl ?_
    refine x_iload_n 27 rfl 3 dX8_feed_26 rfl rfl ?_
    obtain ⟨⟨q3r, q3s⟩, q3h, h⟩ := x_bind h
    try dsimp only at h
    refine z_callV E [.int _] [] dX8_feed_27 K_RX8_81 ⟨Nat.le_of_ble_eq_true rfl, Nat.le_of_ble_eq_true rfl⟩ sh_0 (by decide) rfl (c_RH_addBytes_0 E _ q3h) rfl rfl (Nat.le_of_ble_eq_true rfl) 30 rfl [] rfl ?_
    refine x_aload_n 31 rfl 0 dX8_feed_30 rfl rfl ?_
    refine x_iload 33 rfl dX8_feed_31 rfl ?_
    obtain ⟨⟨q4r, q4s⟩, q4h, h⟩ := x_bind h
    try dsimp only at h
    refine z_callV E [.int _] [] dX8_feed_33 K_RX8_81 ⟨Nat.le_of_ble_eq_true rfl, Nat.le_of_ble_eq_true rfl⟩ sh_0 (by decide) rfl (c_RH_addBytes_0 E _ q4h) rfl rfl (Nat.le_of_ble_eq_true rfl) 36 rfl [] rfl ?_
    refine x_aload_n 37 rfl 0 dX8_feed_36 rfl rfl ?_
    refine x_iload 39 rfl dX8_feed_37 rfl ?_
    obtain ⟨⟨q5r, q5s⟩, q5h, h⟩ := x_bind h
    try dsimp only at h
    refine z_callV E [.int _] [] dX8_feed_39 K_RX8_81 ⟨Nat.le_of_ble_eq_true rfl, Nat.le_of_ble_eq_true rfl⟩ sh_0 (by decide) rfl (c_RH_addBytes_0 E _ q5h) rfl rfl (Nat.le_of_ble_eq_true rfl) 42 rfl [] rfl ?_
    refine x_aload_n 43 rfl 0 dX8_feed_42 rfl rfl ?_
    refine x_getI E dX8_feed_43 F_RX8_13 sh_0 46 rfl ?_
    cases h
    exact x_iret dX8_feed_46 rfl rfl rfl
  · replace h := x_ifF hc h
    refine x_iconst 14 rfl (v := -1) dX8_feed_13 (by decide) ?_
    cases h
    exact x_iret dX8_feed_14 rfl rfl rfl
abbrev M_Re_isKind : xM := (yX2_isKind, cX2_isKind, 2, some .boolean, [])
theorem dX2_isKind_0 : decode cX2_isKind 0 = .ok (.aload_n 0, 1) := by decide +kernel
theorem dX2_isKind_1 : decode cX2_isKind 1 = .ok (.getfield 25, 3) := by decide +kernel
theorem dX2_isKind_4 : decode cX2_isKind 4 = .ok (.aload_n 0, 1) := by decide +kernel
theorem dX2_isKind_5 : decode cX2_isKind 5 = .ok (.getfield 21, 3) := by decide +kernel
theorem dX2_isKind_8 : decode cX2_isKind 8 = .ok (.if_icmp .ge 20, 3) := by decide +kernel
theorem dX2_isKind_11 : decode cX2_isKind 11 = .ok (.aload_n 0, 1) := by decide +kernel
theorem dX2_isKind_12 : decode cX2_isKind 12 = .ok (.getfield 9, 3) := by decide +kernel
theorem dX2_isKind_15 : decode cX2_isKind 15 = .ok (.aload_n 0, 1) := by decide +kernel
theorem dX2_isKind_16 : decode cX2_isKind 16 = .ok (.getfield 25, 3) := by decide +kernel
theorem dX2_isKind_19 : decode cX2_isKind 19 = .ok (.iaload, 1) := by decide +kernel
theorem dX2_isKind_20 : decode cX2_isKind 20 = .ok (.iload_n 1, 1) := by decide +kernel
theorem dX2_isKind_21 : decode cX2_isKind 21 = .ok (.if_icmp .ne 7, 3) := by decide +kernel
theorem dX2_isKind_24 : decode cX2_isKind 24 = .ok (.iconst 1, 1) := by decide +kernel
theorem dX2_isKind_25 : decode cX2_isKind 25 = .ok (.goto 4, 3) := by decide +kernel
theorem dX2_isKind_28 : decode cX2_isKind 28 = .ok (.iconst 0, 1) := by decide +kernel
theorem dX2_isKind_29 : decode cX2_isKind 29 = .ok (.ireturn, 1) := by decide +kernel
def f_Re_isKind_2 (v1 : Int32) (σ : xS) : Option (Int32 × xS) :=
  if σ.1 2 3 ≤ σ.1 2 4 then
    some ((0 : Int32), σ)
  else
    if σ.1 2 4 < 0 ∨ 701 ≤ (σ.1 2 4).toNatClampNeg then none else
    if σ.1 3 (σ.1 2 4).toNatClampNeg = v1 then
      some ((1 : Int32), σ)
    else
      some ((0 : Int32), σ)
set_option maxHeartbeats 4000000 in
set_option maxRecDepth 100000 in
theorem c_Re_isKind_2 {l : Launch} {s0 : State} {a0 : Array Value} {D : va_G} {cA : Nat → ClassId} {sp : Nat → Nat} (E : x_En CL l s0 a0 D cA sp) (v1 : Int32) {σ : xS} {r : Int32} {σ1 : xS} (h : f_Re_isKind_2 v1 σ = some (r, σ1)) : zC l s0 D cA sp 0 M_Re_isKind [.ref 2, .int v1] σ (some (.int r)) σ1 := by
  unfold f_Re_isKind_2 at h
  try dsimp only at h
  refine x_enter [some (.ref 2), some (.int v1)] rfl (Nat.le_of_ble_eq_true rfl) (by decide +kernel) rfl ?_
  refine x_aload_n 1 rfl 0 dX2_isKind_0 rfl rfl ?_
  refine x_getI E dX2_isKind_1 F_RX2_25 sh_2 4 rfl ?_
  refine x_aload_n 5 rfl 0 dX2_isKind_4 rfl rfl ?_
  refine x_getI E dX2_isKind_5 F_RX2_21 sh_2 8 rfl ?_
  refine x_icmp_ge 11 rfl 28 dX2_isKind_8 (by decide) (fun hc => ?_) (fun hc => ?_)
  · replace h := x_ifT hc h
    refine x_iconst 29 rfl (v := 0) dX2_isKind_28 (by decide) ?_
    cases h
    exact x_zret (Or.inl rfl) dX2_isKind_29 rfl rfl rfl
  · replace h := x_ifF hc h
    refine x_aload_n 12 rfl 0 dX2_isKind_11 rfl rfl ?_
    refine x_getR E dX2_isKind_12 F_RX2_9 sh_2 rf_2_0 15 rfl ?_
    refine x_aload_n 16 rfl 0 dX2_isKind_15 rfl rfl ?_
    refine x_getI E dX2_isKind_16 F_RX2_25 sh_2 19 rfl ?_
    obtain ⟨hz, h⟩ := x_ifn h
    refine x_iald E dX2_isKind_19 sh_3 _ rfl hz 20 rfl ?_
    refine x_iload_n 21 rfl 1 dX2_isKind_20 rfl rfl ?_
    refine x_icmp_ne 24 rfl 28 dX2_isKind_21 (by decide) (fun hc => ?_) (fun hc => ?_)
    · replace h := x_ifF hc h
      refine x_iconst 29 rfl (v := 0) dX2_isKind_28 (by decide) ?_
      cases h
      exact x_zret (Or.inl rfl) dX2_isKind_29 rfl rfl rfl
    · replace h := x_ifT hc h
      refine x_iconst 25 rfl (v := 1) dX2_isKind_24 (by decide) ?_
      refine x_goto 29 dX2_isKind_25 (by decide) ?_
      cases h
      exact x_zret (Or.inr rfl) dX2_isKind_29 rfl rfl rfl
abbrev M_RH_fault : xM := (yX8_fault, cX8_fault, 1, some .int, [])
theorem dX8_fault_0 : decode cX8_fault 0 = .ok (.aload_n 0, 1) := by decide +kernel
theorem dX8_fault_1 : decode cX8_fault 1 = .ok (.getfield 65, 3) := by decide +kernel
theorem dX8_fault_4 : decode cX8_fault 4 = .ok (.ireturn, 1) := by decide +kernel
def f_RH_fault_0  (σ : xS) : Option (Int32 × xS) :=
  some (σ.1 0 11, σ)
set_option maxHeartbeats 4000000 in
set_option maxRecDepth 100000 in
theorem c_RH_fault_0 {l : Launch} {s0 : State} {a0 : Array Value} {D : va_G} {cA : Nat → ClassId} {sp : Nat → Nat} (E : x_En CL l s0 a0 D cA sp)  {σ : xS} {r : Int32} {σ1 : xS} (h : f_RH_fault_0  σ = some (r, σ1)) : zC l s0 D cA sp 0 M_RH_fault [.ref 0] σ (some (.int r)) σ1 := by
  unfold f_RH_fault_0 at h
  try dsimp only at h
  refine x_enter [some (.ref 0)] rfl (Nat.le_of_ble_eq_true rfl) (by decide +kernel) rfl ?_
  refine x_aload_n 1 rfl 0 dX8_fault_0 rfl rfl ?_
  refine x_getI E dX8_fault_1 F_RX8_65 sh_0 4 rfl ?_
  cases h
  exact x_iret dX8_fault_4 rfl rfl rfl
theorem AO_130_134 : ∀ w ∈ Cond.classLink RX8 130 (x_Xn 2) :: Cond.initialized (x_Xn 2) :: x_atF RX8 134 (x_Xn 2) "java/lang/RuntimeException" ["java/lang/Exception"], vx_ot w = true := by decide +kernel
theorem AX_134 : ∀ w ∈ x_atF RX8 134 (x_Xn 2) "java/lang/RuntimeException" ["java/lang/Exception"], w ∈ lw_tbl ∧ x_mv w = true := by decide +kernel
theorem KX_RX8_132 : x_KN2 RX8 130 132 134 (x_Xn 2) "no such count" := ⟨by decide +kernel, (List.mem_append_right _ (List.mem_of_getElem? (i := 881) (by decide +kernel))), (List.mem_append_right _ (List.mem_of_getElem? (i := 22) (by decide +kernel))), (List.mem_append_right _ (List.mem_of_getElem? (i := 890) (by decide +kernel))), (List.mem_of_getElem? (i := 441) (by decide +kernel)), AX_134, AO_130_134⟩
abbrev M_RH_count : xM := (yX8_count, cX8_count, 2, some .int, [])
theorem dX8_count_0 : decode cX8_count 0 = .ok (.iload_n 1, 1) := by decide +kernel
theorem dX8_count_1 : decode cX8_count 1 = .ok (.tableswitch 237 0 17 #[87, 95, 103, 111, 119, 127, 137, 147, 157, 167, 177, 187, 195, 203, 211, 216, 223, 230], 87) := by decide +kernel
theorem dX8_count_88 : decode cX8_count 88 = .ok (.aload_n 0, 1) := by decide +kernel
theorem dX8_count_89 : decode cX8_count 89 = .ok (.getfield 27, 3) := by decide +kernel
theorem dX8_count_92 : decode cX8_count 92 = .ok (.getfield 103, 3) := by decide +kernel
theorem dX8_count_95 : decode cX8_count 95 = .ok (.ireturn, 1) := by decide +kernel
theorem dX8_count_96 : decode cX8_count 96 = .ok (.aload_n 0, 1) := by decide +kernel
theorem dX8_count_97 : decode cX8_count 97 = .ok (.getfield 27, 3) := by decide +kernel
theorem dX8_count_100 : decode cX8_count 100 = .ok (.getfield 106, 3) := by decide +kernel
theorem dX8_count_103 : decode cX8_count 103 = .ok (.ireturn, 1) := by decide +kernel
theorem dX8_count_104 : decode cX8_count 104 = .ok (.aload_n 0, 1) := by decide +kernel
theorem dX8_count_105 : decode cX8_count 105 = .ok (.getfield 27, 3) := by decide +kernel
theorem dX8_count_108 : decode cX8_count 108 = .ok (.getfield 109, 3) := by decide +kernel
theorem dX8_count_111 : decode cX8_count 111 = .ok (.ireturn, 1) := by decide +kernel
theorem dX8_count_112 : decode cX8_count 112 = .ok (.aload_n 0, 1) := by decide +kernel
theorem dX8_count_113 : decode cX8_count 113 = .ok (.getfield 27, 3) := by decide +kernel
theorem dX8_count_116 : decode cX8_count 116 = .ok (.getfield 112, 3) := by decide +kernel
theorem dX8_count_119 : decode cX8_count 119 = .ok (.ireturn, 1) := by decide +kernel
theorem dX8_count_120 : decode cX8_count 120 = .ok (.aload_n 0, 1) := by decide +kernel
theorem dX8_count_121 : decode cX8_count 121 = .ok (.getfield 27, 3) := by decide +kernel
theorem dX8_count_124 : decode cX8_count 124 = .ok (.getfield 115, 3) := by decide +kernel
theorem dX8_count_127 : decode cX8_count 127 = .ok (.ireturn, 1) := by decide +kernel
theorem dX8_count_128 : decode cX8_count 128 = .ok (.aload_n 0, 1) := by decide +kernel
theorem dX8_count_129 : decode cX8_count 129 = .ok (.getfield 37, 3) := by decide +kernel
theorem dX8_count_132 : decode cX8_count 132 = .ok (.getfield 118, 3) := by decide +kernel
theorem dX8_count_135 : decode cX8_count 135 = .ok (.iconst 4, 1) := by decide +kernel
theorem dX8_count_136 : decode cX8_count 136 = .ok (.iaload, 1) := by decide +kernel
theorem dX8_count_137 : decode cX8_count 137 = .ok (.ireturn, 1) := by decide +kernel
theorem dX8_count_138 : decode cX8_count 138 = .ok (.aload_n 0, 1) := by decide +kernel
theorem dX8_count_139 : decode cX8_count 139 = .ok (.getfield 37, 3) := by decide +kernel
theorem dX8_count_142 : decode cX8_count 142 = .ok (.getfield 118, 3) := by decide +kernel
theorem dX8_count_145 : decode cX8_count 145 = .ok (.iconst 0, 1) := by decide +kernel
theorem dX8_count_146 : decode cX8_count 146 = .ok (.iaload, 1) := by decide +kernel
theorem dX8_count_147 : decode cX8_count 147 = .ok (.ireturn, 1) := by decide +kernel
theorem dX8_count_148 : decode cX8_count 148 = .ok (.aload_n 0, 1) := by decide +kernel
theorem dX8_count_149 : decode cX8_count 149 = .ok (.getfield 37, 3) := by decide +kernel
theorem dX8_count_152 : decode cX8_count 152 = .ok (.getfield 118, 3) := by decide +kernel
theorem dX8_count_155 : decode cX8_count 155 = .ok (.iconst 1, 1) := by decide +kernel
theorem dX8_count_156 : decode cX8_count 156 = .ok (.iaload, 1) := by decide +kernel
theorem dX8_count_157 : decode cX8_count 157 = .ok (.ireturn, 1) := by decide +kernel
theorem dX8_count_158 : decode cX8_count 158 = .ok (.aload_n 0, 1) := by decide +kernel
theorem dX8_count_159 : decode cX8_count 159 = .ok (.getfield 37, 3) := by decide +kernel
theorem dX8_count_162 : decode cX8_count 162 = .ok (.getfield 118, 3) := by decide +kernel
theorem dX8_count_165 : decode cX8_count 165 = .ok (.iconst 2, 1) := by decide +kernel
theorem dX8_count_166 : decode cX8_count 166 = .ok (.iaload, 1) := by decide +kernel
theorem dX8_count_167 : decode cX8_count 167 = .ok (.ireturn, 1) := by decide +kernel
theorem dX8_count_168 : decode cX8_count 168 = .ok (.aload_n 0, 1) := by decide +kernel
theorem dX8_count_169 : decode cX8_count 169 = .ok (.getfield 37, 3) := by decide +kernel
theorem dX8_count_172 : decode cX8_count 172 = .ok (.getfield 118, 3) := by decide +kernel
theorem dX8_count_175 : decode cX8_count 175 = .ok (.iconst 3, 1) := by decide +kernel
theorem dX8_count_176 : decode cX8_count 176 = .ok (.iaload, 1) := by decide +kernel
theorem dX8_count_177 : decode cX8_count 177 = .ok (.ireturn, 1) := by decide +kernel
theorem dX8_count_178 : decode cX8_count 178 = .ok (.aload_n 0, 1) := by decide +kernel
theorem dX8_count_179 : decode cX8_count 179 = .ok (.getfield 37, 3) := by decide +kernel
theorem dX8_count_182 : decode cX8_count 182 = .ok (.getfield 118, 3) := by decide +kernel
theorem dX8_count_185 : decode cX8_count 185 = .ok (.iconst 5, 1) := by decide +kernel
theorem dX8_count_186 : decode cX8_count 186 = .ok (.iaload, 1) := by decide +kernel
theorem dX8_count_187 : decode cX8_count 187 = .ok (.ireturn, 1) := by decide +kernel
theorem dX8_count_188 : decode cX8_count 188 = .ok (.aload_n 0, 1) := by decide +kernel
theorem dX8_count_189 : decode cX8_count 189 = .ok (.getfield 37, 3) := by decide +kernel
theorem dX8_count_192 : decode cX8_count 192 = .ok (.getfield 121, 3) := by decide +kernel
theorem dX8_count_195 : decode cX8_count 195 = .ok (.ireturn, 1) := by decide +kernel
theorem dX8_count_196 : decode cX8_count 196 = .ok (.aload_n 0, 1) := by decide +kernel
theorem dX8_count_197 : decode cX8_count 197 = .ok (.getfield 37, 3) := by decide +kernel
theorem dX8_count_200 : decode cX8_count 200 = .ok (.getfield 124, 3) := by decide +kernel
theorem dX8_count_203 : decode cX8_count 203 = .ok (.ireturn, 1) := by decide +kernel
theorem dX8_count_204 : decode cX8_count 204 = .ok (.aload_n 0, 1) := by decide +kernel
theorem dX8_count_205 : decode cX8_count 205 = .ok (.getfield 37, 3) := by decide +kernel
theorem dX8_count_208 : decode cX8_count 208 = .ok (.getfield 127, 3) := by decide +kernel
theorem dX8_count_211 : decode cX8_count 211 = .ok (.ireturn, 1) := by decide +kernel
theorem dX8_count_212 : decode cX8_count 212 = .ok (.aload_n 0, 1) := by decide +kernel
theorem dX8_count_213 : decode cX8_count 213 = .ok (.getfield 13, 3) := by decide +kernel
theorem dX8_count_216 : decode cX8_count 216 = .ok (.ireturn, 1) := by decide +kernel
theorem dX8_count_217 : decode cX8_count 217 = .ok (.aload_n 0, 1) := by decide +kernel
theorem dX8_count_218 : decode cX8_count 218 = .ok (.getfield 68, 3) := by decide +kernel
theorem dX8_count_221 : decode cX8_count 221 = .ok (.iconst 0, 1) := by decide +kernel
theorem dX8_count_222 : decode cX8_count 222 = .ok (.iaload, 1) := by decide +kernel
theorem dX8_count_223 : decode cX8_count 223 = .ok (.ireturn, 1) := by decide +kernel
theorem dX8_count_224 : decode cX8_count 224 = .ok (.aload_n 0, 1) := by decide +kernel
theorem dX8_count_225 : decode cX8_count 225 = .ok (.getfield 68, 3) := by decide +kernel
theorem dX8_count_228 : decode cX8_count 228 = .ok (.iconst 1, 1) := by decide +kernel
theorem dX8_count_229 : decode cX8_count 229 = .ok (.iaload, 1) := by decide +kernel
theorem dX8_count_230 : decode cX8_count 230 = .ok (.ireturn, 1) := by decide +kernel
theorem dX8_count_231 : decode cX8_count 231 = .ok (.aload_n 0, 1) := by decide +kernel
theorem dX8_count_232 : decode cX8_count 232 = .ok (.getfield 68, 3) := by decide +kernel
theorem dX8_count_235 : decode cX8_count 235 = .ok (.iconst 2, 1) := by decide +kernel
theorem dX8_count_236 : decode cX8_count 236 = .ok (.iaload, 1) := by decide +kernel
theorem dX8_count_237 : decode cX8_count 237 = .ok (.ireturn, 1) := by decide +kernel
theorem dX8_count_238 : decode cX8_count 238 = .ok (.new 130, 3) := by decide +kernel
theorem dX8_count_241 : decode cX8_count 241 = .ok (.dup, 1) := by decide +kernel
theorem dX8_count_242 : decode cX8_count 242 = .ok (.ldc 132, 2) := by decide +kernel
theorem dX8_count_244 : decode cX8_count 244 = .ok (.invokespecial 134, 3) := by decide +kernel
theorem dX8_count_247 : decode cX8_count 247 = .ok (.athrow, 1) := by decide +kernel
def f_RH_count_0 (v1 : Int32) (σ : xS) : Option ((Int32 ⊕ Nat) × xS) :=
  if v1 = (0 : Int32) then
    some (.inl (σ.1 7 4), σ)
  else if v1 = (1 : Int32) then
    some (.inl (σ.1 7 1), σ)
  else if v1 = (2 : Int32) then
    some (.inl (σ.1 7 5), σ)
  else if v1 = (3 : Int32) then
    some (.inl (σ.1 7 8), σ)
  else if v1 = (4 : Int32) then
    some (.inl (σ.1 7 9), σ)
  else if v1 = (5 : Int32) then
    some (.inl (σ.1 36 4), σ)
  else if v1 = (6 : Int32) then
    some (.inl (σ.1 36 0), σ)
  else if v1 = (7 : Int32) then
    some (.inl (σ.1 36 1), σ)
  else if v1 = (8 : Int32) then
    some (.inl (σ.1 36 2), σ)
  else if v1 = (9 : Int32) then
    some (.inl (σ.1 36 3), σ)
  else if v1 = (10 : Int32) then
    some (.inl (σ.1 36 5), σ)
  else if v1 = (11 : Int32) then
    some (.inl (σ.1 35 3), σ)
  else if v1 = (12 : Int32) then
    some (.inl (σ.1 35 6), σ)
  else if v1 = (13 : Int32) then
    some (.inl (σ.1 35 8), σ)
  else if v1 = (14 : Int32) then
    some (.inl (σ.1 0 1), σ)
  else if v1 = (15 : Int32) then
    some (.inl (σ.1 59 0), σ)
  else if v1 = (16 : Int32) then
    some (.inl (σ.1 59 1), σ)
  else if v1 = (17 : Int32) then
    some (.inl (σ.1 59 2), σ)
  else 
    some (.inr 2, σ)
set_option maxHeartbeats 4000000 in
set_option maxRecDepth 100000 in
theorem c_RH_count_0 {l : Launch} {s0 : State} {a0 : Array Value} {D : va_G} {cA : Nat → ClassId} {sp : Nat → Nat} (E : x_En CL l s0 a0 D cA sp) (v1 : Int32) {σ : xS} {r : Int32 ⊕ Nat} {σ1 : xS} (h : f_RH_count_0 v1 σ = some (r, σ1)) : oC l s0 D cA sp 0 M_RH_count [.ref 0, .int v1] σ (x_oi r) σ1 := by
  unfold f_RH_count_0 at h
  try dsimp only at h
  refine x_enterO [some (.ref 0), some (.int v1)] rfl (Nat.le_of_ble_eq_true rfl) (by decide +kernel) rfl ?_
  refine x_iload_n 1 rfl 1 dX8_count_0 rfl rfl ?_
  refine x_case (0) (fun hc0 => ?_) (fun hc0 => ?_)
  · replace h := x_ifT hc0 h
    refine x_tabIn (off := 87) 88 dX8_count_1 (by rw [hc0]; decide) (by rw [hc0]; decide) (by rw [hc0]; rfl) (by decide) ?_
    refine x_aload_n 89 rfl 0 dX8_count_88 rfl rfl ?_
    refine x_getR E dX8_count_89 F_RX8_27 sh_0 rf_0_3 92 rfl ?_
    refine x_getI E dX8_count_92 F_RX8_103 sh_7 95 rfl ?_
    cases h
    exact x_Oret (x_iret dX8_count_95 rfl rfl rfl)
  replace h := x_ifF hc0 h
  refine x_case (1) (fun hc1 => ?_) (fun hc1 => ?_)
  · replace h := x_ifT hc1 h
    refine x_tabIn (off := 95) 96 dX8_count_1 (by rw [hc1]; decide) (by rw [hc1]; decide) (by rw [hc1]; rfl) (by decide) ?_
    refine x_aload_n 97 rfl 0 dX8_count_96 rfl rfl ?_
    refine x_getR E dX8_count_97 F_RX8_27 sh_0 rf_0_3 100 rfl ?_
    refine x_getI E dX8_count_100 F_RX8_106 sh_7 103 rfl ?_
    cases h
    exact x_Oret (x_iret dX8_count_103 rfl rfl rfl)
  replace h := x_ifF hc1 h
  refine x_case (2) (fun hc2 => ?_) (fun hc2 => ?_)
  · replace h := x_ifT hc2 h
    refine x_tabIn (off := 103) 104 dX8_count_1 (by rw [hc2]; decide) (by rw [hc2]; decide) (by rw [hc2]; rfl) (by decide) ?_
    refine x_aload_n 105 rfl 0 dX8_count_104 rfl rfl ?_
    refine x_getR E dX8_count_105 F_RX8_27 sh_0 rf_0_3 108 rfl ?_
    refine x_getI E dX8_count_108 F_RX8_109 sh_7 111 rfl ?_
    cases h
    exact x_Oret (x_iret dX8_count_111 rfl rfl rfl)
  replace h := x_ifF hc2 h
  refine x_case (3) (fun hc3 => ?_) (fun hc3 => ?_)
  · replace h := x_ifT hc3 h
    refine x_tabIn (off := 111) 112 dX8_count_1 (by rw [hc3]; decide) (by rw [hc3]; decide) (by rw [hc3]; rfl) (by decide) ?_
    refine x_aload_n 113 rfl 0 dX8_count_112 rfl rfl ?_
    refine x_getR E dX8_count_113 F_RX8_27 sh_0 rf_0_3 116 rfl ?_
    refine x_getI E dX8_count_116 F_RX8_112 sh_7 119 rfl ?_
    cases h
    exact x_Oret (x_iret dX8_count_119 rfl rfl rfl)
  replace h := x_ifF hc3 h
  refine x_case (4) (fun hc4 => ?_) (fun hc4 => ?_)
  · replace h := x_ifT hc4 h
    refine x_tabIn (off := 119) 120 dX8_count_1 (by rw [hc4]; decide) (by rw [hc4]; decide) (by rw [hc4]; rfl) (by decide) ?_
    refine x_aload_n 121 rfl 0 dX8_count_120 rfl rfl ?_
    refine x_getR E dX8_count_121 F_RX8_27 sh_0 rf_0_3 124 rfl ?_
    refine x_getI E dX8_count_124 F_RX8_115 sh_7 127 rfl ?_
    cases h
    exact x_Oret (x_iret dX8_count_127 rfl rfl rfl)
  replace h := x_ifF hc4 h
  refine x_case (5) (fun hc5 => ?_) (fun hc5 => ?_)
  · replace h := x_ifT hc5 h
    refine x_tabIn (off := 127) 128 dX8_count_1 (by rw [hc5]; decide) (by rw [hc5]; decide) (by rw [hc5]; rfl) (by decide) ?_
    refine x_aload_n 129 rfl 0 dX8_count_128 rfl rfl ?_
    refine x_getR E dX8_count_129 F_RX8_37 sh_0 rf_0_5 132 rfl ?_
    refine x_getR E dX8_count_132 F_RX8_118 sh_35 rf_35_0 135 rfl ?_
    refine x_iconst 136 rfl (v := 4) dX8_count_135 (by decide) ?_
    refine x_iald E dX8_count_136 sh_36 4 (by decide) (by decide) 137 rfl ?_
    cases h
    exact x_Oret (x_iret dX8_count_137 rfl rfl rfl)
  replace h := x_ifF hc5 h
  refine x_case (6) (fun hc6 => ?_) (fun hc6 => ?_)
  · replace h := x_ifT hc6 h
    refine x_tabIn (off := 137) 138 dX8_count_1 (by rw [hc6]; decide) (by rw [hc6]; decide) (by rw [hc6]; rfl) (by decide) ?_
    refine x_aload_n 139 rfl 0 dX8_count_138 rfl rfl ?_
    refine x_getR E dX8_count_139 F_RX8_37 sh_0 rf_0_5 142 rfl ?_
    refine x_getR E dX8_count_142 F_RX8_118 sh_35 rf_35_0 145 rfl ?_
    refine x_iconst 146 rfl (v := 0) dX8_count_145 (by decide) ?_
    refine x_iald E dX8_count_146 sh_36 0 (by decide) (by decide) 147 rfl ?_
    cases h
    exact x_Oret (x_iret dX8_count_147 rfl rfl rfl)
  replace h := x_ifF hc6 h
  refine x_case (7) (fun hc7 => ?_) (fun hc7 => ?_)
  · replace h := x_ifT hc7 h
    refine x_tabIn (off := 147) 148 dX8_count_1 (by rw [hc7]; decide) (by rw [hc7]; decide) (by rw [hc7]; rfl) (by decide) ?_
    refine x_aload_n 149 rfl 0 dX8_count_148 rfl rfl ?_
    refine x_getR E dX8_count_149 F_RX8_37 sh_0 rf_0_5 152 rfl ?_
    refine x_getR E dX8_count_152 F_RX8_118 sh_35 rf_35_0 155 rfl ?_
    refine x_iconst 156 rfl (v := 1) dX8_count_155 (by decide) ?_
    refine x_iald E dX8_count_156 sh_36 1 (by decide) (by decide) 157 rfl ?_
    cases h
    exact x_Oret (x_iret dX8_count_157 rfl rfl rfl)
  replace h := x_ifF hc7 h
  refine x_case (8) (fun hc8 => ?_) (fun hc8 => ?_)
  · replace h := x_ifT hc8 h
    refine x_tabIn (off := 157) 158 dX8_count_1 (by rw [hc8]; decide) (by rw [hc8]; decide) (by rw [hc8]; rfl) (by decide) ?_
    refine x_aload_n 159 rfl 0 dX8_count_158 rfl rfl ?_
    refine x_getR E dX8_count_159 F_RX8_37 sh_0 rf_0_5 162 rfl ?_
    refine x_getR E dX8_count_162 F_RX8_118 sh_35 rf_35_0 165 rfl ?_
    refine x_iconst 166 rfl (v := 2) dX8_count_165 (by decide) ?_
    refine x_iald E dX8_count_166 sh_36 2 (by decide) (by decide) 167 rfl ?_
    cases h
    exact x_Oret (x_iret dX8_count_167 rfl rfl rfl)
  replace h := x_ifF hc8 h
  refine x_case (9) (fun hc9 => ?_) (fun hc9 => ?_)
  · replace h := x_ifT hc9 h
    refine x_tabIn (off := 167) 168 dX8_count_1 (by rw [hc9]; decide) (by rw [hc9]; decide) (by rw [hc9]; rfl) (by decide) ?_
    refine x_aload_n 169 rfl 0 dX8_count_168 rfl rfl ?_
    refine x_getR E dX8_count_169 F_RX8_37 sh_0 rf_0_5 172 rfl ?_
    refine x_getR E dX8_count_172 F_RX8_118 sh_35 rf_35_0 175 rfl ?_
    refine x_iconst 176 rfl (v := 3) dX8_count_175 (by decide) ?_
    refine x_iald E dX8_count_176 sh_36 3 (by decide) (by decide) 177 rfl ?_
    cases h
    exact x_Oret (x_iret dX8_count_177 rfl rfl rfl)
  replace h := x_ifF hc9 h
  refine x_case (10) (fun hc10 => ?_) (fun hc10 => ?_)
  · replace h := x_ifT hc10 h
    refine x_tabIn (off := 177) 178 dX8_count_1 (by rw [hc10]; decide) (by rw [hc10]; decide) (by rw [hc10]; rfl) (by decide) ?_
    refine x_aload_n 179 rfl 0 dX8_count_178 rfl rfl ?_
    refine x_getR E dX8_count_179 F_RX8_37 sh_0 rf_0_5 182 rfl ?_
    refine x_getR E dX8_count_182 F_RX8_118 sh_35 rf_35_0 185 rfl ?_
    refine x_iconst 186 rfl (v := 5) dX8_count_185 (by decide) ?_
    refine x_iald E dX8_count_186 sh_36 5 (by decide) (by decide) 187 rfl ?_
    cases h
    exact x_Oret (x_iret dX8_count_187 rfl rfl rfl)
  replace h := x_ifF hc10 h
  refine x_case (11) (fun hc11 => ?_) (fun hc11 => ?_)
  · replace h := x_ifT hc11 h
    refine x_tabIn (off := 187) 188 dX8_count_1 (by rw [hc11]; decide) (by rw [hc11]; decide) (by rw [hc11]; rfl) (by decide) ?_
    refine x_aload_n 189 rfl 0 dX8_count_188 rfl rfl ?_
    refine x_getR E dX8_count_189 F_RX8_37 sh_0 rf_0_5 192 rfl ?_
    refine x_getI E dX8_count_192 F_RX8_121 sh_35 195 rfl ?_
    cases h
    exact x_Oret (x_iret dX8_count_195 rfl rfl rfl)
  replace h := x_ifF hc11 h
  refine x_case (12) (fun hc12 => ?_) (fun hc12 => ?_)
  · replace h := x_ifT hc12 h
    refine x_tabIn (off := 195) 196 dX8_count_1 (by rw [hc12]; decide) (by rw [hc12]; decide) (by rw [hc12]; rfl) (by decide) ?_
    refine x_aload_n 197 rfl 0 dX8_count_196 rfl rfl ?_
    refine x_getR E dX8_count_197 F_RX8_37 sh_0 rf_0_5 200 rfl ?_
    refine x_getI E dX8_count_200 F_RX8_124 sh_35 203 rfl ?_
    cases h
    exact x_Oret (x_iret dX8_count_203 rfl rfl rfl)
  replace h := x_ifF hc12 h
  refine x_case (13) (fun hc13 => ?_) (fun hc13 => ?_)
  · replace h := x_ifT hc13 h
    refine x_tabIn (off := 203) 204 dX8_count_1 (by rw [hc13]; decide) (by rw [hc13]; decide) (by rw [hc13]; rfl) (by decide) ?_
    refine x_aload_n 205 rfl 0 dX8_count_204 rfl rfl ?_
    refine x_getR E dX8_count_205 F_RX8_37 sh_0 rf_0_5 208 rfl ?_
    refine x_getI E dX8_count_208 F_RX8_127 sh_35 211 rfl ?_
    cases h
    exact x_Oret (x_iret dX8_count_211 rfl rfl rfl)
  replace h := x_ifF hc13 h
  refine x_case (14) (fun hc14 => ?_) (fun hc14 => ?_)
  · replace h := x_ifT hc14 h
    refine x_tabIn (off := 211) 212 dX8_count_1 (by rw [hc14]; decide) (by rw [hc14]; decide) (by rw [hc14]; rfl) (by decide) ?_
    refine x_aload_n 213 rfl 0 dX8_count_212 rfl rfl ?_
    refine x_getI E dX8_count_213 F_RX8_13 sh_0 216 rfl ?_
    cases h
    exact x_Oret (x_iret dX8_count_216 rfl rfl rfl)
  replace h := x_ifF hc14 h
  refine x_case (15) (fun hc15 => ?_) (fun hc15 => ?_)
  · replace h := x_ifT hc15 h
    refine x_tabIn (off := 216) 217 dX8_count_1 (by rw [hc15]; decide) (by rw [hc15]; decide) (by rw [hc15]; rfl) (by decide) ?_
    refine x_aload_n 218 rfl 0 dX8_count_217 rfl rfl ?_
    refine x_getR E dX8_count_218 F_RX8_68 sh_0 rf_0_12 221 rfl ?_
    refine x_iconst 222 rfl (v := 0) dX8_count_221 (by decide) ?_
    refine x_iald E dX8_count_222 sh_59 0 (by decide) (by decide) 223 rfl ?_
    cases h
    exact x_Oret (x_iret dX8_count_223 rfl rfl rfl)
  replace h := x_ifF hc15 h
  refine x_case (16) (fun hc16 => ?_) (fun hc16 => ?_)
  · replace h := x_ifT hc16 h
    refine x_tabIn (off := 223) 224 dX8_count_1 (by rw [hc16]; decide) (by rw [hc16]; decide) (by rw [hc16]; rfl) (by decide) ?_
    refine x_aload_n 225 rfl 0 dX8_count_224 rfl rfl ?_
    refine x_getR E dX8_count_225 F_RX8_68 sh_0 rf_0_12 228 rfl ?_
    refine x_iconst 229 rfl (v := 1) dX8_count_228 (by decide) ?_
    refine x_iald E dX8_count_229 sh_59 1 (by decide) (by decide) 230 rfl ?_
    cases h
    exact x_Oret (x_iret dX8_count_230 rfl rfl rfl)
  replace h := x_ifF hc16 h
  refine x_case (17) (fun hc17 => ?_) (fun hc17 => ?_)
  · replace h := x_ifT hc17 h
    refine x_tabIn (off := 230) 231 dX8_count_1 (by rw [hc17]; decide) (by rw [hc17]; decide) (by rw [hc17]; rfl) (by decide) ?_
    refine x_aload_n 232 rfl 0 dX8_count_231 rfl rfl ?_
    refine x_getR E dX8_count_232 F_RX8_68 sh_0 rf_0_12 235 rfl ?_
    refine x_iconst 236 rfl (v := 2) dX8_count_235 (by decide) ?_
    refine x_iald E dX8_count_236 sh_59 2 (by decide) (by decide) 237 rfl ?_
    cases h
    exact x_Oret (x_iret dX8_count_237 rfl rfl rfl)
  replace h := x_ifF hc17 h
  refine x_tabOut 238 dX8_count_1 (by have g0 := x_toNe hc0 (k := 0) (by decide); have g1 := x_toNe hc1 (k := 1) (by decide); have g2 := x_toNe hc2 (k := 2) (by decide); have g3 := x_toNe hc3 (k := 3) (by decide); have g4 := x_toNe hc4 (k := 4) (by decide); have g5 := x_toNe hc5 (k := 5) (by decide); have g6 := x_toNe hc6 (k := 6) (by decide); have g7 := x_toNe hc7 (k := 7) (by decide); have g8 := x_toNe hc8 (k := 8) (by decide); have g9 := x_toNe hc9 (k := 9) (by decide); have g10 := x_toNe hc10 (k := 10) (by decide); have g11 := x_toNe hc11 (k := 11) (by decide); have g12 := x_toNe hc12 (k := 12) (by decide); have g13 := x_toNe hc13 (k := 13) (by decide); have g14 := x_toNe hc14 (k := 14) (by decide); have g15 := x_toNe hc15 (k := 15) (by decide); have g16 := x_toNe hc16 (k := 16) (by decide); have g17 := x_toNe hc17 (k := 17) (by decide); omega) (by decide) ?_
  cases h
  exact x_throwN E KU_ (k := 2) KX_RX8_132 rfl dX8_count_238 dX8_count_241 dX8_count_242 dX8_count_244 dX8_count_247 (Nat.le_of_ble_eq_true rfl)
abbrev M_RH_isMark : xM := (yX8_isMark, cX8_isMark, 2, some .boolean, [])
theorem dX8_isMark_0 : decode cX8_isMark 0 = .ok (.iload_n 1, 1) := by decide +kernel
theorem dX8_isMark_1 : decode cX8_isMark 1 = .ok (.ifCond .lt 24, 3) := by decide +kernel
theorem dX8_isMark_4 : decode cX8_isMark 4 = .ok (.iload_n 1, 1) := by decide +kernel
theorem dX8_isMark_5 : decode cX8_isMark 5 = .ok (.aload_n 0, 1) := by decide +kernel
theorem dX8_isMark_6 : decode cX8_isMark 6 = .ok (.getfield 27, 3) := by decide +kernel
theorem dX8_isMark_9 : decode cX8_isMark 9 = .ok (.getfield 112, 3) := by decide +kernel
theorem dX8_isMark_12 : decode cX8_isMark 12 = .ok (.if_icmp .ge 13, 3) := by decide +kernel
theorem dX8_isMark_15 : decode cX8_isMark 15 = .ok (.iload_n 1, 1) := by decide +kernel
theorem dX8_isMark_16 : decode cX8_isMark 16 = .ok (.bipush 6, 2) := by decide +kernel
theorem dX8_isMark_18 : decode cX8_isMark 18 = .ok (.if_icmp .ge 7, 3) := by decide +kernel
theorem dX8_isMark_21 : decode cX8_isMark 21 = .ok (.iconst 1, 1) := by decide +kernel
theorem dX8_isMark_22 : decode cX8_isMark 22 = .ok (.goto 4, 3) := by decide +kernel
theorem dX8_isMark_25 : decode cX8_isMark 25 = .ok (.iconst 0, 1) := by decide +kernel
theorem dX8_isMark_26 : decode cX8_isMark 26 = .ok (.ireturn, 1) := by decide +kernel
def f_RH_isMark_0 (v1 : Int32) (σ : xS) : Option (Int32 × xS) :=
  if v1 < 0 then
    some ((0 : Int32), σ)
  else
    if σ.1 7 8 ≤ v1 then
      some ((0 : Int32), σ)
    else
      if (6 : Int32) ≤ v1 then
        some ((0 : Int32), σ)
      else
        some ((1 : Int32), σ)
set_option maxHeartbeats 4000000 in
set_option maxRecDepth 100000 in
theorem c_RH_isMark_0 {l : Launch} {s0 : State} {a0 : Array Value} {D : va_G} {cA : Nat → ClassId} {sp : Nat → Nat} (E : x_En CL l s0 a0 D cA sp) (v1 : Int32) {σ : xS} {r : Int32} {σ1 : xS} (h : f_RH_isMark_0 v1 σ = some (r, σ1)) : zC l s0 D cA sp 0 M_RH_isMark [.ref 0, .int v1] σ (some (.int r)) σ1 := by
  unfold f_RH_isMark_0 at h
  try dsimp only at h
  refine x_enter [some (.ref 0), some (.int v1)] rfl (Nat.le_of_ble_eq_true rfl) (by decide +kernel) rfl ?_
  refine x_iload_n 1 rfl 1 dX8_isMark_0 rfl rfl ?_
  refine x_if_lt 4 rfl 25 dX8_isMark_1 (by decide) (fun hc => ?_) (fun hc => ?_)
  · replace h := x_ifT hc h
    refine x_iconst 26 rfl (v := 0) dX8_isMark_25 (by decide) ?_
    cases h
    exact x_zret (Or.inl rfl) dX8_isMark_26 rfl rfl rfl
  · replace h := x_ifF hc h
    refine x_iload_n 5 rfl 1 dX8_isMark_4 rfl rfl ?_
    refine x_aload_n 6 rfl 0 dX8_isMark_5 rfl rfl ?_
    refine x_getR E dX8_isMark_6 F_RX8_27 sh_0 rf_0_3 9 rfl ?_
    refine x_getI E dX8_isMark_9 F_RX8_112 sh_7 12 rfl ?_
    refine x_icmp_ge 15 rfl 25 dX8_isMark_12 (by decide) (fun hc => ?_) (fun hc => ?_)
    · replace h := x_ifT hc h
      refine x_iconst 26 rfl (v := 0) dX8_isMark_25 (by decide) ?_
      cases h
      exact x_zret (Or.inl rfl) dX8_isMark_26 rfl rfl rfl
    · replace h := x_ifF hc h
      refine x_iload_n 16 rfl 1 dX8_isMark_15 rfl rfl ?_
      refine x_bipush 18 rfl (v := 6) dX8_isMark_16 (by decide) ?_
      refine x_icmp_ge 21 rfl 25 dX8_isMark_18 (by decide) (fun hc => ?_) (fun hc => ?_)
      · replace h := x_ifT hc h
        refine x_iconst 26 rfl (v := 0) dX8_isMark_25 (by decide) ?_
        cases h
        exact x_zret (Or.inl rfl) dX8_isMark_26 rfl rfl rfl
      · replace h := x_ifF hc h
        refine x_iconst 22 rfl (v := 1) dX8_isMark_21 (by decide) ?_
        refine x_goto 26 dX8_isMark_22 (by decide) ?_
        cases h
        exact x_zret (Or.inr rfl) dX8_isMark_26 rfl rfl rfl
theorem KX_RX8_139 : x_KN2 RX8 130 139 134 (x_Xn 2) "no such MARK" := ⟨by decide +kernel, (List.mem_append_right _ (List.mem_of_getElem? (i := 881) (by decide +kernel))), (List.mem_append_right _ (List.mem_of_getElem? (i := 22) (by decide +kernel))), (List.mem_append_right _ (List.mem_of_getElem? (i := 908) (by decide +kernel))), (List.mem_of_getElem? (i := 458) (by decide +kernel)), AX_134, AO_130_134⟩
theorem K_RX8_135 : x_KV RX8 135 M_RH_isMark 1 := ⟨⟨(List.mem_append_right _ (List.mem_of_getElem? (i := 904) (by decide +kernel))), (List.mem_append_right _ (List.mem_of_getElem? (i := 907) (by decide +kernel))), (List.mem_append_right _ (List.mem_of_getElem? (i := 1) (by decide +kernel))), ⟨by decide +kernel, by decide +kernel⟩, by decide +kernel⟩, (List.mem_append_right _ (List.mem_of_getElem? (i := 906) (by decide +kernel))), (List.mem_append_left _ (List.mem_of_getElem? (i := 42) (by decide +kernel)))⟩
abbrev M_RH_mark : xM := (yX8_mark, cX8_mark, 2, some .int, [])
theorem dX8_mark_0 : decode cX8_mark 0 = .ok (.aload_n 0, 1) := by decide +kernel
theorem dX8_mark_1 : decode cX8_mark 1 = .ok (.iload_n 1, 1) := by decide +kernel
theorem dX8_mark_2 : decode cX8_mark 2 = .ok (.invokevirtual 135, 3) := by decide +kernel
theorem dX8_mark_5 : decode cX8_mark 5 = .ok (.ifCond .ne 13, 3) := by decide +kernel
theorem dX8_mark_8 : decode cX8_mark 8 = .ok (.new 130, 3) := by decide +kernel
theorem dX8_mark_11 : decode cX8_mark 11 = .ok (.dup, 1) := by decide +kernel
theorem dX8_mark_12 : decode cX8_mark 12 = .ok (.ldc 139, 2) := by decide +kernel
theorem dX8_mark_14 : decode cX8_mark 14 = .ok (.invokespecial 134, 3) := by decide +kernel
theorem dX8_mark_17 : decode cX8_mark 17 = .ok (.athrow, 1) := by decide +kernel
theorem dX8_mark_18 : decode cX8_mark 18 = .ok (.aload_n 0, 1) := by decide +kernel
theorem dX8_mark_19 : decode cX8_mark 19 = .ok (.getfield 37, 3) := by decide +kernel
theorem dX8_mark_22 : decode cX8_mark 22 = .ok (.getfield 118, 3) := by decide +kernel
theorem dX8_mark_25 : decode cX8_mark 25 = .ok (.bipush 6, 2) := by decide +kernel
theorem dX8_mark_27 : decode cX8_mark 27 = .ok (.iload_n 1, 1) := by decide +kernel
theorem dX8_mark_28 : decode cX8_mark 28 = .ok (.iadd, 1) := by decide +kernel
theorem dX8_mark_29 : decode cX8_mark 29 = .ok (.iaload, 1) := by decide +kernel
theorem dX8_mark_30 : decode cX8_mark 30 = .ok (.ireturn, 1) := by decide +kernel
def f_RH_mark_0 (v1 : Int32) (σ : xS) : Option ((Int32 ⊕ Nat) × xS) :=
  (f_RH_isMark_0 v1 σ).bind fun q1 =>
  if q1.1 = 0 then
    some (.inr 2, q1.2)
  else
    if ((6 : Int32) + v1) < 0 ∨ 12 ≤ ((6 : Int32) + v1).toNatClampNeg then none else
    some (.inl (q1.2.1 36 ((6 : Int32) + v1).toNatClampNeg), q1.2)
set_option maxHeartbeats 4000000 in
set_option maxRecDepth 100000 in
theorem c_RH_mark_0 {l : Launch} {s0 : State} {a0 : Array Value} {D : va_G} {cA : Nat → ClassId} {sp : Nat → Nat} (E : x_En CL l s0 a0 D cA sp) (v1 : Int32) {σ : xS} {r : Int32 ⊕ Nat} {σ1 : xS} (h : f_RH_mark_0 v1 σ = some (r, σ1)) : oC l s0 D cA sp 1 M_RH_mark [.ref 0, .int v1] σ (x_oi r) σ1 := by
  unfold f_RH_mark_0 at h
  try dsimp only at h
  refine x_enterO [some (.ref 0), some (.int v1)] rfl (Nat.le_of_ble_eq_true rfl) (by decide +kernel) rfl ?_
  refine x_aload_n 1 rfl 0 dX8_mark_0 rfl rfl ?_
  refine x_iload_n 2 rfl 1 dX8_mark_1 rfl rfl ?_
  obtain ⟨⟨q1r, q1s⟩, q1h, h⟩ := x_bind h
  try dsimp only at h
  refine z_callV E [.int _] [] dX8_mark_2 K_RX8_135 ⟨Nat.le_of_ble_eq_true rfl, Nat.le_of_ble_eq_true rfl⟩ sh_0 (by decide) rfl (c_RH_isMark_0 E _ q1h) rfl rfl (Nat.le_of_ble_eq_true rfl) 5 rfl [.int _] rfl ?_
  refine x_if_ne 8 rfl 18 dX8_mark_5 (by decide) (fun hc => ?_) (fun hc => ?_)
  · replace h := x_ifF hc h
    refine x_aload_n 19 rfl 0 dX8_mark_18 rfl rfl ?_
    refine x_getR E dX8_mark_19 F_RX8_37 sh_0 rf_0_5 22 rfl ?_
    refine x_getR E dX8_mark_22 F_RX8_118 sh_35 rf_35_0 25 rfl ?_
    refine x_bipush 27 rfl (v := 6) dX8_mark_25 (by decide) ?_
    refine x_iload_n 28 rfl 1 dX8_mark_27 rfl rfl ?_
    refine x_iadd 29 rfl dX8_mark_28 ?_
    obtain ⟨hz, h⟩ := x_ifn h
    refine x_iald E dX8_mark_29 sh_36 _ rfl hz 30 rfl ?_
    cases h
    exact x_Oret (x_iret dX8_mark_30 rfl rfl rfl)
  · replace h := x_ifT hc h
    cases h
    exact x_throwN E KU_ (k := 2) KX_RX8_139 rfl dX8_mark_8 dX8_mark_11 dX8_mark_12 dX8_mark_14 dX8_mark_17 (Nat.le_of_ble_eq_true rfl)
abbrev M_RH_isTenth : xM := (yX8_isTenth, cX8_isTenth, 2, some .boolean, [])
theorem dX8_isTenth_0 : decode cX8_isTenth 0 = .ok (.iload_n 1, 1) := by decide +kernel
theorem dX8_isTenth_1 : decode cX8_isTenth 1 = .ok (.ifCond .lt 18, 3) := by decide +kernel
theorem dX8_isTenth_4 : decode cX8_isTenth 4 = .ok (.iload_n 1, 1) := by decide +kernel
theorem dX8_isTenth_5 : decode cX8_isTenth 5 = .ok (.aload_n 0, 1) := by decide +kernel
theorem dX8_isTenth_6 : decode cX8_isTenth 6 = .ok (.getfield 27, 3) := by decide +kernel
theorem dX8_isTenth_9 : decode cX8_isTenth 9 = .ok (.getfield 103, 3) := by decide +kernel
theorem dX8_isTenth_12 : decode cX8_isTenth 12 = .ok (.if_icmp .gt 7, 3) := by decide +kernel
theorem dX8_isTenth_15 : decode cX8_isTenth 15 = .ok (.iconst 1, 1) := by decide +kernel
theorem dX8_isTenth_16 : decode cX8_isTenth 16 = .ok (.goto 4, 3) := by decide +kernel
theorem dX8_isTenth_19 : decode cX8_isTenth 19 = .ok (.iconst 0, 1) := by decide +kernel
theorem dX8_isTenth_20 : decode cX8_isTenth 20 = .ok (.ireturn, 1) := by decide +kernel
def f_RH_isTenth_0 (v1 : Int32) (σ : xS) : Option (Int32 × xS) :=
  if v1 < 0 then
    some ((0 : Int32), σ)
  else
    if σ.1 7 4 < v1 then
      some ((0 : Int32), σ)
    else
      some ((1 : Int32), σ)
set_option maxHeartbeats 4000000 in
set_option maxRecDepth 100000 in
theorem c_RH_isTenth_0 {l : Launch} {s0 : State} {a0 : Array Value} {D : va_G} {cA : Nat → ClassId} {sp : Nat → Nat} (E : x_En CL l s0 a0 D cA sp) (v1 : Int32) {σ : xS} {r : Int32} {σ1 : xS} (h : f_RH_isTenth_0 v1 σ = some (r, σ1)) : zC l s0 D cA sp 0 M_RH_isTenth [.ref 0, .int v1] σ (some (.int r)) σ1 := by
  unfold f_RH_isTenth_0 at h
  try dsimp only at h
  refine x_enter [some (.ref 0), some (.int v1)] rfl (Nat.le_of_ble_eq_true rfl) (by decide +kernel) rfl ?_
  refine x_iload_n 1 rfl 1 dX8_isTenth_0 rfl rfl ?_
  refine x_if_lt 4 rfl 19 dX8_isTenth_1 (by decide) (fun hc => ?_) (fun hc => ?_)
  · replace h := x_ifT hc h
    refine x_iconst 20 rfl (v := 0) dX8_isTenth_19 (by decide) ?_
    cases h
    exact x_zret (Or.inl rfl) dX8_isTenth_20 rfl rfl rfl
  · replace h := x_ifF hc h
    refine x_iload_n 5 rfl 1 dX8_isTenth_4 rfl rfl ?_
    refine x_aload_n 6 rfl 0 dX8_isTenth_5 rfl rfl ?_
    refine x_getR E dX8_isTenth_6 F_RX8_27 sh_0 rf_0_3 9 rfl ?_
    refine x_getI E dX8_isTenth_9 F_RX8_103 sh_7 12 rfl ?_
    refine x_icmp_gt 15 rfl 19 dX8_isTenth_12 (by decide) (fun hc => ?_) (fun hc => ?_)
    · replace h := x_ifT hc h
      refine x_iconst 20 rfl (v := 0) dX8_isTenth_19 (by decide) ?_
      cases h
      exact x_zret (Or.inl rfl) dX8_isTenth_20 rfl rfl rfl
    · replace h := x_ifF hc h
      refine x_iconst 16 rfl (v := 1) dX8_isTenth_15 (by decide) ?_
      refine x_goto 20 dX8_isTenth_16 (by decide) ?_
      cases h
      exact x_zret (Or.inr rfl) dX8_isTenth_20 rfl rfl rfl
abbrev M_Sc_herIn : xM := (yX4_herIn, cX4_herIn, 2, some .int, [])
theorem dX4_herIn_0 : decode cX4_herIn 0 = .ok (.iload_n 1, 1) := by decide +kernel
theorem dX4_herIn_1 : decode cX4_herIn 1 = .ok (.ifCond .lt 10, 3) := by decide +kernel
theorem dX4_herIn_4 : decode cX4_herIn 4 = .ok (.iload_n 1, 1) := by decide +kernel
theorem dX4_herIn_5 : decode cX4_herIn 5 = .ok (.sipush 600, 3) := by decide +kernel
theorem dX4_herIn_8 : decode cX4_herIn 8 = .ok (.if_icmp .le 10, 3) := by decide +kernel
theorem dX4_herIn_11 : decode cX4_herIn 11 = .ok (.aload_n 0, 1) := by decide +kernel
theorem dX4_herIn_12 : decode cX4_herIn 12 = .ok (.getfield 40, 3) := by decide +kernel
theorem dX4_herIn_15 : decode cX4_herIn 15 = .ok (.goto 9, 3) := by decide +kernel
theorem dX4_herIn_18 : decode cX4_herIn 18 = .ok (.aload_n 0, 1) := by decide +kernel
theorem dX4_herIn_19 : decode cX4_herIn 19 = .ok (.getfield 34, 3) := by decide +kernel
theorem dX4_herIn_22 : decode cX4_herIn 22 = .ok (.iload_n 1, 1) := by decide +kernel
theorem dX4_herIn_23 : decode cX4_herIn 23 = .ok (.iaload, 1) := by decide +kernel
theorem dX4_herIn_24 : decode cX4_herIn 24 = .ok (.ireturn, 1) := by decide +kernel
def f_Sc_herIn_7 (v1 : Int32) (σ : xS) : Option (Int32 × xS) :=
  if v1 < 0 then
    some (σ.1 7 0, σ)
  else
    if v1 ≤ (600 : Int32) then
      if v1 < 0 ∨ 601 ≤ v1.toNatClampNeg then none else
      some (σ.1 19 v1.toNatClampNeg, σ)
    else
      some (σ.1 7 0, σ)
set_option maxHeartbeats 4000000 in
set_option maxRecDepth 100000 in
theorem c_Sc_herIn_7 {l : Launch} {s0 : State} {a0 : Array Value} {D : va_G} {cA : Nat → ClassId} {sp : Nat → Nat} (E : x_En CL l s0 a0 D cA sp) (v1 : Int32) {σ : xS} {r : Int32} {σ1 : xS} (h : f_Sc_herIn_7 v1 σ = some (r, σ1)) : zC l s0 D cA sp 0 M_Sc_herIn [.ref 7, .int v1] σ (some (.int r)) σ1 := by
  unfold f_Sc_herIn_7 at h
  try dsimp only at h
  refine x_enter [some (.ref 7), some (.int v1)] rfl (Nat.le_of_ble_eq_true rfl) (by decide +kernel) rfl ?_
  refine x_iload_n 1 rfl 1 dX4_herIn_0 rfl rfl ?_
  refine x_if_lt 4 rfl 11 dX4_herIn_1 (by decide) (fun hc => ?_) (fun hc => ?_)
  · replace h := x_ifT hc h
    refine x_aload_n 12 rfl 0 dX4_herIn_11 rfl rfl ?_
    refine x_getI E dX4_herIn_12 F_RX4_40 sh_7 15 rfl ?_
    refine x_goto 24 dX4_herIn_15 (by decide) ?_
    cases h
    exact x_iret dX4_herIn_24 rfl rfl rfl
  · replace h := x_ifF hc h
    refine x_iload_n 5 rfl 1 dX4_herIn_4 rfl rfl ?_
    refine x_sipush 8 rfl (v := 600) dX4_herIn_5 (by decide) ?_
    refine x_icmp_le 11 rfl 18 dX4_herIn_8 (by decide) (fun hc => ?_) (fun hc => ?_)
    · replace h := x_ifT hc h
      refine x_aload_n 19 rfl 0 dX4_herIn_18 rfl rfl ?_
      refine x_getR E dX4_herIn_19 F_RX4_34 sh_7 rf_7_12 22 rfl ?_
      refine x_iload_n 23 rfl 1 dX4_herIn_22 rfl rfl ?_
      obtain ⟨hz, h⟩ := x_ifn h
      refine x_iald E dX4_herIn_23 sh_19 _ rfl hz 24 rfl ?_
      cases h
      exact x_iret dX4_herIn_24 rfl rfl rfl
    · replace h := x_ifF hc h
      refine x_aload_n 12 rfl 0 dX4_herIn_11 rfl rfl ?_
      refine x_getI E dX4_herIn_12 F_RX4_40 sh_7 15 rfl ?_
      refine x_goto 24 dX4_herIn_15 (by decide) ?_
      cases h
      exact x_iret dX4_herIn_24 rfl rfl rfl
abbrev M_RH_within : xM := (yX8_within, cX8_within, 3, some .int, [])
theorem dX8_within_0 : decode cX8_within 0 = .ok (.iload_n 0, 1) := by decide +kernel
theorem dX8_within_1 : decode cX8_within 1 = .ok (.iload_n 1, 1) := by decide +kernel
theorem dX8_within_2 : decode cX8_within 2 = .ok (.if_icmp .ge 7, 3) := by decide +kernel
theorem dX8_within_5 : decode cX8_within 5 = .ok (.iload_n 1, 1) := by decide +kernel
theorem dX8_within_6 : decode cX8_within 6 = .ok (.goto 13, 3) := by decide +kernel
theorem dX8_within_9 : decode cX8_within 9 = .ok (.iload_n 0, 1) := by decide +kernel
theorem dX8_within_10 : decode cX8_within 10 = .ok (.iload_n 2, 1) := by decide +kernel
theorem dX8_within_11 : decode cX8_within 11 = .ok (.if_icmp .le 7, 3) := by decide +kernel
theorem dX8_within_14 : decode cX8_within 14 = .ok (.iload_n 2, 1) := by decide +kernel
theorem dX8_within_15 : decode cX8_within 15 = .ok (.goto 4, 3) := by decide +kernel
theorem dX8_within_18 : decode cX8_within 18 = .ok (.iload_n 0, 1) := by decide +kernel
theorem dX8_within_19 : decode cX8_within 19 = .ok (.ireturn, 1) := by decide +kernel
def f_RH_within (v0 : Int32) (v1 : Int32) (v2 : Int32) (σ : xS) : Option (Int32 × xS) :=
  if v1 ≤ v0 then
    if v0 ≤ v2 then
      some (v0, σ)
    else
      some (v2, σ)
  else
    some (v1, σ)
set_option maxHeartbeats 4000000 in
set_option maxRecDepth 100000 in
theorem c_RH_within {l : Launch} {s0 : State} {a0 : Array Value} {D : va_G} {cA : Nat → ClassId} {sp : Nat → Nat} (E : x_En CL l s0 a0 D cA sp) (v0 : Int32) (v1 : Int32) (v2 : Int32) {σ : xS} {r : Int32} {σ1 : xS} (h : f_RH_within v0 v1 v2 σ = some (r, σ1)) : zC l s0 D cA sp 0 M_RH_within [.int v0, .int v1, .int v2] σ (some (.int r)) σ1 := by
  unfold f_RH_within at h
  try dsimp only at h
  refine x_enter [some (.int v0), some (.int v1), some (.int v2)] rfl (Nat.le_of_ble_eq_true rfl) (by decide +kernel) rfl ?_
  refine x_iload_n 1 rfl 0 dX8_within_0 rfl rfl ?_
  refine x_iload_n 2 rfl 1 dX8_within_1 rfl rfl ?_
  refine x_icmp_ge 5 rfl 9 dX8_within_2 (by decide) (fun hc => ?_) (fun hc => ?_)
  · replace h := x_ifT hc h
    refine x_iload_n 10 rfl 0 dX8_within_9 rfl rfl ?_
    refine x_iload_n 11 rfl 2 dX8_within_10 rfl rfl ?_
    refine x_icmp_le 14 rfl 18 dX8_within_11 (by decide) (fun hc => ?_) (fun hc => ?_)
    · replace h := x_ifT hc h
      refine x_iload_n 19 rfl 0 dX8_within_18 rfl rfl ?_
      cases h
      exact x_iret dX8_within_19 rfl rfl rfl
    · replace h := x_ifF hc h
      refine x_iload_n 15 rfl 2 dX8_within_14 rfl rfl ?_
      refine x_goto 19 dX8_within_15 (by decide) ?_
      cases h
      exact x_iret dX8_within_19 rfl rfl rfl
  · replace h := x_ifF hc h
    refine x_iload_n 6 rfl 1 dX8_within_5 rfl rfl ?_
    refine x_goto 19 dX8_within_6 (by decide) ?_
    cases h
    exact x_iret dX8_within_19 rfl rfl rfl
theorem K_RX4_76 : x_KT RX4 76 M_RH_within 3 RX8 := ⟨⟨(List.mem_append_right _ (List.mem_of_getElem? (i := 301) (by decide +kernel))), (List.mem_append_right _ (List.mem_of_getElem? (i := 303) (by decide +kernel))), (List.mem_append_right _ (List.mem_of_getElem? (i := 1) (by decide +kernel))), ⟨by decide +kernel, by decide +kernel⟩, by decide +kernel⟩, (List.mem_append_right _ (List.mem_of_getElem? (i := 302) (by decide +kernel)))⟩
abbrev M_Sc_placeOf : xM := (yX4_placeOf, cX4_placeOf, 4, some .int, [])
theorem dX4_placeOf_0 : decode cX4_placeOf 0 = .ok (.iload_n 2, 1) := by decide +kernel
theorem dX4_placeOf_1 : decode cX4_placeOf 1 = .ok (.ifCond .ne 7, 3) := by decide +kernel
theorem dX4_placeOf_4 : decode cX4_placeOf 4 = .ok (.iload_n 1, 1) := by decide +kernel
theorem dX4_placeOf_5 : decode cX4_placeOf 5 = .ok (.goto 14, 3) := by decide +kernel
theorem dX4_placeOf_8 : decode cX4_placeOf 8 = .ok (.iload_n 1, 1) := by decide +kernel
theorem dX4_placeOf_9 : decode cX4_placeOf 9 = .ok (.iload_n 3, 1) := by decide +kernel
theorem dX4_placeOf_10 : decode cX4_placeOf 10 = .ok (.iadd, 1) := by decide +kernel
theorem dX4_placeOf_11 : decode cX4_placeOf 11 = .ok (.bipush 12, 2) := by decide +kernel
theorem dX4_placeOf_13 : decode cX4_placeOf 13 = .ok (.sipush 480, 3) := by decide +kernel
theorem dX4_placeOf_16 : decode cX4_placeOf 16 = .ok (.invokestatic 76, 3) := by decide +kernel
theorem dX4_placeOf_19 : decode cX4_placeOf 19 = .ok (.ireturn, 1) := by decide +kernel
def f_Sc_placeOf_7 (v1 : Int32) (v2 : Int32) (v3 : Int32) (σ : xS) : Option (Int32 × xS) :=
  if v2 = 0 then
    some (v1, σ)
  else
    (f_RH_within (v1 + v3) (12 : Int32) (480 : Int32) σ).bind fun q1 =>
    some (q1.1, q1.2)
set_option maxHeartbeats 4000000 in
set_option maxRecDepth 100000 in
theorem c_Sc_placeOf_7 {l : Launch} {s0 : State} {a0 : Array Value} {D : va_G} {cA : Nat → ClassId} {sp : Nat → Nat} (E : x_En CL l s0 a0 D cA sp) (v1 : Int32) (v2 : Int32) (v3 : Int32) {σ : xS} {r : Int32} {σ1 : xS} (h : f_Sc_placeOf_7 v1 v2 v3 σ = some (r, σ1)) : zC l s0 D cA sp 1 M_Sc_placeOf [.ref 7, .int v1, .int v2, .int v3] σ (some (.int r)) σ1 := by
  unfold f_Sc_placeOf_7 at h
  try dsimp only at h
  refine x_enter [some (.ref 7), some (.int v1), some (.int v2), some (.int v3)] rfl (Nat.le_of_ble_eq_true rfl) (by decide +kernel) rfl ?_
  refine x_iload_n 1 rfl 2 dX4_placeOf_0 rfl rfl ?_
  refine x_if_ne 4 rfl 8 dX4_placeOf_1 (by decide) (fun hc => ?_) (fun hc => ?_)
  · replace h := x_ifF hc h
    refine x_iload_n 9 rfl 1 dX4_placeOf_8 rfl rfl ?_
    refine x_iload_n 10 rfl 3 dX4_placeOf_9 rfl rfl ?_
    refine x_iadd 11 rfl dX4_placeOf_10 ?_
    refine x_bipush 13 rfl (v := 12) dX4_placeOf_11 (by decide) ?_
    refine x_sipush 16 rfl (v := 480) dX4_placeOf_13 (by decide) ?_
    obtain ⟨⟨q1r, q1s⟩, q1h, h⟩ := x_bind h
    try dsimp only at h
    refine z_callT E [.int _, .int _, .int _] [] dX4_placeOf_16 K_RX4_76 ⟨Nat.le_of_ble_eq_true rfl, Nat.le_of_ble_eq_true rfl⟩ (c_RH_within E _ _ _ q1h) rfl rfl (Nat.le_of_ble_eq_true rfl) 19 rfl [.int _] rfl ?_
    cases h
    exact x_iret dX4_placeOf_19 rfl rfl rfl
  · replace h := x_ifT hc h
    refine x_iload_n 5 rfl 1 dX4_placeOf_4 rfl rfl ?_
    refine x_goto 19 dX4_placeOf_5 (by decide) ?_
    cases h
    exact x_iret dX4_placeOf_19 rfl rfl rfl
theorem KX_RX8_144 : x_KN2 RX8 130 144 134 (x_Xn 2) "no such tenth, or nobody" := ⟨by decide +kernel, (List.mem_append_right _ (List.mem_of_getElem? (i := 881) (by decide +kernel))), (List.mem_append_right _ (List.mem_of_getElem? (i := 22) (by decide +kernel))), (List.mem_append_right _ (List.mem_of_getElem? (i := 920) (by decide +kernel))), (List.mem_of_getElem? (i := 474) (by decide +kernel)), AX_134, AO_130_134⟩
theorem K_RX8_141 : x_KV RX8 141 M_RH_isTenth 1 := ⟨⟨(List.mem_append_right _ (List.mem_of_getElem? (i := 916) (by decide +kernel))), (List.mem_append_right _ (List.mem_of_getElem? (i := 919) (by decide +kernel))), (List.mem_append_right _ (List.mem_of_getElem? (i := 1) (by decide +kernel))), ⟨by decide +kernel, by decide +kernel⟩, by decide +kernel⟩, (List.mem_append_right _ (List.mem_of_getElem? (i := 918) (by decide +kernel))), (List.mem_append_left _ (List.mem_of_getElem? (i := 43) (by decide +kernel)))⟩
theorem K_RX8_146 : x_KV RX8 146 M_Sc_herIn 1 := ⟨⟨(List.mem_append_right _ (List.mem_of_getElem? (i := 411) (by decide +kernel))), (List.mem_append_right _ (List.mem_of_getElem? (i := 414) (by decide +kernel))), (List.mem_append_right _ (List.mem_of_getElem? (i := 3) (by decide +kernel))), ⟨by decide +kernel, by decide +kernel⟩, by decide +kernel⟩, (List.mem_append_right _ (List.mem_of_getElem? (i := 412) (by decide +kernel))), (List.mem_append_right _ (List.mem_of_getElem? (i := 413) (by decide +kernel)))⟩
theorem K_RX8_150 : x_KV RX8 150 M_Sc_placeOf 3 := ⟨⟨(List.mem_append_right _ (List.mem_of_getElem? (i := 415) (by decide +kernel))), (List.mem_append_right _ (List.mem_of_getElem? (i := 418) (by decide +kernel))), (List.mem_append_right _ (List.mem_of_getElem? (i := 3) (by decide +kernel))), ⟨by decide +kernel, by decide +kernel⟩, by decide +kernel⟩, (List.mem_append_right _ (List.mem_of_getElem? (i := 416) (by decide +kernel))), (List.mem_append_right _ (List.mem_of_getElem? (i := 417) (by decide +kernel)))⟩
abbrev M_RH_inches : xM := (yX8_inches, cX8_inches, 3, some .int, [])
theorem dX8_inches_0 : decode cX8_inches 0 = .ok (.aload_n 0, 1) := by decide +kernel
theorem dX8_inches_1 : decode cX8_inches 1 = .ok (.iload_n 1, 1) := by decide +kernel
theorem dX8_inches_2 : decode cX8_inches 2 = .ok (.invokevirtual 141, 3) := by decide +kernel
theorem dX8_inches_5 : decode cX8_inches 5 = .ok (.ifCond .eq 12, 3) := by decide +kernel
theorem dX8_inches_8 : decode cX8_inches 8 = .ok (.iload_n 2, 1) := by decide +kernel
theorem dX8_inches_9 : decode cX8_inches 9 = .ok (.ifCond .lt 8, 3) := by decide +kernel
theorem dX8_inches_12 : decode cX8_inches 12 = .ok (.iload_n 2, 1) := by decide +kernel
theorem dX8_inches_13 : decode cX8_inches 13 = .ok (.iconst 1, 1) := by decide +kernel
theorem dX8_inches_14 : decode cX8_inches 14 = .ok (.if_icmp .le 13, 3) := by decide +kernel
theorem dX8_inches_17 : decode cX8_inches 17 = .ok (.new 130, 3) := by decide +kernel
theorem dX8_inches_20 : decode cX8_inches 20 = .ok (.dup, 1) := by decide +kernel
theorem dX8_inches_21 : decode cX8_inches 21 = .ok (.ldc 144, 2) := by decide +kernel
theorem dX8_inches_23 : decode cX8_inches 23 = .ok (.invokespecial 134, 3) := by decide +kernel
theorem dX8_inches_26 : decode cX8_inches 26 = .ok (.athrow, 1) := by decide +kernel
theorem dX8_inches_27 : decode cX8_inches 27 = .ok (.aload_n 0, 1) := by decide +kernel
theorem dX8_inches_28 : decode cX8_inches 28 = .ok (.getfield 27, 3) := by decide +kernel
theorem dX8_inches_31 : decode cX8_inches 31 = .ok (.aload_n 0, 1) := by decide +kernel
theorem dX8_inches_32 : decode cX8_inches 32 = .ok (.getfield 27, 3) := by decide +kernel
theorem dX8_inches_35 : decode cX8_inches 35 = .ok (.iload_n 1, 1) := by decide +kernel
theorem dX8_inches_36 : decode cX8_inches 36 = .ok (.invokevirtual 146, 3) := by decide +kernel
theorem dX8_inches_39 : decode cX8_inches 39 = .ok (.iload_n 2, 1) := by decide +kernel
theorem dX8_inches_40 : decode cX8_inches 40 = .ok (.aload_n 0, 1) := by decide +kernel
theorem dX8_inches_41 : decode cX8_inches 41 = .ok (.getfield 37, 3) := by decide +kernel
theorem dX8_inches_44 : decode cX8_inches 44 = .ok (.getfield 118, 3) := by decide +kernel
theorem dX8_inches_47 : decode cX8_inches 47 = .ok (.iconst 5, 1) := by decide +kernel
theorem dX8_inches_48 : decode cX8_inches 48 = .ok (.iaload, 1) := by decide +kernel
theorem dX8_inches_49 : decode cX8_inches 49 = .ok (.invokevirtual 150, 3) := by decide +kernel
theorem dX8_inches_52 : decode cX8_inches 52 = .ok (.ireturn, 1) := by decide +kernel
def f_RH_inches_0 (v1 : Int32) (v2 : Int32) (σ : xS) : Option ((Int32 ⊕ Nat) × xS) :=
  (f_RH_isTenth_0 v1 σ).bind fun q1 =>
  if q1.1 = 0 then
    some (.inr 2, q1.2)
  else
    if v2 < 0 then
      some (.inr 2, q1.2)
    else
      if v2 ≤ (1 : Int32) then
        (f_Sc_herIn_7 v1 q1.2).bind fun q2 =>
        (f_Sc_placeOf_7 q2.1 v2 (q2.2.1 36 5) q2.2).bind fun q3 =>
        some (.inl q3.1, q3.2)
      else
        some (.inr 2, q1.2)
set_option maxHeartbeats 4000000 in
set_option maxRecDepth 100000 in
theorem c_RH_inches_0 {l : Launch} {s0 : State} {a0 : Array Value} {D : va_G} {cA : Nat → ClassId} {sp : Nat → Nat} (E : x_En CL l s0 a0 D cA sp) (v1 : Int32) (v2 : Int32) {σ : xS} {r : Int32 ⊕ Nat} {σ1 : xS} (h : f_RH_inches_0 v1 v2 σ = some (r, σ1)) : oC l s0 D cA sp 2 M_RH_inches [.ref 0, .int v1, .int v2] σ (x_oi r) σ1 := by
  unfold f_RH_inches_0 at h
  try dsimp only at h
  refine x_enterO [some (.ref 0), some (.int v1), some (.int v2)] rfl (Nat.le_of_ble_eq_true rfl) (by decide +kernel) rfl ?_
  refine x_aload_n 1 rfl 0 dX8_inches_0 rfl rfl ?_
  refine x_iload_n 2 rfl 1 dX8_inches_1 rfl rfl ?_
  obtain ⟨⟨q1r, q1s⟩, q1h, h⟩ := x_bind h
  try dsimp only at h
  refine z_callV E [.int _] [] dX8_inches_2 K_RX8_141 ⟨Nat.le_of_ble_eq_true rfl, Nat.le_of_ble_eq_true rfl⟩ sh_0 (by decide) rfl (c_RH_isTenth_0 E _ q1h) rfl rfl (Nat.le_of_ble_eq_true rfl) 5 rfl [.int _] rfl ?_
  refine x_if_eq 8 rfl 17 dX8_inches_5 (by decide) (fun hc => ?_) (fun hc => ?_)
  · replace h := x_ifT hc h
    cases h
    exact x_throwN E KU_ (k := 2) KX_RX8_144 rfl dX8_inches_17 dX8_inches_20 dX8_inches_21 dX8_inches_23 dX8_inches_26 (Nat.le_of_ble_eq_true rfl)
  · replace h := x_ifF hc h
    refine x_iload_n 9 rfl 2 dX8_inches_8 rfl rfl ?_
    refine x_if_lt 12 rfl 17 dX8_inches_9 (by decide) (fun hc => ?_) (fun hc => ?_)
    · replace h := x_ifT hc h
      cases h
      exact x_throwN E KU_ (k := 2) KX_RX8_144 rfl dX8_inches_17 dX8_inches_20 dX8_inches_21 dX8_inches_23 dX8_inches_26 (Nat.le_of_ble_eq_true rfl)
    · replace h := x_ifF hc h
      refine x_iload_n 13 rfl 2 dX8_inches_12 rfl rfl ?_
      refine x_iconst 14 rfl (v := 1) dX8_inches_13 (by decide) ?_
      refine x_icmp_le 17 rfl 27 dX8_inches_14 (by decide) (fun hc => ?_) (fun hc => ?_)
      · replace h := x_ifT hc h
        refine x_aload_n 28 rfl 0 dX8_inches_27 rfl rfl ?_
        refine x_getR E dX8_inches_28 F_RX8_27 sh_0 rf_0_3 31 rfl ?_
        refine x_aload_n 32 rfl 0 dX8_inches_31 rfl rfl ?_
        refine x_getR E dX8_inches_32 F_RX8_27 sh_0 rf_0_3 35 rfl ?_
        refine x_iload_n 36 rfl 1 dX8_inches_35 rfl rfl ?_
        obtain ⟨⟨q2r, q2s⟩, q2h, h⟩ := x_bind h
        try dsimp only at h
        refine z_callV E [.int _] [.ref 7] dX8_inches_36 K_RX8_146 ⟨Nat.le_of_ble_eq_true rfl, Nat.le_of_ble_eq_true rfl⟩ sh_7 (by decide) rfl (c_Sc_herIn_7 E _ q2h) rfl rfl (Nat.le_of_ble_eq_true rfl) 39 rfl [.int _, .ref 7] rfl ?_
        refine x_iload_n 40 rfl 2 dX8_inches_39 rfl rfl ?_
        refine x_aload_n 41 rfl 0 dX8_inches_40 rfl rfl ?_
        refine x_getR E dX8_inches_41 F_RX8_37 sh_0 rf_0_5 44 rfl ?_
        refine x_getR E dX8_inches_44 F_RX8_118 sh_35 rf_35_0 47 rfl ?_
        refine x_iconst 48 rfl (v := 5) dX8_inches_47 (by decide) ?_
        refine x_iald E dX8_inches_48 sh_36 5 (by decide) (by decide) 49 rfl ?_
        obtain ⟨⟨q3r, q3s⟩, q3h, h⟩ := x_bind h
        try dsimp only at h
        refine z_callV E [.int _, .int _, .int _] [] dX8_inches_49 K_RX8_150 ⟨Nat.le_of_ble_eq_true rfl, Nat.le_of_ble_eq_true rfl⟩ sh_7 (by decide) rfl (c_Sc_placeOf_7 E _ _ _ q3h) rfl rfl (Nat.le_of_ble_eq_true rfl) 52 rfl [.int _] rfl ?_
        cases h
        exact x_Oret (x_iret dX8_inches_52 rfl rfl rfl)
      · replace h := x_ifF hc h
        cases h
        exact x_throwN E KU_ (k := 2) KX_RX8_144 rfl dX8_inches_17 dX8_inches_20 dX8_inches_21 dX8_inches_23 dX8_inches_26 (Nat.le_of_ble_eq_true rfl)
abbrev M_RH_isInches : xM := (yX8_isInches, cX8_isInches, 1, some .boolean, [])
theorem dX8_isInches_0 : decode cX8_isInches 0 = .ok (.iload_n 0, 1) := by decide +kernel
theorem dX8_isInches_1 : decode cX8_isInches 1 = .ok (.bipush 12, 2) := by decide +kernel
theorem dX8_isInches_3 : decode cX8_isInches 3 = .ok (.if_icmp .lt 14, 3) := by decide +kernel
theorem dX8_isInches_6 : decode cX8_isInches 6 = .ok (.iload_n 0, 1) := by decide +kernel
theorem dX8_isInches_7 : decode cX8_isInches 7 = .ok (.sipush 480, 3) := by decide +kernel
theorem dX8_isInches_10 : decode cX8_isInches 10 = .ok (.if_icmp .gt 7, 3) := by decide +kernel
theorem dX8_isInches_13 : decode cX8_isInches 13 = .ok (.iconst 1, 1) := by decide +kernel
theorem dX8_isInches_14 : decode cX8_isInches 14 = .ok (.goto 4, 3) := by decide +kernel
theorem dX8_isInches_17 : decode cX8_isInches 17 = .ok (.iconst 0, 1) := by decide +kernel
theorem dX8_isInches_18 : decode cX8_isInches 18 = .ok (.ireturn, 1) := by decide +kernel
def f_RH_isInches (v0 : Int32) (σ : xS) : Option (Int32 × xS) :=
  if v0 < (12 : Int32) then
    some ((0 : Int32), σ)
  else
    if (480 : Int32) < v0 then
      some ((0 : Int32), σ)
    else
      some ((1 : Int32), σ)
set_option maxHeartbeats 4000000 in
set_option maxRecDepth 100000 in
theorem c_RH_isInches {l : Launch} {s0 : State} {a0 : Array Value} {D : va_G} {cA : Nat → ClassId} {sp : Nat → Nat} (E : x_En CL l s0 a0 D cA sp) (v0 : Int32) {σ : xS} {r : Int32} {σ1 : xS} (h : f_RH_isInches v0 σ = some (r, σ1)) : zC l s0 D cA sp 0 M_RH_isInches [.int v0] σ (some (.int r)) σ1 := by
  unfold f_RH_isInches at h
  try dsimp only at h
  refine x_enter [some (.int v0)] rfl (Nat.le_of_ble_eq_true rfl) (by decide +kernel) rfl ?_
  refine x_iload_n 1 rfl 0 dX8_isInches_0 rfl rfl ?_
  refine x_bipush 3 rfl (v := 12) dX8_isInches_1 (by decide) ?_
  refine x_icmp_lt 6 rfl 17 dX8_isInches_3 (by decide) (fun hc => ?_) (fun hc => ?_)
  · replace h := x_ifT hc h
    refine x_iconst 18 rfl (v := 0) dX8_isInches_17 (by decide) ?_
    cases h
    exact x_zret (Or.inl rfl) dX8_isInches_18 rfl rfl rfl
  · replace h := x_ifF hc h
    refine x_iload_n 7 rfl 0 dX8_isInches_6 rfl rfl ?_
    refine x_sipush 10 rfl (v := 480) dX8_isInches_7 (by decide) ?_
    refine x_icmp_gt 13 rfl 17 dX8_isInches_10 (by decide) (fun hc => ?_) (fun hc => ?_)
    · replace h := x_ifT hc h
      refine x_iconst 18 rfl (v := 0) dX8_isInches_17 (by decide) ?_
      cases h
      exact x_zret (Or.inl rfl) dX8_isInches_18 rfl rfl rfl
    · replace h := x_ifF hc h
      refine x_iconst 14 rfl (v := 1) dX8_isInches_13 (by decide) ?_
      refine x_goto 18 dX8_isInches_14 (by decide) ?_
      cases h
      exact x_zret (Or.inr rfl) dX8_isInches_18 rfl rfl rfl
abbrev M_Sc_turnOf : xM := (yX4_turnOf, cX4_turnOf, 2, some .int, [])
theorem dX4_turnOf_0 : decode cX4_turnOf 0 = .ok (.iload_n 1, 1) := by decide +kernel
theorem dX4_turnOf_1 : decode cX4_turnOf 1 = .ok (.bipush 12, 2) := by decide +kernel
theorem dX4_turnOf_3 : decode cX4_turnOf 3 = .ok (.if_icmp .lt 10, 3) := by decide +kernel
theorem dX4_turnOf_6 : decode cX4_turnOf 6 = .ok (.iload_n 1, 1) := by decide +kernel
theorem dX4_turnOf_7 : decode cX4_turnOf 7 = .ok (.sipush 480, 3) := by decide +kernel
theorem dX4_turnOf_10 : decode cX4_turnOf 10 = .ok (.if_icmp .le 7, 3) := by decide +kernel
theorem dX4_turnOf_13 : decode cX4_turnOf 13 = .ok (.iconst 0, 1) := by decide +kernel
theorem dX4_turnOf_14 : decode cX4_turnOf 14 = .ok (.goto 9, 3) := by decide +kernel
theorem dX4_turnOf_17 : decode cX4_turnOf 17 = .ok (.aload_n 0, 1) := by decide +kernel
theorem dX4_turnOf_18 : decode cX4_turnOf 18 = .ok (.getfield 37, 3) := by decide +kernel
theorem dX4_turnOf_21 : decode cX4_turnOf 21 = .ok (.iload_n 1, 1) := by decide +kernel
theorem dX4_turnOf_22 : decode cX4_turnOf 22 = .ok (.iaload, 1) := by decide +kernel
theorem dX4_turnOf_23 : decode cX4_turnOf 23 = .ok (.ireturn, 1) := by decide +kernel
def f_Sc_turnOf_7 (v1 : Int32) (σ : xS) : Option (Int32 × xS) :=
  if v1 < (12 : Int32) then
    some ((0 : Int32), σ)
  else
    if v1 ≤ (480 : Int32) then
      if v1 < 0 ∨ 481 ≤ v1.toNatClampNeg then none else
      some (σ.1 20 v1.toNatClampNeg, σ)
    else
      some ((0 : Int32), σ)
set_option maxHeartbeats 4000000 in
set_option maxRecDepth 100000 in
theorem c_Sc_turnOf_7 {l : Launch} {s0 : State} {a0 : Array Value} {D : va_G} {cA : Nat → ClassId} {sp : Nat → Nat} (E : x_En CL l s0 a0 D cA sp) (v1 : Int32) {σ : xS} {r : Int32} {σ1 : xS} (h : f_Sc_turnOf_7 v1 σ = some (r, σ1)) : zC l s0 D cA sp 0 M_Sc_turnOf [.ref 7, .int v1] σ (some (.int r)) σ1 := by
  unfold f_Sc_turnOf_7 at h
  try dsimp only at h
  refine x_enter [some (.ref 7), some (.int v1)] rfl (Nat.le_of_ble_eq_true rfl) (by decide +kernel) rfl ?_
  refine x_iload_n 1 rfl 1 dX4_turnOf_0 rfl rfl ?_
  refine x_bipush 3 rfl (v := 12) dX4_turnOf_1 (by decide) ?_
  refine x_icmp_lt 6 rfl 13 dX4_turnOf_3 (by decide) (fun hc => ?_) (fun hc => ?_)
  · replace h := x_ifT hc h
    refine x_iconst 14 rfl (v := 0) dX4_turnOf_13 (by decide) ?_
    refine x_goto 23 dX4_turnOf_14 (by decide) ?_
    cases h
    exact x_iret dX4_turnOf_23 rfl rfl rfl
  · replace h := x_ifF hc h
    refine x_iload_n 7 rfl 1 dX4_turnOf_6 rfl rfl ?_
    refine x_sipush 10 rfl (v := 480) dX4_turnOf_7 (by decide) ?_
    refine x_icmp_le 13 rfl 17 dX4_turnOf_10 (by decide) (fun hc => ?_) (fun hc => ?_)
    · replace h := x_ifT hc h
      refine x_aload_n 18 rfl 0 dX4_turnOf_17 rfl rfl ?_
      refine x_getR E dX4_turnOf_18 F_RX4_37 sh_7 rf_7_13 21 rfl ?_
      refine x_iload_n 22 rfl 1 dX4_turnOf_21 rfl rfl ?_
      obtain ⟨hz, h⟩ := x_ifn h
      refine x_iald E dX4_turnOf_22 sh_20 _ rfl hz 23 rfl ?_
      cases h
      exact x_iret dX4_turnOf_23 rfl rfl rfl
    · replace h := x_ifF hc h
      refine x_iconst 14 rfl (v := 0) dX4_turnOf_13 (by decide) ?_
      refine x_goto 23 dX4_turnOf_14 (by decide) ?_
      cases h
      exact x_iret dX4_turnOf_23 rfl rfl rfl
theorem AO_85_89 : ∀ w ∈ Cond.classLink RX8 85 (x_Xn 1) :: Cond.initialized (x_Xn 1) :: vx_atS RX8 89 (x_Xn 1) x_names, vx_ot w = true := by decide +kernel
theorem AX_89 : ∀ w ∈ vx_atS RX8 89 (x_Xn 1) x_names, w ∈ lw_tbl ∧ x_mv w = true := by decide +kernel
theorem KX_RX8_157 : x_KX RX8 85 157 89 (x_Xn 1) "not INCHES" := ⟨by decide +kernel, (List.mem_append_right _ (List.mem_of_getElem? (i := 544) (by decide +kernel))), (List.mem_append_right _ (List.mem_of_getElem? (i := 13) (by decide +kernel))), (List.mem_append_right _ (List.mem_of_getElem? (i := 928) (by decide +kernel))), (List.mem_of_getElem? (i := 502) (by decide +kernel)), AX_89, AO_85_89⟩
theorem K_RX8_154 : x_KS RX8 154 M_RH_isInches 1 := ⟨⟨(List.mem_append_right _ (List.mem_of_getElem? (i := 433) (by decide +kernel))), (List.mem_append_right _ (List.mem_of_getElem? (i := 435) (by decide +kernel))), (List.mem_append_right _ (List.mem_of_getElem? (i := 1) (by decide +kernel))), ⟨by decide +kernel, by decide +kernel⟩, by decide +kernel⟩, (List.mem_append_right _ (List.mem_of_getElem? (i := 434) (by decide +kernel)))⟩
theorem K_RX8_159 : x_KV RX8 159 M_Sc_turnOf 1 := ⟨⟨(List.mem_append_right _ (List.mem_of_getElem? (i := 419) (by decide +kernel))), (List.mem_append_right _ (List.mem_of_getElem? (i := 422) (by decide +kernel))), (List.mem_append_right _ (List.mem_of_getElem? (i := 3) (by decide +kernel))), ⟨by decide +kernel, by decide +kernel⟩, by decide +kernel⟩, (List.mem_append_right _ (List.mem_of_getElem? (i := 420) (by decide +kernel))), (List.mem_append_right _ (List.mem_of_getElem? (i := 421) (by decide +kernel)))⟩
abbrev M_RH_turn : xM := (yX8_turn, cX8_turn, 2, some .int, [])
theorem dX8_turn_0 : decode cX8_turn 0 = .ok (.iload_n 1, 1) := by decide +kernel
theorem dX8_turn_1 : decode cX8_turn 1 = .ok (.invokestatic 154, 3) := by decide +kernel
theorem dX8_turn_4 : decode cX8_turn 4 = .ok (.ifCond .ne 13, 3) := by decide +kernel
theorem dX8_turn_7 : decode cX8_turn 7 = .ok (.new 85, 3) := by decide +kernel
theorem dX8_turn_10 : decode cX8_turn 10 = .ok (.dup, 1) := by decide +kernel
theorem dX8_turn_11 : decode cX8_turn 11 = .ok (.ldc 157, 2) := by decide +kernel
theorem dX8_turn_13 : decode cX8_turn 13 = .ok (.invokespecial 89, 3) := by decide +kernel
theorem dX8_turn_16 : decode cX8_turn 16 = .ok (.athrow, 1) := by decide +kernel
theorem dX8_turn_17 : decode cX8_turn 17 = .ok (.aload_n 0, 1) := by decide +kernel
theorem dX8_turn_18 : decode cX8_turn 18 = .ok (.getfield 27, 3) := by decide +kernel
theorem dX8_turn_21 : decode cX8_turn 21 = .ok (.iload_n 1, 1) := by decide +kernel
theorem dX8_turn_22 : decode cX8_turn 22 = .ok (.invokevirtual 159, 3) := by decide +kernel
theorem dX8_turn_25 : decode cX8_turn 25 = .ok (.ireturn, 1) := by decide +kernel
def f_RH_turn_0 (v1 : Int32) (σ : xS) : Option ((Int32 ⊕ Nat) × xS) :=
  (f_RH_isInches v1 σ).bind fun q1 =>
  if q1.1 = 0 then
    some (.inr 1, q1.2)
  else
    (f_Sc_turnOf_7 v1 q1.2).bind fun q2 =>
    some (.inl q2.1, q2.2)
set_option maxHeartbeats 4000000 in
set_option maxRecDepth 100000 in
theorem c_RH_turn_0 {l : Launch} {s0 : State} {a0 : Array Value} {D : va_G} {cA : Nat → ClassId} {sp : Nat → Nat} (E : x_En CL l s0 a0 D cA sp) (v1 : Int32) {σ : xS} {r : Int32 ⊕ Nat} {σ1 : xS} (h : f_RH_turn_0 v1 σ = some (r, σ1)) : oC l s0 D cA sp 1 M_RH_turn [.ref 0, .int v1] σ (x_oi r) σ1 := by
  unfold f_RH_turn_0 at h
  try dsimp only at h
  refine x_enterO [some (.ref 0), some (.int v1)] rfl (Nat.le_of_ble_eq_true rfl) (by decide +kernel) rfl ?_
  refine x_iload_n 1 rfl 1 dX8_turn_0 rfl rfl ?_
  obtain ⟨⟨q1r, q1s⟩, q1h, h⟩ := x_bind h
  try dsimp only at h
  refine z_callS E [.int _] [] dX8_turn_1 K_RX8_154 ⟨Nat.le_of_ble_eq_true rfl, Nat.le_of_ble_eq_true rfl⟩ (c_RH_isInches E _ q1h) rfl rfl (Nat.le_of_ble_eq_true rfl) 4 rfl [.int _] rfl ?_
  refine x_if_ne 7 rfl 17 dX8_turn_4 (by decide) (fun hc => ?_) (fun hc => ?_)
  · replace h := x_ifF hc h
    refine x_aload_n 18 rfl 0 dX8_turn_17 rfl rfl ?_
    refine x_getR E dX8_turn_18 F_RX8_27 sh_0 rf_0_3 21 rfl ?_
    refine x_iload_n 22 rfl 1 dX8_turn_21 rfl rfl ?_
    obtain ⟨⟨q2r, q2s⟩, q2h, h⟩ := x_bind h
    try dsimp only at h
    refine z_callV E [.int _] [] dX8_turn_22 K_RX8_159 ⟨Nat.le_of_ble_eq_true rfl, Nat.le_of_ble_eq_true rfl⟩ sh_7 (by decide) rfl (c_Sc_turnOf_7 E _ q2h) rfl rfl (Nat.le_of_ble_eq_true rfl) 25 rfl [.int _] rfl ?_
    cases h
    exact x_Oret (x_iret dX8_turn_25 rfl rfl rfl)
  · replace h := x_ifT hc h
    cases h
    exact x_throw E KU_ (k := 1) KX_RX8_157 rfl dX8_turn_7 dX8_turn_10 dX8_turn_11 dX8_turn_13 dX8_turn_16 (Nat.le_of_ble_eq_true rfl)
theorem K_RX6_44 : x_KM RX6 44 Lib.Math.min.name Lib.Math.min.code 2 := ⟨(List.mem_append_right _ (List.mem_of_getElem? (i := 460) (by decide +kernel))), (List.mem_append_right _ (List.mem_of_getElem? (i := 461) (by decide +kernel))), (List.mem_append_right _ (List.mem_of_getElem? (i := 14) (by decide +kernel))), (List.mem_append_right _ (List.mem_of_getElem? (i := 462) (by decide +kernel)))⟩
theorem K_RX6_50 : x_KY RX6 50 := ⟨(List.mem_append_right _ (List.mem_of_getElem? (i := 463) (by decide +kernel))), (List.mem_append_right _ (List.mem_of_getElem? (i := 310) (by decide +kernel))), (List.mem_append_right _ (List.mem_of_getElem? (i := 309) (by decide +kernel))), (List.mem_append_right _ (List.mem_of_getElem? (i := 8) (by decide +kernel)))⟩
abbrev M_Tr_begin : xM := (yX6_begin, cX6_begin, 3, none, [])
theorem dX6_begin_0 : decode cX6_begin 0 = .ok (.aload_n 1, 1) := by decide +kernel
theorem dX6_begin_1 : decode cX6_begin 1 = .ok (.iconst 0, 1) := by decide +kernel
theorem dX6_begin_2 : decode cX6_begin 2 = .ok (.aload_n 0, 1) := by decide +kernel
theorem dX6_begin_3 : decode cX6_begin 3 = .ok (.getfield 9, 3) := by decide +kernel
theorem dX6_begin_6 : decode cX6_begin 6 = .ok (.iconst 0, 1) := by decide +kernel
theorem dX6_begin_7 : decode cX6_begin 7 = .ok (.bipush 12, 2) := by decide +kernel
theorem dX6_begin_9 : decode cX6_begin 9 = .ok (.aload_n 1, 1) := by decide +kernel
theorem dX6_begin_10 : decode cX6_begin 10 = .ok (.arraylength, 1) := by decide +kernel
theorem dX6_begin_11 : decode cX6_begin 11 = .ok (.invokestatic 44, 3) := by decide +kernel
theorem dX6_begin_14 : decode cX6_begin 14 = .ok (.invokestatic 50, 3) := by decide +kernel
theorem dX6_begin_17 : decode cX6_begin 17 = .ok (.aload_n 0, 1) := by decide +kernel
theorem dX6_begin_18 : decode cX6_begin 18 = .ok (.iload_n 2, 1) := by decide +kernel
theorem dX6_begin_19 : decode cX6_begin 19 = .ok (.putfield 15, 3) := by decide +kernel
theorem dX6_begin_22 : decode cX6_begin 22 = .ok (.aload_n 0, 1) := by decide +kernel
theorem dX6_begin_23 : decode cX6_begin 23 = .ok (.iconst 0, 1) := by decide +kernel
theorem dX6_begin_24 : decode cX6_begin 24 = .ok (.putfield 19, 3) := by decide +kernel
theorem dX6_begin_27 : decode cX6_begin 27 = .ok (.aload_n 0, 1) := by decide +kernel
theorem dX6_begin_28 : decode cX6_begin 28 = .ok (.iconst 0, 1) := by decide +kernel
theorem dX6_begin_29 : decode cX6_begin 29 = .ok (.putfield 22, 3) := by decide +kernel
theorem dX6_begin_32 : decode cX6_begin 32 = .ok (.aload_n 0, 1) := by decide +kernel
theorem dX6_begin_33 : decode cX6_begin 33 = .ok (.iconst 0, 1) := by decide +kernel
theorem dX6_begin_34 : decode cX6_begin 34 = .ok (.putfield 25, 3) := by decide +kernel
theorem dX6_begin_37 : decode cX6_begin 37 = .ok (.return_, 1) := by decide +kernel
def f_Tr_begin_49_36 (v2 : Int32) (σ : xS) : Option (Unit × xS) :=
  x_ok (¬ (if (Int32.ofNat 12) < (12 : Int32) then (Int32.ofNat 12) else (12 : Int32)) < 0 ∧ (if (Int32.ofNat 12) < (12 : Int32) then (Int32.ofNat 12) else (12 : Int32)).toNatClampNeg ≤ 12 ∧ (if (Int32.ofNat 12) < (12 : Int32) then (Int32.ofNat 12) else (12 : Int32)).toNatClampNeg ≤ 12) <|
  let σ1 := x_cp σ 36 50 (if (Int32.ofNat 12) < (12 : Int32) then (Int32.ofNat 12) else (12 : Int32)).toNatClampNeg
  let σ2 := x_pI σ1 49 1 v2
  let σ3 := x_pI σ2 49 2 (0 : Int32)
  let σ4 := x_pI σ3 49 3 (0 : Int32)
  let σ5 := x_pI σ4 49 4 (0 : Int32)
  some ((), σ5)
set_option maxHeartbeats 4000000 in
set_option maxRecDepth 100000 in
theorem c_Tr_begin_49_36 {l : Launch} {s0 : State} {a0 : Array Value} {D : va_G} {cA : Nat → ClassId} {sp : Nat → Nat} (E : x_En CL l s0 a0 D cA sp) (v2 : Int32) {σ : xS} {r : Unit} {σ1 : xS} (h : f_Tr_begin_49_36 v2 σ = some (r, σ1)) : zC l s0 D cA sp 0 M_Tr_begin [.ref 49, .ref 36, .int v2] σ none σ1 := by
  unfold f_Tr_begin_49_36 at h
  try dsimp only at h
  refine x_enter [some (.ref 49), some (.ref 36), some (.int v2)] rfl (Nat.le_of_ble_eq_true rfl) (by decide +kernel) rfl ?_
  refine x_aload_n 1 rfl 1 dX6_begin_0 rfl rfl ?_
  refine x_iconst 2 rfl (v := 0) dX6_begin_1 (by decide) ?_
  refine x_aload_n 3 rfl 0 dX6_begin_2 rfl rfl ?_
  refine x_getR E dX6_begin_3 F_RX6_9 sh_49 rf_49_0 6 rfl ?_
  refine x_iconst 7 rfl (v := 0) dX6_begin_6 (by decide) ?_
  refine x_bipush 9 rfl (v := 12) dX6_begin_7 (by decide) ?_
  refine x_aload_n 10 rfl 1 dX6_begin_9 rfl rfl ?_
  refine x_alen E dX6_begin_10 sh_36 11 rfl ?_
  refine x_mmin E dX6_begin_11 K_RX6_44 (Nat.le_of_ble_eq_true rfl) (Nat.le_of_ble_eq_true rfl) 14 rfl ?_
  obtain ⟨⟨hz0, hz1, hz2⟩, h⟩ := x_ift h
  refine x_copy E dX6_begin_14 K_RX6_50 sh_36 sh_50 _ rfl hz0 hz1 hz2 (Nat.le_of_ble_eq_true rfl) (Nat.le_of_ble_eq_true rfl) 17 rfl ?_
  refine x_aload_n 18 rfl 0 dX6_begin_17 rfl rfl ?_
  refine x_iload_n 19 rfl 2 dX6_begin_18 rfl rfl ?_
  refine x_putI E dX6_begin_19 F_RX6_15 sh_49 22 rfl ?_
  refine x_aload_n 23 rfl 0 dX6_begin_22 rfl rfl ?_
  refine x_iconst 24 rfl (v := 0) dX6_begin_23 (by decide) ?_
  refine x_putI E dX6_begin_24 F_RX6_19 sh_49 27 rfl ?_
  refine x_aload_n 28 rfl 0 dX6_begin_27 rfl rfl ?_
  refine x_iconst 29 rfl (v := 0) dX6_begin_28 (by decide) ?_
  refine x_putI E dX6_begin_29 F_RX6_22 sh_49 32 rfl ?_
  refine x_aload_n 33 rfl 0 dX6_begin_32 rfl rfl ?_
  refine x_iconst 34 rfl (v := 0) dX6_begin_33 (by decide) ?_
  refine x_putI E dX6_begin_34 F_RX6_25 sh_49 37 rfl ?_
  cases h
  exact x_vret dX6_begin_37 rfl rfl rfl
theorem K_RX8_193 : x_KV RX8 193 M_Tr_begin 2 := ⟨⟨(List.mem_append_right _ (List.mem_of_getElem? (i := 456) (by decide +kernel))), (List.mem_append_right _ (List.mem_of_getElem? (i := 459) (by decide +kernel))), (List.mem_append_right _ (List.mem_of_getElem? (i := 6) (by decide +kernel))), ⟨by decide +kernel, by decide +kernel⟩, by decide +kernel⟩, (List.mem_append_right _ (List.mem_of_getElem? (i := 457) (by decide +kernel))), (List.mem_append_right _ (List.mem_of_getElem? (i := 458) (by decide +kernel)))⟩
abbrev M_RH_takeSettings : xM := (yX8_takeSettings, cX8_takeSettings, 1, none, [])
theorem dX8_takeSettings_0 : decode cX8_takeSettings 0 = .ok (.aload_n 0, 1) := by decide +kernel
theorem dX8_takeSettings_1 : decode cX8_takeSettings 1 = .ok (.getfield 51, 3) := by decide +kernel
theorem dX8_takeSettings_4 : decode cX8_takeSettings 4 = .ok (.aload_n 0, 1) := by decide +kernel
theorem dX8_takeSettings_5 : decode cX8_takeSettings 5 = .ok (.getfield 37, 3) := by decide +kernel
theorem dX8_takeSettings_8 : decode cX8_takeSettings 8 = .ok (.getfield 118, 3) := by decide +kernel
theorem dX8_takeSettings_11 : decode cX8_takeSettings 11 = .ok (.aload_n 0, 1) := by decide +kernel
theorem dX8_takeSettings_12 : decode cX8_takeSettings 12 = .ok (.getfield 27, 3) := by decide +kernel
theorem dX8_takeSettings_15 : decode cX8_takeSettings 15 = .ok (.getfield 112, 3) := by decide +kernel
theorem dX8_takeSettings_18 : decode cX8_takeSettings 18 = .ok (.invokevirtual 193, 3) := by decide +kernel
theorem dX8_takeSettings_21 : decode cX8_takeSettings 21 = .ok (.aload_n 0, 1) := by decide +kernel
theorem dX8_takeSettings_22 : decode cX8_takeSettings 22 = .ok (.iconst 0, 1) := by decide +kernel
theorem dX8_takeSettings_23 : decode cX8_takeSettings 23 = .ok (.putfield 55, 3) := by decide +kernel
theorem dX8_takeSettings_26 : decode cX8_takeSettings 26 = .ok (.return_, 1) := by decide +kernel
def f_RH_takeSettings_0  (σ : xS) : Option (Unit × xS) :=
  (f_Tr_begin_49_36 (σ.1 7 8) σ).bind fun q1 =>
  let σ2 := x_pI q1.2 0 9 (0 : Int32)
  some ((), σ2)
set_option maxHeartbeats 4000000 in
set_option maxRecDepth 100000 in
theorem c_RH_takeSettings_0 {l : Launch} {s0 : State} {a0 : Array Value} {D : va_G} {cA : Nat → ClassId} {sp : Nat → Nat} (E : x_En CL l s0 a0 D cA sp)  {σ : xS} {r : Unit} {σ1 : xS} (h : f_RH_takeSettings_0  σ = some (r, σ1)) : zC l s0 D cA sp 1 M_RH_takeSettings [.ref 0] σ none σ1 := by
  unfold f_RH_takeSettings_0 at h
  try dsimp only at h
  refine x_enter [some (.ref 0)] rfl (Nat.le_of_ble_eq_true rfl) (by decide +kernel) rfl ?_
  refine x_aload_n 1 rfl 0 dX8_takeSettings_0 rfl rfl ?_
  refine x_getR E dX8_takeSettings_1 F_RX8_51 sh_0 rf_0_8 4 rfl ?_
  refine x_aload_n 5 rfl 0 dX8_takeSettings_4 rfl rfl ?_
  refine x_getR E dX8_takeSettings_5 F_RX8_37 sh_0 rf_0_5 8 rfl ?_
  refine x_getR E dX8_takeSettings_8 F_RX8_118 sh_35 rf_35_0 11 rfl ?_
  refine x_aload_n 12 rfl 0 dX8_takeSettings_11 rfl rfl ?_
  refine x_getR E dX8_takeSettings_12 F_RX8_27 sh_0 rf_0_3 15 rfl ?_
  refine x_getI E dX8_takeSettings_15 F_RX8_112 sh_7 18 rfl ?_
  obtain ⟨⟨q1r, q1s⟩, q1h, h⟩ := x_bind h
  try dsimp only at h
  refine z_callV E [.ref 36, .int _] [] dX8_takeSettings_18 K_RX8_193 ⟨Nat.le_of_ble_eq_true rfl, Nat.le_of_ble_eq_true rfl⟩ sh_49 (by decide) rfl (c_Tr_begin_49_36 E _ q1h) rfl rfl (Nat.le_of_ble_eq_true rfl) 21 rfl [] rfl ?_
  refine x_aload_n 22 rfl 0 dX8_takeSettings_21 rfl rfl ?_
  refine x_iconst 23 rfl (v := 0) dX8_takeSettings_22 (by decide) ?_
  refine x_putZ E (Or.inl rfl) dX8_takeSettings_23 F_RX8_55 sh_0 26 rfl ?_
  cases h
  exact x_vret dX8_takeSettings_26 rfl rfl rfl
abbrev M_Sc_faceIn : xM := (yX4_faceIn, cX4_faceIn, 5, some .int, [])
theorem dX4_faceIn_0 : decode cX4_faceIn 0 = .ok (.iconst 0, 1) := by decide +kernel
theorem dX4_faceIn_1 : decode cX4_faceIn 1 = .ok (.istore_n 3, 1) := by decide +kernel
theorem dX4_faceIn_2 : decode cX4_faceIn 2 = .ok (.iconst 0, 1) := by decide +kernel
theorem dX4_faceIn_3 : decode cX4_faceIn 3 = .ok (.istore 4, 2) := by decide +kernel
theorem dX4_faceIn_5 : decode cX4_faceIn 5 = .ok (.iload 4, 2) := by decide +kernel
theorem dX4_faceIn_7 : decode cX4_faceIn 7 = .ok (.aload_n 0, 1) := by decide +kernel
theorem dX4_faceIn_8 : decode cX4_faceIn 8 = .ok (.getfield 50, 3) := by decide +kernel
theorem dX4_faceIn_11 : decode cX4_faceIn 11 = .ok (.if_icmp .ge 37, 3) := by decide +kernel
theorem dX4_faceIn_14 : decode cX4_faceIn 14 = .ok (.iload 4, 2) := by decide +kernel
theorem dX4_faceIn_16 : decode cX4_faceIn 16 = .ok (.bipush 6, 2) := by decide +kernel
theorem dX4_faceIn_18 : decode cX4_faceIn 18 = .ok (.if_icmp .ge 30, 3) := by decide +kernel
theorem dX4_faceIn_21 : decode cX4_faceIn 21 = .ok (.aload_n 0, 1) := by decide +kernel
theorem dX4_faceIn_22 : decode cX4_faceIn 22 = .ok (.getfield 18, 3) := by decide +kernel
theorem dX4_faceIn_25 : decode cX4_faceIn 25 = .ok (.iload 4, 2) := by decide +kernel
theorem dX4_faceIn_27 : decode cX4_faceIn 27 = .ok (.iaload, 1) := by decide +kernel
theorem dX4_faceIn_28 : decode cX4_faceIn 28 = .ok (.iload_n 2, 1) := by decide +kernel
theorem dX4_faceIn_29 : decode cX4_faceIn 29 = .ok (.iadd, 1) := by decide +kernel
theorem dX4_faceIn_30 : decode cX4_faceIn 30 = .ok (.iload_n 1, 1) := by decide +kernel
theorem dX4_faceIn_31 : decode cX4_faceIn 31 = .ok (.if_icmp .gt 11, 3) := by decide +kernel
theorem dX4_faceIn_34 : decode cX4_faceIn 34 = .ok (.aload_n 0, 1) := by decide +kernel
theorem dX4_faceIn_35 : decode cX4_faceIn 35 = .ok (.getfield 21, 3) := by decide +kernel
theorem dX4_faceIn_38 : decode cX4_faceIn 38 = .ok (.iload 4, 2) := by decide +kernel
theorem dX4_faceIn_40 : decode cX4_faceIn 40 = .ok (.iaload, 1) := by decide +kernel
theorem dX4_faceIn_41 : decode cX4_faceIn 41 = .ok (.istore_n 3, 1) := by decide +kernel
theorem dX4_faceIn_42 : decode cX4_faceIn 42 = .ok (.iinc 4 1, 3) := by decide +kernel
theorem dX4_faceIn_45 : decode cX4_faceIn 45 = .ok (.goto (-40), 3) := by decide +kernel
theorem dX4_faceIn_48 : decode cX4_faceIn 48 = .ok (.iload_n 3, 1) := by decide +kernel
theorem dX4_faceIn_49 : decode cX4_faceIn 49 = .ok (.ireturn, 1) := by decide +kernel
def f_Sc_faceIn_7_L5 (v1 : Int32) (v2 : Int32) (a : Int32 × Int32 × xS) : Option ((Int32 × Int32 × xS) ⊕ (Int32 × Int32 × xS)) :=
  let v3 := a.1; let v4 := a.2.1; let σ := a.2.2;
  if σ.1 7 5 ≤ v4 then
    some (.inl (v3, v4, σ))
  else
    if (6 : Int32) ≤ v4 then
      some (.inl (v3, v4, σ))
    else
      if v4 < 0 ∨ 6 ≤ v4.toNatClampNeg then none else
      if v1 < (σ.1 10 v4.toNatClampNeg + v2) then
        let w1 := v4 + (1 : Int32)
        some (.inr (v3, w1, σ))
      else
        if v4 < 0 ∨ 6 ≤ v4.toNatClampNeg then none else
        let w2 := σ.1 11 v4.toNatClampNeg
        let w3 := v4 + (1 : Int32)
        some (.inr (w2, w3, σ))
def f_Sc_faceIn_7 (v1 : Int32) (v2 : Int32) (σ : xS) : Option (Int32 × xS) :=
  (x_it (f_Sc_faceIn_7_L5 v1 v2) 10000 ((0 : Int32), (0 : Int32), σ)).bind fun b4 =>
  some (b4.1, b4.2.2)
set_option maxHeartbeats 4000000 in
set_option maxRecDepth 100000 in
theorem b_Sc_faceIn_7_L5 {l : Launch} {s0 : State} {a0 : Array Value} {D : va_G} {cA : Nat → ClassId} {sp : Nat → Nat} (E : x_En CL l s0 a0 D cA sp) (v1 : Int32) (v2 : Int32) {r : Int32} {σ1 : xS} (a : Int32 × Int32 × xS) (o : (Int32 × Int32 × xS) ⊕ (Int32 × Int32 × xS)) (h : f_Sc_faceIn_7_L5 v1 v2 a = some o) (hK : ∀ b, o = .inl b → zW l s0 D cA sp (zQ s0 D cA sp (some (.int r)) σ1) (x_rm 0 0 0) M_Sc_faceIn 0 0 48 [none, none, none, some (.int b.1), none] [] b.2.2) (hG : ∀ a', o = .inr a' → zW l s0 D cA sp (zQ s0 D cA sp (some (.int r)) σ1) (x_rm 0 0 0) M_Sc_faceIn 0 0 5 [some (.ref 7), some (.int v1), some (.int v2), some (.int a'.1), some (.int a'.2.1)] [] a'.2.2) : zW l s0 D cA sp (zQ s0 D cA sp (some (.int r)) σ1) (x_rm 0 0 0) M_Sc_faceIn 0 0 5 [some (.ref 7), some (.int v1), some (.int v2), some (.int a.1), some (.int a.2.1)] [] a.2.2 := by
  obtain ⟨v3, v4, σ⟩ := a
  unfold f_Sc_faceIn_7_L5 at h
  try dsimp only at h ⊢
  refine x_iload 7 rfl dX4_faceIn_5 rfl ?_
  refine x_aload_n 8 rfl 0 dX4_faceIn_7 rfl rfl ?_
  refine x_getI E dX4_faceIn_8 F_RX4_50 sh_7 11 rfl ?_
  refine x_icmp_ge 14 rfl 48 dX4_faceIn_11 (by decide) (fun hc => ?_) (fun hc => ?_)
  · replace h := x_ifT hc h
    cases h
    exact x_wk (x_le_n (x_le_n (x_le_n (x_le_s (x_le_n x_le_0))))) (hK (_, _, _) rfl)
  · replace h := x_ifF hc h
    refine x_iload 16 rfl dX4_faceIn_14 rfl ?_
    refine x_bipush 18 rfl (v := 6) dX4_faceIn_16 (by decide) ?_
    refine x_icmp_ge 21 rfl 48 dX4_faceIn_18 (by decide) (fun hc => ?_) (fun hc => ?_)
    · replace h := x_ifT hc h
      cases h
      exact x_wk (x_le_n (x_le_n (x_le_n (x_le_s (x_le_n x_le_0))))) (hK (_, _, _) rfl)
    · replace h := x_ifF hc h
      refine x_aload_n 22 rfl 0 dX4_faceIn_21 rfl rfl ?_
      refine x_getR E dX4_faceIn_22 F_RX4_18 sh_7 rf_7_6 25 rfl ?_
      refine x_iload 27 rfl dX4_faceIn_25 rfl ?_
      obtain ⟨hz, h⟩ := x_ifn h
      refine x_iald E dX4_faceIn_27 sh_10 _ rfl hz 28 rfl ?_
      refine x_iload_n 29 rfl 2 dX4_faceIn_28 rfl rfl ?_
      refine x_iadd 30 rfl dX4_faceIn_29 ?_
      refine x_iload_n 31 rfl 1 dX4_faceIn_30 rfl rfl ?_
      refine x_icmp_gt 34 rfl 42 dX4_faceIn_31 (by decide) (fun hc => ?_) (fun hc => ?_)
      · replace h := x_ifT hc h
        refine x_iinc 45 rfl (1) dX4_faceIn_42 rfl (by decide) (by decide) [some (.ref 7), some (.int _), some (.int _), some (.int _), some (.int _)] rfl ?_
        refine x_goto 5 dX4_faceIn_45 (by decide) ?_
        cases h
        exact x_wk (x_le_s (x_le_s (x_le_s (x_le_s (x_le_s x_le_0))))) (hG (_, _, _) rfl)
      · replace h := x_ifF hc h
        refine x_aload_n 35 rfl 0 dX4_faceIn_34 rfl rfl ?_
        refine x_getR E dX4_faceIn_35 F_RX4_21 sh_7 rf_7_7 38 rfl ?_
        refine x_iload 40 rfl dX4_faceIn_38 rfl ?_
        obtain ⟨hz, h⟩ := x_ifn h
        refine x_iald E dX4_faceIn_40 sh_11 _ rfl hz 41 rfl ?_
        refine x_istore_n 42 rfl 3 dX4_faceIn_41 rfl (by decide) [some (.ref 7), some (.int _), some (.int _), some (.int _), some (.int _)] rfl ?_
        refine x_iinc 45 rfl (1) dX4_faceIn_42 rfl (by decide) (by decide) [some (.ref 7), some (.int _), some (.int _), some (.int _), some (.int _)] rfl ?_
        refine x_goto 5 dX4_faceIn_45 (by decide) ?_
        cases h
        exact x_wk (x_le_s (x_le_s (x_le_s (x_le_s (x_le_s x_le_0))))) (hG (_, _, _) rfl)
set_option maxHeartbeats 4000000 in
set_option maxRecDepth 100000 in
theorem c_Sc_faceIn_7 {l : Launch} {s0 : State} {a0 : Array Value} {D : va_G} {cA : Nat → ClassId} {sp : Nat → Nat} (E : x_En CL l s0 a0 D cA sp) (v1 : Int32) (v2 : Int32) {σ : xS} {r : Int32} {σ1 : xS} (h : f_Sc_faceIn_7 v1 v2 σ = some (r, σ1)) : zC l s0 D cA sp 0 M_Sc_faceIn [.ref 7, .int v1, .int v2] σ (some (.int r)) σ1 := by
  unfold f_Sc_faceIn_7 at h
  try dsimp only at h
  refine x_enter [some (.ref 7), some (.int v1), some (.int v2), none, none] rfl (Nat.le_of_ble_eq_true rfl) (by decide +kernel) rfl ?_
  refine x_iconst 1 rfl (v := 0) dX4_faceIn_0 (by decide) ?_
  refine x_istore_n 2 rfl 3 dX4_faceIn_1 rfl (by decide) [some (.ref 7), some (.int _), some (.int _), some (.int _), none] rfl ?_
  refine x_iconst 3 rfl (v := 0) dX4_faceIn_2 (by decide) ?_
  refine x_istore 5 rfl dX4_faceIn_3 (by decide) [some (.ref 7), some (.int _), some (.int _), some (.int _), some (.int _)] rfl ?_
  obtain ⟨b4, b4h, h⟩ := x_bind h
  try dsimp only at h
  refine x_wk (x_le_s (x_le_s (x_le_s (x_le_s (x_le_s x_le_0))))) (x_loop (fun a o h hK hG => b_Sc_faceIn_7_L5 (r := r) (σ1 := σ1) E _ _ a o h hK hG) _ _ _ b4h ?_)
  refine x_iload_n 49 rfl 3 dX4_faceIn_48 rfl rfl ?_
  cases h
  exact x_iret dX4_faceIn_49 rfl rfl rfl
theorem K_RX6_107 : x_KM RX6 107 Lib.Math.max.name Lib.Math.max.code 2 := ⟨(List.mem_append_right _ (List.mem_of_getElem? (i := 480) (by decide +kernel))), (List.mem_append_right _ (List.mem_of_getElem? (i := 427) (by decide +kernel))), (List.mem_append_right _ (List.mem_of_getElem? (i := 14) (by decide +kernel))), (List.mem_append_right _ (List.mem_of_getElem? (i := 428) (by decide +kernel)))⟩
theorem K_RX6_110 : x_KV RX6 110 M_Sc_herIn 1 := ⟨⟨(List.mem_append_right _ (List.mem_of_getElem? (i := 481) (by decide +kernel))), (List.mem_append_right _ (List.mem_of_getElem? (i := 414) (by decide +kernel))), (List.mem_append_right _ (List.mem_of_getElem? (i := 3) (by decide +kernel))), ⟨by decide +kernel, by decide +kernel⟩, by decide +kernel⟩, (List.mem_append_right _ (List.mem_of_getElem? (i := 412) (by decide +kernel))), (List.mem_append_right _ (List.mem_of_getElem? (i := 413) (by decide +kernel)))⟩
theorem K_RX6_113 : x_KV RX6 113 M_Sc_placeOf 3 := ⟨⟨(List.mem_append_right _ (List.mem_of_getElem? (i := 482) (by decide +kernel))), (List.mem_append_right _ (List.mem_of_getElem? (i := 418) (by decide +kernel))), (List.mem_append_right _ (List.mem_of_getElem? (i := 3) (by decide +kernel))), ⟨by decide +kernel, by decide +kernel⟩, by decide +kernel⟩, (List.mem_append_right _ (List.mem_of_getElem? (i := 416) (by decide +kernel))), (List.mem_append_right _ (List.mem_of_getElem? (i := 417) (by decide +kernel)))⟩
abbrev M_Tr_placeIn : xM := (yX6_placeIn, cX6_placeIn, 4, some .int, [])
theorem dX6_placeIn_0 : decode cX6_placeIn 0 = .ok (.aload_n 1, 1) := by decide +kernel
theorem dX6_placeIn_1 : decode cX6_placeIn 1 = .ok (.aload_n 1, 1) := by decide +kernel
theorem dX6_placeIn_2 : decode cX6_placeIn 2 = .ok (.iconst 0, 1) := by decide +kernel
theorem dX6_placeIn_3 : decode cX6_placeIn 3 = .ok (.iload_n 2, 1) := by decide +kernel
theorem dX6_placeIn_4 : decode cX6_placeIn 4 = .ok (.invokestatic 107, 3) := by decide +kernel
theorem dX6_placeIn_7 : decode cX6_placeIn 7 = .ok (.aload_n 0, 1) := by decide +kernel
theorem dX6_placeIn_8 : decode cX6_placeIn 8 = .ok (.getfield 19, 3) := by decide +kernel
theorem dX6_placeIn_11 : decode cX6_placeIn 11 = .ok (.isub, 1) := by decide +kernel
theorem dX6_placeIn_12 : decode cX6_placeIn 12 = .ok (.invokevirtual 110, 3) := by decide +kernel
theorem dX6_placeIn_15 : decode cX6_placeIn 15 = .ok (.iload_n 3, 1) := by decide +kernel
theorem dX6_placeIn_16 : decode cX6_placeIn 16 = .ok (.aload_n 0, 1) := by decide +kernel
theorem dX6_placeIn_17 : decode cX6_placeIn 17 = .ok (.getfield 9, 3) := by decide +kernel
theorem dX6_placeIn_20 : decode cX6_placeIn 20 = .ok (.iconst 5, 1) := by decide +kernel
theorem dX6_placeIn_21 : decode cX6_placeIn 21 = .ok (.iaload, 1) := by decide +kernel
theorem dX6_placeIn_22 : decode cX6_placeIn 22 = .ok (.invokevirtual 113, 3) := by decide +kernel
theorem dX6_placeIn_25 : decode cX6_placeIn 25 = .ok (.ireturn, 1) := by decide +kernel
def f_Tr_placeIn_49_7 (v2 : Int32) (v3 : Int32) (σ : xS) : Option (Int32 × xS) :=
  (f_Sc_herIn_7 ((if (0 : Int32) < v2 then v2 else (0 : Int32)) - σ.1 49 2) σ).bind fun q1 =>
  (f_Sc_placeOf_7 q1.1 v3 (q1.2.1 50 5) q1.2).bind fun q2 =>
  some (q2.1, q2.2)
set_option maxHeartbeats 4000000 in
set_option maxRecDepth 100000 in
theorem c_Tr_placeIn_49_7 {l : Launch} {s0 : State} {a0 : Array Value} {D : va_G} {cA : Nat → ClassId} {sp : Nat → Nat} (E : x_En CL l s0 a0 D cA sp) (v2 : Int32) (v3 : Int32) {σ : xS} {r : Int32} {σ1 : xS} (h : f_Tr_placeIn_49_7 v2 v3 σ = some (r, σ1)) : zC l s0 D cA sp 2 M_Tr_placeIn [.ref 49, .ref 7, .int v2, .int v3] σ (some (.int r)) σ1 := by
  unfold f_Tr_placeIn_49_7 at h
  try dsimp only at h
  refine x_enter [some (.ref 49), some (.ref 7), some (.int v2), some (.int v3)] rfl (Nat.le_of_ble_eq_true rfl) (by decide +kernel) rfl ?_
  refine x_aload_n 1 rfl 1 dX6_placeIn_0 rfl rfl ?_
  refine x_aload_n 2 rfl 1 dX6_placeIn_1 rfl rfl ?_
  refine x_iconst 3 rfl (v := 0) dX6_placeIn_2 (by decide) ?_
  refine x_iload_n 4 rfl 2 dX6_placeIn_3 rfl rfl ?_
  refine x_mmax E dX6_placeIn_4 K_RX6_107 (Nat.le_of_ble_eq_true rfl) (Nat.le_of_ble_eq_true rfl) 7 rfl ?_
  refine x_aload_n 8 rfl 0 dX6_placeIn_7 rfl rfl ?_
  refine x_getI E dX6_placeIn_8 F_RX6_19 sh_49 11 rfl ?_
  refine x_isub 12 rfl dX6_placeIn_11 ?_
  obtain ⟨⟨q1r, q1s⟩, q1h, h⟩ := x_bind h
  try dsimp only at h
  refine z_callV E [.int _] [.ref 7] dX6_placeIn_12 K_RX6_110 ⟨Nat.le_of_ble_eq_true rfl, Nat.le_of_ble_eq_true rfl⟩ sh_7 (by decide) rfl (c_Sc_herIn_7 E _ q1h) rfl rfl (Nat.le_of_ble_eq_true rfl) 15 rfl [.int _, .ref 7] rfl ?_
  refine x_iload_n 16 rfl 3 dX6_placeIn_15 rfl rfl ?_
  refine x_aload_n 17 rfl 0 dX6_placeIn_16 rfl rfl ?_
  refine x_getR E dX6_placeIn_17 F_RX6_9 sh_49 rf_49_0 20 rfl ?_
  refine x_iconst 21 rfl (v := 5) dX6_placeIn_20 (by decide) ?_
  refine x_iald E dX6_placeIn_21 sh_50 5 (by decide) (by decide) 22 rfl ?_
  obtain ⟨⟨q2r, q2s⟩, q2h, h⟩ := x_bind h
  try dsimp only at h
  refine z_callV E [.int _, .int _, .int _] [] dX6_placeIn_22 K_RX6_113 ⟨Nat.le_of_ble_eq_true rfl, Nat.le_of_ble_eq_true rfl⟩ sh_7 (by decide) rfl (c_Sc_placeOf_7 E _ _ _ q2h) rfl rfl (Nat.le_of_ble_eq_true rfl) 25 rfl [.int _] rfl ?_
  cases h
  exact x_iret dX6_placeIn_25 rfl rfl rfl
