/-! The class's methods: functions and contracts. Written by wip/gen/emit.py. -/
theorem K_RX8_256 : x_KM RX8 256 Lib.Math.abs.name Lib.Math.abs.code 1 := ⟨(List.mem_append_right _ (List.mem_of_getElem? (i := 423) (by decide +kernel))), (List.mem_append_right _ (List.mem_of_getElem? (i := 424) (by decide +kernel))), (List.mem_append_right _ (List.mem_of_getElem? (i := 14) (by decide +kernel))), (List.mem_append_right _ (List.mem_of_getElem? (i := 425) (by decide +kernel)))⟩
abbrev M_RH_isNearMark : xM := (yX8_isNearMark, cX8_isNearMark, 5, some .boolean, [])
theorem dX8_isNearMark_0 : decode cX8_isNearMark 0 = .ok (.bipush 6, 2) := by decide +kernel
theorem dX8_isNearMark_2 : decode cX8_isNearMark 2 = .ok (.istore 4, 2) := by decide +kernel
theorem dX8_isNearMark_4 : decode cX8_isNearMark 4 = .ok (.iload 4, 2) := by decide +kernel
theorem dX8_isNearMark_6 : decode cX8_isNearMark 6 = .ok (.bipush 6, 2) := by decide +kernel
theorem dX8_isNearMark_8 : decode cX8_isNearMark 8 = .ok (.iload_n 1, 1) := by decide +kernel
theorem dX8_isNearMark_9 : decode cX8_isNearMark 9 = .ok (.iadd, 1) := by decide +kernel
theorem dX8_isNearMark_10 : decode cX8_isNearMark 10 = .ok (.if_icmp .ge 31, 3) := by decide +kernel
theorem dX8_isNearMark_13 : decode cX8_isNearMark 13 = .ok (.iload 4, 2) := by decide +kernel
theorem dX8_isNearMark_15 : decode cX8_isNearMark 15 = .ok (.aload_n 0, 1) := by decide +kernel
theorem dX8_isNearMark_16 : decode cX8_isNearMark 16 = .ok (.arraylength, 1) := by decide +kernel
theorem dX8_isNearMark_17 : decode cX8_isNearMark 17 = .ok (.if_icmp .ge 24, 3) := by decide +kernel
theorem dX8_isNearMark_20 : decode cX8_isNearMark 20 = .ok (.aload_n 0, 1) := by decide +kernel
theorem dX8_isNearMark_21 : decode cX8_isNearMark 21 = .ok (.iload 4, 2) := by decide +kernel
theorem dX8_isNearMark_23 : decode cX8_isNearMark 23 = .ok (.iaload, 1) := by decide +kernel
theorem dX8_isNearMark_24 : decode cX8_isNearMark 24 = .ok (.iload_n 2, 1) := by decide +kernel
theorem dX8_isNearMark_25 : decode cX8_isNearMark 25 = .ok (.isub, 1) := by decide +kernel
theorem dX8_isNearMark_26 : decode cX8_isNearMark 26 = .ok (.invokestatic 256, 3) := by decide +kernel
theorem dX8_isNearMark_29 : decode cX8_isNearMark 29 = .ok (.iload_n 3, 1) := by decide +kernel
theorem dX8_isNearMark_30 : decode cX8_isNearMark 30 = .ok (.if_icmp .gt 5, 3) := by decide +kernel
theorem dX8_isNearMark_33 : decode cX8_isNearMark 33 = .ok (.iconst 1, 1) := by decide +kernel
theorem dX8_isNearMark_34 : decode cX8_isNearMark 34 = .ok (.ireturn, 1) := by decide +kernel
theorem dX8_isNearMark_35 : decode cX8_isNearMark 35 = .ok (.iinc 4 1, 3) := by decide +kernel
theorem dX8_isNearMark_38 : decode cX8_isNearMark 38 = .ok (.goto (-34), 3) := by decide +kernel
theorem dX8_isNearMark_41 : decode cX8_isNearMark 41 = .ok (.iconst 0, 1) := by decide +kernel
theorem dX8_isNearMark_42 : decode cX8_isNearMark 42 = .ok (.ireturn, 1) := by decide +kernel
def f_RH_isNearMark_50_L4 (v1 : Int32) (v2 : Int32) (v3 : Int32) (a : Int32 × xS) : Option (((Int32 × xS) ⊕ (Int32 × xS)) ⊕ (Int32 × xS)) :=
  let v4 := a.1; let σ := a.2;
  if ((6 : Int32) + v1) ≤ v4 then
    some (.inl (.inr (v4, σ)))
  else
    if (Int32.ofNat 12) ≤ v4 then
      some (.inl (.inr (v4, σ)))
    else
      if v4 < 0 ∨ 12 ≤ v4.toNatClampNeg then none else
      if v3 < (if 0 ≤ (σ.1 50 v4.toNatClampNeg - v2) then (σ.1 50 v4.toNatClampNeg - v2) else 0 - (σ.1 50 v4.toNatClampNeg - v2)) then
        let w1 := v4 + (1 : Int32)
        some (.inr (w1, σ))
      else
        some (.inl (.inl ((1 : Int32), σ)))
def f_RH_isNearMark_50 (v1 : Int32) (v2 : Int32) (v3 : Int32) (σ : xS) : Option (Int32 × xS) :=
  (x_it (f_RH_isNearMark_50_L4 v1 v2 v3) 10000 ((6 : Int32), σ)).bind fun b2 =>
  match b2 with
  | .inl b2r => some b2r
  | .inr b2e =>
    some ((0 : Int32), b2e.2)
set_option maxHeartbeats 4000000 in
set_option maxRecDepth 100000 in
theorem b_RH_isNearMark_50_L4 {l : Launch} {s0 : State} {a0 : Array Value} {D : va_G} {cA : Nat → ClassId} {sp : Nat → Nat} (E : x_En CL l s0 a0 D cA sp) (v1 : Int32) (v2 : Int32) (v3 : Int32) {r : Int32} {σ1 : xS} (a : Int32 × xS) (o : ((Int32 × xS) ⊕ (Int32 × xS)) ⊕ (Int32 × xS)) (h : f_RH_isNearMark_50_L4 v1 v2 v3 a = some o) (hK : ∀ b, o = .inl b → (∀ q, b = .inl q → q = (r, σ1)) ∧ ∀ e, b = .inr e → zW l s0 D cA sp (zQ s0 D cA sp (some (.int r)) σ1) (x_rm 0 0 0) M_RH_isNearMark 0 0 41 [none, none, none, none, none] [] e.2) (hG : ∀ a', o = .inr a' → zW l s0 D cA sp (zQ s0 D cA sp (some (.int r)) σ1) (x_rm 0 0 0) M_RH_isNearMark 0 0 4 [some (.ref 50), some (.int v1), some (.int v2), some (.int v3), some (.int a'.1)] [] a'.2) : zW l s0 D cA sp (zQ s0 D cA sp (some (.int r)) σ1) (x_rm 0 0 0) M_RH_isNearMark 0 0 4 [some (.ref 50), some (.int v1), some (.int v2), some (.int v3), some (.int a.1)] [] a.2 := by
  obtain ⟨v4, σ⟩ := a
  unfold f_RH_isNearMark_50_L4 at h
  try dsimp only at h ⊢
  refine x_iload 6 rfl dX8_isNearMark_4 rfl ?_
  refine x_bipush 8 rfl (v := 6) dX8_isNearMark_6 (by decide) ?_
  refine x_iload_n 9 rfl 1 dX8_isNearMark_8 rfl rfl ?_
  refine x_iadd 10 rfl dX8_isNearMark_9 ?_
  refine x_icmp_ge 13 rfl 41 dX8_isNearMark_10 (by decide) (fun hc => ?_) (fun hc => ?_)
  · replace h := x_ifT hc h
    cases h
    exact x_wk (x_le_n (x_le_n (x_le_n (x_le_n (x_le_n x_le_0))))) ((hK (.inr (_, _)) rfl).2 (_, _) rfl)
  · replace h := x_ifF hc h
    refine x_iload 15 rfl dX8_isNearMark_13 rfl ?_
    refine x_aload_n 16 rfl 0 dX8_isNearMark_15 rfl rfl ?_
    refine x_alen E dX8_isNearMark_16 sh_50 17 rfl ?_
    refine x_icmp_ge 20 rfl 41 dX8_isNearMark_17 (by decide) (fun hc => ?_) (fun hc => ?_)
    · replace h := x_ifT hc h
      cases h
      exact x_wk (x_le_n (x_le_n (x_le_n (x_le_n (x_le_n x_le_0))))) ((hK (.inr (_, _)) rfl).2 (_, _) rfl)
    · replace h := x_ifF hc h
      refine x_aload_n 21 rfl 0 dX8_isNearMark_20 rfl rfl ?_
      refine x_iload 23 rfl dX8_isNearMark_21 rfl ?_
      obtain ⟨hz, h⟩ := x_ifn h
      refine x_iald E dX8_isNearMark_23 sh_50 _ rfl hz 24 rfl ?_
      refine x_iload_n 25 rfl 2 dX8_isNearMark_24 rfl rfl ?_
      refine x_isub 26 rfl dX8_isNearMark_25 ?_
      refine x_mabs E dX8_isNearMark_26 K_RX8_256 (Nat.le_of_ble_eq_true rfl) (Nat.le_of_ble_eq_true rfl) 29 rfl ?_
      refine x_iload_n 30 rfl 3 dX8_isNearMark_29 rfl rfl ?_
      refine x_icmp_gt 33 rfl 35 dX8_isNearMark_30 (by decide) (fun hc => ?_) (fun hc => ?_)
      · replace h := x_ifT hc h
        refine x_iinc 38 rfl (1) dX8_isNearMark_35 rfl (by decide) (by decide) [some (.ref 50), some (.int _), some (.int _), some (.int _), some (.int _)] rfl ?_
        refine x_goto 4 dX8_isNearMark_38 (by decide) ?_
        cases h
        exact x_wk (x_le_s (x_le_s (x_le_s (x_le_s (x_le_s x_le_0))))) (hG (_, _) rfl)
      · replace h := x_ifF hc h
        refine x_iconst 34 rfl (v := 1) dX8_isNearMark_33 (by decide) ?_
        cases h
        cases (hK (.inl (_, _)) rfl).1 (_, _) rfl
        exact x_zret (Or.inr rfl) dX8_isNearMark_34 rfl rfl rfl
set_option maxHeartbeats 4000000 in
set_option maxRecDepth 100000 in
theorem c_RH_isNearMark_50 {l : Launch} {s0 : State} {a0 : Array Value} {D : va_G} {cA : Nat → ClassId} {sp : Nat → Nat} (E : x_En CL l s0 a0 D cA sp) (v1 : Int32) (v2 : Int32) (v3 : Int32) {σ : xS} {r : Int32} {σ1 : xS} (h : f_RH_isNearMark_50 v1 v2 v3 σ = some (r, σ1)) : zC l s0 D cA sp 0 M_RH_isNearMark [.ref 50, .int v1, .int v2, .int v3] σ (some (.int r)) σ1 := by
  unfold f_RH_isNearMark_50 at h
  try dsimp only at h
  refine x_enter [some (.ref 50), some (.int v1), some (.int v2), some (.int v3), none] rfl (Nat.le_of_ble_eq_true rfl) (by decide +kernel) rfl ?_
  refine x_bipush 2 rfl (v := 6) dX8_isNearMark_0 (by decide) ?_
  refine x_istore 4 rfl dX8_isNearMark_2 (by decide) [some (.ref 50), some (.int _), some (.int _), some (.int _), some (.int _)] rfl ?_
  obtain ⟨b2, b2h, h⟩ := x_bind h
  try dsimp only at h
  refine x_wk (x_le_s (x_le_s (x_le_s (x_le_s (x_le_s x_le_0))))) (x_loop (fun a o h hK hG => b_RH_isNearMark_50_L4 (r := r) (σ1 := σ1) E _ _ _ a o h hK hG) _ _ _ b2h ?_)
  cases b2 with
  | inl b2r =>
    try dsimp only at h
    cases h
    exact ⟨fun q e => (by cases e; rfl), fun e he => (by cases he)⟩
  | inr b2e =>
    try dsimp only at h
    refine ⟨fun q e => (by cases e), fun e he => ?_⟩
    cases he
    refine x_iconst 42 rfl (v := 0) dX8_isNearMark_41 (by decide) ?_
    cases h
    exact x_zret (Or.inl rfl) dX8_isNearMark_42 rfl rfl rfl
theorem K_RX6_91 : x_KT RX6 91 M_RH_within 3 RX8 := ⟨⟨(List.mem_append_right _ (List.mem_of_getElem? (i := 490) (by decide +kernel))), (List.mem_append_right _ (List.mem_of_getElem? (i := 303) (by decide +kernel))), (List.mem_append_right _ (List.mem_of_getElem? (i := 1) (by decide +kernel))), ⟨by decide +kernel, by decide +kernel⟩, by decide +kernel⟩, (List.mem_append_right _ (List.mem_of_getElem? (i := 302) (by decide +kernel)))⟩
abbrev M_Tr_judged : xM := (yX6_judged, cX6_judged, 2, some .int, [])
theorem dX6_judged_0 : decode cX6_judged 0 = .ok (.iload_n 1, 1) := by decide +kernel
theorem dX6_judged_1 : decode cX6_judged 1 = .ok (.iload_n 1, 1) := by decide +kernel
theorem dX6_judged_2 : decode cX6_judged 2 = .ok (.aload_n 0, 1) := by decide +kernel
theorem dX6_judged_3 : decode cX6_judged 3 = .ok (.getfield 9, 3) := by decide +kernel
theorem dX6_judged_6 : decode cX6_judged 6 = .ok (.iconst 3, 1) := by decide +kernel
theorem dX6_judged_7 : decode cX6_judged 7 = .ok (.iaload, 1) := by decide +kernel
theorem dX6_judged_8 : decode cX6_judged 8 = .ok (.imul, 1) := by decide +kernel
theorem dX6_judged_9 : decode cX6_judged 9 = .ok (.bipush 100, 2) := by decide +kernel
theorem dX6_judged_11 : decode cX6_judged 11 = .ok (.idiv, 1) := by decide +kernel
theorem dX6_judged_12 : decode cX6_judged 12 = .ok (.iadd, 1) := by decide +kernel
theorem dX6_judged_13 : decode cX6_judged 13 = .ok (.bipush 12, 2) := by decide +kernel
theorem dX6_judged_15 : decode cX6_judged 15 = .ok (.sipush 480, 3) := by decide +kernel
theorem dX6_judged_18 : decode cX6_judged 18 = .ok (.invokestatic 91, 3) := by decide +kernel
theorem dX6_judged_21 : decode cX6_judged 21 = .ok (.ireturn, 1) := by decide +kernel
def f_Tr_judged_49 (v1 : Int32) (σ : xS) : Option (Int32 × xS) :=
  (f_RH_within (v1 + ((v1 * σ.1 50 3) / (100 : Int32))) (12 : Int32) (480 : Int32) σ).bind fun q1 =>
  some (q1.1, q1.2)
set_option maxHeartbeats 4000000 in
set_option maxRecDepth 100000 in
theorem c_Tr_judged_49 {l : Launch} {s0 : State} {a0 : Array Value} {D : va_G} {cA : Nat → ClassId} {sp : Nat → Nat} (E : x_En CL l s0 a0 D cA sp) (v1 : Int32) {σ : xS} {r : Int32} {σ1 : xS} (h : f_Tr_judged_49 v1 σ = some (r, σ1)) : zC l s0 D cA sp 1 M_Tr_judged [.ref 49, .int v1] σ (some (.int r)) σ1 := by
  unfold f_Tr_judged_49 at h
  try dsimp only at h
  refine x_enter [some (.ref 49), some (.int v1)] rfl (Nat.le_of_ble_eq_true rfl) (by decide +kernel) rfl ?_
  refine x_iload_n 1 rfl 1 dX6_judged_0 rfl rfl ?_
  refine x_iload_n 2 rfl 1 dX6_judged_1 rfl rfl ?_
  refine x_aload_n 3 rfl 0 dX6_judged_2 rfl rfl ?_
  refine x_getR E dX6_judged_3 F_RX6_9 sh_49 rf_49_0 6 rfl ?_
  refine x_iconst 7 rfl (v := 3) dX6_judged_6 (by decide) ?_
  refine x_iald E dX6_judged_7 sh_50 3 (by decide) (by decide) 8 rfl ?_
  refine x_imul 9 rfl dX6_judged_8 ?_
  refine x_bipush 11 rfl (v := 100) dX6_judged_9 (by decide) ?_
  refine x_idiv 12 rfl dX6_judged_11 (by decide) ?_
  refine x_iadd 13 rfl dX6_judged_12 ?_
  refine x_bipush 15 rfl (v := 12) dX6_judged_13 (by decide) ?_
  refine x_sipush 18 rfl (v := 480) dX6_judged_15 (by decide) ?_
  obtain ⟨⟨q1r, q1s⟩, q1h, h⟩ := x_bind h
  try dsimp only at h
  refine z_callT E [.int _, .int _, .int _] [] dX6_judged_18 K_RX6_91 ⟨Nat.le_of_ble_eq_true rfl, Nat.le_of_ble_eq_true rfl⟩ (c_RH_within E _ _ _ q1h) rfl rfl (Nat.le_of_ble_eq_true rfl) 21 rfl [.int _] rfl ?_
  cases h
  exact x_iret dX6_judged_21 rfl rfl rfl
theorem K_RX6_66 : x_KV RX6 66 M_Sc_faceIn 2 := ⟨⟨(List.mem_append_right _ (List.mem_of_getElem? (i := 472) (by decide +kernel))), (List.mem_append_right _ (List.mem_of_getElem? (i := 475) (by decide +kernel))), (List.mem_append_right _ (List.mem_of_getElem? (i := 3) (by decide +kernel))), ⟨by decide +kernel, by decide +kernel⟩, by decide +kernel⟩, (List.mem_append_right _ (List.mem_of_getElem? (i := 473) (by decide +kernel))), (List.mem_append_right _ (List.mem_of_getElem? (i := 474) (by decide +kernel)))⟩
theorem K_RX6_69 : x_KV RX6 69 M_Tr_placeIn 3 := ⟨⟨(List.mem_append_right _ (List.mem_of_getElem? (i := 476) (by decide +kernel))), (List.mem_append_right _ (List.mem_of_getElem? (i := 479) (by decide +kernel))), (List.mem_append_right _ (List.mem_of_getElem? (i := 6) (by decide +kernel))), ⟨by decide +kernel, by decide +kernel⟩, by decide +kernel⟩, (List.mem_append_right _ (List.mem_of_getElem? (i := 478) (by decide +kernel))), (List.mem_append_left _ (List.mem_of_getElem? (i := 7) (by decide +kernel)))⟩
theorem K_RX6_73 : x_KT RX6 73 M_RH_isNearMark 4 RX8 := ⟨⟨(List.mem_append_right _ (List.mem_of_getElem? (i := 483) (by decide +kernel))), (List.mem_append_right _ (List.mem_of_getElem? (i := 485) (by decide +kernel))), (List.mem_append_right _ (List.mem_of_getElem? (i := 1) (by decide +kernel))), ⟨by decide +kernel, by decide +kernel⟩, by decide +kernel⟩, (List.mem_append_right _ (List.mem_of_getElem? (i := 484) (by decide +kernel)))⟩
theorem K_RX6_77 : x_KV RX6 77 M_Tr_judged 1 := ⟨⟨(List.mem_append_right _ (List.mem_of_getElem? (i := 486) (by decide +kernel))), (List.mem_append_right _ (List.mem_of_getElem? (i := 489) (by decide +kernel))), (List.mem_append_right _ (List.mem_of_getElem? (i := 6) (by decide +kernel))), ⟨by decide +kernel, by decide +kernel⟩, by decide +kernel⟩, (List.mem_append_right _ (List.mem_of_getElem? (i := 488) (by decide +kernel))), (List.mem_append_left _ (List.mem_of_getElem? (i := 8) (by decide +kernel)))⟩
theorem K_RX6_81 : x_KV RX6 81 M_Sc_turnOf 1 := ⟨⟨(List.mem_append_right _ (List.mem_of_getElem? (i := 491) (by decide +kernel))), (List.mem_append_right _ (List.mem_of_getElem? (i := 422) (by decide +kernel))), (List.mem_append_right _ (List.mem_of_getElem? (i := 3) (by decide +kernel))), ⟨by decide +kernel, by decide +kernel⟩, by decide +kernel⟩, (List.mem_append_right _ (List.mem_of_getElem? (i := 420) (by decide +kernel))), (List.mem_append_right _ (List.mem_of_getElem? (i := 421) (by decide +kernel)))⟩
abbrev M_Tr_look : xM := (yX6_look, cX6_look, 4, none, [])
theorem dX6_look_0 : decode cX6_look 0 = .ok (.aload_n 0, 1) := by decide +kernel
theorem dX6_look_1 : decode cX6_look 1 = .ok (.aload_n 1, 1) := by decide +kernel
theorem dX6_look_2 : decode cX6_look 2 = .ok (.getfield 63, 3) := by decide +kernel
theorem dX6_look_5 : decode cX6_look 5 = .ok (.sipush 600, 3) := by decide +kernel
theorem dX6_look_8 : decode cX6_look 8 = .ok (.invokestatic 44, 3) := by decide +kernel
theorem dX6_look_11 : decode cX6_look 11 = .ok (.putfield 28, 3) := by decide +kernel
theorem dX6_look_14 : decode cX6_look 14 = .ok (.iconst 0, 1) := by decide +kernel
theorem dX6_look_15 : decode cX6_look 15 = .ok (.istore_n 2, 1) := by decide +kernel
theorem dX6_look_16 : decode cX6_look 16 = .ok (.iload_n 2, 1) := by decide +kernel
theorem dX6_look_17 : decode cX6_look 17 = .ok (.aload_n 0, 1) := by decide +kernel
theorem dX6_look_18 : decode cX6_look 18 = .ok (.getfield 28, 3) := by decide +kernel
theorem dX6_look_21 : decode cX6_look 21 = .ok (.if_icmp .gt 80, 3) := by decide +kernel
theorem dX6_look_24 : decode cX6_look 24 = .ok (.aload_n 0, 1) := by decide +kernel
theorem dX6_look_25 : decode cX6_look 25 = .ok (.aload_n 1, 1) := by decide +kernel
theorem dX6_look_26 : decode cX6_look 26 = .ok (.iload_n 2, 1) := by decide +kernel
theorem dX6_look_27 : decode cX6_look 27 = .ok (.aload_n 0, 1) := by decide +kernel
theorem dX6_look_28 : decode cX6_look 28 = .ok (.getfield 9, 3) := by decide +kernel
theorem dX6_look_31 : decode cX6_look 31 = .ok (.iconst 1, 1) := by decide +kernel
theorem dX6_look_32 : decode cX6_look 32 = .ok (.iaload, 1) := by decide +kernel
theorem dX6_look_33 : decode cX6_look 33 = .ok (.isub, 1) := by decide +kernel
theorem dX6_look_34 : decode cX6_look 34 = .ok (.aload_n 1, 1) := by decide +kernel
theorem dX6_look_35 : decode cX6_look 35 = .ok (.iload_n 2, 1) := by decide +kernel
theorem dX6_look_36 : decode cX6_look 36 = .ok (.aload_n 0, 1) := by decide +kernel
theorem dX6_look_37 : decode cX6_look 37 = .ok (.getfield 22, 3) := by decide +kernel
theorem dX6_look_40 : decode cX6_look 40 = .ok (.invokevirtual 66, 3) := by decide +kernel
theorem dX6_look_43 : decode cX6_look 43 = .ok (.invokevirtual 69, 3) := by decide +kernel
theorem dX6_look_46 : decode cX6_look 46 = .ok (.istore_n 3, 1) := by decide +kernel
theorem dX6_look_47 : decode cX6_look 47 = .ok (.aload_n 0, 1) := by decide +kernel
theorem dX6_look_48 : decode cX6_look 48 = .ok (.getfield 34, 3) := by decide +kernel
theorem dX6_look_51 : decode cX6_look 51 = .ok (.iload_n 2, 1) := by decide +kernel
theorem dX6_look_52 : decode cX6_look 52 = .ok (.aload_n 0, 1) := by decide +kernel
theorem dX6_look_53 : decode cX6_look 53 = .ok (.getfield 9, 3) := by decide +kernel
theorem dX6_look_56 : decode cX6_look 56 = .ok (.aload_n 0, 1) := by decide +kernel
theorem dX6_look_57 : decode cX6_look 57 = .ok (.getfield 15, 3) := by decide +kernel
theorem dX6_look_60 : decode cX6_look 60 = .ok (.iload_n 3, 1) := by decide +kernel
theorem dX6_look_61 : decode cX6_look 61 = .ok (.bipush 6, 2) := by decide +kernel
theorem dX6_look_63 : decode cX6_look 63 = .ok (.invokestatic 73, 3) := by decide +kernel
theorem dX6_look_66 : decode cX6_look 66 = .ok (.bastore, 1) := by decide +kernel
theorem dX6_look_67 : decode cX6_look 67 = .ok (.aload_n 0, 1) := by decide +kernel
theorem dX6_look_68 : decode cX6_look 68 = .ok (.getfield 31, 3) := by decide +kernel
theorem dX6_look_71 : decode cX6_look 71 = .ok (.iload_n 2, 1) := by decide +kernel
theorem dX6_look_72 : decode cX6_look 72 = .ok (.aload_n 1, 1) := by decide +kernel
theorem dX6_look_73 : decode cX6_look 73 = .ok (.aload_n 0, 1) := by decide +kernel
theorem dX6_look_74 : decode cX6_look 74 = .ok (.getfield 34, 3) := by decide +kernel
theorem dX6_look_77 : decode cX6_look 77 = .ok (.iload_n 2, 1) := by decide +kernel
theorem dX6_look_78 : decode cX6_look 78 = .ok (.baload, 1) := by decide +kernel
theorem dX6_look_79 : decode cX6_look 79 = .ok (.ifCond .eq 7, 3) := by decide +kernel
theorem dX6_look_82 : decode cX6_look 82 = .ok (.iload_n 3, 1) := by decide +kernel
theorem dX6_look_83 : decode cX6_look 83 = .ok (.goto 8, 3) := by decide +kernel
theorem dX6_look_86 : decode cX6_look 86 = .ok (.aload_n 0, 1) := by decide +kernel
theorem dX6_look_87 : decode cX6_look 87 = .ok (.iload_n 3, 1) := by decide +kernel
theorem dX6_look_88 : decode cX6_look 88 = .ok (.invokevirtual 77, 3) := by decide +kernel
theorem dX6_look_91 : decode cX6_look 91 = .ok (.invokevirtual 81, 3) := by decide +kernel
theorem dX6_look_94 : decode cX6_look 94 = .ok (.iastore, 1) := by decide +kernel
theorem dX6_look_95 : decode cX6_look 95 = .ok (.iinc 2 1, 3) := by decide +kernel
theorem dX6_look_98 : decode cX6_look 98 = .ok (.goto (-82), 3) := by decide +kernel
theorem dX6_look_101 : decode cX6_look 101 = .ok (.return_, 1) := by decide +kernel
def f_Tr_look_49_7_L16  (a : Int32 × xS) : Option ((Int32 × xS) ⊕ (Int32 × xS)) :=
  let v2 := a.1; let σ := a.2;
  if σ.1 49 5 < v2 then
    some (.inl (v2, σ))
  else
    (f_Sc_faceIn_7 v2 (σ.1 49 3) σ).bind fun q1 =>
    (f_Tr_placeIn_49_7 (v2 - σ.1 50 1) q1.1 q1.2).bind fun q2 =>
    let w3 := q2.1
    (f_RH_isNearMark_50 (q2.2.1 49 1) w3 (6 : Int32) q2.2).bind fun q4 =>
    x_ok (q4.1 = 0 ∨ q4.1 = 1) <|
    if v2 < 0 ∨ 601 ≤ v2.toNatClampNeg then none else
    let σ5 := x_pI q4.2 52 v2.toNatClampNeg q4.1
    if v2 < 0 ∨ 601 ≤ v2.toNatClampNeg then none else
    if σ5.1 52 v2.toNatClampNeg = 0 then
      (f_Tr_judged_49 w3 σ5).bind fun q6 =>
      (f_Sc_turnOf_7 q6.1 q6.2).bind fun q7 =>
      if v2 < 0 ∨ 601 ≤ v2.toNatClampNeg then none else
      let σ8 := x_pI q7.2 51 v2.toNatClampNeg q7.1
      let w9 := v2 + (1 : Int32)
      some (.inr (w9, σ8))
    else
      (f_Sc_turnOf_7 w3 σ5).bind fun q10 =>
      if v2 < 0 ∨ 601 ≤ v2.toNatClampNeg then none else
      let σ11 := x_pI q10.2 51 v2.toNatClampNeg q10.1
      let w12 := v2 + (1 : Int32)
      some (.inr (w12, σ11))
def f_Tr_look_49_7  (σ : xS) : Option (Unit × xS) :=
  let σ13 := x_pI σ 49 5 (if (600 : Int32) < σ.1 7 4 then (600 : Int32) else σ.1 7 4)
  (x_it (f_Tr_look_49_7_L16 ) 10000 ((0 : Int32), σ13)).bind fun b14 =>
  some ((), b14.2)
set_option maxHeartbeats 4000000 in
set_option maxRecDepth 100000 in
theorem b_Tr_look_49_7_L16 {l : Launch} {s0 : State} {a0 : Array Value} {D : va_G} {cA : Nat → ClassId} {sp : Nat → Nat} (E : x_En CL l s0 a0 D cA sp)  {r : Unit} {σ1 : xS} (a : Int32 × xS) (o : (Int32 × xS) ⊕ (Int32 × xS)) (h : f_Tr_look_49_7_L16  a = some o) (hK : ∀ b, o = .inl b → zW l s0 D cA sp (zQ s0 D cA sp none σ1) (x_rm 3 0 0) M_Tr_look 0 0 101 [none, none, none, none] [] b.2) (hG : ∀ a', o = .inr a' → zW l s0 D cA sp (zQ s0 D cA sp none σ1) (x_rm 3 0 0) M_Tr_look 0 0 16 [some (.ref 49), some (.ref 7), some (.int a'.1), none] [] a'.2) : zW l s0 D cA sp (zQ s0 D cA sp none σ1) (x_rm 3 0 0) M_Tr_look 0 0 16 [some (.ref 49), some (.ref 7), some (.int a.1), none] [] a.2 := by
  obtain ⟨v2, σ⟩ := a
  unfold f_Tr_look_49_7_L16 at h
  try dsimp only at h ⊢
  refine x_iload_n 17 rfl 2 dX6_look_16 rfl rfl ?_
  refine x_aload_n 18 rfl 0 dX6_look_17 rfl rfl ?_
  refine x_getI E dX6_look_18 F_RX6_28 sh_49 21 rfl ?_
  refine x_icmp_gt 24 rfl 101 dX6_look_21 (by decide) (fun hc => ?_) (fun hc => ?_)
  · replace h := x_ifT hc h
    cases h
    exact x_wk (x_le_n (x_le_n (x_le_n (x_le_n x_le_0)))) (hK (_, _) rfl)
  · replace h := x_ifF hc h
    refine x_aload_n 25 rfl 0 dX6_look_24 rfl rfl ?_
    refine x_aload_n 26 rfl 1 dX6_look_25 rfl rfl ?_
    refine x_iload_n 27 rfl 2 dX6_look_26 rfl rfl ?_
    refine x_aload_n 28 rfl 0 dX6_look_27 rfl rfl ?_
    refine x_getR E dX6_look_28 F_RX6_9 sh_49 rf_49_0 31 rfl ?_
    refine x_iconst 32 rfl (v := 1) dX6_look_31 (by decide) ?_
    refine x_iald E dX6_look_32 sh_50 1 (by decide) (by decide) 33 rfl ?_
    refine x_isub 34 rfl dX6_look_33 ?_
    refine x_aload_n 35 rfl 1 dX6_look_34 rfl rfl ?_
    refine x_iload_n 36 rfl 2 dX6_look_35 rfl rfl ?_
    refine x_aload_n 37 rfl 0 dX6_look_36 rfl rfl ?_
    refine x_getI E dX6_look_37 F_RX6_22 sh_49 40 rfl ?_
    obtain ⟨⟨q1r, q1s⟩, q1h, h⟩ := x_bind h
    try dsimp only at h
    refine z_callV E [.int _, .int _] [.int _, .ref 7, .ref 49] dX6_look_40 K_RX6_66 ⟨Nat.le_of_ble_eq_true rfl, Nat.le_of_ble_eq_true rfl⟩ sh_7 (by decide) rfl (c_Sc_faceIn_7 E _ _ q1h) rfl rfl (Nat.le_of_ble_eq_true rfl) 43 rfl [.int _, .int _, .ref 7, .ref 49] rfl ?_
    obtain ⟨⟨q2r, q2s⟩, q2h, h⟩ := x_bind h
    try dsimp only at h
    refine z_callV E [.ref 7, .int _, .int _] [] dX6_look_43 K_RX6_69 ⟨Nat.le_of_ble_eq_true rfl, Nat.le_of_ble_eq_true rfl⟩ sh_49 (by decide) rfl (c_Tr_placeIn_49_7 E _ _ q2h) rfl rfl (Nat.le_of_ble_eq_true rfl) 46 rfl [.int _] rfl ?_
    refine x_istore_n 47 rfl 3 dX6_look_46 rfl (by decide) [some (.ref 49), some (.ref 7), some (.int _), some (.int _)] rfl ?_
    refine x_aload_n 48 rfl 0 dX6_look_47 rfl rfl ?_
    refine x_getR E dX6_look_48 F_RX6_34 sh_49 rf_49_7 51 rfl ?_
    refine x_iload_n 52 rfl 2 dX6_look_51 rfl rfl ?_
    refine x_aload_n 53 rfl 0 dX6_look_52 rfl rfl ?_
    refine x_getR E dX6_look_53 F_RX6_9 sh_49 rf_49_0 56 rfl ?_
    refine x_aload_n 57 rfl 0 dX6_look_56 rfl rfl ?_
    refine x_getI E dX6_look_57 F_RX6_15 sh_49 60 rfl ?_
    refine x_iload_n 61 rfl 3 dX6_look_60 rfl rfl ?_
    refine x_bipush 63 rfl (v := 6) dX6_look_61 (by decide) ?_
    obtain ⟨⟨q4r, q4s⟩, q4h, h⟩ := x_bind h
    try dsimp only at h
    refine z_callT E [.ref 50, .int _, .int _, .int _] [.int _, .ref 52] dX6_look_63 K_RX6_73 ⟨Nat.le_of_ble_eq_true rfl, Nat.le_of_ble_eq_true rfl⟩ (c_RH_isNearMark_50 E _ _ _ q4h) rfl rfl (Nat.le_of_ble_eq_true rfl) 66 rfl [.int _, .int _, .ref 52] rfl ?_
    obtain ⟨hb, h⟩ := x_ift h
    obtain ⟨hz, h⟩ := x_ifn h
    refine x_zast E hb dX6_look_66 sh_52 _ rfl hz 67 rfl ?_
    refine x_aload_n 68 rfl 0 dX6_look_67 rfl rfl ?_
    refine x_getR E dX6_look_68 F_RX6_31 sh_49 rf_49_6 71 rfl ?_
    refine x_iload_n 72 rfl 2 dX6_look_71 rfl rfl ?_
    refine x_aload_n 73 rfl 1 dX6_look_72 rfl rfl ?_
    refine x_aload_n 74 rfl 0 dX6_look_73 rfl rfl ?_
    refine x_getR E dX6_look_74 F_RX6_34 sh_49 rf_49_7 77 rfl ?_
    refine x_iload_n 78 rfl 2 dX6_look_77 rfl rfl ?_
    obtain ⟨hz, h⟩ := x_ifn h
    refine x_zald E dX6_look_78 sh_52 _ rfl hz 79 rfl ?_
    refine x_if_eq 82 rfl 86 dX6_look_79 (by decide) (fun hc => ?_) (fun hc => ?_)
    · replace h := x_ifT hc h
      refine x_aload_n 87 rfl 0 dX6_look_86 rfl rfl ?_
      refine x_iload_n 88 rfl 3 dX6_look_87 rfl rfl ?_
      obtain ⟨⟨q6r, q6s⟩, q6h, h⟩ := x_bind h
      try dsimp only at h
      refine z_callV E [.int _] [.ref 7, .int _, .ref 51] dX6_look_88 K_RX6_77 ⟨Nat.le_of_ble_eq_true rfl, Nat.le_of_ble_eq_true rfl⟩ sh_49 (by decide) rfl (c_Tr_judged_49 E _ q6h) rfl rfl (Nat.le_of_ble_eq_true rfl) 91 rfl [.int _, .ref 7, .int _, .ref 51] rfl ?_
      obtain ⟨⟨q7r, q7s⟩, q7h, h⟩ := x_bind h
      try dsimp only at h
      refine z_callV E [.int _] [.int _, .ref 51] dX6_look_91 K_RX6_81 ⟨Nat.le_of_ble_eq_true rfl, Nat.le_of_ble_eq_true rfl⟩ sh_7 (by decide) rfl (c_Sc_turnOf_7 E _ q7h) rfl rfl (Nat.le_of_ble_eq_true rfl) 94 rfl [.int _, .int _, .ref 51] rfl ?_
      obtain ⟨hz, h⟩ := x_ifn h
      refine x_iast E dX6_look_94 sh_51 _ rfl hz 95 rfl ?_
      refine x_iinc 98 rfl (1) dX6_look_95 rfl (by decide) (by decide) [some (.ref 49), some (.ref 7), some (.int _), some (.int _)] rfl ?_
      refine x_goto 16 dX6_look_98 (by decide) ?_
      cases h
      exact x_wk (x_le_s (x_le_s (x_le_s (x_le_n x_le_0)))) (hG (_, _) rfl)
    · replace h := x_ifF hc h
      refine x_iload_n 83 rfl 3 dX6_look_82 rfl rfl ?_
      refine x_goto 91 dX6_look_83 (by decide) ?_
      obtain ⟨⟨q10r, q10s⟩, q10h, h⟩ := x_bind h
      try dsimp only at h
      refine z_callV E [.int _] [.int _, .ref 51] dX6_look_91 K_RX6_81 ⟨Nat.le_of_ble_eq_true rfl, Nat.le_of_ble_eq_true rfl⟩ sh_7 (by decide) rfl (c_Sc_turnOf_7 E _ q10h) rfl rfl (Nat.le_of_ble_eq_true rfl) 94 rfl [.int _, .int _, .ref 51] rfl ?_
      obtain ⟨hz, h⟩ := x_ifn h
      refine x_iast E dX6_look_94 sh_51 _ rfl hz 95 rfl ?_
      refine x_iinc 98 rfl (1) dX6_look_95 rfl (by decide) (by decide) [some (.ref 49), some (.ref 7), some (.int _), some (.int _)] rfl ?_
      refine x_goto 16 dX6_look_98 (by decide) ?_
      cases h
      exact x_wk (x_le_s (x_le_s (x_le_s (x_le_n x_le_0)))) (hG (_, _) rfl)
set_option maxHeartbeats 4000000 in
set_option maxRecDepth 100000 in
theorem c_Tr_look_49_7 {l : Launch} {s0 : State} {a0 : Array Value} {D : va_G} {cA : Nat → ClassId} {sp : Nat → Nat} (E : x_En CL l s0 a0 D cA sp)  {σ : xS} {r : Unit} {σ1 : xS} (h : f_Tr_look_49_7  σ = some (r, σ1)) : zC l s0 D cA sp 3 M_Tr_look [.ref 49, .ref 7] σ none σ1 := by
  unfold f_Tr_look_49_7 at h
  try dsimp only at h
  refine x_enter [some (.ref 49), some (.ref 7), none, none] rfl (Nat.le_of_ble_eq_true rfl) (by decide +kernel) rfl ?_
  refine x_aload_n 1 rfl 0 dX6_look_0 rfl rfl ?_
  refine x_aload_n 2 rfl 1 dX6_look_1 rfl rfl ?_
  refine x_getI E dX6_look_2 F_RX6_63 sh_7 5 rfl ?_
  refine x_sipush 8 rfl (v := 600) dX6_look_5 (by decide) ?_
  refine x_mmin E dX6_look_8 K_RX6_44 (Nat.le_of_ble_eq_true rfl) (Nat.le_of_ble_eq_true rfl) 11 rfl ?_
  refine x_putI E dX6_look_11 F_RX6_28 sh_49 14 rfl ?_
  refine x_iconst 15 rfl (v := 0) dX6_look_14 (by decide) ?_
  refine x_istore_n 16 rfl 2 dX6_look_15 rfl (by decide) [some (.ref 49), some (.ref 7), some (.int _), none] rfl ?_
  obtain ⟨b14, b14h, h⟩ := x_bind h
  try dsimp only at h
  refine x_wk (x_le_s (x_le_s (x_le_s (x_le_n x_le_0)))) (x_loop (fun a o h hK hG => b_Tr_look_49_7_L16 (r := r) (σ1 := σ1) E  a o h hK hG) _ _ _ b14h ?_)
  cases h
  exact x_vret dX6_look_101 rfl rfl rfl
abbrev M_Ru_valueBy : xM := (yX3_valueBy, cX3_valueBy, 3, some .int, [])
theorem dX3_valueBy_0 : decode cX3_valueBy 0 = .ok (.bipush (-10), 2) := by decide +kernel
theorem dX3_valueBy_2 : decode cX3_valueBy 2 = .ok (.iload_n 1, 1) := by decide +kernel
theorem dX3_valueBy_3 : decode cX3_valueBy 3 = .ok (.isub, 1) := by decide +kernel
theorem dX3_valueBy_4 : decode cX3_valueBy 4 = .ok (.istore_n 2, 1) := by decide +kernel
theorem dX3_valueBy_5 : decode cX3_valueBy 5 = .ok (.iload_n 2, 1) := by decide +kernel
theorem dX3_valueBy_6 : decode cX3_valueBy 6 = .ok (.ifCond .lt 18, 3) := by decide +kernel
theorem dX3_valueBy_9 : decode cX3_valueBy 9 = .ok (.iload_n 2, 1) := by decide +kernel
theorem dX3_valueBy_10 : decode cX3_valueBy 10 = .ok (.bipush 8, 2) := by decide +kernel
theorem dX3_valueBy_12 : decode cX3_valueBy 12 = .ok (.if_icmp .ge 12, 3) := by decide +kernel
theorem dX3_valueBy_15 : decode cX3_valueBy 15 = .ok (.aload_n 0, 1) := by decide +kernel
theorem dX3_valueBy_16 : decode cX3_valueBy 16 = .ok (.getfield 28, 3) := by decide +kernel
theorem dX3_valueBy_19 : decode cX3_valueBy 19 = .ok (.iload_n 2, 1) := by decide +kernel
theorem dX3_valueBy_20 : decode cX3_valueBy 20 = .ok (.iaload, 1) := by decide +kernel
theorem dX3_valueBy_21 : decode cX3_valueBy 21 = .ok (.goto 4, 3) := by decide +kernel
theorem dX3_valueBy_24 : decode cX3_valueBy 24 = .ok (.iconst 0, 1) := by decide +kernel
theorem dX3_valueBy_25 : decode cX3_valueBy 25 = .ok (.ireturn, 1) := by decide +kernel
def f_Ru_valueBy_13 (v1 : Int32) (σ : xS) : Option (Int32 × xS) :=
  let w1 := ((-10 : Int32) - v1)
  if w1 < 0 then
    some ((0 : Int32), σ)
  else
    if (8 : Int32) ≤ w1 then
      some ((0 : Int32), σ)
    else
      if w1 < 0 ∨ 8 ≤ w1.toNatClampNeg then none else
      some (σ.1 18 w1.toNatClampNeg, σ)
set_option maxHeartbeats 4000000 in
set_option maxRecDepth 100000 in
theorem c_Ru_valueBy_13 {l : Launch} {s0 : State} {a0 : Array Value} {D : va_G} {cA : Nat → ClassId} {sp : Nat → Nat} (E : x_En CL l s0 a0 D cA sp) (v1 : Int32) {σ : xS} {r : Int32} {σ1 : xS} (h : f_Ru_valueBy_13 v1 σ = some (r, σ1)) : zC l s0 D cA sp 0 M_Ru_valueBy [.ref 13, .int v1] σ (some (.int r)) σ1 := by
  unfold f_Ru_valueBy_13 at h
  try dsimp only at h
  refine x_enter [some (.ref 13), some (.int v1), none] rfl (Nat.le_of_ble_eq_true rfl) (by decide +kernel) rfl ?_
  refine x_bipush 2 rfl (v := -10) dX3_valueBy_0 (by decide) ?_
  refine x_iload_n 3 rfl 1 dX3_valueBy_2 rfl rfl ?_
  refine x_isub 4 rfl dX3_valueBy_3 ?_
  refine x_istore_n 5 rfl 2 dX3_valueBy_4 rfl (by decide) [some (.ref 13), some (.int _), some (.int _)] rfl ?_
  refine x_iload_n 6 rfl 2 dX3_valueBy_5 rfl rfl ?_
  refine x_if_lt 9 rfl 24 dX3_valueBy_6 (by decide) (fun hc => ?_) (fun hc => ?_)
  · replace h := x_ifT hc h
    refine x_iconst 25 rfl (v := 0) dX3_valueBy_24 (by decide) ?_
    cases h
    exact x_iret dX3_valueBy_25 rfl rfl rfl
  · replace h := x_ifF hc h
    refine x_iload_n 10 rfl 2 dX3_valueBy_9 rfl rfl ?_
    refine x_bipush 12 rfl (v := 8) dX3_valueBy_10 (by decide) ?_
    refine x_icmp_ge 15 rfl 24 dX3_valueBy_12 (by decide) (fun hc => ?_) (fun hc => ?_)
    · replace h := x_ifT hc h
      refine x_iconst 25 rfl (v := 0) dX3_valueBy_24 (by decide) ?_
      cases h
      exact x_iret dX3_valueBy_25 rfl rfl rfl
    · replace h := x_ifF hc h
      refine x_aload_n 16 rfl 0 dX3_valueBy_15 rfl rfl ?_
      refine x_getR E dX3_valueBy_16 F_RX3_28 sh_13 rf_13_5 19 rfl ?_
      refine x_iload_n 20 rfl 2 dX3_valueBy_19 rfl rfl ?_
      obtain ⟨hz, h⟩ := x_ifn h
      refine x_iald E dX3_valueBy_20 sh_18 _ rfl hz 21 rfl ?_
      refine x_goto 25 dX3_valueBy_21 (by decide) ?_
      cases h
      exact x_iret dX3_valueBy_25 rfl rfl rfl
abbrev M_Ru_join : xM := (yX3_join, cX3_join, 3, some .int, [])
theorem dX3_join_0 : decode cX3_join 0 = .ok (.iload_n 0, 1) := by decide +kernel
theorem dX3_join_1 : decode cX3_join 1 = .ok (.tableswitch 107 (-8) (-1) #[93, 107, 82, 71, 59, 55, 51, 47], 47) := by decide +kernel
theorem dX3_join_48 : decode cX3_join 48 = .ok (.iload_n 1, 1) := by decide +kernel
theorem dX3_join_49 : decode cX3_join 49 = .ok (.iload_n 2, 1) := by decide +kernel
theorem dX3_join_50 : decode cX3_join 50 = .ok (.iadd, 1) := by decide +kernel
theorem dX3_join_51 : decode cX3_join 51 = .ok (.ireturn, 1) := by decide +kernel
theorem dX3_join_52 : decode cX3_join 52 = .ok (.iload_n 1, 1) := by decide +kernel
theorem dX3_join_53 : decode cX3_join 53 = .ok (.iload_n 2, 1) := by decide +kernel
theorem dX3_join_54 : decode cX3_join 54 = .ok (.isub, 1) := by decide +kernel
theorem dX3_join_55 : decode cX3_join 55 = .ok (.ireturn, 1) := by decide +kernel
theorem dX3_join_56 : decode cX3_join 56 = .ok (.iload_n 1, 1) := by decide +kernel
theorem dX3_join_57 : decode cX3_join 57 = .ok (.iload_n 2, 1) := by decide +kernel
theorem dX3_join_58 : decode cX3_join 58 = .ok (.imul, 1) := by decide +kernel
theorem dX3_join_59 : decode cX3_join 59 = .ok (.ireturn, 1) := by decide +kernel
theorem dX3_join_60 : decode cX3_join 60 = .ok (.iload_n 2, 1) := by decide +kernel
theorem dX3_join_61 : decode cX3_join 61 = .ok (.ifCond .ne 7, 3) := by decide +kernel
theorem dX3_join_64 : decode cX3_join 64 = .ok (.iconst 0, 1) := by decide +kernel
theorem dX3_join_65 : decode cX3_join 65 = .ok (.goto 6, 3) := by decide +kernel
theorem dX3_join_68 : decode cX3_join 68 = .ok (.iload_n 1, 1) := by decide +kernel
theorem dX3_join_69 : decode cX3_join 69 = .ok (.iload_n 2, 1) := by decide +kernel
theorem dX3_join_70 : decode cX3_join 70 = .ok (.idiv, 1) := by decide +kernel
theorem dX3_join_71 : decode cX3_join 71 = .ok (.ireturn, 1) := by decide +kernel
theorem dX3_join_72 : decode cX3_join 72 = .ok (.iload_n 1, 1) := by decide +kernel
theorem dX3_join_73 : decode cX3_join 73 = .ok (.iload_n 2, 1) := by decide +kernel
theorem dX3_join_74 : decode cX3_join 74 = .ok (.if_icmp .ge 7, 3) := by decide +kernel
theorem dX3_join_77 : decode cX3_join 77 = .ok (.iconst 1, 1) := by decide +kernel
theorem dX3_join_78 : decode cX3_join 78 = .ok (.goto 4, 3) := by decide +kernel
theorem dX3_join_81 : decode cX3_join 81 = .ok (.iconst 0, 1) := by decide +kernel
theorem dX3_join_82 : decode cX3_join 82 = .ok (.ireturn, 1) := by decide +kernel
theorem dX3_join_83 : decode cX3_join 83 = .ok (.iload_n 1, 1) := by decide +kernel
theorem dX3_join_84 : decode cX3_join 84 = .ok (.iload_n 2, 1) := by decide +kernel
theorem dX3_join_85 : decode cX3_join 85 = .ok (.if_icmp .ne 7, 3) := by decide +kernel
theorem dX3_join_88 : decode cX3_join 88 = .ok (.iconst 1, 1) := by decide +kernel
theorem dX3_join_89 : decode cX3_join 89 = .ok (.goto 4, 3) := by decide +kernel
theorem dX3_join_92 : decode cX3_join 92 = .ok (.iconst 0, 1) := by decide +kernel
theorem dX3_join_93 : decode cX3_join 93 = .ok (.ireturn, 1) := by decide +kernel
theorem dX3_join_94 : decode cX3_join 94 = .ok (.iload_n 1, 1) := by decide +kernel
theorem dX3_join_95 : decode cX3_join 95 = .ok (.ifCond .eq 11, 3) := by decide +kernel
theorem dX3_join_98 : decode cX3_join 98 = .ok (.iload_n 2, 1) := by decide +kernel
theorem dX3_join_99 : decode cX3_join 99 = .ok (.ifCond .eq 7, 3) := by decide +kernel
theorem dX3_join_102 : decode cX3_join 102 = .ok (.iconst 1, 1) := by decide +kernel
theorem dX3_join_103 : decode cX3_join 103 = .ok (.goto 4, 3) := by decide +kernel
theorem dX3_join_106 : decode cX3_join 106 = .ok (.iconst 0, 1) := by decide +kernel
theorem dX3_join_107 : decode cX3_join 107 = .ok (.ireturn, 1) := by decide +kernel
theorem dX3_join_108 : decode cX3_join 108 = .ok (.iload_n 1, 1) := by decide +kernel
theorem dX3_join_109 : decode cX3_join 109 = .ok (.ifCond .ne 7, 3) := by decide +kernel
theorem dX3_join_112 : decode cX3_join 112 = .ok (.iload_n 2, 1) := by decide +kernel
theorem dX3_join_113 : decode cX3_join 113 = .ok (.ifCond .eq 7, 3) := by decide +kernel
theorem dX3_join_116 : decode cX3_join 116 = .ok (.iconst 1, 1) := by decide +kernel
theorem dX3_join_117 : decode cX3_join 117 = .ok (.goto 4, 3) := by decide +kernel
theorem dX3_join_120 : decode cX3_join 120 = .ok (.iconst 0, 1) := by decide +kernel
theorem dX3_join_121 : decode cX3_join 121 = .ok (.ireturn, 1) := by decide +kernel
def f_Ru_join (v0 : Int32) (v1 : Int32) (v2 : Int32) (σ : xS) : Option (Int32 × xS) :=
  if v0 = (-8 : Int32) then
    if v1 = 0 then
      some ((0 : Int32), σ)
    else
      if v2 = 0 then
        some ((0 : Int32), σ)
      else
        some ((1 : Int32), σ)
  else if v0 = (-7 : Int32) then
    if v1 = 0 then
      if v2 = 0 then
        some ((0 : Int32), σ)
      else
        some ((1 : Int32), σ)
    else
      some ((1 : Int32), σ)
  else if v0 = (-6 : Int32) then
    if v1 = v2 then
      some ((1 : Int32), σ)
    else
      some ((0 : Int32), σ)
  else if v0 = (-5 : Int32) then
    if v2 ≤ v1 then
      some ((0 : Int32), σ)
    else
      some ((1 : Int32), σ)
  else if v0 = (-4 : Int32) then
    if v2 = 0 then
      some ((0 : Int32), σ)
    else
      if v2 = 0 then none else
      some ((v1 / v2), σ)
  else if v0 = (-3 : Int32) then
    some ((v1 * v2), σ)
  else if v0 = (-2 : Int32) then
    some ((v1 - v2), σ)
  else if v0 = (-1 : Int32) then
    some ((v1 + v2), σ)
  else 
    if v1 = 0 then
      if v2 = 0 then
        some ((0 : Int32), σ)
      else
        some ((1 : Int32), σ)
    else
      some ((1 : Int32), σ)
set_option maxHeartbeats 4000000 in
set_option maxRecDepth 100000 in
theorem c_Ru_join {l : Launch} {s0 : State} {a0 : Array Value} {D : va_G} {cA : Nat → ClassId} {sp : Nat → Nat} (E : x_En CL l s0 a0 D cA sp) (v0 : Int32) (v1 : Int32) (v2 : Int32) {σ : xS} {r : Int32} {σ1 : xS} (h : f_Ru_join v0 v1 v2 σ = some (r, σ1)) : zC l s0 D cA sp 0 M_Ru_join [.int v0, .int v1, .int v2] σ (some (.int r)) σ1 := by
  unfold f_Ru_join at h
  try dsimp only at h
  refine x_enter [some (.int v0), some (.int v1), some (.int v2)] rfl (Nat.le_of_ble_eq_true rfl) (by decide +kernel) rfl ?_
  refine x_iload_n 1 rfl 0 dX3_join_0 rfl rfl ?_
  refine x_case (-8) (fun hc0 => ?_) (fun hc0 => ?_)
  · replace h := x_ifT hc0 h
    refine x_tabIn (off := 93) 94 dX3_join_1 (by rw [hc0]; decide) (by rw [hc0]; decide) (by rw [hc0]; rfl) (by decide) ?_
    refine x_iload_n 95 rfl 1 dX3_join_94 rfl rfl ?_
    refine x_if_eq 98 rfl 106 dX3_join_95 (by decide) (fun hc => ?_) (fun hc => ?_)
    · replace h := x_ifT hc h
      refine x_iconst 107 rfl (v := 0) dX3_join_106 (by decide) ?_
      cases h
      exact x_iret dX3_join_107 rfl rfl rfl
    · replace h := x_ifF hc h
      refine x_iload_n 99 rfl 2 dX3_join_98 rfl rfl ?_
      refine x_if_eq 102 rfl 106 dX3_join_99 (by decide) (fun hc => ?_) (fun hc => ?_)
      · replace h := x_ifT hc h
        refine x_iconst 107 rfl (v := 0) dX3_join_106 (by decide) ?_
        cases h
        exact x_iret dX3_join_107 rfl rfl rfl
      · replace h := x_ifF hc h
        refine x_iconst 103 rfl (v := 1) dX3_join_102 (by decide) ?_
        refine x_goto 107 dX3_join_103 (by decide) ?_
        cases h
        exact x_iret dX3_join_107 rfl rfl rfl
  replace h := x_ifF hc0 h
  refine x_case (-7) (fun hc1 => ?_) (fun hc1 => ?_)
  · replace h := x_ifT hc1 h
    refine x_tabIn (off := 107) 108 dX3_join_1 (by rw [hc1]; decide) (by rw [hc1]; decide) (by rw [hc1]; rfl) (by decide) ?_
    refine x_iload_n 109 rfl 1 dX3_join_108 rfl rfl ?_
    refine x_if_ne 112 rfl 116 dX3_join_109 (by decide) (fun hc => ?_) (fun hc => ?_)
    · replace h := x_ifF hc h
      refine x_iconst 117 rfl (v := 1) dX3_join_116 (by decide) ?_
      refine x_goto 121 dX3_join_117 (by decide) ?_
      cases h
      exact x_iret dX3_join_121 rfl rfl rfl
    · replace h := x_ifT hc h
      refine x_iload_n 113 rfl 2 dX3_join_112 rfl rfl ?_
      refine x_if_eq 116 rfl 120 dX3_join_113 (by decide) (fun hc => ?_) (fun hc => ?_)
      · replace h := x_ifT hc h
        refine x_iconst 121 rfl (v := 0) dX3_join_120 (by decide) ?_
        cases h
        exact x_iret dX3_join_121 rfl rfl rfl
      · replace h := x_ifF hc h
        refine x_iconst 117 rfl (v := 1) dX3_join_116 (by decide) ?_
        refine x_goto 121 dX3_join_117 (by decide) ?_
        cases h
        exact x_iret dX3_join_121 rfl rfl rfl
  replace h := x_ifF hc1 h
  refine x_case (-6) (fun hc2 => ?_) (fun hc2 => ?_)
  · replace h := x_ifT hc2 h
    refine x_tabIn (off := 82) 83 dX3_join_1 (by rw [hc2]; decide) (by rw [hc2]; decide) (by rw [hc2]; rfl) (by decide) ?_
    refine x_iload_n 84 rfl 1 dX3_join_83 rfl rfl ?_
    refine x_iload_n 85 rfl 2 dX3_join_84 rfl rfl ?_
    refine x_icmp_ne 88 rfl 92 dX3_join_85 (by decide) (fun hc => ?_) (fun hc => ?_)
    · replace h := x_ifF hc h
      refine x_iconst 93 rfl (v := 0) dX3_join_92 (by decide) ?_
      cases h
      exact x_iret dX3_join_93 rfl rfl rfl
    · replace h := x_ifT hc h
      refine x_iconst 89 rfl (v := 1) dX3_join_88 (by decide) ?_
      refine x_goto 93 dX3_join_89 (by decide) ?_
      cases h
      exact x_iret dX3_join_93 rfl rfl rfl
  replace h := x_ifF hc2 h
  refine x_case (-5) (fun hc3 => ?_) (fun hc3 => ?_)
  · replace h := x_ifT hc3 h
    refine x_tabIn (off := 71) 72 dX3_join_1 (by rw [hc3]; decide) (by rw [hc3]; decide) (by rw [hc3]; rfl) (by decide) ?_
    refine x_iload_n 73 rfl 1 dX3_join_72 rfl rfl ?_
    refine x_iload_n 74 rfl 2 dX3_join_73 rfl rfl ?_
    refine x_icmp_ge 77 rfl 81 dX3_join_74 (by decide) (fun hc => ?_) (fun hc => ?_)
    · replace h := x_ifT hc h
      refine x_iconst 82 rfl (v := 0) dX3_join_81 (by decide) ?_
      cases h
      exact x_iret dX3_join_82 rfl rfl rfl
    · replace h := x_ifF hc h
      refine x_iconst 78 rfl (v := 1) dX3_join_77 (by decide) ?_
      refine x_goto 82 dX3_join_78 (by decide) ?_
      cases h
      exact x_iret dX3_join_82 rfl rfl rfl
  replace h := x_ifF hc3 h
  refine x_case (-4) (fun hc4 => ?_) (fun hc4 => ?_)
  · replace h := x_ifT hc4 h
    refine x_tabIn (off := 59) 60 dX3_join_1 (by rw [hc4]; decide) (by rw [hc4]; decide) (by rw [hc4]; rfl) (by decide) ?_
    refine x_iload_n 61 rfl 2 dX3_join_60 rfl rfl ?_
    refine x_if_ne 64 rfl 68 dX3_join_61 (by decide) (fun hc => ?_) (fun hc => ?_)
    · replace h := x_ifF hc h
      refine x_iload_n 69 rfl 1 dX3_join_68 rfl rfl ?_
      refine x_iload_n 70 rfl 2 dX3_join_69 rfl rfl ?_
      obtain ⟨hz, h⟩ := x_ifn h
      refine x_idiv 71 rfl dX3_join_70 hz ?_
      cases h
      exact x_iret dX3_join_71 rfl rfl rfl
    · replace h := x_ifT hc h
      refine x_iconst 65 rfl (v := 0) dX3_join_64 (by decide) ?_
      refine x_goto 71 dX3_join_65 (by decide) ?_
      cases h
      exact x_iret dX3_join_71 rfl rfl rfl
  replace h := x_ifF hc4 h
  refine x_case (-3) (fun hc5 => ?_) (fun hc5 => ?_)
  · replace h := x_ifT hc5 h
    refine x_tabIn (off := 55) 56 dX3_join_1 (by rw [hc5]; decide) (by rw [hc5]; decide) (by rw [hc5]; rfl) (by decide) ?_
    refine x_iload_n 57 rfl 1 dX3_join_56 rfl rfl ?_
    refine x_iload_n 58 rfl 2 dX3_join_57 rfl rfl ?_
    refine x_imul 59 rfl dX3_join_58 ?_
    cases h
    exact x_iret dX3_join_59 rfl rfl rfl
  replace h := x_ifF hc5 h
  refine x_case (-2) (fun hc6 => ?_) (fun hc6 => ?_)
  · replace h := x_ifT hc6 h
    refine x_tabIn (off := 51) 52 dX3_join_1 (by rw [hc6]; decide) (by rw [hc6]; decide) (by rw [hc6]; rfl) (by decide) ?_
    refine x_iload_n 53 rfl 1 dX3_join_52 rfl rfl ?_
    refine x_iload_n 54 rfl 2 dX3_join_53 rfl rfl ?_
    refine x_isub 55 rfl dX3_join_54 ?_
    cases h
    exact x_iret dX3_join_55 rfl rfl rfl
  replace h := x_ifF hc6 h
  refine x_case (-1) (fun hc7 => ?_) (fun hc7 => ?_)
  · replace h := x_ifT hc7 h
    refine x_tabIn (off := 47) 48 dX3_join_1 (by rw [hc7]; decide) (by rw [hc7]; decide) (by rw [hc7]; rfl) (by decide) ?_
    refine x_iload_n 49 rfl 1 dX3_join_48 rfl rfl ?_
    refine x_iload_n 50 rfl 2 dX3_join_49 rfl rfl ?_
    refine x_iadd 51 rfl dX3_join_50 ?_
    cases h
    exact x_iret dX3_join_51 rfl rfl rfl
  replace h := x_ifF hc7 h
  refine x_tabOut 108 dX3_join_1 (by have g0 := x_toNe hc0 (k := -8) (by decide); have g1 := x_toNe hc1 (k := -7) (by decide); have g2 := x_toNe hc2 (k := -6) (by decide); have g3 := x_toNe hc3 (k := -5) (by decide); have g4 := x_toNe hc4 (k := -4) (by decide); have g5 := x_toNe hc5 (k := -3) (by decide); have g6 := x_toNe hc6 (k := -2) (by decide); have g7 := x_toNe hc7 (k := -1) (by decide); omega) (by decide) ?_
  refine x_iload_n 109 rfl 1 dX3_join_108 rfl rfl ?_
  refine x_if_ne 112 rfl 116 dX3_join_109 (by decide) (fun hc => ?_) (fun hc => ?_)
  · replace h := x_ifF hc h
    refine x_iconst 117 rfl (v := 1) dX3_join_116 (by decide) ?_
    refine x_goto 121 dX3_join_117 (by decide) ?_
    cases h
    exact x_iret dX3_join_121 rfl rfl rfl
  · replace h := x_ifT hc h
    refine x_iload_n 113 rfl 2 dX3_join_112 rfl rfl ?_
    refine x_if_eq 116 rfl 120 dX3_join_113 (by decide) (fun hc => ?_) (fun hc => ?_)
    · replace h := x_ifT hc h
      refine x_iconst 121 rfl (v := 0) dX3_join_120 (by decide) ?_
      cases h
      exact x_iret dX3_join_121 rfl rfl rfl
    · replace h := x_ifF hc h
      refine x_iconst 117 rfl (v := 1) dX3_join_116 (by decide) ?_
      refine x_goto 121 dX3_join_117 (by decide) ?_
      cases h
      exact x_iret dX3_join_121 rfl rfl rfl
abbrev M_Ru_has : xM := (yX3_has, cX3_has, 2, some .boolean, [])
theorem dX3_has_0 : decode cX3_has 0 = .ok (.iload_n 1, 1) := by decide +kernel
theorem dX3_has_1 : decode cX3_has 1 = .ok (.ifCond .lt 28, 3) := by decide +kernel
theorem dX3_has_4 : decode cX3_has 4 = .ok (.iload_n 1, 1) := by decide +kernel
theorem dX3_has_5 : decode cX3_has 5 = .ok (.bipush 6, 2) := by decide +kernel
theorem dX3_has_7 : decode cX3_has 7 = .ok (.if_icmp .ge 22, 3) := by decide +kernel
theorem dX3_has_10 : decode cX3_has 10 = .ok (.aload_n 0, 1) := by decide +kernel
theorem dX3_has_11 : decode cX3_has 11 = .ok (.getfield 22, 3) := by decide +kernel
theorem dX3_has_14 : decode cX3_has 14 = .ok (.iload_n 1, 1) := by decide +kernel
theorem dX3_has_15 : decode cX3_has 15 = .ok (.iaload, 1) := by decide +kernel
theorem dX3_has_16 : decode cX3_has 16 = .ok (.aload_n 0, 1) := by decide +kernel
theorem dX3_has_17 : decode cX3_has 17 = .ok (.getfield 19, 3) := by decide +kernel
theorem dX3_has_20 : decode cX3_has 20 = .ok (.iload_n 1, 1) := by decide +kernel
theorem dX3_has_21 : decode cX3_has 21 = .ok (.iaload, 1) := by decide +kernel
theorem dX3_has_22 : decode cX3_has 22 = .ok (.if_icmp .le 7, 3) := by decide +kernel
theorem dX3_has_25 : decode cX3_has 25 = .ok (.iconst 1, 1) := by decide +kernel
theorem dX3_has_26 : decode cX3_has 26 = .ok (.goto 4, 3) := by decide +kernel
theorem dX3_has_29 : decode cX3_has 29 = .ok (.iconst 0, 1) := by decide +kernel
theorem dX3_has_30 : decode cX3_has 30 = .ok (.ireturn, 1) := by decide +kernel
def f_Ru_has_13 (v1 : Int32) (σ : xS) : Option (Int32 × xS) :=
  if v1 < 0 then
    some ((0 : Int32), σ)
  else
    if (6 : Int32) ≤ v1 then
      some ((0 : Int32), σ)
    else
      if v1 < 0 ∨ 6 ≤ v1.toNatClampNeg then none else
      if v1 < 0 ∨ 6 ≤ v1.toNatClampNeg then none else
      if σ.1 16 v1.toNatClampNeg ≤ σ.1 15 v1.toNatClampNeg then
        some ((0 : Int32), σ)
      else
        some ((1 : Int32), σ)
set_option maxHeartbeats 4000000 in
set_option maxRecDepth 100000 in
theorem c_Ru_has_13 {l : Launch} {s0 : State} {a0 : Array Value} {D : va_G} {cA : Nat → ClassId} {sp : Nat → Nat} (E : x_En CL l s0 a0 D cA sp) (v1 : Int32) {σ : xS} {r : Int32} {σ1 : xS} (h : f_Ru_has_13 v1 σ = some (r, σ1)) : zC l s0 D cA sp 0 M_Ru_has [.ref 13, .int v1] σ (some (.int r)) σ1 := by
  unfold f_Ru_has_13 at h
  try dsimp only at h
  refine x_enter [some (.ref 13), some (.int v1)] rfl (Nat.le_of_ble_eq_true rfl) (by decide +kernel) rfl ?_
  refine x_iload_n 1 rfl 1 dX3_has_0 rfl rfl ?_
  refine x_if_lt 4 rfl 29 dX3_has_1 (by decide) (fun hc => ?_) (fun hc => ?_)
  · replace h := x_ifT hc h
    refine x_iconst 30 rfl (v := 0) dX3_has_29 (by decide) ?_
    cases h
    exact x_zret (Or.inl rfl) dX3_has_30 rfl rfl rfl
  · replace h := x_ifF hc h
    refine x_iload_n 5 rfl 1 dX3_has_4 rfl rfl ?_
    refine x_bipush 7 rfl (v := 6) dX3_has_5 (by decide) ?_
    refine x_icmp_ge 10 rfl 29 dX3_has_7 (by decide) (fun hc => ?_) (fun hc => ?_)
    · replace h := x_ifT hc h
      refine x_iconst 30 rfl (v := 0) dX3_has_29 (by decide) ?_
      cases h
      exact x_zret (Or.inl rfl) dX3_has_30 rfl rfl rfl
    · replace h := x_ifF hc h
      refine x_aload_n 11 rfl 0 dX3_has_10 rfl rfl ?_
      refine x_getR E dX3_has_11 F_RX3_22 sh_13 rf_13_3 14 rfl ?_
      refine x_iload_n 15 rfl 1 dX3_has_14 rfl rfl ?_
      obtain ⟨hz, h⟩ := x_ifn h
      refine x_iald E dX3_has_15 sh_16 _ rfl hz 16 rfl ?_
      refine x_aload_n 17 rfl 0 dX3_has_16 rfl rfl ?_
      refine x_getR E dX3_has_17 F_RX3_19 sh_13 rf_13_2 20 rfl ?_
      refine x_iload_n 21 rfl 1 dX3_has_20 rfl rfl ?_
      obtain ⟨hz, h⟩ := x_ifn h
      refine x_iald E dX3_has_21 sh_15 _ rfl hz 22 rfl ?_
      refine x_icmp_le 25 rfl 29 dX3_has_22 (by decide) (fun hc => ?_) (fun hc => ?_)
      · replace h := x_ifT hc h
        refine x_iconst 30 rfl (v := 0) dX3_has_29 (by decide) ?_
        cases h
        exact x_zret (Or.inl rfl) dX3_has_30 rfl rfl rfl
      · replace h := x_ifF hc h
        refine x_iconst 26 rfl (v := 1) dX3_has_25 (by decide) ?_
        refine x_goto 30 dX3_has_26 (by decide) ?_
        cases h
        exact x_zret (Or.inr rfl) dX3_has_30 rfl rfl rfl
theorem K_RX3_31 : x_KV RX3 31 M_Ru_has 1 := ⟨⟨(List.mem_append_right _ (List.mem_of_getElem? (i := 293) (by decide +kernel))), (List.mem_append_right _ (List.mem_of_getElem? (i := 288) (by decide +kernel))), (List.mem_append_right _ (List.mem_of_getElem? (i := 4) (by decide +kernel))), ⟨by decide +kernel, by decide +kernel⟩, by decide +kernel⟩, (List.mem_append_right _ (List.mem_of_getElem? (i := 286) (by decide +kernel))), (List.mem_append_right _ (List.mem_of_getElem? (i := 287) (by decide +kernel)))⟩
theorem K_RX3_35 : x_KV RX3 35 M_Ru_valueBy 1 := ⟨⟨(List.mem_append_right _ (List.mem_of_getElem? (i := 294) (by decide +kernel))), (List.mem_append_right _ (List.mem_of_getElem? (i := 297) (by decide +kernel))), (List.mem_append_right _ (List.mem_of_getElem? (i := 4) (by decide +kernel))), ⟨by decide +kernel, by decide +kernel⟩, by decide +kernel⟩, (List.mem_append_right _ (List.mem_of_getElem? (i := 296) (by decide +kernel))), (List.mem_append_left _ (List.mem_of_getElem? (i := 1) (by decide +kernel)))⟩
theorem K_RX3_39 : x_KS RX3 39 M_Ru_join 3 := ⟨⟨(List.mem_append_right _ (List.mem_of_getElem? (i := 298) (by decide +kernel))), (List.mem_append_right _ (List.mem_of_getElem? (i := 300) (by decide +kernel))), (List.mem_append_right _ (List.mem_of_getElem? (i := 4) (by decide +kernel))), ⟨by decide +kernel, by decide +kernel⟩, by decide +kernel⟩, (List.mem_append_right _ (List.mem_of_getElem? (i := 299) (by decide +kernel)))⟩
abbrev M_Ru_worth : xM := (yX3_worth, cX3_worth, 5, some .int, [])
theorem dX3_worth_0 : decode cX3_worth 0 = .ok (.aload_n 0, 1) := by decide +kernel
theorem dX3_worth_1 : decode cX3_worth 1 = .ok (.iload_n 1, 1) := by decide +kernel
theorem dX3_worth_2 : decode cX3_worth 2 = .ok (.invokevirtual 31, 3) := by decide +kernel
theorem dX3_worth_5 : decode cX3_worth 5 = .ok (.ifCond .ne 5, 3) := by decide +kernel
theorem dX3_worth_8 : decode cX3_worth 8 = .ok (.iconst 0, 1) := by decide +kernel
theorem dX3_worth_9 : decode cX3_worth 9 = .ok (.ireturn, 1) := by decide +kernel
theorem dX3_worth_10 : decode cX3_worth 10 = .ok (.iconst 0, 1) := by decide +kernel
theorem dX3_worth_11 : decode cX3_worth 11 = .ok (.istore_n 2, 1) := by decide +kernel
theorem dX3_worth_12 : decode cX3_worth 12 = .ok (.aload_n 0, 1) := by decide +kernel
theorem dX3_worth_13 : decode cX3_worth 13 = .ok (.getfield 19, 3) := by decide +kernel
theorem dX3_worth_16 : decode cX3_worth 16 = .ok (.iload_n 1, 1) := by decide +kernel
theorem dX3_worth_17 : decode cX3_worth 17 = .ok (.iaload, 1) := by decide +kernel
theorem dX3_worth_18 : decode cX3_worth 18 = .ok (.istore_n 3, 1) := by decide +kernel
theorem dX3_worth_19 : decode cX3_worth 19 = .ok (.iload_n 3, 1) := by decide +kernel
theorem dX3_worth_20 : decode cX3_worth 20 = .ok (.aload_n 0, 1) := by decide +kernel
theorem dX3_worth_21 : decode cX3_worth 21 = .ok (.getfield 22, 3) := by decide +kernel
theorem dX3_worth_24 : decode cX3_worth 24 = .ok (.iload_n 1, 1) := by decide +kernel
theorem dX3_worth_25 : decode cX3_worth 25 = .ok (.iaload, 1) := by decide +kernel
theorem dX3_worth_26 : decode cX3_worth 26 = .ok (.if_icmp .ge 146, 3) := by decide +kernel
theorem dX3_worth_29 : decode cX3_worth 29 = .ok (.iload_n 3, 1) := by decide +kernel
theorem dX3_worth_30 : decode cX3_worth 30 = .ok (.aload_n 0, 1) := by decide +kernel
theorem dX3_worth_31 : decode cX3_worth 31 = .ok (.getfield 9, 3) := by decide +kernel
theorem dX3_worth_34 : decode cX3_worth 34 = .ok (.arraylength, 1) := by decide +kernel
theorem dX3_worth_35 : decode cX3_worth 35 = .ok (.if_icmp .ge 137, 3) := by decide +kernel
theorem dX3_worth_38 : decode cX3_worth 38 = .ok (.aload_n 0, 1) := by decide +kernel
theorem dX3_worth_39 : decode cX3_worth 39 = .ok (.getfield 9, 3) := by decide +kernel
theorem dX3_worth_42 : decode cX3_worth 42 = .ok (.iload_n 3, 1) := by decide +kernel
theorem dX3_worth_43 : decode cX3_worth 43 = .ok (.iaload, 1) := by decide +kernel
theorem dX3_worth_44 : decode cX3_worth 44 = .ok (.istore 4, 2) := by decide +kernel
theorem dX3_worth_46 : decode cX3_worth 46 = .ok (.iload 4, 2) := by decide +kernel
theorem dX3_worth_48 : decode cX3_worth 48 = .ok (.ifCond .ge 10, 3) := by decide +kernel
theorem dX3_worth_51 : decode cX3_worth 51 = .ok (.iload 4, 2) := by decide +kernel
theorem dX3_worth_53 : decode cX3_worth 53 = .ok (.bipush (-10), 2) := by decide +kernel
theorem dX3_worth_55 : decode cX3_worth 55 = .ok (.if_icmp .gt 37, 3) := by decide +kernel
theorem dX3_worth_58 : decode cX3_worth 58 = .ok (.iload_n 2, 1) := by decide +kernel
theorem dX3_worth_59 : decode cX3_worth 59 = .ok (.bipush 64, 2) := by decide +kernel
theorem dX3_worth_61 : decode cX3_worth 61 = .ok (.if_icmp .ge 105, 3) := by decide +kernel
theorem dX3_worth_64 : decode cX3_worth 64 = .ok (.aload_n 0, 1) := by decide +kernel
theorem dX3_worth_65 : decode cX3_worth 65 = .ok (.getfield 25, 3) := by decide +kernel
theorem dX3_worth_68 : decode cX3_worth 68 = .ok (.iload_n 2, 1) := by decide +kernel
theorem dX3_worth_69 : decode cX3_worth 69 = .ok (.iload 4, 2) := by decide +kernel
theorem dX3_worth_71 : decode cX3_worth 71 = .ok (.ifCond .lt 8, 3) := by decide +kernel
theorem dX3_worth_74 : decode cX3_worth 74 = .ok (.iload 4, 2) := by decide +kernel
theorem dX3_worth_76 : decode cX3_worth 76 = .ok (.goto 9, 3) := by decide +kernel
theorem dX3_worth_79 : decode cX3_worth 79 = .ok (.aload_n 0, 1) := by decide +kernel
theorem dX3_worth_80 : decode cX3_worth 80 = .ok (.iload 4, 2) := by decide +kernel
theorem dX3_worth_82 : decode cX3_worth 82 = .ok (.invokevirtual 35, 3) := by decide +kernel
theorem dX3_worth_85 : decode cX3_worth 85 = .ok (.iastore, 1) := by decide +kernel
theorem dX3_worth_86 : decode cX3_worth 86 = .ok (.iinc 2 1, 3) := by decide +kernel
theorem dX3_worth_89 : decode cX3_worth 89 = .ok (.goto 77, 3) := by decide +kernel
theorem dX3_worth_92 : decode cX3_worth 92 = .ok (.iload 4, 2) := by decide +kernel
theorem dX3_worth_94 : decode cX3_worth 94 = .ok (.bipush (-7), 2) := by decide +kernel
theorem dX3_worth_96 : decode cX3_worth 96 = .ok (.if_icmp .ne 35, 3) := by decide +kernel
theorem dX3_worth_99 : decode cX3_worth 99 = .ok (.iload_n 2, 1) := by decide +kernel
theorem dX3_worth_100 : decode cX3_worth 100 = .ok (.iconst 1, 1) := by decide +kernel
theorem dX3_worth_101 : decode cX3_worth 101 = .ok (.if_icmp .lt 65, 3) := by decide +kernel
theorem dX3_worth_104 : decode cX3_worth 104 = .ok (.aload_n 0, 1) := by decide +kernel
theorem dX3_worth_105 : decode cX3_worth 105 = .ok (.getfield 25, 3) := by decide +kernel
theorem dX3_worth_108 : decode cX3_worth 108 = .ok (.iload_n 2, 1) := by decide +kernel
theorem dX3_worth_109 : decode cX3_worth 109 = .ok (.iconst 1, 1) := by decide +kernel
theorem dX3_worth_110 : decode cX3_worth 110 = .ok (.isub, 1) := by decide +kernel
theorem dX3_worth_111 : decode cX3_worth 111 = .ok (.aload_n 0, 1) := by decide +kernel
theorem dX3_worth_112 : decode cX3_worth 112 = .ok (.getfield 25, 3) := by decide +kernel
theorem dX3_worth_115 : decode cX3_worth 115 = .ok (.iload_n 2, 1) := by decide +kernel
theorem dX3_worth_116 : decode cX3_worth 116 = .ok (.iconst 1, 1) := by decide +kernel
theorem dX3_worth_117 : decode cX3_worth 117 = .ok (.isub, 1) := by decide +kernel
theorem dX3_worth_118 : decode cX3_worth 118 = .ok (.iaload, 1) := by decide +kernel
theorem dX3_worth_119 : decode cX3_worth 119 = .ok (.ifCond .ne 7, 3) := by decide +kernel
theorem dX3_worth_122 : decode cX3_worth 122 = .ok (.iconst 1, 1) := by decide +kernel
theorem dX3_worth_123 : decode cX3_worth 123 = .ok (.goto 4, 3) := by decide +kernel
theorem dX3_worth_126 : decode cX3_worth 126 = .ok (.iconst 0, 1) := by decide +kernel
theorem dX3_worth_127 : decode cX3_worth 127 = .ok (.iastore, 1) := by decide +kernel
theorem dX3_worth_128 : decode cX3_worth 128 = .ok (.goto 38, 3) := by decide +kernel
theorem dX3_worth_131 : decode cX3_worth 131 = .ok (.iload_n 2, 1) := by decide +kernel
theorem dX3_worth_132 : decode cX3_worth 132 = .ok (.iconst 2, 1) := by decide +kernel
theorem dX3_worth_133 : decode cX3_worth 133 = .ok (.if_icmp .lt 33, 3) := by decide +kernel
theorem dX3_worth_136 : decode cX3_worth 136 = .ok (.iinc 2 (-1), 3) := by decide +kernel
theorem dX3_worth_139 : decode cX3_worth 139 = .ok (.aload_n 0, 1) := by decide +kernel
theorem dX3_worth_140 : decode cX3_worth 140 = .ok (.getfield 25, 3) := by decide +kernel
theorem dX3_worth_143 : decode cX3_worth 143 = .ok (.iload_n 2, 1) := by decide +kernel
theorem dX3_worth_144 : decode cX3_worth 144 = .ok (.iconst 1, 1) := by decide +kernel
theorem dX3_worth_145 : decode cX3_worth 145 = .ok (.isub, 1) := by decide +kernel
theorem dX3_worth_146 : decode cX3_worth 146 = .ok (.iload 4, 2) := by decide +kernel
theorem dX3_worth_148 : decode cX3_worth 148 = .ok (.aload_n 0, 1) := by decide +kernel
theorem dX3_worth_149 : decode cX3_worth 149 = .ok (.getfield 25, 3) := by decide +kernel
theorem dX3_worth_152 : decode cX3_worth 152 = .ok (.iload_n 2, 1) := by decide +kernel
theorem dX3_worth_153 : decode cX3_worth 153 = .ok (.iconst 1, 1) := by decide +kernel
theorem dX3_worth_154 : decode cX3_worth 154 = .ok (.isub, 1) := by decide +kernel
theorem dX3_worth_155 : decode cX3_worth 155 = .ok (.iaload, 1) := by decide +kernel
theorem dX3_worth_156 : decode cX3_worth 156 = .ok (.aload_n 0, 1) := by decide +kernel
theorem dX3_worth_157 : decode cX3_worth 157 = .ok (.getfield 25, 3) := by decide +kernel
theorem dX3_worth_160 : decode cX3_worth 160 = .ok (.iload_n 2, 1) := by decide +kernel
theorem dX3_worth_161 : decode cX3_worth 161 = .ok (.iaload, 1) := by decide +kernel
theorem dX3_worth_162 : decode cX3_worth 162 = .ok (.invokestatic 39, 3) := by decide +kernel
theorem dX3_worth_165 : decode cX3_worth 165 = .ok (.iastore, 1) := by decide +kernel
theorem dX3_worth_166 : decode cX3_worth 166 = .ok (.iinc 3 1, 3) := by decide +kernel
theorem dX3_worth_169 : decode cX3_worth 169 = .ok (.goto (-150), 3) := by decide +kernel
theorem dX3_worth_172 : decode cX3_worth 172 = .ok (.iload_n 2, 1) := by decide +kernel
theorem dX3_worth_173 : decode cX3_worth 173 = .ok (.iconst 1, 1) := by decide +kernel
theorem dX3_worth_174 : decode cX3_worth 174 = .ok (.if_icmp .ne 12, 3) := by decide +kernel
theorem dX3_worth_177 : decode cX3_worth 177 = .ok (.aload_n 0, 1) := by decide +kernel
theorem dX3_worth_178 : decode cX3_worth 178 = .ok (.getfield 25, 3) := by decide +kernel
theorem dX3_worth_181 : decode cX3_worth 181 = .ok (.iconst 0, 1) := by decide +kernel
theorem dX3_worth_182 : decode cX3_worth 182 = .ok (.iaload, 1) := by decide +kernel
theorem dX3_worth_183 : decode cX3_worth 183 = .ok (.goto 4, 3) := by decide +kernel
theorem dX3_worth_186 : decode cX3_worth 186 = .ok (.iconst 0, 1) := by decide +kernel
theorem dX3_worth_187 : decode cX3_worth 187 = .ok (.ireturn, 1) := by decide +kernel
def f_Ru_worth_13_J58 (v1 : Int32) (v2 : Int32) (v3 : Int32) (v4 : Int32) (σ : xS) : Option ((Int32 × Int32 × xS) ⊕ (Int32 × Int32 × xS)) :=
  if (64 : Int32) ≤ v2 then
    let w1 := v3 + (1 : Int32)
    some (.inr (v2, w1, σ))
  else
    if v4 < 0 then
      (f_Ru_valueBy_13 v4 σ).bind fun q2 =>
      if v2 < 0 ∨ 64 ≤ v2.toNatClampNeg then none else
      let σ3 := x_pI q2.2 17 v2.toNatClampNeg q2.1
      let w4 := v2 + (1 : Int32)
      let w5 := v3 + (1 : Int32)
      some (.inr (w4, w5, σ3))
    else
      if v2 < 0 ∨ 64 ≤ v2.toNatClampNeg then none else
      let σ6 := x_pI σ 17 v2.toNatClampNeg v4
      let w7 := v2 + (1 : Int32)
      let w8 := v3 + (1 : Int32)
      some (.inr (w7, w8, σ6))
def f_Ru_worth_13_L19 (v1 : Int32) (a : Int32 × Int32 × xS) : Option ((Int32 × Int32 × xS) ⊕ (Int32 × Int32 × xS)) :=
  let v2 := a.1; let v3 := a.2.1; let σ := a.2.2;
  if v1 < 0 ∨ 6 ≤ v1.toNatClampNeg then none else
  if σ.1 16 v1.toNatClampNeg ≤ v3 then
    some (.inl (v2, v3, σ))
  else
    if (Int32.ofNat 700) ≤ v3 then
      some (.inl (v2, v3, σ))
    else
      if v3 < 0 ∨ 700 ≤ v3.toNatClampNeg then none else
      let w9 := σ.1 14 v3.toNatClampNeg
      if 0 ≤ w9 then
        f_Ru_worth_13_J58 v1 v2 v3 w9 σ
      else
        if (-10 : Int32) < w9 then
          if w9 = (-7 : Int32) then
            if v2 < (1 : Int32) then
              let w15 := v3 + (1 : Int32)
              some (.inr (v2, w15, σ))
            else
              if (v2 - (1 : Int32)) < 0 ∨ 64 ≤ (v2 - (1 : Int32)).toNatClampNeg then none else
              if σ.1 17 (v2 - (1 : Int32)).toNatClampNeg = 0 then
                if (v2 - (1 : Int32)) < 0 ∨ 64 ≤ (v2 - (1 : Int32)).toNatClampNeg then none else
                let σ18 := x_pI σ 17 (v2 - (1 : Int32)).toNatClampNeg (1 : Int32)
                let w19 := v3 + (1 : Int32)
                some (.inr (v2, w19, σ18))
              else
                if (v2 - (1 : Int32)) < 0 ∨ 64 ≤ (v2 - (1 : Int32)).toNatClampNeg then none else
                let σ16 := x_pI σ 17 (v2 - (1 : Int32)).toNatClampNeg (0 : Int32)
                let w17 := v3 + (1 : Int32)
                some (.inr (v2, w17, σ16))
          else
            if v2 < (2 : Int32) then
              let w10 := v3 + (1 : Int32)
              some (.inr (v2, w10, σ))
            else
              let w11 := v2 + (-1 : Int32)
              if (w11 - (1 : Int32)) < 0 ∨ 64 ≤ (w11 - (1 : Int32)).toNatClampNeg then none else
              if w11 < 0 ∨ 64 ≤ w11.toNatClampNeg then none else
              (f_Ru_join w9 (σ.1 17 (w11 - (1 : Int32)).toNatClampNeg) (σ.1 17 w11.toNatClampNeg) σ).bind fun q12 =>
              if (w11 - (1 : Int32)) < 0 ∨ 64 ≤ (w11 - (1 : Int32)).toNatClampNeg then none else
              let σ13 := x_pI q12.2 17 (w11 - (1 : Int32)).toNatClampNeg q12.1
              let w14 := v3 + (1 : Int32)
              some (.inr (w11, w14, σ13))
        else
          f_Ru_worth_13_J58 v1 v2 v3 w9 σ
def f_Ru_worth_13_J172 (v2 : Int32) (σ : xS) : Option (Int32 × xS) :=
  if v2 = (1 : Int32) then
    some (σ.1 17 0, σ)
  else
    some ((0 : Int32), σ)
def f_Ru_worth_13 (v1 : Int32) (σ : xS) : Option (Int32 × xS) :=
  (f_Ru_has_13 v1 σ).bind fun q20 =>
  if q20.1 = 0 then
    some ((0 : Int32), q20.2)
  else
    if v1 < 0 ∨ 6 ≤ v1.toNatClampNeg then none else
    let w21 := q20.2.1 15 v1.toNatClampNeg
    (x_it (f_Ru_worth_13_L19 v1) 10000 ((0 : Int32), w21, q20.2)).bind fun b22 =>
    f_Ru_worth_13_J172 b22.1 b22.2.2
set_option maxHeartbeats 4000000 in
set_option maxRecDepth 100000 in
theorem j_Ru_worth_13_J58 {l : Launch} {s0 : State} {a0 : Array Value} {D : va_G} {cA : Nat → ClassId} {sp : Nat → Nat} (E : x_En CL l s0 a0 D cA sp) (v1 : Int32) (v2 : Int32) (v3 : Int32) (v4 : Int32)  (σ : xS) {r : Int32} {σ1 : xS} (o : (Int32 × Int32 × xS) ⊕ (Int32 × Int32 × xS)) (h : f_Ru_worth_13_J58 v1 v2 v3 v4 σ = some o) (hK : ∀ b, o = .inl b → zW l s0 D cA sp (zQ s0 D cA sp (some (.int r)) σ1) (x_rm 1 0 0) M_Ru_worth 0 0 172 [some (.ref 13), none, some (.int b.1), none, none] [] b.2.2) (hG : ∀ a', o = .inr a' → zW l s0 D cA sp (zQ s0 D cA sp (some (.int r)) σ1) (x_rm 1 0 0) M_Ru_worth 0 0 19 [some (.ref 13), some (.int v1), some (.int a'.1), some (.int a'.2.1), none] [] a'.2.2) : zW l s0 D cA sp (zQ s0 D cA sp (some (.int r)) σ1) (x_rm 1 0 0) M_Ru_worth 0 0 58 [some (.ref 13), some (.int v1), some (.int v2), some (.int v3), some (.int v4)] [] σ := by
  unfold f_Ru_worth_13_J58 at h
  try dsimp only at h
  refine x_iload_n 59 rfl 2 dX3_worth_58 rfl rfl ?_
  refine x_bipush 61 rfl (v := 64) dX3_worth_59 (by decide) ?_
  refine x_icmp_ge 64 rfl 166 dX3_worth_61 (by decide) (fun hc => ?_) (fun hc => ?_)
  · replace h := x_ifT hc h
    refine x_iinc 169 rfl (1) dX3_worth_166 rfl (by decide) (by decide) [some (.ref 13), some (.int _), some (.int _), some (.int _), some (.int _)] rfl ?_
    refine x_goto 19 dX3_worth_169 (by decide) ?_
    cases h
    exact x_wk (x_le_s (x_le_s (x_le_s (x_le_s (x_le_n x_le_0))))) (hG (_, _, _) rfl)
  · replace h := x_ifF hc h
    refine x_aload_n 65 rfl 0 dX3_worth_64 rfl rfl ?_
    refine x_getR E dX3_worth_65 F_RX3_25 sh_13 rf_13_4 68 rfl ?_
    refine x_iload_n 69 rfl 2 dX3_worth_68 rfl rfl ?_
    refine x_iload 71 rfl dX3_worth_69 rfl ?_
    refine x_if_lt 74 rfl 79 dX3_worth_71 (by decide) (fun hc => ?_) (fun hc => ?_)
    · replace h := x_ifT hc h
      refine x_aload_n 80 rfl 0 dX3_worth_79 rfl rfl ?_
      refine x_iload 82 rfl dX3_worth_80 rfl ?_
      obtain ⟨⟨q2r, q2s⟩, q2h, h⟩ := x_bind h
      try dsimp only at h
      refine z_callV E [.int _] [.int _, .ref 17] dX3_worth_82 K_RX3_35 ⟨Nat.le_of_ble_eq_true rfl, Nat.le_of_ble_eq_true rfl⟩ sh_13 (by decide) rfl (c_Ru_valueBy_13 E _ q2h) rfl rfl (Nat.le_of_ble_eq_true rfl) 85 rfl [.int _, .int _, .ref 17] rfl ?_
      obtain ⟨hz, h⟩ := x_ifn h
      refine x_iast E dX3_worth_85 sh_17 _ rfl hz 86 rfl ?_
      refine x_iinc 89 rfl (1) dX3_worth_86 rfl (by decide) (by decide) [some (.ref 13), some (.int _), some (.int _), some (.int _), some (.int _)] rfl ?_
      refine x_goto 166 dX3_worth_89 (by decide) ?_
      refine x_iinc 169 rfl (1) dX3_worth_166 rfl (by decide) (by decide) [some (.ref 13), some (.int _), some (.int _), some (.int _), some (.int _)] rfl ?_
      refine x_goto 19 dX3_worth_169 (by decide) ?_
      cases h
      exact x_wk (x_le_s (x_le_s (x_le_s (x_le_s (x_le_n x_le_0))))) (hG (_, _, _) rfl)
    · replace h := x_ifF hc h
      refine x_iload 76 rfl dX3_worth_74 rfl ?_
      refine x_goto 85 dX3_worth_76 (by decide) ?_
      obtain ⟨hz, h⟩ := x_ifn h
      refine x_iast E dX3_worth_85 sh_17 _ rfl hz 86 rfl ?_
      refine x_iinc 89 rfl (1) dX3_worth_86 rfl (by decide) (by decide) [some (.ref 13), some (.int _), some (.int _), some (.int _), some (.int _)] rfl ?_
      refine x_goto 166 dX3_worth_89 (by decide) ?_
      refine x_iinc 169 rfl (1) dX3_worth_166 rfl (by decide) (by decide) [some (.ref 13), some (.int _), some (.int _), some (.int _), some (.int _)] rfl ?_
      refine x_goto 19 dX3_worth_169 (by decide) ?_
      cases h
      exact x_wk (x_le_s (x_le_s (x_le_s (x_le_s (x_le_n x_le_0))))) (hG (_, _, _) rfl)
set_option maxHeartbeats 4000000 in
set_option maxRecDepth 100000 in
theorem b_Ru_worth_13_L19 {l : Launch} {s0 : State} {a0 : Array Value} {D : va_G} {cA : Nat → ClassId} {sp : Nat → Nat} (E : x_En CL l s0 a0 D cA sp) (v1 : Int32) {r : Int32} {σ1 : xS} (a : Int32 × Int32 × xS) (o : (Int32 × Int32 × xS) ⊕ (Int32 × Int32 × xS)) (h : f_Ru_worth_13_L19 v1 a = some o) (hK : ∀ b, o = .inl b → zW l s0 D cA sp (zQ s0 D cA sp (some (.int r)) σ1) (x_rm 1 0 0) M_Ru_worth 0 0 172 [some (.ref 13), none, some (.int b.1), none, none] [] b.2.2) (hG : ∀ a', o = .inr a' → zW l s0 D cA sp (zQ s0 D cA sp (some (.int r)) σ1) (x_rm 1 0 0) M_Ru_worth 0 0 19 [some (.ref 13), some (.int v1), some (.int a'.1), some (.int a'.2.1), none] [] a'.2.2) : zW l s0 D cA sp (zQ s0 D cA sp (some (.int r)) σ1) (x_rm 1 0 0) M_Ru_worth 0 0 19 [some (.ref 13), some (.int v1), some (.int a.1), some (.int a.2.1), none] [] a.2.2 := by
  obtain ⟨v2, v3, σ⟩ := a
  unfold f_Ru_worth_13_L19 at h
  try dsimp only at h ⊢
  refine x_iload_n 20 rfl 3 dX3_worth_19 rfl rfl ?_
  refine x_aload_n 21 rfl 0 dX3_worth_20 rfl rfl ?_
  refine x_getR E dX3_worth_21 F_RX3_22 sh_13 rf_13_3 24 rfl ?_
  refine x_iload_n 25 rfl 1 dX3_worth_24 rfl rfl ?_
  obtain ⟨hz, h⟩ := x_ifn h
  refine x_iald E dX3_worth_25 sh_16 _ rfl hz 26 rfl ?_
  refine x_icmp_ge 29 rfl 172 dX3_worth_26 (by decide) (fun hc => ?_) (fun hc => ?_)
  · replace h := x_ifT hc h
    cases h
    exact x_wk (x_le_s (x_le_n (x_le_s (x_le_n (x_le_n x_le_0))))) (hK (_, _, _) rfl)
  · replace h := x_ifF hc h
    refine x_iload_n 30 rfl 3 dX3_worth_29 rfl rfl ?_
    refine x_aload_n 31 rfl 0 dX3_worth_30 rfl rfl ?_
    refine x_getR E dX3_worth_31 F_RX3_9 sh_13 rf_13_0 34 rfl ?_
    refine x_alen E dX3_worth_34 sh_14 35 rfl ?_
    refine x_icmp_ge 38 rfl 172 dX3_worth_35 (by decide) (fun hc => ?_) (fun hc => ?_)
    · replace h := x_ifT hc h
      cases h
      exact x_wk (x_le_s (x_le_n (x_le_s (x_le_n (x_le_n x_le_0))))) (hK (_, _, _) rfl)
    · replace h := x_ifF hc h
      refine x_aload_n 39 rfl 0 dX3_worth_38 rfl rfl ?_
      refine x_getR E dX3_worth_39 F_RX3_9 sh_13 rf_13_0 42 rfl ?_
      refine x_iload_n 43 rfl 3 dX3_worth_42 rfl rfl ?_
      obtain ⟨hz, h⟩ := x_ifn h
      refine x_iald E dX3_worth_43 sh_14 _ rfl hz 44 rfl ?_
      refine x_istore 46 rfl dX3_worth_44 (by decide) [some (.ref 13), some (.int _), some (.int _), some (.int _), some (.int _)] rfl ?_
      refine x_iload 48 rfl dX3_worth_46 rfl ?_
      refine x_if_ge 51 rfl 58 dX3_worth_48 (by decide) (fun hc => ?_) (fun hc => ?_)
      · replace h := x_ifT hc h
        exact x_wk (x_le_s (x_le_s (x_le_s (x_le_s (x_le_s x_le_0))))) (j_Ru_worth_13_J58 (r := r) (σ1 := σ1) E _ _ _ _  _ _ h hK hG)
      · replace h := x_ifF hc h
        refine x_iload 53 rfl dX3_worth_51 rfl ?_
        refine x_bipush 55 rfl (v := -10) dX3_worth_53 (by decide) ?_
        refine x_icmp_gt 58 rfl 92 dX3_worth_55 (by decide) (fun hc => ?_) (fun hc => ?_)
        · replace h := x_ifT hc h
          refine x_iload 94 rfl dX3_worth_92 rfl ?_
          refine x_bipush 96 rfl (v := -7) dX3_worth_94 (by decide) ?_
          refine x_icmp_ne 99 rfl 131 dX3_worth_96 (by decide) (fun hc => ?_) (fun hc => ?_)
          · replace h := x_ifF hc h
            refine x_iload_n 132 rfl 2 dX3_worth_131 rfl rfl ?_
            refine x_iconst 133 rfl (v := 2) dX3_worth_132 (by decide) ?_
            refine x_icmp_lt 136 rfl 166 dX3_worth_133 (by decide) (fun hc => ?_) (fun hc => ?_)
            · replace h := x_ifT hc h
              refine x_iinc 169 rfl (1) dX3_worth_166 rfl (by decide) (by decide) [some (.ref 13), some (.int _), some (.int _), some (.int _), some (.int _)] rfl ?_
              refine x_goto 19 dX3_worth_169 (by decide) ?_
              cases h
              exact x_wk (x_le_s (x_le_s (x_le_s (x_le_s (x_le_n x_le_0))))) (hG (_, _, _) rfl)
            · replace h := x_ifF hc h
              refine x_iinc 139 rfl (-1) dX3_worth_136 rfl (by decide) (by decide) [some (.ref 13), some (.int _), some (.int _), some (.int _), some (.int _)] rfl ?_
              refine x_aload_n 140 rfl 0 dX3_worth_139 rfl rfl ?_
              refine x_getR E dX3_worth_140 F_RX3_25 sh_13 rf_13_4 143 rfl ?_
              refine x_iload_n 144 rfl 2 dX3_worth_143 rfl rfl ?_
              refine x_iconst 145 rfl (v := 1) dX3_worth_144 (by decide) ?_
              refine x_isub 146 rfl dX3_worth_145 ?_
              refine x_iload 148 rfl dX3_worth_146 rfl ?_
              refine x_aload_n 149 rfl 0 dX3_worth_148 rfl rfl ?_
              refine x_getR E dX3_worth_149 F_RX3_25 sh_13 rf_13_4 152 rfl ?_
              refine x_iload_n 153 rfl 2 dX3_worth_152 rfl rfl ?_
              refine x_iconst 154 rfl (v := 1) dX3_worth_153 (by decide) ?_
              refine x_isub 155 rfl dX3_worth_154 ?_
              obtain ⟨hz, h⟩ := x_ifn h
              refine x_iald E dX3_worth_155 sh_17 _ rfl hz 156 rfl ?_
              refine x_aload_n 157 rfl 0 dX3_worth_156 rfl rfl ?_
              refine x_getR E dX3_worth_157 F_RX3_25 sh_13 rf_13_4 160 rfl ?_
              refine x_iload_n 161 rfl 2 dX3_worth_160 rfl rfl ?_
              obtain ⟨hz, h⟩ := x_ifn h
              refine x_iald E dX3_worth_161 sh_17 _ rfl hz 162 rfl ?_
              obtain ⟨⟨q12r, q12s⟩, q12h, h⟩ := x_bind h
              try dsimp only at h
              refine z_callS E [.int _, .int _, .int _] [.int _, .ref 17] dX3_worth_162 K_RX3_39 ⟨Nat.le_of_ble_eq_true rfl, Nat.le_of_ble_eq_true rfl⟩ (c_Ru_join E _ _ _ q12h) rfl rfl (Nat.le_of_ble_eq_true rfl) 165 rfl [.int _, .int _, .ref 17] rfl ?_
              obtain ⟨hz, h⟩ := x_ifn h
              refine x_iast E dX3_worth_165 sh_17 _ rfl hz 166 rfl ?_
              refine x_iinc 169 rfl (1) dX3_worth_166 rfl (by decide) (by decide) [some (.ref 13), some (.int _), some (.int _), some (.int _), some (.int _)] rfl ?_
              refine x_goto 19 dX3_worth_169 (by decide) ?_
              cases h
              exact x_wk (x_le_s (x_le_s (x_le_s (x_le_s (x_le_n x_le_0))))) (hG (_, _, _) rfl)
          · replace h := x_ifT hc h
            refine x_iload_n 100 rfl 2 dX3_worth_99 rfl rfl ?_
            refine x_iconst 101 rfl (v := 1) dX3_worth_100 (by decide) ?_
            refine x_icmp_lt 104 rfl 166 dX3_worth_101 (by decide) (fun hc => ?_) (fun hc => ?_)
            · replace h := x_ifT hc h
              refine x_iinc 169 rfl (1) dX3_worth_166 rfl (by decide) (by decide) [some (.ref 13), some (.int _), some (.int _), some (.int _), some (.int _)] rfl ?_
              refine x_goto 19 dX3_worth_169 (by decide) ?_
              cases h
              exact x_wk (x_le_s (x_le_s (x_le_s (x_le_s (x_le_n x_le_0))))) (hG (_, _, _) rfl)
            · replace h := x_ifF hc h
              refine x_aload_n 105 rfl 0 dX3_worth_104 rfl rfl ?_
              refine x_getR E dX3_worth_105 F_RX3_25 sh_13 rf_13_4 108 rfl ?_
              refine x_iload_n 109 rfl 2 dX3_worth_108 rfl rfl ?_
              refine x_iconst 110 rfl (v := 1) dX3_worth_109 (by decide) ?_
              refine x_isub 111 rfl dX3_worth_110 ?_
              refine x_aload_n 112 rfl 0 dX3_worth_111 rfl rfl ?_
              refine x_getR E dX3_worth_112 F_RX3_25 sh_13 rf_13_4 115 rfl ?_
              refine x_iload_n 116 rfl 2 dX3_worth_115 rfl rfl ?_
              refine x_iconst 117 rfl (v := 1) dX3_worth_116 (by decide) ?_
              refine x_isub 118 rfl dX3_worth_117 ?_
              obtain ⟨hz, h⟩ := x_ifn h
              refine x_iald E dX3_worth_118 sh_17 _ rfl hz 119 rfl ?_
              refine x_if_ne 122 rfl 126 dX3_worth_119 (by decide) (fun hc => ?_) (fun hc => ?_)
              · replace h := x_ifF hc h
                refine x_iconst 127 rfl (v := 0) dX3_worth_126 (by decide) ?_
                obtain ⟨hz, h⟩ := x_ifn h
                refine x_iast E dX3_worth_127 sh_17 _ rfl hz 128 rfl ?_
                refine x_goto 166 dX3_worth_128 (by decide) ?_
                refine x_iinc 169 rfl (1) dX3_worth_166 rfl (by decide) (by decide) [some (.ref 13), some (.int _), some (.int _), some (.int _), some (.int _)] rfl ?_
                refine x_goto 19 dX3_worth_169 (by decide) ?_
                cases h
                exact x_wk (x_le_s (x_le_s (x_le_s (x_le_s (x_le_n x_le_0))))) (hG (_, _, _) rfl)
              · replace h := x_ifT hc h
                refine x_iconst 123 rfl (v := 1) dX3_worth_122 (by decide) ?_
                refine x_goto 127 dX3_worth_123 (by decide) ?_
                obtain ⟨hz, h⟩ := x_ifn h
                refine x_iast E dX3_worth_127 sh_17 _ rfl hz 128 rfl ?_
                refine x_goto 166 dX3_worth_128 (by decide) ?_
                refine x_iinc 169 rfl (1) dX3_worth_166 rfl (by decide) (by decide) [some (.ref 13), some (.int _), some (.int _), some (.int _), some (.int _)] rfl ?_
                refine x_goto 19 dX3_worth_169 (by decide) ?_
                cases h
                exact x_wk (x_le_s (x_le_s (x_le_s (x_le_s (x_le_n x_le_0))))) (hG (_, _, _) rfl)
        · replace h := x_ifF hc h
          exact x_wk (x_le_s (x_le_s (x_le_s (x_le_s (x_le_s x_le_0))))) (j_Ru_worth_13_J58 (r := r) (σ1 := σ1) E _ _ _ _  _ _ h hK hG)
set_option maxHeartbeats 4000000 in
set_option maxRecDepth 100000 in
theorem j_Ru_worth_13_J172 {l : Launch} {s0 : State} {a0 : Array Value} {D : va_G} {cA : Nat → ClassId} {sp : Nat → Nat} (E : x_En CL l s0 a0 D cA sp) (v2 : Int32) (σ : xS) {r : Int32} {σ1 : xS} (h : f_Ru_worth_13_J172 v2 σ = some (r, σ1)) : zW l s0 D cA sp (zQ s0 D cA sp (some (.int r)) σ1) (x_rm 1 0 0) M_Ru_worth 0 0 172 [some (.ref 13), none, some (.int v2), none, none] [] σ := by
  unfold f_Ru_worth_13_J172 at h
  try dsimp only at h
  refine x_iload_n 173 rfl 2 dX3_worth_172 rfl rfl ?_
  refine x_iconst 174 rfl (v := 1) dX3_worth_173 (by decide) ?_
  refine x_icmp_ne 177 rfl 186 dX3_worth_174 (by decide) (fun hc => ?_) (fun hc => ?_)
  · replace h := x_ifF hc h
    refine x_iconst 187 rfl (v := 0) dX3_worth_186 (by decide) ?_
    cases h
    exact x_iret dX3_worth_187 rfl rfl rfl
  · replace h := x_ifT hc h
    refine x_aload_n 178 rfl 0 dX3_worth_177 rfl rfl ?_
    refine x_getR E dX3_worth_178 F_RX3_25 sh_13 rf_13_4 181 rfl ?_
    refine x_iconst 182 rfl (v := 0) dX3_worth_181 (by decide) ?_
    refine x_iald E dX3_worth_182 sh_17 0 (by decide) (by decide) 183 rfl ?_
    refine x_goto 187 dX3_worth_183 (by decide) ?_
    cases h
    exact x_iret dX3_worth_187 rfl rfl rfl
set_option maxHeartbeats 4000000 in
set_option maxRecDepth 100000 in
theorem c_Ru_worth_13 {l : Launch} {s0 : State} {a0 : Array Value} {D : va_G} {cA : Nat → ClassId} {sp : Nat → Nat} (E : x_En CL l s0 a0 D cA sp) (v1 : Int32) {σ : xS} {r : Int32} {σ1 : xS} (h : f_Ru_worth_13 v1 σ = some (r, σ1)) : zC l s0 D cA sp 1 M_Ru_worth [.ref 13, .int v1] σ (some (.int r)) σ1 := by
  unfold f_Ru_worth_13 at h
  try dsimp only at h
  refine x_enter [some (.ref 13), some (.int v1), none, none, none] rfl (Nat.le_of_ble_eq_true rfl) (by decide +kernel) rfl ?_
  refine x_aload_n 1 rfl 0 dX3_worth_0 rfl rfl ?_
  refine x_iload_n 2 rfl 1 dX3_worth_1 rfl rfl ?_
  obtain ⟨⟨q20r, q20s⟩, q20h, h⟩ := x_bind h
  try dsimp only at h
  refine z_callV E [.int _] [] dX3_worth_2 K_RX3_31 ⟨Nat.le_of_ble_eq_true rfl, Nat.le_of_ble_eq_true rfl⟩ sh_13 (by decide) rfl (c_Ru_has_13 E _ q20h) rfl rfl (Nat.le_of_ble_eq_true rfl) 5 rfl [.int _] rfl ?_
  refine x_if_ne 8 rfl 10 dX3_worth_5 (by decide) (fun hc => ?_) (fun hc => ?_)
  · replace h := x_ifF hc h
    refine x_iconst 11 rfl (v := 0) dX3_worth_10 (by decide) ?_
    refine x_istore_n 12 rfl 2 dX3_worth_11 rfl (by decide) [some (.ref 13), some (.int _), some (.int _), none, none] rfl ?_
    refine x_aload_n 13 rfl 0 dX3_worth_12 rfl rfl ?_
    refine x_getR E dX3_worth_13 F_RX3_19 sh_13 rf_13_2 16 rfl ?_
    refine x_iload_n 17 rfl 1 dX3_worth_16 rfl rfl ?_
    obtain ⟨hz, h⟩ := x_ifn h
    refine x_iald E dX3_worth_17 sh_15 _ rfl hz 18 rfl ?_
    refine x_istore_n 19 rfl 3 dX3_worth_18 rfl (by decide) [some (.ref 13), some (.int _), some (.int _), some (.int _), none] rfl ?_
    obtain ⟨b22, b22h, h⟩ := x_bind h
    try dsimp only at h
    refine x_wk (x_le_s (x_le_s (x_le_s (x_le_s (x_le_n x_le_0))))) (x_loop (fun a o h hK hG => b_Ru_worth_13_L19 (r := r) (σ1 := σ1) E _ a o h hK hG) _ _ _ b22h ?_)
    exact x_wk (x_le_s (x_le_n (x_le_s (x_le_n (x_le_n x_le_0))))) (j_Ru_worth_13_J172 E _ _ h)
  · replace h := x_ifT hc h
    refine x_iconst 9 rfl (v := 0) dX3_worth_8 (by decide) ?_
    cases h
    exact x_iret dX3_worth_9 rfl rfl rfl
theorem K_RX6_104 : x_KV RX6 104 M_Ru_worth 1 := ⟨⟨(List.mem_append_right _ (List.mem_of_getElem? (i := 504) (by decide +kernel))), (List.mem_append_right _ (List.mem_of_getElem? (i := 292) (by decide +kernel))), (List.mem_append_right _ (List.mem_of_getElem? (i := 4) (by decide +kernel))), ⟨by decide +kernel, by decide +kernel⟩, by decide +kernel⟩, (List.mem_append_right _ (List.mem_of_getElem? (i := 290) (by decide +kernel))), (List.mem_append_right _ (List.mem_of_getElem? (i := 291) (by decide +kernel)))⟩
abbrev M_Tr_aim : xM := (yX6_aim, cX6_aim, 6, some .int, [])
theorem dX6_aim_0 : decode cX6_aim 0 = .ok (.iload_n 2, 1) := by decide +kernel
theorem dX6_aim_1 : decode cX6_aim 1 = .ok (.iconst 1, 1) := by decide +kernel
theorem dX6_aim_2 : decode cX6_aim 2 = .ok (.if_icmp .lt 10, 3) := by decide +kernel
theorem dX6_aim_5 : decode cX6_aim 5 = .ok (.iload_n 2, 1) := by decide +kernel
theorem dX6_aim_6 : decode cX6_aim 6 = .ok (.sipush 600, 3) := by decide +kernel
theorem dX6_aim_9 : decode cX6_aim 9 = .ok (.if_icmp .le 5, 3) := by decide +kernel
theorem dX6_aim_12 : decode cX6_aim 12 = .ok (.iconst 0, 1) := by decide +kernel
theorem dX6_aim_13 : decode cX6_aim 13 = .ok (.ireturn, 1) := by decide +kernel
theorem dX6_aim_14 : decode cX6_aim 14 = .ok (.aload_n 0, 1) := by decide +kernel
theorem dX6_aim_15 : decode cX6_aim 15 = .ok (.getfield 31, 3) := by decide +kernel
theorem dX6_aim_18 : decode cX6_aim 18 = .ok (.iload_n 2, 1) := by decide +kernel
theorem dX6_aim_19 : decode cX6_aim 19 = .ok (.iconst 1, 1) := by decide +kernel
theorem dX6_aim_20 : decode cX6_aim 20 = .ok (.isub, 1) := by decide +kernel
theorem dX6_aim_21 : decode cX6_aim 21 = .ok (.iaload, 1) := by decide +kernel
theorem dX6_aim_22 : decode cX6_aim 22 = .ok (.istore_n 3, 1) := by decide +kernel
theorem dX6_aim_23 : decode cX6_aim 23 = .ok (.aload_n 0, 1) := by decide +kernel
theorem dX6_aim_24 : decode cX6_aim 24 = .ok (.getfield 31, 3) := by decide +kernel
theorem dX6_aim_27 : decode cX6_aim 27 = .ok (.iload_n 2, 1) := by decide +kernel
theorem dX6_aim_28 : decode cX6_aim 28 = .ok (.iaload, 1) := by decide +kernel
theorem dX6_aim_29 : decode cX6_aim 29 = .ok (.aload_n 0, 1) := by decide +kernel
theorem dX6_aim_30 : decode cX6_aim 30 = .ok (.getfield 25, 3) := by decide +kernel
theorem dX6_aim_33 : decode cX6_aim 33 = .ok (.aload_n 0, 1) := by decide +kernel
theorem dX6_aim_34 : decode cX6_aim 34 = .ok (.getfield 31, 3) := by decide +kernel
theorem dX6_aim_37 : decode cX6_aim 37 = .ok (.iload_n 2, 1) := by decide +kernel
theorem dX6_aim_38 : decode cX6_aim 38 = .ok (.iaload, 1) := by decide +kernel
theorem dX6_aim_39 : decode cX6_aim 39 = .ok (.iload_n 3, 1) := by decide +kernel
theorem dX6_aim_40 : decode cX6_aim 40 = .ok (.isub, 1) := by decide +kernel
theorem dX6_aim_41 : decode cX6_aim 41 = .ok (.imul, 1) := by decide +kernel
theorem dX6_aim_42 : decode cX6_aim 42 = .ok (.iadd, 1) := by decide +kernel
theorem dX6_aim_43 : decode cX6_aim 43 = .ok (.iconst 0, 1) := by decide +kernel
theorem dX6_aim_44 : decode cX6_aim 44 = .ok (.sipush 999, 3) := by decide +kernel
theorem dX6_aim_47 : decode cX6_aim 47 = .ok (.invokestatic 91, 3) := by decide +kernel
theorem dX6_aim_50 : decode cX6_aim 50 = .ok (.istore 4, 2) := by decide +kernel
theorem dX6_aim_52 : decode cX6_aim 52 = .ok (.aload_n 0, 1) := by decide +kernel
theorem dX6_aim_53 : decode cX6_aim 53 = .ok (.getfield 9, 3) := by decide +kernel
theorem dX6_aim_56 : decode cX6_aim 56 = .ok (.iconst 4, 1) := by decide +kernel
theorem dX6_aim_57 : decode cX6_aim 57 = .ok (.iaload, 1) := by decide +kernel
theorem dX6_aim_58 : decode cX6_aim 58 = .ok (.iconst (-1), 1) := by decide +kernel
theorem dX6_aim_59 : decode cX6_aim 59 = .ok (.if_icmp .ne 6, 3) := by decide +kernel
theorem dX6_aim_62 : decode cX6_aim 62 = .ok (.iload 4, 2) := by decide +kernel
theorem dX6_aim_64 : decode cX6_aim 64 = .ok (.ireturn, 1) := by decide +kernel
theorem dX6_aim_65 : decode cX6_aim 65 = .ok (.aload_n 1, 1) := by decide +kernel
theorem dX6_aim_66 : decode cX6_aim 66 = .ok (.getfield 95, 3) := by decide +kernel
theorem dX6_aim_69 : decode cX6_aim 69 = .ok (.getfield 99, 3) := by decide +kernel
theorem dX6_aim_72 : decode cX6_aim 72 = .ok (.astore 5, 2) := by decide +kernel
theorem dX6_aim_74 : decode cX6_aim 74 = .ok (.aload 5, 2) := by decide +kernel
theorem dX6_aim_76 : decode cX6_aim 76 = .ok (.iconst 3, 1) := by decide +kernel
theorem dX6_aim_77 : decode cX6_aim 77 = .ok (.iload 4, 2) := by decide +kernel
theorem dX6_aim_79 : decode cX6_aim 79 = .ok (.iastore, 1) := by decide +kernel
theorem dX6_aim_80 : decode cX6_aim 80 = .ok (.aload 5, 2) := by decide +kernel
theorem dX6_aim_82 : decode cX6_aim 82 = .ok (.iconst 4, 1) := by decide +kernel
theorem dX6_aim_83 : decode cX6_aim 83 = .ok (.iload_n 3, 1) := by decide +kernel
theorem dX6_aim_84 : decode cX6_aim 84 = .ok (.iastore, 1) := by decide +kernel
theorem dX6_aim_85 : decode cX6_aim 85 = .ok (.aload 5, 2) := by decide +kernel
theorem dX6_aim_87 : decode cX6_aim 87 = .ok (.iconst 5, 1) := by decide +kernel
theorem dX6_aim_88 : decode cX6_aim 88 = .ok (.aload_n 0, 1) := by decide +kernel
theorem dX6_aim_89 : decode cX6_aim 89 = .ok (.getfield 38, 3) := by decide +kernel
theorem dX6_aim_92 : decode cX6_aim 92 = .ok (.iload_n 2, 1) := by decide +kernel
theorem dX6_aim_93 : decode cX6_aim 93 = .ok (.iconst 1, 1) := by decide +kernel
theorem dX6_aim_94 : decode cX6_aim 94 = .ok (.isub, 1) := by decide +kernel
theorem dX6_aim_95 : decode cX6_aim 95 = .ok (.iaload, 1) := by decide +kernel
theorem dX6_aim_96 : decode cX6_aim 96 = .ok (.iastore, 1) := by decide +kernel
theorem dX6_aim_97 : decode cX6_aim 97 = .ok (.aload 5, 2) := by decide +kernel
theorem dX6_aim_99 : decode cX6_aim 99 = .ok (.bipush 6, 2) := by decide +kernel
theorem dX6_aim_101 : decode cX6_aim 101 = .ok (.iload_n 2, 1) := by decide +kernel
theorem dX6_aim_102 : decode cX6_aim 102 = .ok (.iastore, 1) := by decide +kernel
theorem dX6_aim_103 : decode cX6_aim 103 = .ok (.aload 5, 2) := by decide +kernel
theorem dX6_aim_105 : decode cX6_aim 105 = .ok (.bipush 7, 2) := by decide +kernel
theorem dX6_aim_107 : decode cX6_aim 107 = .ok (.aload_n 0, 1) := by decide +kernel
theorem dX6_aim_108 : decode cX6_aim 108 = .ok (.getfield 34, 3) := by decide +kernel
theorem dX6_aim_111 : decode cX6_aim 111 = .ok (.iload_n 2, 1) := by decide +kernel
theorem dX6_aim_112 : decode cX6_aim 112 = .ok (.baload, 1) := by decide +kernel
theorem dX6_aim_113 : decode cX6_aim 113 = .ok (.ifCond .eq 7, 3) := by decide +kernel
theorem dX6_aim_116 : decode cX6_aim 116 = .ok (.iconst 1, 1) := by decide +kernel
theorem dX6_aim_117 : decode cX6_aim 117 = .ok (.goto 4, 3) := by decide +kernel
theorem dX6_aim_120 : decode cX6_aim 120 = .ok (.iconst 0, 1) := by decide +kernel
theorem dX6_aim_121 : decode cX6_aim 121 = .ok (.iastore, 1) := by decide +kernel
theorem dX6_aim_122 : decode cX6_aim 122 = .ok (.aload_n 1, 1) := by decide +kernel
theorem dX6_aim_123 : decode cX6_aim 123 = .ok (.getfield 95, 3) := by decide +kernel
theorem dX6_aim_126 : decode cX6_aim 126 = .ok (.iconst 2, 1) := by decide +kernel
theorem dX6_aim_127 : decode cX6_aim 127 = .ok (.aload_n 0, 1) := by decide +kernel
theorem dX6_aim_128 : decode cX6_aim 128 = .ok (.getfield 9, 3) := by decide +kernel
theorem dX6_aim_131 : decode cX6_aim 131 = .ok (.iconst 4, 1) := by decide +kernel
theorem dX6_aim_132 : decode cX6_aim 132 = .ok (.iaload, 1) := by decide +kernel
theorem dX6_aim_133 : decode cX6_aim 133 = .ok (.iadd, 1) := by decide +kernel
theorem dX6_aim_134 : decode cX6_aim 134 = .ok (.invokevirtual 104, 3) := by decide +kernel
theorem dX6_aim_137 : decode cX6_aim 137 = .ok (.iconst 0, 1) := by decide +kernel
theorem dX6_aim_138 : decode cX6_aim 138 = .ok (.sipush 999, 3) := by decide +kernel
theorem dX6_aim_141 : decode cX6_aim 141 = .ok (.invokestatic 91, 3) := by decide +kernel
theorem dX6_aim_144 : decode cX6_aim 144 = .ok (.ireturn, 1) := by decide +kernel
def f_Tr_aim_49_7_J121 (y1 : Int32) (y2 : Int32) (σ : xS) : Option (Int32 × xS) :=
  if y1 < 0 ∨ 8 ≤ y1.toNatClampNeg then none else
  let σ1 := x_pI σ 18 y1.toNatClampNeg y2
  (f_Ru_worth_13 ((2 : Int32) + σ1.1 50 4) σ1).bind fun q2 =>
  (f_RH_within q2.1 (0 : Int32) (999 : Int32) q2.2).bind fun q3 =>
  some (q3.1, q3.2)
def f_Tr_aim_49_7 (v2 : Int32) (σ : xS) : Option (Int32 × xS) :=
  if v2 < (1 : Int32) then
    some ((0 : Int32), σ)
  else
    if v2 ≤ (600 : Int32) then
      if (v2 - (1 : Int32)) < 0 ∨ 601 ≤ (v2 - (1 : Int32)).toNatClampNeg then none else
      let w4 := σ.1 51 (v2 - (1 : Int32)).toNatClampNeg
      if v2 < 0 ∨ 601 ≤ v2.toNatClampNeg then none else
      if v2 < 0 ∨ 601 ≤ v2.toNatClampNeg then none else
      (f_RH_within (σ.1 51 v2.toNatClampNeg + (σ.1 49 4 * (σ.1 51 v2.toNatClampNeg - w4))) (0 : Int32) (999 : Int32) σ).bind fun q5 =>
      let w6 := q5.1
      if q5.2.1 50 4 = (-1 : Int32) then
        some (w6, q5.2)
      else
        let σ7 := x_pI q5.2 18 3 w6
        let σ8 := x_pI σ7 18 4 w4
        if (v2 - (1 : Int32)) < 0 ∨ 601 ≤ (v2 - (1 : Int32)).toNatClampNeg then none else
        let σ9 := x_pI σ8 18 5 (σ8.1 53 (v2 - (1 : Int32)).toNatClampNeg)
        let σ10 := x_pI σ9 18 6 v2
        if v2 < 0 ∨ 601 ≤ v2.toNatClampNeg then none else
        if σ10.1 52 v2.toNatClampNeg = 0 then
          f_Tr_aim_49_7_J121 (7 : Int32) (0 : Int32) σ10
        else
          f_Tr_aim_49_7_J121 (7 : Int32) (1 : Int32) σ10
    else
      some ((0 : Int32), σ)
set_option maxHeartbeats 4000000 in
set_option maxRecDepth 100000 in
theorem j_Tr_aim_49_7_J121 {l : Launch} {s0 : State} {a0 : Array Value} {D : va_G} {cA : Nat → ClassId} {sp : Nat → Nat} (E : x_En CL l s0 a0 D cA sp) (y1 : Int32) (y2 : Int32) (σ : xS) {r : Int32} {σ1 : xS} (h : f_Tr_aim_49_7_J121 y1 y2 σ = some (r, σ1)) : zW l s0 D cA sp (zQ s0 D cA sp (some (.int r)) σ1) (x_rm 2 0 0) M_Tr_aim 0 0 121 [some (.ref 49), some (.ref 7), none, none, none, none] [.int y2, .int y1, .ref 18] σ := by
  unfold f_Tr_aim_49_7_J121 at h
  try dsimp only at h
  obtain ⟨hz, h⟩ := x_ifn h
  refine x_iast E dX6_aim_121 sh_18 _ rfl hz 122 rfl ?_
  refine x_aload_n 123 rfl 1 dX6_aim_122 rfl rfl ?_
  refine x_getR E dX6_aim_123 F_RX6_95 sh_7 rf_7_11 126 rfl ?_
  refine x_iconst 127 rfl (v := 2) dX6_aim_126 (by decide) ?_
  refine x_aload_n 128 rfl 0 dX6_aim_127 rfl rfl ?_
  refine x_getR E dX6_aim_128 F_RX6_9 sh_49 rf_49_0 131 rfl ?_
  refine x_iconst 132 rfl (v := 4) dX6_aim_131 (by decide) ?_
  refine x_iald E dX6_aim_132 sh_50 4 (by decide) (by decide) 133 rfl ?_
  refine x_iadd 134 rfl dX6_aim_133 ?_
  obtain ⟨⟨q2r, q2s⟩, q2h, h⟩ := x_bind h
  try dsimp only at h
  refine z_callV E [.int _] [] dX6_aim_134 K_RX6_104 ⟨Nat.le_of_ble_eq_true rfl, Nat.le_of_ble_eq_true rfl⟩ sh_13 (by decide) rfl (c_Ru_worth_13 E _ q2h) rfl rfl (Nat.le_of_ble_eq_true rfl) 137 rfl [.int _] rfl ?_
  refine x_iconst 138 rfl (v := 0) dX6_aim_137 (by decide) ?_
  refine x_sipush 141 rfl (v := 999) dX6_aim_138 (by decide) ?_
  obtain ⟨⟨q3r, q3s⟩, q3h, h⟩ := x_bind h
  try dsimp only at h
  refine z_callT E [.int _, .int _, .int _] [] dX6_aim_141 K_RX6_91 ⟨Nat.le_of_ble_eq_true rfl, Nat.le_of_ble_eq_true rfl⟩ (c_RH_within E _ _ _ q3h) rfl rfl (Nat.le_of_ble_eq_true rfl) 144 rfl [.int _] rfl ?_
  cases h
  exact x_iret dX6_aim_144 rfl rfl rfl
set_option maxHeartbeats 4000000 in
set_option maxRecDepth 100000 in
theorem c_Tr_aim_49_7 {l : Launch} {s0 : State} {a0 : Array Value} {D : va_G} {cA : Nat → ClassId} {sp : Nat → Nat} (E : x_En CL l s0 a0 D cA sp) (v2 : Int32) {σ : xS} {r : Int32} {σ1 : xS} (h : f_Tr_aim_49_7 v2 σ = some (r, σ1)) : zC l s0 D cA sp 2 M_Tr_aim [.ref 49, .ref 7, .int v2] σ (some (.int r)) σ1 := by
  unfold f_Tr_aim_49_7 at h
  try dsimp only at h
  refine x_enter [some (.ref 49), some (.ref 7), some (.int v2), none, none, none] rfl (Nat.le_of_ble_eq_true rfl) (by decide +kernel) rfl ?_
  refine x_iload_n 1 rfl 2 dX6_aim_0 rfl rfl ?_
  refine x_iconst 2 rfl (v := 1) dX6_aim_1 (by decide) ?_
  refine x_icmp_lt 5 rfl 12 dX6_aim_2 (by decide) (fun hc => ?_) (fun hc => ?_)
  · replace h := x_ifT hc h
    refine x_iconst 13 rfl (v := 0) dX6_aim_12 (by decide) ?_
    cases h
    exact x_iret dX6_aim_13 rfl rfl rfl
  · replace h := x_ifF hc h
    refine x_iload_n 6 rfl 2 dX6_aim_5 rfl rfl ?_
    refine x_sipush 9 rfl (v := 600) dX6_aim_6 (by decide) ?_
    refine x_icmp_le 12 rfl 14 dX6_aim_9 (by decide) (fun hc => ?_) (fun hc => ?_)
    · replace h := x_ifT hc h
      refine x_aload_n 15 rfl 0 dX6_aim_14 rfl rfl ?_
      refine x_getR E dX6_aim_15 F_RX6_31 sh_49 rf_49_6 18 rfl ?_
      refine x_iload_n 19 rfl 2 dX6_aim_18 rfl rfl ?_
      refine x_iconst 20 rfl (v := 1) dX6_aim_19 (by decide) ?_
      refine x_isub 21 rfl dX6_aim_20 ?_
      obtain ⟨hz, h⟩ := x_ifn h
      refine x_iald E dX6_aim_21 sh_51 _ rfl hz 22 rfl ?_
      refine x_istore_n 23 rfl 3 dX6_aim_22 rfl (by decide) [some (.ref 49), some (.ref 7), some (.int _), some (.int _), none, none] rfl ?_
      refine x_aload_n 24 rfl 0 dX6_aim_23 rfl rfl ?_
      refine x_getR E dX6_aim_24 F_RX6_31 sh_49 rf_49_6 27 rfl ?_
      refine x_iload_n 28 rfl 2 dX6_aim_27 rfl rfl ?_
      obtain ⟨hz, h⟩ := x_ifn h
      refine x_iald E dX6_aim_28 sh_51 _ rfl hz 29 rfl ?_
      refine x_aload_n 30 rfl 0 dX6_aim_29 rfl rfl ?_
      refine x_getI E dX6_aim_30 F_RX6_25 sh_49 33 rfl ?_
      refine x_aload_n 34 rfl 0 dX6_aim_33 rfl rfl ?_
      refine x_getR E dX6_aim_34 F_RX6_31 sh_49 rf_49_6 37 rfl ?_
      refine x_iload_n 38 rfl 2 dX6_aim_37 rfl rfl ?_
      obtain ⟨hz, h⟩ := x_ifn h
      refine x_iald E dX6_aim_38 sh_51 _ rfl hz 39 rfl ?_
      refine x_iload_n 40 rfl 3 dX6_aim_39 rfl rfl ?_
      refine x_isub 41 rfl dX6_aim_40 ?_
      refine x_imul 42 rfl dX6_aim_41 ?_
      refine x_iadd 43 rfl dX6_aim_42 ?_
      refine x_iconst 44 rfl (v := 0) dX6_aim_43 (by decide) ?_
      refine x_sipush 47 rfl (v := 999) dX6_aim_44 (by decide) ?_
      obtain ⟨⟨q5r, q5s⟩, q5h, h⟩ := x_bind h
      try dsimp only at h
      refine z_callT E [.int _, .int _, .int _] [] dX6_aim_47 K_RX6_91 ⟨Nat.le_of_ble_eq_true rfl, Nat.le_of_ble_eq_true rfl⟩ (c_RH_within E _ _ _ q5h) rfl rfl (Nat.le_of_ble_eq_true rfl) 50 rfl [.int _] rfl ?_
      refine x_istore 52 rfl dX6_aim_50 (by decide) [some (.ref 49), some (.ref 7), some (.int _), some (.int _), some (.int _), none] rfl ?_
      refine x_aload_n 53 rfl 0 dX6_aim_52 rfl rfl ?_
      refine x_getR E dX6_aim_53 F_RX6_9 sh_49 rf_49_0 56 rfl ?_
      refine x_iconst 57 rfl (v := 4) dX6_aim_56 (by decide) ?_
      refine x_iald E dX6_aim_57 sh_50 4 (by decide) (by decide) 58 rfl ?_
      refine x_iconst 59 rfl (v := -1) dX6_aim_58 (by decide) ?_
      refine x_icmp_ne 62 rfl 65 dX6_aim_59 (by decide) (fun hc => ?_) (fun hc => ?_)
      · replace h := x_ifF hc h
        refine x_aload_n 66 rfl 1 dX6_aim_65 rfl rfl ?_
        refine x_getR E dX6_aim_66 F_RX6_95 sh_7 rf_7_11 69 rfl ?_
        refine x_getR E dX6_aim_69 F_RX6_99 sh_13 rf_13_5 72 rfl ?_
        refine x_astore 74 rfl dX6_aim_72 (by decide) [some (.ref 49), some (.ref 7), some (.int _), some (.int _), some (.int _), some (.ref 18)] rfl ?_
        refine x_aload 76 rfl dX6_aim_74 rfl ?_
        refine x_iconst 77 rfl (v := 3) dX6_aim_76 (by decide) ?_
        refine x_iload 79 rfl dX6_aim_77 rfl ?_
        refine x_iast E dX6_aim_79 sh_18 3 (by decide) (by decide) 80 rfl ?_
        refine x_aload 82 rfl dX6_aim_80 rfl ?_
        refine x_iconst 83 rfl (v := 4) dX6_aim_82 (by decide) ?_
        refine x_iload_n 84 rfl 3 dX6_aim_83 rfl rfl ?_
        refine x_iast E dX6_aim_84 sh_18 4 (by decide) (by decide) 85 rfl ?_
        refine x_aload 87 rfl dX6_aim_85 rfl ?_
        refine x_iconst 88 rfl (v := 5) dX6_aim_87 (by decide) ?_
        refine x_aload_n 89 rfl 0 dX6_aim_88 rfl rfl ?_
        refine x_getR E dX6_aim_89 F_RX6_38 sh_49 rf_49_8 92 rfl ?_
        refine x_iload_n 93 rfl 2 dX6_aim_92 rfl rfl ?_
        refine x_iconst 94 rfl (v := 1) dX6_aim_93 (by decide) ?_
        refine x_isub 95 rfl dX6_aim_94 ?_
        obtain ⟨hz, h⟩ := x_ifn h
        refine x_iald E dX6_aim_95 sh_53 _ rfl hz 96 rfl ?_
        refine x_iast E dX6_aim_96 sh_18 5 (by decide) (by decide) 97 rfl ?_
        refine x_aload 99 rfl dX6_aim_97 rfl ?_
        refine x_bipush 101 rfl (v := 6) dX6_aim_99 (by decide) ?_
        refine x_iload_n 102 rfl 2 dX6_aim_101 rfl rfl ?_
        refine x_iast E dX6_aim_102 sh_18 6 (by decide) (by decide) 103 rfl ?_
        refine x_aload 105 rfl dX6_aim_103 rfl ?_
        refine x_bipush 107 rfl (v := 7) dX6_aim_105 (by decide) ?_
        refine x_aload_n 108 rfl 0 dX6_aim_107 rfl rfl ?_
        refine x_getR E dX6_aim_108 F_RX6_34 sh_49 rf_49_7 111 rfl ?_
        refine x_iload_n 112 rfl 2 dX6_aim_111 rfl rfl ?_
        obtain ⟨hz, h⟩ := x_ifn h
        refine x_zald E dX6_aim_112 sh_52 _ rfl hz 113 rfl ?_
        refine x_if_eq 116 rfl 120 dX6_aim_113 (by decide) (fun hc => ?_) (fun hc => ?_)
        · replace h := x_ifT hc h
          refine x_iconst 121 rfl (v := 0) dX6_aim_120 (by decide) ?_
          exact x_wk (x_le_s (x_le_s (x_le_n (x_le_n (x_le_n (x_le_n x_le_0)))))) (j_Tr_aim_49_7_J121 E _ _ _ h)
        · replace h := x_ifF hc h
          refine x_iconst 117 rfl (v := 1) dX6_aim_116 (by decide) ?_
          refine x_goto 121 dX6_aim_117 (by decide) ?_
          exact x_wk (x_le_s (x_le_s (x_le_n (x_le_n (x_le_n (x_le_n x_le_0)))))) (j_Tr_aim_49_7_J121 E _ _ _ h)
      · replace h := x_ifT hc h
        refine x_iload 64 rfl dX6_aim_62 rfl ?_
        cases h
        exact x_iret dX6_aim_64 rfl rfl rfl
    · replace h := x_ifF hc h
      refine x_iconst 13 rfl (v := 0) dX6_aim_12 (by decide) ?_
      cases h
      exact x_iret dX6_aim_13 rfl rfl rfl
abbrev M_Tr_rightIn : xM := (yX6_rightIn, cX6_rightIn, 3, some .int, [])
theorem dX6_rightIn_0 : decode cX6_rightIn 0 = .ok (.aload_n 1, 1) := by decide +kernel
theorem dX6_rightIn_1 : decode cX6_rightIn 1 = .ok (.aload_n 0, 1) := by decide +kernel
theorem dX6_rightIn_2 : decode cX6_rightIn 2 = .ok (.aload_n 1, 1) := by decide +kernel
theorem dX6_rightIn_3 : decode cX6_rightIn 3 = .ok (.iload_n 2, 1) := by decide +kernel
theorem dX6_rightIn_4 : decode cX6_rightIn 4 = .ok (.aload_n 1, 1) := by decide +kernel
theorem dX6_rightIn_5 : decode cX6_rightIn 5 = .ok (.iload_n 2, 1) := by decide +kernel
theorem dX6_rightIn_6 : decode cX6_rightIn 6 = .ok (.iconst 0, 1) := by decide +kernel
theorem dX6_rightIn_7 : decode cX6_rightIn 7 = .ok (.invokevirtual 66, 3) := by decide +kernel
theorem dX6_rightIn_10 : decode cX6_rightIn 10 = .ok (.invokevirtual 69, 3) := by decide +kernel
theorem dX6_rightIn_13 : decode cX6_rightIn 13 = .ok (.invokevirtual 81, 3) := by decide +kernel
theorem dX6_rightIn_16 : decode cX6_rightIn 16 = .ok (.ireturn, 1) := by decide +kernel
def f_Tr_rightIn_49_7 (v2 : Int32) (σ : xS) : Option (Int32 × xS) :=
  (f_Sc_faceIn_7 v2 (0 : Int32) σ).bind fun q1 =>
  (f_Tr_placeIn_49_7 v2 q1.1 q1.2).bind fun q2 =>
  (f_Sc_turnOf_7 q2.1 q2.2).bind fun q3 =>
  some (q3.1, q3.2)
set_option maxHeartbeats 4000000 in
set_option maxRecDepth 100000 in
theorem c_Tr_rightIn_49_7 {l : Launch} {s0 : State} {a0 : Array Value} {D : va_G} {cA : Nat → ClassId} {sp : Nat → Nat} (E : x_En CL l s0 a0 D cA sp) (v2 : Int32) {σ : xS} {r : Int32} {σ1 : xS} (h : f_Tr_rightIn_49_7 v2 σ = some (r, σ1)) : zC l s0 D cA sp 3 M_Tr_rightIn [.ref 49, .ref 7, .int v2] σ (some (.int r)) σ1 := by
  unfold f_Tr_rightIn_49_7 at h
  try dsimp only at h
  refine x_enter [some (.ref 49), some (.ref 7), some (.int v2)] rfl (Nat.le_of_ble_eq_true rfl) (by decide +kernel) rfl ?_
  refine x_aload_n 1 rfl 1 dX6_rightIn_0 rfl rfl ?_
  refine x_aload_n 2 rfl 0 dX6_rightIn_1 rfl rfl ?_
  refine x_aload_n 3 rfl 1 dX6_rightIn_2 rfl rfl ?_
  refine x_iload_n 4 rfl 2 dX6_rightIn_3 rfl rfl ?_
  refine x_aload_n 5 rfl 1 dX6_rightIn_4 rfl rfl ?_
  refine x_iload_n 6 rfl 2 dX6_rightIn_5 rfl rfl ?_
  refine x_iconst 7 rfl (v := 0) dX6_rightIn_6 (by decide) ?_
  obtain ⟨⟨q1r, q1s⟩, q1h, h⟩ := x_bind h
  try dsimp only at h
  refine z_callV E [.int _, .int _] [.int _, .ref 7, .ref 49, .ref 7] dX6_rightIn_7 K_RX6_66 ⟨Nat.le_of_ble_eq_true rfl, Nat.le_of_ble_eq_true rfl⟩ sh_7 (by decide) rfl (c_Sc_faceIn_7 E _ _ q1h) rfl rfl (Nat.le_of_ble_eq_true rfl) 10 rfl [.int _, .int _, .ref 7, .ref 49, .ref 7] rfl ?_
  obtain ⟨⟨q2r, q2s⟩, q2h, h⟩ := x_bind h
  try dsimp only at h
  refine z_callV E [.ref 7, .int _, .int _] [.ref 7] dX6_rightIn_10 K_RX6_69 ⟨Nat.le_of_ble_eq_true rfl, Nat.le_of_ble_eq_true rfl⟩ sh_49 (by decide) rfl (c_Tr_placeIn_49_7 E _ _ q2h) rfl rfl (Nat.le_of_ble_eq_true rfl) 13 rfl [.int _, .ref 7] rfl ?_
  obtain ⟨⟨q3r, q3s⟩, q3h, h⟩ := x_bind h
  try dsimp only at h
  refine z_callV E [.int _] [] dX6_rightIn_13 K_RX6_81 ⟨Nat.le_of_ble_eq_true rfl, Nat.le_of_ble_eq_true rfl⟩ sh_7 (by decide) rfl (c_Sc_turnOf_7 E _ q3h) rfl rfl (Nat.le_of_ble_eq_true rfl) 16 rfl [.int _] rfl ?_
  cases h
  exact x_iret dX6_rightIn_16 rfl rfl rfl
