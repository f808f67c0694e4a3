/-! The reference's methods: functions and contracts. Written by wip/gen/emit.py. -/
abbrev M_Mo_wrists : xM := (yX9_wrists, cX9_wrists, 5, some .int, [])
theorem dX9_wrists_0 : decode cX9_wrists 0 = .ok (.aload_n 0, 1) := by decide +kernel
theorem dX9_wrists_1 : decode cX9_wrists 1 = .ok (.iconst 0, 1) := by decide +kernel
theorem dX9_wrists_2 : decode cX9_wrists 2 = .ok (.putfield 132, 3) := by decide +kernel
theorem dX9_wrists_5 : decode cX9_wrists 5 = .ok (.iconst 0, 1) := by decide +kernel
theorem dX9_wrists_6 : decode cX9_wrists 6 = .ok (.istore_n 1, 1) := by decide +kernel
theorem dX9_wrists_7 : decode cX9_wrists 7 = .ok (.iconst (-1), 1) := by decide +kernel
theorem dX9_wrists_8 : decode cX9_wrists 8 = .ok (.istore_n 2, 1) := by decide +kernel
theorem dX9_wrists_9 : decode cX9_wrists 9 = .ok (.iconst 1, 1) := by decide +kernel
theorem dX9_wrists_10 : decode cX9_wrists 10 = .ok (.istore_n 3, 1) := by decide +kernel
theorem dX9_wrists_11 : decode cX9_wrists 11 = .ok (.iload_n 3, 1) := by decide +kernel
theorem dX9_wrists_12 : decode cX9_wrists 12 = .ok (.bipush 90, 2) := by decide +kernel
theorem dX9_wrists_14 : decode cX9_wrists 14 = .ok (.if_icmp .gt 31, 3) := by decide +kernel
theorem dX9_wrists_17 : decode cX9_wrists 17 = .ok (.aload_n 0, 1) := by decide +kernel
theorem dX9_wrists_18 : decode cX9_wrists 18 = .ok (.iconst 2, 1) := by decide +kernel
theorem dX9_wrists_19 : decode cX9_wrists 19 = .ok (.iload_n 3, 1) := by decide +kernel
theorem dX9_wrists_20 : decode cX9_wrists 20 = .ok (.invokevirtual 460, 3) := by decide +kernel
theorem dX9_wrists_23 : decode cX9_wrists 23 = .ok (.istore 4, 2) := by decide +kernel
theorem dX9_wrists_25 : decode cX9_wrists 25 = .ok (.iload 4, 2) := by decide +kernel
theorem dX9_wrists_27 : decode cX9_wrists 27 = .ok (.iload_n 2, 1) := by decide +kernel
theorem dX9_wrists_28 : decode cX9_wrists 28 = .ok (.if_icmp .gt 6, 3) := by decide +kernel
theorem dX9_wrists_31 : decode cX9_wrists 31 = .ok (.goto 8, 3) := by decide +kernel
theorem dX9_wrists_34 : decode cX9_wrists 34 = .ok (.iload_n 3, 1) := by decide +kernel
theorem dX9_wrists_35 : decode cX9_wrists 35 = .ok (.istore_n 1, 1) := by decide +kernel
theorem dX9_wrists_36 : decode cX9_wrists 36 = .ok (.iload 4, 2) := by decide +kernel
theorem dX9_wrists_38 : decode cX9_wrists 38 = .ok (.istore_n 2, 1) := by decide +kernel
theorem dX9_wrists_39 : decode cX9_wrists 39 = .ok (.iinc 3 1, 3) := by decide +kernel
theorem dX9_wrists_42 : decode cX9_wrists 42 = .ok (.goto (-31), 3) := by decide +kernel
theorem dX9_wrists_45 : decode cX9_wrists 45 = .ok (.iload_n 1, 1) := by decide +kernel
theorem dX9_wrists_46 : decode cX9_wrists 46 = .ok (.ireturn, 1) := by decide +kernel
def f_Mo_wrists_60_L11  (a : Int32 × Int32 × Int32 × xS) : Option ((Int32 × Int32 × Int32 × xS) ⊕ (Int32 × Int32 × Int32 × xS)) :=
  let v1 := a.1; let v2 := a.2.1; let v3 := a.2.2.1; let σ := a.2.2.2;
  if (90 : Int32) < v3 then
    some (.inl (v1, v2, v3, σ))
  else
    (f_Mo_sharpWith_60 (2 : Int32) v3 σ).bind fun q1 =>
    let w2 := q1.1
    if v2 < w2 then
      let w3 := v3 + (1 : Int32)
      some (.inr (v3, w2, w3, q1.2))
    else
      let w4 := v3 + (1 : Int32)
      some (.inr (v1, v2, w4, q1.2))
def f_Mo_wrists_60  (σ : xS) : Option (Int32 × xS) :=
  let σ5 := x_pI σ 60 0 (0 : Int32)
  (x_it (f_Mo_wrists_60_L11 ) 10000 ((0 : Int32), (-1 : Int32), (1 : Int32), σ5)).bind fun b6 =>
  some (b6.1, b6.2.2.2)
set_option maxHeartbeats 4000000 in
set_option maxRecDepth 100000 in
theorem b_Mo_wrists_60_L11 {l : Launch} {s0 : State} {a0 : Array Value} {D : va_G} {cA : Nat → ClassId} {sp : Nat → Nat} (E : x_En CL l s0 a0 D cA sp)  {r : Int32} {σ1 : xS} (a : Int32 × Int32 × Int32 × xS) (o : (Int32 × Int32 × Int32 × xS) ⊕ (Int32 × Int32 × Int32 × xS)) (h : f_Mo_wrists_60_L11  a = some o) (hK : ∀ b, o = .inl b → zW l s0 D cA sp (zQ s0 D cA sp (some (.int r)) σ1) (x_rm 7 0 0) M_Mo_wrists 0 0 45 [none, some (.int b.1), none, none, none] [] b.2.2.2) (hG : ∀ a', o = .inr a' → zW l s0 D cA sp (zQ s0 D cA sp (some (.int r)) σ1) (x_rm 7 0 0) M_Mo_wrists 0 0 11 [some (.ref 60), some (.int a'.1), some (.int a'.2.1), some (.int a'.2.2.1), none] [] a'.2.2.2) : zW l s0 D cA sp (zQ s0 D cA sp (some (.int r)) σ1) (x_rm 7 0 0) M_Mo_wrists 0 0 11 [some (.ref 60), some (.int a.1), some (.int a.2.1), some (.int a.2.2.1), none] [] a.2.2.2 := by
  obtain ⟨v1, v2, v3, σ⟩ := a
  unfold f_Mo_wrists_60_L11 at h
  try dsimp only at h ⊢
  refine x_iload_n 12 rfl 3 dX9_wrists_11 rfl rfl ?_
  refine x_bipush 14 rfl (v := 90) dX9_wrists_12 (by decide) ?_
  refine x_icmp_gt 17 rfl 45 dX9_wrists_14 (by decide) (fun hc => ?_) (fun hc => ?_)
  · replace h := x_ifT hc h
    cases h
    exact x_wk (x_le_n (x_le_s (x_le_n (x_le_n (x_le_n x_le_0))))) (hK (_, _, _, _) rfl)
  · replace h := x_ifF hc h
    refine x_aload_n 18 rfl 0 dX9_wrists_17 rfl rfl ?_
    refine x_iconst 19 rfl (v := 2) dX9_wrists_18 (by decide) ?_
    refine x_iload_n 20 rfl 3 dX9_wrists_19 rfl rfl ?_
    obtain ⟨⟨q1r, q1s⟩, q1h, h⟩ := x_bind h
    try dsimp only at h
    refine z_callV E [.int _, .int _] [] dX9_wrists_20 K_RX9_460 ⟨Nat.le_of_ble_eq_true rfl, Nat.le_of_ble_eq_true rfl⟩ sh_60 (by decide) rfl (c_Mo_sharpWith_60 E _ _ q1h) rfl rfl (Nat.le_of_ble_eq_true rfl) 23 rfl [.int _] rfl ?_
    refine x_istore 25 rfl dX9_wrists_23 (by decide) [some (.ref 60), some (.int _), some (.int _), some (.int _), some (.int _)] rfl ?_
    refine x_iload 27 rfl dX9_wrists_25 rfl ?_
    refine x_iload_n 28 rfl 2 dX9_wrists_27 rfl rfl ?_
    refine x_icmp_gt 31 rfl 34 dX9_wrists_28 (by decide) (fun hc => ?_) (fun hc => ?_)
    · replace h := x_ifT hc h
      refine x_iload_n 35 rfl 3 dX9_wrists_34 rfl rfl ?_
      refine x_istore_n 36 rfl 1 dX9_wrists_35 rfl (by decide) [some (.ref 60), some (.int _), some (.int _), some (.int _), some (.int _)] rfl ?_
      refine x_iload 38 rfl dX9_wrists_36 rfl ?_
      refine x_istore_n 39 rfl 2 dX9_wrists_38 rfl (by decide) [some (.ref 60), some (.int _), some (.int _), some (.int _), some (.int _)] rfl ?_
      refine x_iinc 42 rfl (1) dX9_wrists_39 rfl (by decide) (by decide) [some (.ref 60), some (.int _), some (.int _), some (.int _), some (.int _)] rfl ?_
      refine x_goto 11 dX9_wrists_42 (by decide) ?_
      cases h
      exact x_wk (x_le_s (x_le_s (x_le_s (x_le_s (x_le_n x_le_0))))) (hG (_, _, _, _) rfl)
    · replace h := x_ifF hc h
      refine x_goto 39 dX9_wrists_31 (by decide) ?_
      refine x_iinc 42 rfl (1) dX9_wrists_39 rfl (by decide) (by decide) [some (.ref 60), some (.int _), some (.int _), some (.int _), some (.int _)] rfl ?_
      refine x_goto 11 dX9_wrists_42 (by decide) ?_
      cases h
      exact x_wk (x_le_s (x_le_s (x_le_s (x_le_s (x_le_n x_le_0))))) (hG (_, _, _, _) rfl)
set_option maxHeartbeats 4000000 in
set_option maxRecDepth 100000 in
theorem c_Mo_wrists_60 {l : Launch} {s0 : State} {a0 : Array Value} {D : va_G} {cA : Nat → ClassId} {sp : Nat → Nat} (E : x_En CL l s0 a0 D cA sp)  {σ : xS} {r : Int32} {σ1 : xS} (h : f_Mo_wrists_60  σ = some (r, σ1)) : zC l s0 D cA sp 7 M_Mo_wrists [.ref 60] σ (some (.int r)) σ1 := by
  unfold f_Mo_wrists_60 at h
  try dsimp only at h
  refine x_enter [some (.ref 60), none, none, none, none] rfl (Nat.le_of_ble_eq_true rfl) (by decide +kernel) rfl ?_
  refine x_aload_n 1 rfl 0 dX9_wrists_0 rfl rfl ?_
  refine x_iconst 2 rfl (v := 0) dX9_wrists_1 (by decide) ?_
  refine x_putI E dX9_wrists_2 F_RX9_132 sh_60 5 rfl ?_
  refine x_iconst 6 rfl (v := 0) dX9_wrists_5 (by decide) ?_
  refine x_istore_n 7 rfl 1 dX9_wrists_6 rfl (by decide) [some (.ref 60), some (.int _), none, none, none] rfl ?_
  refine x_iconst 8 rfl (v := -1) dX9_wrists_7 (by decide) ?_
  refine x_istore_n 9 rfl 2 dX9_wrists_8 rfl (by decide) [some (.ref 60), some (.int _), some (.int _), none, none] rfl ?_
  refine x_iconst 10 rfl (v := 1) dX9_wrists_9 (by decide) ?_
  refine x_istore_n 11 rfl 3 dX9_wrists_10 rfl (by decide) [some (.ref 60), some (.int _), some (.int _), some (.int _), none] rfl ?_
  obtain ⟨b6, b6h, h⟩ := x_bind h
  try dsimp only at h
  refine x_wk (x_le_s (x_le_s (x_le_s (x_le_s (x_le_n x_le_0))))) (x_loop (fun a o h hK hG => b_Mo_wrists_60_L11 (r := r) (σ1 := σ1) E  a o h hK hG) _ _ _ b6h ?_)
  refine x_iload_n 46 rfl 1 dX9_wrists_45 rfl rfl ?_
  cases h
  exact x_iret dX9_wrists_46 rfl rfl rfl
abbrev M_Mo_learn : xM := (yX9_learn, cX9_learn, 6, some .int, [])
theorem dX9_learn_0 : decode cX9_learn 0 = .ok (.aload_n 0, 1) := by decide +kernel
theorem dX9_learn_1 : decode cX9_learn 1 = .ok (.iconst 0, 1) := by decide +kernel
theorem dX9_learn_2 : decode cX9_learn 2 = .ok (.putfield 132, 3) := by decide +kernel
theorem dX9_learn_5 : decode cX9_learn 5 = .ok (.aload_n 0, 1) := by decide +kernel
theorem dX9_learn_6 : decode cX9_learn 6 = .ok (.getfield 78, 3) := by decide +kernel
theorem dX9_learn_9 : decode cX9_learn 9 = .ok (.iconst 3, 1) := by decide +kernel
theorem dX9_learn_10 : decode cX9_learn 10 = .ok (.iaload, 1) := by decide +kernel
theorem dX9_learn_11 : decode cX9_learn 11 = .ok (.istore_n 1, 1) := by decide +kernel
theorem dX9_learn_12 : decode cX9_learn 12 = .ok (.iconst 0, 1) := by decide +kernel
theorem dX9_learn_13 : decode cX9_learn 13 = .ok (.istore_n 2, 1) := by decide +kernel
theorem dX9_learn_14 : decode cX9_learn 14 = .ok (.iconst (-1), 1) := by decide +kernel
theorem dX9_learn_15 : decode cX9_learn 15 = .ok (.istore_n 3, 1) := by decide +kernel
theorem dX9_learn_16 : decode cX9_learn 16 = .ok (.iconst 0, 1) := by decide +kernel
theorem dX9_learn_17 : decode cX9_learn 17 = .ok (.istore 4, 2) := by decide +kernel
theorem dX9_learn_19 : decode cX9_learn 19 = .ok (.iload 4, 2) := by decide +kernel
theorem dX9_learn_21 : decode cX9_learn 21 = .ok (.iload_n 1, 1) := by decide +kernel
theorem dX9_learn_22 : decode cX9_learn 22 = .ok (.iconst 0, 1) := by decide +kernel
theorem dX9_learn_23 : decode cX9_learn 23 = .ok (.invokestatic 372, 3) := by decide +kernel
theorem dX9_learn_26 : decode cX9_learn 26 = .ok (.if_icmp .gt 46, 3) := by decide +kernel
theorem dX9_learn_29 : decode cX9_learn 29 = .ok (.aload_n 0, 1) := by decide +kernel
theorem dX9_learn_30 : decode cX9_learn 30 = .ok (.iconst 3, 1) := by decide +kernel
theorem dX9_learn_31 : decode cX9_learn 31 = .ok (.iload_n 1, 1) := by decide +kernel
theorem dX9_learn_32 : decode cX9_learn 32 = .ok (.ifCond .le 10, 3) := by decide +kernel
theorem dX9_learn_35 : decode cX9_learn 35 = .ok (.iload_n 1, 1) := by decide +kernel
theorem dX9_learn_36 : decode cX9_learn 36 = .ok (.iload 4, 2) := by decide +kernel
theorem dX9_learn_38 : decode cX9_learn 38 = .ok (.isub, 1) := by decide +kernel
theorem dX9_learn_39 : decode cX9_learn 39 = .ok (.goto 7, 3) := by decide +kernel
theorem dX9_learn_42 : decode cX9_learn 42 = .ok (.iload_n 1, 1) := by decide +kernel
theorem dX9_learn_43 : decode cX9_learn 43 = .ok (.iload 4, 2) := by decide +kernel
theorem dX9_learn_45 : decode cX9_learn 45 = .ok (.iadd, 1) := by decide +kernel
theorem dX9_learn_46 : decode cX9_learn 46 = .ok (.invokevirtual 460, 3) := by decide +kernel
theorem dX9_learn_49 : decode cX9_learn 49 = .ok (.istore 5, 2) := by decide +kernel
theorem dX9_learn_51 : decode cX9_learn 51 = .ok (.iload 5, 2) := by decide +kernel
theorem dX9_learn_53 : decode cX9_learn 53 = .ok (.iload_n 3, 1) := by decide +kernel
theorem dX9_learn_54 : decode cX9_learn 54 = .ok (.if_icmp .gt 6, 3) := by decide +kernel
theorem dX9_learn_57 : decode cX9_learn 57 = .ok (.goto 9, 3) := by decide +kernel
theorem dX9_learn_60 : decode cX9_learn 60 = .ok (.iload 4, 2) := by decide +kernel
theorem dX9_learn_62 : decode cX9_learn 62 = .ok (.istore_n 2, 1) := by decide +kernel
theorem dX9_learn_63 : decode cX9_learn 63 = .ok (.iload 5, 2) := by decide +kernel
theorem dX9_learn_65 : decode cX9_learn 65 = .ok (.istore_n 3, 1) := by decide +kernel
theorem dX9_learn_66 : decode cX9_learn 66 = .ok (.iinc 4 1, 3) := by decide +kernel
theorem dX9_learn_69 : decode cX9_learn 69 = .ok (.goto (-50), 3) := by decide +kernel
theorem dX9_learn_72 : decode cX9_learn 72 = .ok (.iload_n 2, 1) := by decide +kernel
theorem dX9_learn_73 : decode cX9_learn 73 = .ok (.ireturn, 1) := by decide +kernel
def f_Mo_learn_60_J46 (v1 : Int32) (v2 : Int32) (v3 : Int32) (v4 : Int32) (y1 : Int32) (y2 : Int32) (σ : xS) : Option ((Int32 × Int32 × Int32 × xS) ⊕ (Int32 × Int32 × Int32 × xS)) :=
  (f_Mo_sharpWith_60 y1 y2 σ).bind fun q1 =>
  let w2 := q1.1
  if v3 < w2 then
    let w3 := v4 + (1 : Int32)
    some (.inr (v4, w2, w3, q1.2))
  else
    let w4 := v4 + (1 : Int32)
    some (.inr (v2, v3, w4, q1.2))
def f_Mo_learn_60_L19 (v1 : Int32) (a : Int32 × Int32 × Int32 × xS) : Option ((Int32 × Int32 × Int32 × xS) ⊕ (Int32 × Int32 × Int32 × xS)) :=
  let v2 := a.1; let v3 := a.2.1; let v4 := a.2.2.1; let σ := a.2.2.2;
  (f_Mo_off v1 (0 : Int32) σ).bind fun q5 =>
  if q5.1 < v4 then
    some (.inl (v2, v3, v4, q5.2))
  else
    if v1 ≤ 0 then
      f_Mo_learn_60_J46 v1 v2 v3 v4 (3 : Int32) (v1 + v4) q5.2
    else
      f_Mo_learn_60_J46 v1 v2 v3 v4 (3 : Int32) (v1 - v4) q5.2
def f_Mo_learn_60  (σ : xS) : Option (Int32 × xS) :=
  let σ6 := x_pI σ 60 0 (0 : Int32)
  let w7 := σ6.1 79 3
  (x_it (f_Mo_learn_60_L19 w7) 10000 ((0 : Int32), (-1 : Int32), (0 : Int32), σ6)).bind fun b8 =>
  some (b8.1, b8.2.2.2)
set_option maxHeartbeats 4000000 in
set_option maxRecDepth 100000 in
theorem j_Mo_learn_60_J46 {l : Launch} {s0 : State} {a0 : Array Value} {D : va_G} {cA : Nat → ClassId} {sp : Nat → Nat} (E : x_En CL l s0 a0 D cA sp) (v1 : Int32) (v2 : Int32) (v3 : Int32) (v4 : Int32) (y1 : Int32) (y2 : Int32)  (σ : xS) {r : Int32} {σ1 : xS} (o : (Int32 × Int32 × Int32 × xS) ⊕ (Int32 × Int32 × Int32 × xS)) (h : f_Mo_learn_60_J46 v1 v2 v3 v4 y1 y2 σ = some o) (hK : ∀ b, o = .inl b → zW l s0 D cA sp (zQ s0 D cA sp (some (.int r)) σ1) (x_rm 7 0 0) M_Mo_learn 0 0 72 [none, none, some (.int b.1), none, none, none] [] b.2.2.2) (hG : ∀ a', o = .inr a' → zW l s0 D cA sp (zQ s0 D cA sp (some (.int r)) σ1) (x_rm 7 0 0) M_Mo_learn 0 0 19 [some (.ref 60), some (.int v1), some (.int a'.1), some (.int a'.2.1), some (.int a'.2.2.1), none] [] a'.2.2.2) : zW l s0 D cA sp (zQ s0 D cA sp (some (.int r)) σ1) (x_rm 7 0 0) M_Mo_learn 0 0 46 [some (.ref 60), some (.int v1), some (.int v2), some (.int v3), some (.int v4), none] [.int y2, .int y1, .ref 60] σ := by
  unfold f_Mo_learn_60_J46 at h
  try dsimp only at h
  obtain ⟨⟨q1r, q1s⟩, q1h, h⟩ := x_bind h
  try dsimp only at h
  refine z_callV E [.int _, .int _] [] dX9_learn_46 K_RX9_460 ⟨Nat.le_of_ble_eq_true rfl, Nat.le_of_ble_eq_true rfl⟩ sh_60 (by decide) rfl (c_Mo_sharpWith_60 E _ _ q1h) rfl rfl (Nat.le_of_ble_eq_true rfl) 49 rfl [.int _] rfl ?_
  refine x_istore 51 rfl dX9_learn_49 (by decide) [some (.ref 60), some (.int _), some (.int _), some (.int _), some (.int _), some (.int _)] rfl ?_
  refine x_iload 53 rfl dX9_learn_51 rfl ?_
  refine x_iload_n 54 rfl 3 dX9_learn_53 rfl rfl ?_
  refine x_icmp_gt 57 rfl 60 dX9_learn_54 (by decide) (fun hc => ?_) (fun hc => ?_)
  · replace h := x_ifT hc h
    refine x_iload 62 rfl dX9_learn_60 rfl ?_
    refine x_istore_n 63 rfl 2 dX9_learn_62 rfl (by decide) [some (.ref 60), some (.int _), some (.int _), some (.int _), some (.int _), some (.int _)] rfl ?_
    refine x_iload 65 rfl dX9_learn_63 rfl ?_
    refine x_istore_n 66 rfl 3 dX9_learn_65 rfl (by decide) [some (.ref 60), some (.int _), some (.int _), some (.int _), some (.int _), some (.int _)] rfl ?_
    refine x_iinc 69 rfl (1) dX9_learn_66 rfl (by decide) (by decide) [some (.ref 60), some (.int _), some (.int _), some (.int _), some (.int _), some (.int _)] rfl ?_
    refine x_goto 19 dX9_learn_69 (by decide) ?_
    cases h
    exact x_wk (x_le_s (x_le_s (x_le_s (x_le_s (x_le_s (x_le_n x_le_0)))))) (hG (_, _, _, _) rfl)
  · replace h := x_ifF hc h
    refine x_goto 66 dX9_learn_57 (by decide) ?_
    refine x_iinc 69 rfl (1) dX9_learn_66 rfl (by decide) (by decide) [some (.ref 60), some (.int _), some (.int _), some (.int _), some (.int _), some (.int _)] rfl ?_
    refine x_goto 19 dX9_learn_69 (by decide) ?_
    cases h
    exact x_wk (x_le_s (x_le_s (x_le_s (x_le_s (x_le_s (x_le_n x_le_0)))))) (hG (_, _, _, _) rfl)
set_option maxHeartbeats 4000000 in
set_option maxRecDepth 100000 in
theorem b_Mo_learn_60_L19 {l : Launch} {s0 : State} {a0 : Array Value} {D : va_G} {cA : Nat → ClassId} {sp : Nat → Nat} (E : x_En CL l s0 a0 D cA sp) (v1 : Int32) {r : Int32} {σ1 : xS} (a : Int32 × Int32 × Int32 × xS) (o : (Int32 × Int32 × Int32 × xS) ⊕ (Int32 × Int32 × Int32 × xS)) (h : f_Mo_learn_60_L19 v1 a = some o) (hK : ∀ b, o = .inl b → zW l s0 D cA sp (zQ s0 D cA sp (some (.int r)) σ1) (x_rm 7 0 0) M_Mo_learn 0 0 72 [none, none, some (.int b.1), none, none, none] [] b.2.2.2) (hG : ∀ a', o = .inr a' → zW l s0 D cA sp (zQ s0 D cA sp (some (.int r)) σ1) (x_rm 7 0 0) M_Mo_learn 0 0 19 [some (.ref 60), some (.int v1), some (.int a'.1), some (.int a'.2.1), some (.int a'.2.2.1), none] [] a'.2.2.2) : zW l s0 D cA sp (zQ s0 D cA sp (some (.int r)) σ1) (x_rm 7 0 0) M_Mo_learn 0 0 19 [some (.ref 60), some (.int v1), some (.int a.1), some (.int a.2.1), some (.int a.2.2.1), none] [] a.2.2.2 := by
  obtain ⟨v2, v3, v4, σ⟩ := a
  unfold f_Mo_learn_60_L19 at h
  try dsimp only at h ⊢
  refine x_iload 21 rfl dX9_learn_19 rfl ?_
  refine x_iload_n 22 rfl 1 dX9_learn_21 rfl rfl ?_
  refine x_iconst 23 rfl (v := 0) dX9_learn_22 (by decide) ?_
  obtain ⟨⟨q5r, q5s⟩, q5h, h⟩ := x_bind h
  try dsimp only at h
  refine z_callS E [.int _, .int _] [.int _] dX9_learn_23 K_RX9_372 ⟨Nat.le_of_ble_eq_true rfl, Nat.le_of_ble_eq_true rfl⟩ (c_Mo_off E _ _ q5h) rfl rfl (Nat.le_of_ble_eq_true rfl) 26 rfl [.int _, .int _] rfl ?_
  refine x_icmp_gt 29 rfl 72 dX9_learn_26 (by decide) (fun hc => ?_) (fun hc => ?_)
  · replace h := x_ifT hc h
    cases h
    exact x_wk (x_le_n (x_le_n (x_le_s (x_le_n (x_le_n (x_le_n x_le_0)))))) (hK (_, _, _, _) rfl)
  · replace h := x_ifF hc h
    refine x_aload_n 30 rfl 0 dX9_learn_29 rfl rfl ?_
    refine x_iconst 31 rfl (v := 3) dX9_learn_30 (by decide) ?_
    refine x_iload_n 32 rfl 1 dX9_learn_31 rfl rfl ?_
    refine x_if_le 35 rfl 42 dX9_learn_32 (by decide) (fun hc => ?_) (fun hc => ?_)
    · replace h := x_ifT hc h
      refine x_iload_n 43 rfl 1 dX9_learn_42 rfl rfl ?_
      refine x_iload 45 rfl dX9_learn_43 rfl ?_
      refine x_iadd 46 rfl dX9_learn_45 ?_
      exact x_wk (x_le_s (x_le_s (x_le_s (x_le_s (x_le_s (x_le_n x_le_0)))))) (j_Mo_learn_60_J46 (r := r) (σ1 := σ1) E _ _ _ _ _ _  _ _ h hK hG)
    · replace h := x_ifF hc h
      refine x_iload_n 36 rfl 1 dX9_learn_35 rfl rfl ?_
      refine x_iload 38 rfl dX9_learn_36 rfl ?_
      refine x_isub 39 rfl dX9_learn_38 ?_
      refine x_goto 46 dX9_learn_39 (by decide) ?_
      exact x_wk (x_le_s (x_le_s (x_le_s (x_le_s (x_le_s (x_le_n x_le_0)))))) (j_Mo_learn_60_J46 (r := r) (σ1 := σ1) E _ _ _ _ _ _  _ _ h hK hG)
set_option maxHeartbeats 4000000 in
set_option maxRecDepth 100000 in
theorem c_Mo_learn_60 {l : Launch} {s0 : State} {a0 : Array Value} {D : va_G} {cA : Nat → ClassId} {sp : Nat → Nat} (E : x_En CL l s0 a0 D cA sp)  {σ : xS} {r : Int32} {σ1 : xS} (h : f_Mo_learn_60  σ = some (r, σ1)) : zC l s0 D cA sp 7 M_Mo_learn [.ref 60] σ (some (.int r)) σ1 := by
  unfold f_Mo_learn_60 at h
  try dsimp only at h
  refine x_enter [some (.ref 60), none, none, none, none, none] rfl (Nat.le_of_ble_eq_true rfl) (by decide +kernel) rfl ?_
  refine x_aload_n 1 rfl 0 dX9_learn_0 rfl rfl ?_
  refine x_iconst 2 rfl (v := 0) dX9_learn_1 (by decide) ?_
  refine x_putI E dX9_learn_2 F_RX9_132 sh_60 5 rfl ?_
  refine x_aload_n 6 rfl 0 dX9_learn_5 rfl rfl ?_
  refine x_getR E dX9_learn_6 F_RX9_78 sh_60 rf_60_53 9 rfl ?_
  refine x_iconst 10 rfl (v := 3) dX9_learn_9 (by decide) ?_
  refine x_iald E dX9_learn_10 sh_79 3 (by decide) (by decide) 11 rfl ?_
  refine x_istore_n 12 rfl 1 dX9_learn_11 rfl (by decide) [some (.ref 60), some (.int _), none, none, none, none] rfl ?_
  refine x_iconst 13 rfl (v := 0) dX9_learn_12 (by decide) ?_
  refine x_istore_n 14 rfl 2 dX9_learn_13 rfl (by decide) [some (.ref 60), some (.int _), some (.int _), none, none, none] rfl ?_
  refine x_iconst 15 rfl (v := -1) dX9_learn_14 (by decide) ?_
  refine x_istore_n 16 rfl 3 dX9_learn_15 rfl (by decide) [some (.ref 60), some (.int _), some (.int _), some (.int _), none, none] rfl ?_
  refine x_iconst 17 rfl (v := 0) dX9_learn_16 (by decide) ?_
  refine x_istore 19 rfl dX9_learn_17 (by decide) [some (.ref 60), some (.int _), some (.int _), some (.int _), some (.int _), none] rfl ?_
  obtain ⟨b8, b8h, h⟩ := x_bind h
  try dsimp only at h
  refine x_wk (x_le_s (x_le_s (x_le_s (x_le_s (x_le_s (x_le_n x_le_0)))))) (x_loop (fun a o h hK hG => b_Mo_learn_60_L19 (r := r) (σ1 := σ1) E _ a o h hK hG) _ _ _ b8h ?_)
  refine x_iload_n 73 rfl 2 dX9_learn_72 rfl rfl ?_
  cases h
  exact x_iret dX9_learn_73 rfl rfl rfl
abbrev M_Mo_shift : xM := (yX9_shift, cX9_shift, 6, some .int, [])
theorem dX9_shift_0 : decode cX9_shift 0 = .ok (.aload_n 0, 1) := by decide +kernel
theorem dX9_shift_1 : decode cX9_shift 1 = .ok (.iconst 0, 1) := by decide +kernel
theorem dX9_shift_2 : decode cX9_shift 2 = .ok (.putfield 132, 3) := by decide +kernel
theorem dX9_shift_5 : decode cX9_shift 5 = .ok (.aload_n 0, 1) := by decide +kernel
theorem dX9_shift_6 : decode cX9_shift 6 = .ok (.iload_n 1, 1) := by decide +kernel
theorem dX9_shift_7 : decode cX9_shift 7 = .ok (.iconst 1, 1) := by decide +kernel
theorem dX9_shift_8 : decode cX9_shift 8 = .ok (.invokevirtual 421, 3) := by decide +kernel
theorem dX9_shift_11 : decode cX9_shift 11 = .ok (.ifCond .ne 5, 3) := by decide +kernel
theorem dX9_shift_14 : decode cX9_shift 14 = .ok (.iconst 0, 1) := by decide +kernel
theorem dX9_shift_15 : decode cX9_shift 15 = .ok (.ireturn, 1) := by decide +kernel
theorem dX9_shift_16 : decode cX9_shift 16 = .ok (.iconst 0, 1) := by decide +kernel
theorem dX9_shift_17 : decode cX9_shift 17 = .ok (.istore_n 2, 1) := by decide +kernel
theorem dX9_shift_18 : decode cX9_shift 18 = .ok (.iconst (-1), 1) := by decide +kernel
theorem dX9_shift_19 : decode cX9_shift 19 = .ok (.istore_n 3, 1) := by decide +kernel
theorem dX9_shift_20 : decode cX9_shift 20 = .ok (.iconst 0, 1) := by decide +kernel
theorem dX9_shift_21 : decode cX9_shift 21 = .ok (.istore 4, 2) := by decide +kernel
theorem dX9_shift_23 : decode cX9_shift 23 = .ok (.iload 4, 2) := by decide +kernel
theorem dX9_shift_25 : decode cX9_shift 25 = .ok (.bipush 48, 2) := by decide +kernel
theorem dX9_shift_27 : decode cX9_shift 27 = .ok (.if_icmp .gt 59, 3) := by decide +kernel
theorem dX9_shift_30 : decode cX9_shift 30 = .ok (.aload_n 0, 1) := by decide +kernel
theorem dX9_shift_31 : decode cX9_shift 31 = .ok (.iload 4, 2) := by decide +kernel
theorem dX9_shift_33 : decode cX9_shift 33 = .ok (.iconst 2, 1) := by decide +kernel
theorem dX9_shift_34 : decode cX9_shift 34 = .ok (.irem, 1) := by decide +kernel
theorem dX9_shift_35 : decode cX9_shift 35 = .ok (.iconst 1, 1) := by decide +kernel
theorem dX9_shift_36 : decode cX9_shift 36 = .ok (.if_icmp .ne 14, 3) := by decide +kernel
theorem dX9_shift_39 : decode cX9_shift 39 = .ok (.iconst 0, 1) := by decide +kernel
theorem dX9_shift_40 : decode cX9_shift 40 = .ok (.iload 4, 2) := by decide +kernel
theorem dX9_shift_42 : decode cX9_shift 42 = .ok (.iconst 1, 1) := by decide +kernel
theorem dX9_shift_43 : decode cX9_shift 43 = .ok (.iadd, 1) := by decide +kernel
theorem dX9_shift_44 : decode cX9_shift 44 = .ok (.iconst 2, 1) := by decide +kernel
theorem dX9_shift_45 : decode cX9_shift 45 = .ok (.idiv, 1) := by decide +kernel
theorem dX9_shift_46 : decode cX9_shift 46 = .ok (.isub, 1) := by decide +kernel
theorem dX9_shift_47 : decode cX9_shift 47 = .ok (.goto 7, 3) := by decide +kernel
theorem dX9_shift_50 : decode cX9_shift 50 = .ok (.iload 4, 2) := by decide +kernel
theorem dX9_shift_52 : decode cX9_shift 52 = .ok (.iconst 2, 1) := by decide +kernel
theorem dX9_shift_53 : decode cX9_shift 53 = .ok (.idiv, 1) := by decide +kernel
theorem dX9_shift_54 : decode cX9_shift 54 = .ok (.putfield 378, 3) := by decide +kernel
theorem dX9_shift_57 : decode cX9_shift 57 = .ok (.aload_n 0, 1) := by decide +kernel
theorem dX9_shift_58 : decode cX9_shift 58 = .ok (.invokevirtual 445, 3) := by decide +kernel
theorem dX9_shift_61 : decode cX9_shift 61 = .ok (.istore 5, 2) := by decide +kernel
theorem dX9_shift_63 : decode cX9_shift 63 = .ok (.iload 5, 2) := by decide +kernel
theorem dX9_shift_65 : decode cX9_shift 65 = .ok (.iload_n 3, 1) := by decide +kernel
theorem dX9_shift_66 : decode cX9_shift 66 = .ok (.if_icmp .gt 6, 3) := by decide +kernel
theorem dX9_shift_69 : decode cX9_shift 69 = .ok (.goto 11, 3) := by decide +kernel
theorem dX9_shift_72 : decode cX9_shift 72 = .ok (.aload_n 0, 1) := by decide +kernel
theorem dX9_shift_73 : decode cX9_shift 73 = .ok (.getfield 378, 3) := by decide +kernel
theorem dX9_shift_76 : decode cX9_shift 76 = .ok (.istore_n 2, 1) := by decide +kernel
theorem dX9_shift_77 : decode cX9_shift 77 = .ok (.iload 5, 2) := by decide +kernel
theorem dX9_shift_79 : decode cX9_shift 79 = .ok (.istore_n 3, 1) := by decide +kernel
theorem dX9_shift_80 : decode cX9_shift 80 = .ok (.iinc 4 1, 3) := by decide +kernel
theorem dX9_shift_83 : decode cX9_shift 83 = .ok (.goto (-60), 3) := by decide +kernel
theorem dX9_shift_86 : decode cX9_shift 86 = .ok (.aload_n 0, 1) := by decide +kernel
theorem dX9_shift_87 : decode cX9_shift 87 = .ok (.iconst 0, 1) := by decide +kernel
theorem dX9_shift_88 : decode cX9_shift 88 = .ok (.putfield 378, 3) := by decide +kernel
theorem dX9_shift_91 : decode cX9_shift 91 = .ok (.iload_n 1, 1) := by decide +kernel
theorem dX9_shift_92 : decode cX9_shift 92 = .ok (.ifCond .ne 7, 3) := by decide +kernel
theorem dX9_shift_95 : decode cX9_shift 95 = .ok (.iload_n 2, 1) := by decide +kernel
theorem dX9_shift_96 : decode cX9_shift 96 = .ok (.goto 4, 3) := by decide +kernel
theorem dX9_shift_99 : decode cX9_shift 99 = .ok (.iload_n 3, 1) := by decide +kernel
theorem dX9_shift_100 : decode cX9_shift 100 = .ok (.ireturn, 1) := by decide +kernel
def f_Mo_shift_60_J54 (v1 : Int32) (v2 : Int32) (v3 : Int32) (v4 : Int32) (y1 : Int32) (σ : xS) : Option ((Int32 × Int32 × Int32 × xS) ⊕ (Int32 × Int32 × Int32 × xS)) :=
  let σ1 := x_pI σ 60 60 y1
  (f_Mo_takesSharp_60  σ1).bind fun q2 =>
  let w3 := q2.1
  if v3 < w3 then
    let w4 := q2.2.1 60 60
    let w5 := v4 + (1 : Int32)
    some (.inr (w4, w3, w5, q2.2))
  else
    let w6 := v4 + (1 : Int32)
    some (.inr (v2, v3, w6, q2.2))
def f_Mo_shift_60_L23 (v1 : Int32) (a : Int32 × Int32 × Int32 × xS) : Option ((Int32 × Int32 × Int32 × xS) ⊕ (Int32 × Int32 × Int32 × xS)) :=
  let v2 := a.1; let v3 := a.2.1; let v4 := a.2.2.1; let σ := a.2.2.2;
  if (48 : Int32) < v4 then
    some (.inl (v2, v3, v4, σ))
  else
    if (v4 - v4 / (2 : Int32) * (2 : Int32)) = (1 : Int32) then
      f_Mo_shift_60_J54 v1 v2 v3 v4 ((0 : Int32) - ((v4 + (1 : Int32)) / (2 : Int32))) σ
    else
      f_Mo_shift_60_J54 v1 v2 v3 v4 (v4 / (2 : Int32)) σ
def f_Mo_shift_60 (v1 : Int32) (σ : xS) : Option (Int32 × xS) :=
  let σ7 := x_pI σ 60 0 (0 : Int32)
  (f_Mo_isWhat_60 v1 (1 : Int32) σ7).bind fun q8 =>
  if q8.1 = 0 then
    some ((0 : Int32), q8.2)
  else
    (x_it (f_Mo_shift_60_L23 v1) 10000 ((0 : Int32), (-1 : Int32), (0 : Int32), q8.2)).bind fun b9 =>
    let σ10 := x_pI b9.2.2.2 60 60 (0 : Int32)
    if v1 = 0 then
      some (b9.1, σ10)
    else
      some (b9.2.1, σ10)
set_option maxHeartbeats 4000000 in
set_option maxRecDepth 100000 in
theorem j_Mo_shift_60_J54 {l : Launch} {s0 : State} {a0 : Array Value} {D : va_G} {cA : Nat → ClassId} {sp : Nat → Nat} (E : x_En CL l s0 a0 D cA sp) (v1 : Int32) (v2 : Int32) (v3 : Int32) (v4 : Int32) (y1 : Int32)  (σ : xS) {r : Int32} {σ1 : xS} (o : (Int32 × Int32 × Int32 × xS) ⊕ (Int32 × Int32 × Int32 × xS)) (h : f_Mo_shift_60_J54 v1 v2 v3 v4 y1 σ = some o) (hK : ∀ b, o = .inl b → zW l s0 D cA sp (zQ s0 D cA sp (some (.int r)) σ1) (x_rm 6 0 0) M_Mo_shift 0 0 86 [some (.ref 60), some (.int v1), some (.int b.1), some (.int b.2.1), none, none] [] b.2.2.2) (hG : ∀ a', o = .inr a' → zW l s0 D cA sp (zQ s0 D cA sp (some (.int r)) σ1) (x_rm 6 0 0) M_Mo_shift 0 0 23 [some (.ref 60), some (.int v1), some (.int a'.1), some (.int a'.2.1), some (.int a'.2.2.1), none] [] a'.2.2.2) : zW l s0 D cA sp (zQ s0 D cA sp (some (.int r)) σ1) (x_rm 6 0 0) M_Mo_shift 0 0 54 [some (.ref 60), some (.int v1), some (.int v2), some (.int v3), some (.int v4), none] [.int y1, .ref 60] σ := by
  unfold f_Mo_shift_60_J54 at h
  try dsimp only at h
  refine x_putI E dX9_shift_54 F_RX9_378 sh_60 57 rfl ?_
  refine x_aload_n 58 rfl 0 dX9_shift_57 rfl rfl ?_
  obtain ⟨⟨q2r, q2s⟩, q2h, h⟩ := x_bind h
  try dsimp only at h
  refine z_callV E [] [] dX9_shift_58 K_RX9_445 ⟨Nat.le_of_ble_eq_true rfl, Nat.le_of_ble_eq_true rfl⟩ sh_60 (by decide) rfl (c_Mo_takesSharp_60 E  q2h) rfl rfl (Nat.le_of_ble_eq_true rfl) 61 rfl [.int _] rfl ?_
  refine x_istore 63 rfl dX9_shift_61 (by decide) [some (.ref 60), some (.int _), some (.int _), some (.int _), some (.int _), some (.int _)] rfl ?_
  refine x_iload 65 rfl dX9_shift_63 rfl ?_
  refine x_iload_n 66 rfl 3 dX9_shift_65 rfl rfl ?_
  refine x_icmp_gt 69 rfl 72 dX9_shift_66 (by decide) (fun hc => ?_) (fun hc => ?_)
  · replace h := x_ifT hc h
    refine x_aload_n 73 rfl 0 dX9_shift_72 rfl rfl ?_
    refine x_getI E dX9_shift_73 F_RX9_378 sh_60 76 rfl ?_
    refine x_istore_n 77 rfl 2 dX9_shift_76 rfl (by decide) [some (.ref 60), some (.int _), some (.int _), some (.int _), some (.int _), some (.int _)] rfl ?_
    refine x_iload 79 rfl dX9_shift_77 rfl ?_
    refine x_istore_n 80 rfl 3 dX9_shift_79 rfl (by decide) [some (.ref 60), some (.int _), some (.int _), some (.int _), some (.int _), some (.int _)] rfl ?_
    refine x_iinc 83 rfl (1) dX9_shift_80 rfl (by decide) (by decide) [some (.ref 60), some (.int _), some (.int _), some (.int _), some (.int _), some (.int _)] rfl ?_
    refine x_goto 23 dX9_shift_83 (by decide) ?_
    cases h
    exact x_wk (x_le_s (x_le_s (x_le_s (x_le_s (x_le_s (x_le_n x_le_0)))))) (hG (_, _, _, _) rfl)
  · replace h := x_ifF hc h
    refine x_goto 80 dX9_shift_69 (by decide) ?_
    refine x_iinc 83 rfl (1) dX9_shift_80 rfl (by decide) (by decide) [some (.ref 60), some (.int _), some (.int _), some (.int _), some (.int _), some (.int _)] rfl ?_
    refine x_goto 23 dX9_shift_83 (by decide) ?_
    cases h
    exact x_wk (x_le_s (x_le_s (x_le_s (x_le_s (x_le_s (x_le_n x_le_0)))))) (hG (_, _, _, _) rfl)
set_option maxHeartbeats 4000000 in
set_option maxRecDepth 100000 in
theorem b_Mo_shift_60_L23 {l : Launch} {s0 : State} {a0 : Array Value} {D : va_G} {cA : Nat → ClassId} {sp : Nat → Nat} (E : x_En CL l s0 a0 D cA sp) (v1 : Int32) {r : Int32} {σ1 : xS} (a : Int32 × Int32 × Int32 × xS) (o : (Int32 × Int32 × Int32 × xS) ⊕ (Int32 × Int32 × Int32 × xS)) (h : f_Mo_shift_60_L23 v1 a = some o) (hK : ∀ b, o = .inl b → zW l s0 D cA sp (zQ s0 D cA sp (some (.int r)) σ1) (x_rm 6 0 0) M_Mo_shift 0 0 86 [some (.ref 60), some (.int v1), some (.int b.1), some (.int b.2.1), none, none] [] b.2.2.2) (hG : ∀ a', o = .inr a' → zW l s0 D cA sp (zQ s0 D cA sp (some (.int r)) σ1) (x_rm 6 0 0) M_Mo_shift 0 0 23 [some (.ref 60), some (.int v1), some (.int a'.1), some (.int a'.2.1), some (.int a'.2.2.1), none] [] a'.2.2.2) : zW l s0 D cA sp (zQ s0 D cA sp (some (.int r)) σ1) (x_rm 6 0 0) M_Mo_shift 0 0 23 [some (.ref 60), some (.int v1), some (.int a.1), some (.int a.2.1), some (.int a.2.2.1), none] [] a.2.2.2 := by
  obtain ⟨v2, v3, v4, σ⟩ := a
  unfold f_Mo_shift_60_L23 at h
  try dsimp only at h ⊢
  refine x_iload 25 rfl dX9_shift_23 rfl ?_
  refine x_bipush 27 rfl (v := 48) dX9_shift_25 (by decide) ?_
  refine x_icmp_gt 30 rfl 86 dX9_shift_27 (by decide) (fun hc => ?_) (fun hc => ?_)
  · replace h := x_ifT hc h
    cases h
    exact x_wk (x_le_s (x_le_s (x_le_s (x_le_s (x_le_n (x_le_n x_le_0)))))) (hK (_, _, _, _) rfl)
  · replace h := x_ifF hc h
    refine x_aload_n 31 rfl 0 dX9_shift_30 rfl rfl ?_
    refine x_iload 33 rfl dX9_shift_31 rfl ?_
    refine x_iconst 34 rfl (v := 2) dX9_shift_33 (by decide) ?_
    refine x_irem 35 rfl dX9_shift_34 (by decide) ?_
    refine x_iconst 36 rfl (v := 1) dX9_shift_35 (by decide) ?_
    refine x_icmp_ne 39 rfl 50 dX9_shift_36 (by decide) (fun hc => ?_) (fun hc => ?_)
    · replace h := x_ifF hc h
      refine x_iload 52 rfl dX9_shift_50 rfl ?_
      refine x_iconst 53 rfl (v := 2) dX9_shift_52 (by decide) ?_
      refine x_idiv 54 rfl dX9_shift_53 (by decide) ?_
      exact x_wk (x_le_s (x_le_s (x_le_s (x_le_s (x_le_s (x_le_n x_le_0)))))) (j_Mo_shift_60_J54 (r := r) (σ1 := σ1) E _ _ _ _ _  _ _ h hK hG)
    · replace h := x_ifT hc h
      refine x_iconst 40 rfl (v := 0) dX9_shift_39 (by decide) ?_
      refine x_iload 42 rfl dX9_shift_40 rfl ?_
      refine x_iconst 43 rfl (v := 1) dX9_shift_42 (by decide) ?_
      refine x_iadd 44 rfl dX9_shift_43 ?_
      refine x_iconst 45 rfl (v := 2) dX9_shift_44 (by decide) ?_
      refine x_idiv 46 rfl dX9_shift_45 (by decide) ?_
      refine x_isub 47 rfl dX9_shift_46 ?_
      refine x_goto 54 dX9_shift_47 (by decide) ?_
      exact x_wk (x_le_s (x_le_s (x_le_s (x_le_s (x_le_s (x_le_n x_le_0)))))) (j_Mo_shift_60_J54 (r := r) (σ1 := σ1) E _ _ _ _ _  _ _ h hK hG)
set_option maxHeartbeats 4000000 in
set_option maxRecDepth 100000 in
theorem c_Mo_shift_60 {l : Launch} {s0 : State} {a0 : Array Value} {D : va_G} {cA : Nat → ClassId} {sp : Nat → Nat} (E : x_En CL l s0 a0 D cA sp) (v1 : Int32) {σ : xS} {r : Int32} {σ1 : xS} (h : f_Mo_shift_60 v1 σ = some (r, σ1)) : zC l s0 D cA sp 6 M_Mo_shift [.ref 60, .int v1] σ (some (.int r)) σ1 := by
  unfold f_Mo_shift_60 at h
  try dsimp only at h
  refine x_enter [some (.ref 60), some (.int v1), none, none, none, none] rfl (Nat.le_of_ble_eq_true rfl) (by decide +kernel) rfl ?_
  refine x_aload_n 1 rfl 0 dX9_shift_0 rfl rfl ?_
  refine x_iconst 2 rfl (v := 0) dX9_shift_1 (by decide) ?_
  refine x_putI E dX9_shift_2 F_RX9_132 sh_60 5 rfl ?_
  refine x_aload_n 6 rfl 0 dX9_shift_5 rfl rfl ?_
  refine x_iload_n 7 rfl 1 dX9_shift_6 rfl rfl ?_
  refine x_iconst 8 rfl (v := 1) dX9_shift_7 (by decide) ?_
  obtain ⟨⟨q8r, q8s⟩, q8h, h⟩ := x_bind h
  try dsimp only at h
  refine z_callV E [.int _, .int _] [] dX9_shift_8 K_RX9_421 ⟨Nat.le_of_ble_eq_true rfl, Nat.le_of_ble_eq_true rfl⟩ sh_60 (by decide) rfl (c_Mo_isWhat_60 E _ _ q8h) rfl rfl (Nat.le_of_ble_eq_true rfl) 11 rfl [.int _] rfl ?_
  refine x_if_ne 14 rfl 16 dX9_shift_11 (by decide) (fun hc => ?_) (fun hc => ?_)
  · replace h := x_ifF hc h
    refine x_iconst 17 rfl (v := 0) dX9_shift_16 (by decide) ?_
    refine x_istore_n 18 rfl 2 dX9_shift_17 rfl (by decide) [some (.ref 60), some (.int _), some (.int _), none, none, none] rfl ?_
    refine x_iconst 19 rfl (v := -1) dX9_shift_18 (by decide) ?_
    refine x_istore_n 20 rfl 3 dX9_shift_19 rfl (by decide) [some (.ref 60), some (.int _), some (.int _), some (.int _), none, none] rfl ?_
    refine x_iconst 21 rfl (v := 0) dX9_shift_20 (by decide) ?_
    refine x_istore 23 rfl dX9_shift_21 (by decide) [some (.ref 60), some (.int _), some (.int _), some (.int _), some (.int _), none] rfl ?_
    obtain ⟨b9, b9h, h⟩ := x_bind h
    try dsimp only at h
    refine x_wk (x_le_s (x_le_s (x_le_s (x_le_s (x_le_s (x_le_n x_le_0)))))) (x_loop (fun a o h hK hG => b_Mo_shift_60_L23 (r := r) (σ1 := σ1) E _ a o h hK hG) _ _ _ b9h ?_)
    refine x_aload_n 87 rfl 0 dX9_shift_86 rfl rfl ?_
    refine x_iconst 88 rfl (v := 0) dX9_shift_87 (by decide) ?_
    refine x_putI E dX9_shift_88 F_RX9_378 sh_60 91 rfl ?_
    refine x_iload_n 92 rfl 1 dX9_shift_91 rfl rfl ?_
    refine x_if_ne 95 rfl 99 dX9_shift_92 (by decide) (fun hc => ?_) (fun hc => ?_)
    · replace h := x_ifF hc h
      refine x_iload_n 100 rfl 3 dX9_shift_99 rfl rfl ?_
      cases h
      exact x_iret dX9_shift_100 rfl rfl rfl
    · replace h := x_ifT hc h
      refine x_iload_n 96 rfl 2 dX9_shift_95 rfl rfl ?_
      refine x_goto 100 dX9_shift_96 (by decide) ?_
      cases h
      exact x_iret dX9_shift_100 rfl rfl rfl
  · replace h := x_ifT hc h
    refine x_iconst 15 rfl (v := 0) dX9_shift_14 (by decide) ?_
    cases h
    exact x_iret dX9_shift_15 rfl rfl rfl
abbrev M_Mo_slip : xM := (yX9_slip, cX9_slip, 5, some .int, [])
theorem dX9_slip_0 : decode cX9_slip 0 = .ok (.aload_n 0, 1) := by decide +kernel
theorem dX9_slip_1 : decode cX9_slip 1 = .ok (.iconst 0, 1) := by decide +kernel
theorem dX9_slip_2 : decode cX9_slip 2 = .ok (.putfield 132, 3) := by decide +kernel
theorem dX9_slip_5 : decode cX9_slip 5 = .ok (.aload_n 0, 1) := by decide +kernel
theorem dX9_slip_6 : decode cX9_slip 6 = .ok (.iload_n 1, 1) := by decide +kernel
theorem dX9_slip_7 : decode cX9_slip 7 = .ok (.iconst 1, 1) := by decide +kernel
theorem dX9_slip_8 : decode cX9_slip 8 = .ok (.invokevirtual 421, 3) := by decide +kernel
theorem dX9_slip_11 : decode cX9_slip 11 = .ok (.ifCond .ne 5, 3) := by decide +kernel
theorem dX9_slip_14 : decode cX9_slip 14 = .ok (.iconst 0, 1) := by decide +kernel
theorem dX9_slip_15 : decode cX9_slip 15 = .ok (.ireturn, 1) := by decide +kernel
theorem dX9_slip_16 : decode cX9_slip 16 = .ok (.iconst (-1), 1) := by decide +kernel
theorem dX9_slip_17 : decode cX9_slip 17 = .ok (.istore_n 2, 1) := by decide +kernel
theorem dX9_slip_18 : decode cX9_slip 18 = .ok (.iconst 0, 1) := by decide +kernel
theorem dX9_slip_19 : decode cX9_slip 19 = .ok (.istore_n 3, 1) := by decide +kernel
theorem dX9_slip_20 : decode cX9_slip 20 = .ok (.aload_n 0, 1) := by decide +kernel
theorem dX9_slip_21 : decode cX9_slip 21 = .ok (.iconst 0, 1) := by decide +kernel
theorem dX9_slip_22 : decode cX9_slip 22 = .ok (.putfield 357, 3) := by decide +kernel
theorem dX9_slip_25 : decode cX9_slip 25 = .ok (.aload_n 0, 1) := by decide +kernel
theorem dX9_slip_26 : decode cX9_slip 26 = .ok (.getfield 357, 3) := by decide +kernel
theorem dX9_slip_29 : decode cX9_slip 29 = .ok (.bipush 30, 2) := by decide +kernel
theorem dX9_slip_31 : decode cX9_slip 31 = .ok (.if_icmp .gt 44, 3) := by decide +kernel
theorem dX9_slip_34 : decode cX9_slip 34 = .ok (.aload_n 0, 1) := by decide +kernel
theorem dX9_slip_35 : decode cX9_slip 35 = .ok (.invokevirtual 445, 3) := by decide +kernel
theorem dX9_slip_38 : decode cX9_slip 38 = .ok (.istore 4, 2) := by decide +kernel
theorem dX9_slip_40 : decode cX9_slip 40 = .ok (.iload_n 2, 1) := by decide +kernel
theorem dX9_slip_41 : decode cX9_slip 41 = .ok (.iconst (-1), 1) := by decide +kernel
theorem dX9_slip_42 : decode cX9_slip 42 = .ok (.if_icmp .eq 12, 3) := by decide +kernel
theorem dX9_slip_45 : decode cX9_slip 45 = .ok (.iload 4, 2) := by decide +kernel
theorem dX9_slip_47 : decode cX9_slip 47 = .ok (.iload_n 3, 1) := by decide +kernel
theorem dX9_slip_48 : decode cX9_slip 48 = .ok (.if_icmp .lt 6, 3) := by decide +kernel
theorem dX9_slip_51 : decode cX9_slip 51 = .ok (.goto 11, 3) := by decide +kernel
theorem dX9_slip_54 : decode cX9_slip 54 = .ok (.aload_n 0, 1) := by decide +kernel
theorem dX9_slip_55 : decode cX9_slip 55 = .ok (.getfield 357, 3) := by decide +kernel
theorem dX9_slip_58 : decode cX9_slip 58 = .ok (.istore_n 2, 1) := by decide +kernel
theorem dX9_slip_59 : decode cX9_slip 59 = .ok (.iload 4, 2) := by decide +kernel
theorem dX9_slip_61 : decode cX9_slip 61 = .ok (.istore_n 3, 1) := by decide +kernel
theorem dX9_slip_62 : decode cX9_slip 62 = .ok (.aload_n 0, 1) := by decide +kernel
theorem dX9_slip_63 : decode cX9_slip 63 = .ok (.dup, 1) := by decide +kernel
theorem dX9_slip_64 : decode cX9_slip 64 = .ok (.getfield 357, 3) := by decide +kernel
theorem dX9_slip_67 : decode cX9_slip 67 = .ok (.iconst 1, 1) := by decide +kernel
theorem dX9_slip_68 : decode cX9_slip 68 = .ok (.iadd, 1) := by decide +kernel
theorem dX9_slip_69 : decode cX9_slip 69 = .ok (.putfield 357, 3) := by decide +kernel
theorem dX9_slip_72 : decode cX9_slip 72 = .ok (.goto (-47), 3) := by decide +kernel
theorem dX9_slip_75 : decode cX9_slip 75 = .ok (.aload_n 0, 1) := by decide +kernel
theorem dX9_slip_76 : decode cX9_slip 76 = .ok (.iconst 0, 1) := by decide +kernel
theorem dX9_slip_77 : decode cX9_slip 77 = .ok (.putfield 357, 3) := by decide +kernel
theorem dX9_slip_80 : decode cX9_slip 80 = .ok (.iload_n 1, 1) := by decide +kernel
theorem dX9_slip_81 : decode cX9_slip 81 = .ok (.ifCond .ne 7, 3) := by decide +kernel
theorem dX9_slip_84 : decode cX9_slip 84 = .ok (.iload_n 2, 1) := by decide +kernel
theorem dX9_slip_85 : decode cX9_slip 85 = .ok (.goto 4, 3) := by decide +kernel
theorem dX9_slip_88 : decode cX9_slip 88 = .ok (.iload_n 3, 1) := by decide +kernel
theorem dX9_slip_89 : decode cX9_slip 89 = .ok (.ireturn, 1) := by decide +kernel
def f_Mo_slip_60_J54 (v1 : Int32) (v4 : Int32) (σ : xS) : Option ((Int32 × Int32 × xS) ⊕ (Int32 × Int32 × xS)) :=
  let w1 := σ.1 60 59
  let σ2 := x_pI σ 60 59 (σ.1 60 59 + (1 : Int32))
  some (.inr (w1, v4, σ2))
def f_Mo_slip_60_L25 (v1 : Int32) (a : Int32 × Int32 × xS) : Option ((Int32 × Int32 × xS) ⊕ (Int32 × Int32 × xS)) :=
  let v2 := a.1; let v3 := a.2.1; let σ := a.2.2;
  if (30 : Int32) < σ.1 60 59 then
    some (.inl (v2, v3, σ))
  else
    (f_Mo_takesSharp_60  σ).bind fun q3 =>
    let w4 := q3.1
    if v2 = (-1 : Int32) then
      f_Mo_slip_60_J54 v1 w4 q3.2
    else
      if w4 < v3 then
        f_Mo_slip_60_J54 v1 w4 q3.2
      else
        let σ5 := x_pI q3.2 60 59 (q3.2.1 60 59 + (1 : Int32))
        some (.inr (v2, v3, σ5))
def f_Mo_slip_60 (v1 : Int32) (σ : xS) : Option (Int32 × xS) :=
  let σ6 := x_pI σ 60 0 (0 : Int32)
  (f_Mo_isWhat_60 v1 (1 : Int32) σ6).bind fun q7 =>
  if q7.1 = 0 then
    some ((0 : Int32), q7.2)
  else
    let σ8 := x_pI q7.2 60 59 (0 : Int32)
    (x_it (f_Mo_slip_60_L25 v1) 10000 ((-1 : Int32), (0 : Int32), σ8)).bind fun b9 =>
    let σ10 := x_pI b9.2.2 60 59 (0 : Int32)
    if v1 = 0 then
      some (b9.1, σ10)
    else
      some (b9.2.1, σ10)
set_option maxHeartbeats 4000000 in
set_option maxRecDepth 100000 in
theorem j_Mo_slip_60_J54 {l : Launch} {s0 : State} {a0 : Array Value} {D : va_G} {cA : Nat → ClassId} {sp : Nat → Nat} (E : x_En CL l s0 a0 D cA sp) (v1 : Int32) (v4 : Int32)  (σ : xS) {r : Int32} {σ1 : xS} (o : (Int32 × Int32 × xS) ⊕ (Int32 × Int32 × xS)) (h : f_Mo_slip_60_J54 v1 v4 σ = some o) (hK : ∀ b, o = .inl b → zW l s0 D cA sp (zQ s0 D cA sp (some (.int r)) σ1) (x_rm 6 0 0) M_Mo_slip 0 0 75 [some (.ref 60), some (.int v1), some (.int b.1), some (.int b.2.1), none] [] b.2.2) (hG : ∀ a', o = .inr a' → zW l s0 D cA sp (zQ s0 D cA sp (some (.int r)) σ1) (x_rm 6 0 0) M_Mo_slip 0 0 25 [some (.ref 60), some (.int v1), some (.int a'.1), some (.int a'.2.1), none] [] a'.2.2) : zW l s0 D cA sp (zQ s0 D cA sp (some (.int r)) σ1) (x_rm 6 0 0) M_Mo_slip 0 0 54 [some (.ref 60), some (.int v1), none, none, some (.int v4)] [] σ := by
  unfold f_Mo_slip_60_J54 at h
  try dsimp only at h
  refine x_aload_n 55 rfl 0 dX9_slip_54 rfl rfl ?_
  refine x_getI E dX9_slip_55 F_RX9_357 sh_60 58 rfl ?_
  refine x_istore_n 59 rfl 2 dX9_slip_58 rfl (by decide) [some (.ref 60), some (.int _), some (.int _), none, some (.int _)] rfl ?_
  refine x_iload 61 rfl dX9_slip_59 rfl ?_
  refine x_istore_n 62 rfl 3 dX9_slip_61 rfl (by decide) [some (.ref 60), some (.int _), some (.int _), some (.int _), some (.int _)] rfl ?_
  refine x_aload_n 63 rfl 0 dX9_slip_62 rfl rfl ?_
  refine x_dup 64 rfl dX9_slip_63 rfl ?_
  refine x_getI E dX9_slip_64 F_RX9_357 sh_60 67 rfl ?_
  refine x_iconst 68 rfl (v := 1) dX9_slip_67 (by decide) ?_
  refine x_iadd 69 rfl dX9_slip_68 ?_
  refine x_putI E dX9_slip_69 F_RX9_357 sh_60 72 rfl ?_
  refine x_goto 25 dX9_slip_72 (by decide) ?_
  cases h
  exact x_wk (x_le_s (x_le_s (x_le_s (x_le_s (x_le_n x_le_0))))) (hG (_, _, _) rfl)
set_option maxHeartbeats 4000000 in
set_option maxRecDepth 100000 in
theorem b_Mo_slip_60_L25 {l : Launch} {s0 : State} {a0 : Array Value} {D : va_G} {cA : Nat → ClassId} {sp : Nat → Nat} (E : x_En CL l s0 a0 D cA sp) (v1 : Int32) {r : Int32} {σ1 : xS} (a : Int32 × Int32 × xS) (o : (Int32 × Int32 × xS) ⊕ (Int32 × Int32 × xS)) (h : f_Mo_slip_60_L25 v1 a = some o) (hK : ∀ b, o = .inl b → zW l s0 D cA sp (zQ s0 D cA sp (some (.int r)) σ1) (x_rm 6 0 0) M_Mo_slip 0 0 75 [some (.ref 60), some (.int v1), some (.int b.1), some (.int b.2.1), none] [] b.2.2) (hG : ∀ a', o = .inr a' → zW l s0 D cA sp (zQ s0 D cA sp (some (.int r)) σ1) (x_rm 6 0 0) M_Mo_slip 0 0 25 [some (.ref 60), some (.int v1), some (.int a'.1), some (.int a'.2.1), none] [] a'.2.2) : zW l s0 D cA sp (zQ s0 D cA sp (some (.int r)) σ1) (x_rm 6 0 0) M_Mo_slip 0 0 25 [some (.ref 60), some (.int v1), some (.int a.1), some (.int a.2.1), none] [] a.2.2 := by
  obtain ⟨v2, v3, σ⟩ := a
  unfold f_Mo_slip_60_L25 at h
  try dsimp only at h ⊢
  refine x_aload_n 26 rfl 0 dX9_slip_25 rfl rfl ?_
  refine x_getI E dX9_slip_26 F_RX9_357 sh_60 29 rfl ?_
  refine x_bipush 31 rfl (v := 30) dX9_slip_29 (by decide) ?_
  refine x_icmp_gt 34 rfl 75 dX9_slip_31 (by decide) (fun hc => ?_) (fun hc => ?_)
  · replace h := x_ifT hc h
    cases h
    exact x_wk (x_le_s (x_le_s (x_le_s (x_le_s (x_le_n x_le_0))))) (hK (_, _, _) rfl)
  · replace h := x_ifF hc h
    refine x_aload_n 35 rfl 0 dX9_slip_34 rfl rfl ?_
    obtain ⟨⟨q3r, q3s⟩, q3h, h⟩ := x_bind h
    try dsimp only at h
    refine z_callV E [] [] dX9_slip_35 K_RX9_445 ⟨Nat.le_of_ble_eq_true rfl, Nat.le_of_ble_eq_true rfl⟩ sh_60 (by decide) rfl (c_Mo_takesSharp_60 E  q3h) rfl rfl (Nat.le_of_ble_eq_true rfl) 38 rfl [.int _] rfl ?_
    refine x_istore 40 rfl dX9_slip_38 (by decide) [some (.ref 60), some (.int _), some (.int _), some (.int _), some (.int _)] rfl ?_
    refine x_iload_n 41 rfl 2 dX9_slip_40 rfl rfl ?_
    refine x_iconst 42 rfl (v := -1) dX9_slip_41 (by decide) ?_
    refine x_icmp_eq 45 rfl 54 dX9_slip_42 (by decide) (fun hc => ?_) (fun hc => ?_)
    · replace h := x_ifT hc h
      exact x_wk (x_le_s (x_le_s (x_le_n (x_le_n (x_le_s x_le_0))))) (j_Mo_slip_60_J54 (r := r) (σ1 := σ1) E _ _  _ _ h hK hG)
    · replace h := x_ifF hc h
      refine x_iload 47 rfl dX9_slip_45 rfl ?_
      refine x_iload_n 48 rfl 3 dX9_slip_47 rfl rfl ?_
      refine x_icmp_lt 51 rfl 54 dX9_slip_48 (by decide) (fun hc => ?_) (fun hc => ?_)
      · replace h := x_ifT hc h
        exact x_wk (x_le_s (x_le_s (x_le_n (x_le_n (x_le_s x_le_0))))) (j_Mo_slip_60_J54 (r := r) (σ1 := σ1) E _ _  _ _ h hK hG)
      · replace h := x_ifF hc h
        refine x_goto 62 dX9_slip_51 (by decide) ?_
        refine x_aload_n 63 rfl 0 dX9_slip_62 rfl rfl ?_
        refine x_dup 64 rfl dX9_slip_63 rfl ?_
        refine x_getI E dX9_slip_64 F_RX9_357 sh_60 67 rfl ?_
        refine x_iconst 68 rfl (v := 1) dX9_slip_67 (by decide) ?_
        refine x_iadd 69 rfl dX9_slip_68 ?_
        refine x_putI E dX9_slip_69 F_RX9_357 sh_60 72 rfl ?_
        refine x_goto 25 dX9_slip_72 (by decide) ?_
        cases h
        exact x_wk (x_le_s (x_le_s (x_le_s (x_le_s (x_le_n x_le_0))))) (hG (_, _, _) rfl)
set_option maxHeartbeats 4000000 in
set_option maxRecDepth 100000 in
theorem c_Mo_slip_60 {l : Launch} {s0 : State} {a0 : Array Value} {D : va_G} {cA : Nat → ClassId} {sp : Nat → Nat} (E : x_En CL l s0 a0 D cA sp) (v1 : Int32) {σ : xS} {r : Int32} {σ1 : xS} (h : f_Mo_slip_60 v1 σ = some (r, σ1)) : zC l s0 D cA sp 6 M_Mo_slip [.ref 60, .int v1] σ (some (.int r)) σ1 := by
  unfold f_Mo_slip_60 at h
  try dsimp only at h
  refine x_enter [some (.ref 60), some (.int v1), none, none, none] rfl (Nat.le_of_ble_eq_true rfl) (by decide +kernel) rfl ?_
  refine x_aload_n 1 rfl 0 dX9_slip_0 rfl rfl ?_
  refine x_iconst 2 rfl (v := 0) dX9_slip_1 (by decide) ?_
  refine x_putI E dX9_slip_2 F_RX9_132 sh_60 5 rfl ?_
  refine x_aload_n 6 rfl 0 dX9_slip_5 rfl rfl ?_
  refine x_iload_n 7 rfl 1 dX9_slip_6 rfl rfl ?_
  refine x_iconst 8 rfl (v := 1) dX9_slip_7 (by decide) ?_
  obtain ⟨⟨q7r, q7s⟩, q7h, h⟩ := x_bind h
  try dsimp only at h
  refine z_callV E [.int _, .int _] [] dX9_slip_8 K_RX9_421 ⟨Nat.le_of_ble_eq_true rfl, Nat.le_of_ble_eq_true rfl⟩ sh_60 (by decide) rfl (c_Mo_isWhat_60 E _ _ q7h) rfl rfl (Nat.le_of_ble_eq_true rfl) 11 rfl [.int _] rfl ?_
  refine x_if_ne 14 rfl 16 dX9_slip_11 (by decide) (fun hc => ?_) (fun hc => ?_)
  · replace h := x_ifF hc h
    refine x_iconst 17 rfl (v := -1) dX9_slip_16 (by decide) ?_
    refine x_istore_n 18 rfl 2 dX9_slip_17 rfl (by decide) [some (.ref 60), some (.int _), some (.int _), none, none] rfl ?_
    refine x_iconst 19 rfl (v := 0) dX9_slip_18 (by decide) ?_
    refine x_istore_n 20 rfl 3 dX9_slip_19 rfl (by decide) [some (.ref 60), some (.int _), some (.int _), some (.int _), none] rfl ?_
    refine x_aload_n 21 rfl 0 dX9_slip_20 rfl rfl ?_
    refine x_iconst 22 rfl (v := 0) dX9_slip_21 (by decide) ?_
    refine x_putI E dX9_slip_22 F_RX9_357 sh_60 25 rfl ?_
    obtain ⟨b9, b9h, h⟩ := x_bind h
    try dsimp only at h
    refine x_wk (x_le_s (x_le_s (x_le_s (x_le_s (x_le_n x_le_0))))) (x_loop (fun a o h hK hG => b_Mo_slip_60_L25 (r := r) (σ1 := σ1) E _ a o h hK hG) _ _ _ b9h ?_)
    refine x_aload_n 76 rfl 0 dX9_slip_75 rfl rfl ?_
    refine x_iconst 77 rfl (v := 0) dX9_slip_76 (by decide) ?_
    refine x_putI E dX9_slip_77 F_RX9_357 sh_60 80 rfl ?_
    refine x_iload_n 81 rfl 1 dX9_slip_80 rfl rfl ?_
    refine x_if_ne 84 rfl 88 dX9_slip_81 (by decide) (fun hc => ?_) (fun hc => ?_)
    · replace h := x_ifF hc h
      refine x_iload_n 89 rfl 3 dX9_slip_88 rfl rfl ?_
      cases h
      exact x_iret dX9_slip_89 rfl rfl rfl
    · replace h := x_ifT hc h
      refine x_iload_n 85 rfl 2 dX9_slip_84 rfl rfl ?_
      refine x_goto 89 dX9_slip_85 (by decide) ?_
      cases h
      exact x_iret dX9_slip_89 rfl rfl rfl
  · replace h := x_ifT hc h
    refine x_iconst 15 rfl (v := 0) dX9_slip_14 (by decide) ?_
    cases h
    exact x_iret dX9_slip_15 rfl rfl rfl
abbrev M_Mo_isAsSeen : xM := (yX9_isAsSeen, cX9_isAsSeen, 2, some .boolean, [])
theorem dX9_isAsSeen_0 : decode cX9_isAsSeen 0 = .ok (.iconst 0, 1) := by decide +kernel
theorem dX9_isAsSeen_1 : decode cX9_isAsSeen 1 = .ok (.istore_n 1, 1) := by decide +kernel
theorem dX9_isAsSeen_2 : decode cX9_isAsSeen 2 = .ok (.iload_n 1, 1) := by decide +kernel
theorem dX9_isAsSeen_3 : decode cX9_isAsSeen 3 = .ok (.aload_n 0, 1) := by decide +kernel
theorem dX9_isAsSeen_4 : decode cX9_isAsSeen 4 = .ok (.getfield 343, 3) := by decide +kernel
theorem dX9_isAsSeen_7 : decode cX9_isAsSeen 7 = .ok (.if_icmp .ge 45, 3) := by decide +kernel
theorem dX9_isAsSeen_10 : decode cX9_isAsSeen 10 = .ok (.aload_n 0, 1) := by decide +kernel
theorem dX9_isAsSeen_11 : decode cX9_isAsSeen 11 = .ok (.aload_n 0, 1) := by decide +kernel
theorem dX9_isAsSeen_12 : decode cX9_isAsSeen 12 = .ok (.getfield 114, 3) := by decide +kernel
theorem dX9_isAsSeen_15 : decode cX9_isAsSeen 15 = .ok (.iconst 2, 1) := by decide +kernel
theorem dX9_isAsSeen_16 : decode cX9_isAsSeen 16 = .ok (.iload_n 1, 1) := by decide +kernel
theorem dX9_isAsSeen_17 : decode cX9_isAsSeen 17 = .ok (.imul, 1) := by decide +kernel
theorem dX9_isAsSeen_18 : decode cX9_isAsSeen 18 = .ok (.iaload, 1) := by decide +kernel
theorem dX9_isAsSeen_19 : decode cX9_isAsSeen 19 = .ok (.invokevirtual 405, 3) := by decide +kernel
theorem dX9_isAsSeen_22 : decode cX9_isAsSeen 22 = .ok (.aload_n 0, 1) := by decide +kernel
theorem dX9_isAsSeen_23 : decode cX9_isAsSeen 23 = .ok (.getfield 114, 3) := by decide +kernel
theorem dX9_isAsSeen_26 : decode cX9_isAsSeen 26 = .ok (.iconst 2, 1) := by decide +kernel
theorem dX9_isAsSeen_27 : decode cX9_isAsSeen 27 = .ok (.iload_n 1, 1) := by decide +kernel
theorem dX9_isAsSeen_28 : decode cX9_isAsSeen 28 = .ok (.imul, 1) := by decide +kernel
theorem dX9_isAsSeen_29 : decode cX9_isAsSeen 29 = .ok (.iconst 1, 1) := by decide +kernel
theorem dX9_isAsSeen_30 : decode cX9_isAsSeen 30 = .ok (.iadd, 1) := by decide +kernel
theorem dX9_isAsSeen_31 : decode cX9_isAsSeen 31 = .ok (.iaload, 1) := by decide +kernel
theorem dX9_isAsSeen_32 : decode cX9_isAsSeen 32 = .ok (.iconst 1, 1) := by decide +kernel
theorem dX9_isAsSeen_33 : decode cX9_isAsSeen 33 = .ok (.if_icmp .ne 7, 3) := by decide +kernel
theorem dX9_isAsSeen_36 : decode cX9_isAsSeen 36 = .ok (.iconst 1, 1) := by decide +kernel
theorem dX9_isAsSeen_37 : decode cX9_isAsSeen 37 = .ok (.goto 4, 3) := by decide +kernel
theorem dX9_isAsSeen_40 : decode cX9_isAsSeen 40 = .ok (.iconst 0, 1) := by decide +kernel
theorem dX9_isAsSeen_41 : decode cX9_isAsSeen 41 = .ok (.if_icmp .eq 5, 3) := by decide +kernel
theorem dX9_isAsSeen_44 : decode cX9_isAsSeen 44 = .ok (.iconst 0, 1) := by decide +kernel
theorem dX9_isAsSeen_45 : decode cX9_isAsSeen 45 = .ok (.ireturn, 1) := by decide +kernel
theorem dX9_isAsSeen_46 : decode cX9_isAsSeen 46 = .ok (.iinc 1 1, 3) := by decide +kernel
theorem dX9_isAsSeen_49 : decode cX9_isAsSeen 49 = .ok (.goto (-47), 3) := by decide +kernel
theorem dX9_isAsSeen_52 : decode cX9_isAsSeen 52 = .ok (.iconst 1, 1) := by decide +kernel
theorem dX9_isAsSeen_53 : decode cX9_isAsSeen 53 = .ok (.ireturn, 1) := by decide +kernel
def f_Mo_isAsSeen_60_L2  (a : Int32 × xS) : Option (((Int32 × xS) ⊕ (Int32 × xS)) ⊕ (Int32 × xS)) :=
  let v1 := a.1; let σ := a.2;
  if σ.1 60 74 ≤ v1 then
    some (.inl (.inr (v1, σ)))
  else
    if ((2 : Int32) * v1) < 0 ∨ 16 ≤ ((2 : Int32) * v1).toNatClampNeg then none else
    (f_Mo_isSharp_60 (σ.1 90 ((2 : Int32) * v1).toNatClampNeg) σ).bind fun q1 =>
    if (((2 : Int32) * v1) + (1 : Int32)) < 0 ∨ 16 ≤ (((2 : Int32) * v1) + (1 : Int32)).toNatClampNeg then none else
    if q1.2.1 90 (((2 : Int32) * v1) + (1 : Int32)).toNatClampNeg = (1 : Int32) then
      if q1.1 = (1 : Int32) then
        let w3 := v1 + (1 : Int32)
        some (.inr (w3, q1.2))
      else
        some (.inl (.inl ((0 : Int32), q1.2)))
    else
      if q1.1 = (0 : Int32) then
        let w2 := v1 + (1 : Int32)
        some (.inr (w2, q1.2))
      else
        some (.inl (.inl ((0 : Int32), q1.2)))
def f_Mo_isAsSeen_60  (σ : xS) : Option (Int32 × xS) :=
  (x_it (f_Mo_isAsSeen_60_L2 ) 10000 ((0 : Int32), σ)).bind fun b4 =>
  match b4 with
  | .inl b4r => some b4r
  | .inr b4e =>
    some ((1 : Int32), b4e.2)
set_option maxHeartbeats 4000000 in
set_option maxRecDepth 100000 in
theorem b_Mo_isAsSeen_60_L2 {l : Launch} {s0 : State} {a0 : Array Value} {D : va_G} {cA : Nat → ClassId} {sp : Nat → Nat} (E : x_En CL l s0 a0 D cA sp)  {r : Int32} {σ1 : xS} (a : Int32 × xS) (o : ((Int32 × xS) ⊕ (Int32 × xS)) ⊕ (Int32 × xS)) (h : f_Mo_isAsSeen_60_L2  a = some o) (hK : ∀ b, o = .inl b → (∀ q, b = .inl q → q = (r, σ1)) ∧ ∀ e, b = .inr e → zW l s0 D cA sp (zQ s0 D cA sp (some (.int r)) σ1) (x_rm 2 0 0) M_Mo_isAsSeen 0 0 52 [none, none] [] e.2) (hG : ∀ a', o = .inr a' → zW l s0 D cA sp (zQ s0 D cA sp (some (.int r)) σ1) (x_rm 2 0 0) M_Mo_isAsSeen 0 0 2 [some (.ref 60), some (.int a'.1)] [] a'.2) : zW l s0 D cA sp (zQ s0 D cA sp (some (.int r)) σ1) (x_rm 2 0 0) M_Mo_isAsSeen 0 0 2 [some (.ref 60), some (.int a.1)] [] a.2 := by
  obtain ⟨v1, σ⟩ := a
  unfold f_Mo_isAsSeen_60_L2 at h
  try dsimp only at h ⊢
  refine x_iload_n 3 rfl 1 dX9_isAsSeen_2 rfl rfl ?_
  refine x_aload_n 4 rfl 0 dX9_isAsSeen_3 rfl rfl ?_
  refine x_getI E dX9_isAsSeen_4 F_RX9_343 sh_60 7 rfl ?_
  refine x_icmp_ge 10 rfl 52 dX9_isAsSeen_7 (by decide) (fun hc => ?_) (fun hc => ?_)
  · replace h := x_ifT hc h
    cases h
    exact x_wk (x_le_n (x_le_n x_le_0)) ((hK (.inr (_, _)) rfl).2 (_, _) rfl)
  · replace h := x_ifF hc h
    refine x_aload_n 11 rfl 0 dX9_isAsSeen_10 rfl rfl ?_
    refine x_aload_n 12 rfl 0 dX9_isAsSeen_11 rfl rfl ?_
    refine x_getR E dX9_isAsSeen_12 F_RX9_114 sh_60 rf_60_75 15 rfl ?_
    refine x_iconst 16 rfl (v := 2) dX9_isAsSeen_15 (by decide) ?_
    refine x_iload_n 17 rfl 1 dX9_isAsSeen_16 rfl rfl ?_
    refine x_imul 18 rfl dX9_isAsSeen_17 ?_
    obtain ⟨hz, h⟩ := x_ifn h
    refine x_iald E dX9_isAsSeen_18 sh_90 _ rfl hz 19 rfl ?_
    obtain ⟨⟨q1r, q1s⟩, q1h, h⟩ := x_bind h
    try dsimp only at h
    refine z_callV E [.int _] [] dX9_isAsSeen_19 K_RX9_405 ⟨Nat.le_of_ble_eq_true rfl, Nat.le_of_ble_eq_true rfl⟩ sh_60 (by decide) rfl (c_Mo_isSharp_60 E _ q1h) rfl rfl (Nat.le_of_ble_eq_true rfl) 22 rfl [.int _] rfl ?_
    refine x_aload_n 23 rfl 0 dX9_isAsSeen_22 rfl rfl ?_
    refine x_getR E dX9_isAsSeen_23 F_RX9_114 sh_60 rf_60_75 26 rfl ?_
    refine x_iconst 27 rfl (v := 2) dX9_isAsSeen_26 (by decide) ?_
    refine x_iload_n 28 rfl 1 dX9_isAsSeen_27 rfl rfl ?_
    refine x_imul 29 rfl dX9_isAsSeen_28 ?_
    refine x_iconst 30 rfl (v := 1) dX9_isAsSeen_29 (by decide) ?_
    refine x_iadd 31 rfl dX9_isAsSeen_30 ?_
    obtain ⟨hz, h⟩ := x_ifn h
    refine x_iald E dX9_isAsSeen_31 sh_90 _ rfl hz 32 rfl ?_
    refine x_iconst 33 rfl (v := 1) dX9_isAsSeen_32 (by decide) ?_
    refine x_icmp_ne 36 rfl 40 dX9_isAsSeen_33 (by decide) (fun hc => ?_) (fun hc => ?_)
    · replace h := x_ifF hc h
      refine x_iconst 41 rfl (v := 0) dX9_isAsSeen_40 (by decide) ?_
      refine x_icmp_eq 44 rfl 46 dX9_isAsSeen_41 (by decide) (fun hc => ?_) (fun hc => ?_)
      · replace h := x_ifT hc h
        refine x_iinc 49 rfl (1) dX9_isAsSeen_46 rfl (by decide) (by decide) [some (.ref 60), some (.int _)] rfl ?_
        refine x_goto 2 dX9_isAsSeen_49 (by decide) ?_
        cases h
        exact x_wk (x_le_s (x_le_s x_le_0)) (hG (_, _) rfl)
      · replace h := x_ifF hc h
        refine x_iconst 45 rfl (v := 0) dX9_isAsSeen_44 (by decide) ?_
        cases h
        cases (hK (.inl (_, _)) rfl).1 (_, _) rfl
        exact x_zret (Or.inl rfl) dX9_isAsSeen_45 rfl rfl rfl
    · replace h := x_ifT hc h
      refine x_iconst 37 rfl (v := 1) dX9_isAsSeen_36 (by decide) ?_
      refine x_goto 41 dX9_isAsSeen_37 (by decide) ?_
      refine x_icmp_eq 44 rfl 46 dX9_isAsSeen_41 (by decide) (fun hc => ?_) (fun hc => ?_)
      · replace h := x_ifT hc h
        refine x_iinc 49 rfl (1) dX9_isAsSeen_46 rfl (by decide) (by decide) [some (.ref 60), some (.int _)] rfl ?_
        refine x_goto 2 dX9_isAsSeen_49 (by decide) ?_
        cases h
        exact x_wk (x_le_s (x_le_s x_le_0)) (hG (_, _) rfl)
      · replace h := x_ifF hc h
        refine x_iconst 45 rfl (v := 0) dX9_isAsSeen_44 (by decide) ?_
        cases h
        cases (hK (.inl (_, _)) rfl).1 (_, _) rfl
        exact x_zret (Or.inl rfl) dX9_isAsSeen_45 rfl rfl rfl
set_option maxHeartbeats 4000000 in
set_option maxRecDepth 100000 in
theorem c_Mo_isAsSeen_60 {l : Launch} {s0 : State} {a0 : Array Value} {D : va_G} {cA : Nat → ClassId} {sp : Nat → Nat} (E : x_En CL l s0 a0 D cA sp)  {σ : xS} {r : Int32} {σ1 : xS} (h : f_Mo_isAsSeen_60  σ = some (r, σ1)) : zC l s0 D cA sp 2 M_Mo_isAsSeen [.ref 60] σ (some (.int r)) σ1 := by
  unfold f_Mo_isAsSeen_60 at h
  try dsimp only at h
  refine x_enter [some (.ref 60), none] rfl (Nat.le_of_ble_eq_true rfl) (by decide +kernel) rfl ?_
  refine x_iconst 1 rfl (v := 0) dX9_isAsSeen_0 (by decide) ?_
  refine x_istore_n 2 rfl 1 dX9_isAsSeen_1 rfl (by decide) [some (.ref 60), some (.int _)] rfl ?_
  obtain ⟨b4, b4h, h⟩ := x_bind h
  try dsimp only at h
  refine x_wk (x_le_s (x_le_s x_le_0)) (x_loop (fun a o h hK hG => b_Mo_isAsSeen_60_L2 (r := r) (σ1 := σ1) E  a o h hK hG) _ _ _ b4h ?_)
  cases b4 with
  | inl b4r =>
    try dsimp only at h
    cases h
    exact ⟨fun q e => (by cases e; rfl), fun e he => (by cases he)⟩
  | inr b4e =>
    try dsimp only at h
    refine ⟨fun q e => (by cases e), fun e he => ?_⟩
    cases he
    refine x_iconst 53 rfl (v := 1) dX9_isAsSeen_52 (by decide) ?_
    cases h
    exact x_zret (Or.inr rfl) dX9_isAsSeen_53 rfl rfl rfl
theorem K_RX9_463 : x_KV RX9 463 M_Mo_isAsSeen 0 := ⟨⟨(List.mem_append_right _ (List.mem_of_getElem? (i := 1830) (by decide +kernel))), (List.mem_append_right _ (List.mem_of_getElem? (i := 1833) (by decide +kernel))), (List.mem_append_right _ (List.mem_of_getElem? (i := 9) (by decide +kernel))), ⟨by decide +kernel, by decide +kernel⟩, by decide +kernel⟩, (List.mem_append_right _ (List.mem_of_getElem? (i := 1832) (by decide +kernel))), (List.mem_append_left _ (List.mem_of_getElem? (i := 102) (by decide +kernel)))⟩
abbrev M_Mo_lags : xM := (yX9_lags, cX9_lags, 6, some .int, [])
theorem dX9_lags_0 : decode cX9_lags 0 = .ok (.aload_n 0, 1) := by decide +kernel
theorem dX9_lags_1 : decode cX9_lags 1 = .ok (.iconst 0, 1) := by decide +kernel
theorem dX9_lags_2 : decode cX9_lags 2 = .ok (.putfield 132, 3) := by decide +kernel
theorem dX9_lags_5 : decode cX9_lags 5 = .ok (.aload_n 0, 1) := by decide +kernel
theorem dX9_lags_6 : decode cX9_lags 6 = .ok (.iload_n 1, 1) := by decide +kernel
theorem dX9_lags_7 : decode cX9_lags 7 = .ok (.iconst 1, 1) := by decide +kernel
theorem dX9_lags_8 : decode cX9_lags 8 = .ok (.invokevirtual 421, 3) := by decide +kernel
theorem dX9_lags_11 : decode cX9_lags 11 = .ok (.ifCond .ne 5, 3) := by decide +kernel
theorem dX9_lags_14 : decode cX9_lags 14 = .ok (.iconst 0, 1) := by decide +kernel
theorem dX9_lags_15 : decode cX9_lags 15 = .ok (.ireturn, 1) := by decide +kernel
theorem dX9_lags_16 : decode cX9_lags 16 = .ok (.aload_n 0, 1) := by decide +kernel
theorem dX9_lags_17 : decode cX9_lags 17 = .ok (.getfield 78, 3) := by decide +kernel
theorem dX9_lags_20 : decode cX9_lags 20 = .ok (.iconst 1, 1) := by decide +kernel
theorem dX9_lags_21 : decode cX9_lags 21 = .ok (.iaload, 1) := by decide +kernel
theorem dX9_lags_22 : decode cX9_lags 22 = .ok (.istore_n 2, 1) := by decide +kernel
theorem dX9_lags_23 : decode cX9_lags 23 = .ok (.iconst (-1), 1) := by decide +kernel
theorem dX9_lags_24 : decode cX9_lags 24 = .ok (.istore_n 3, 1) := by decide +kernel
theorem dX9_lags_25 : decode cX9_lags 25 = .ok (.iconst (-1), 1) := by decide +kernel
theorem dX9_lags_26 : decode cX9_lags 26 = .ok (.istore 4, 2) := by decide +kernel
theorem dX9_lags_28 : decode cX9_lags 28 = .ok (.iconst 0, 1) := by decide +kernel
theorem dX9_lags_29 : decode cX9_lags 29 = .ok (.istore 5, 2) := by decide +kernel
theorem dX9_lags_31 : decode cX9_lags 31 = .ok (.iload 5, 2) := by decide +kernel
theorem dX9_lags_33 : decode cX9_lags 33 = .ok (.bipush 24, 2) := by decide +kernel
theorem dX9_lags_35 : decode cX9_lags 35 = .ok (.if_icmp .gt 47, 3) := by decide +kernel
theorem dX9_lags_38 : decode cX9_lags 38 = .ok (.aload_n 0, 1) := by decide +kernel
theorem dX9_lags_39 : decode cX9_lags 39 = .ok (.getfield 78, 3) := by decide +kernel
theorem dX9_lags_42 : decode cX9_lags 42 = .ok (.iconst 1, 1) := by decide +kernel
theorem dX9_lags_43 : decode cX9_lags 43 = .ok (.iload 5, 2) := by decide +kernel
theorem dX9_lags_45 : decode cX9_lags 45 = .ok (.iastore, 1) := by decide +kernel
theorem dX9_lags_46 : decode cX9_lags 46 = .ok (.aload_n 0, 1) := by decide +kernel
theorem dX9_lags_47 : decode cX9_lags 47 = .ok (.invokevirtual 408, 3) := by decide +kernel
theorem dX9_lags_50 : decode cX9_lags 50 = .ok (.aload_n 0, 1) := by decide +kernel
theorem dX9_lags_51 : decode cX9_lags 51 = .ok (.invokevirtual 463, 3) := by decide +kernel
theorem dX9_lags_54 : decode cX9_lags 54 = .ok (.ifCond .ne 6, 3) := by decide +kernel
theorem dX9_lags_57 : decode cX9_lags 57 = .ok (.goto 19, 3) := by decide +kernel
theorem dX9_lags_60 : decode cX9_lags 60 = .ok (.iload_n 3, 1) := by decide +kernel
theorem dX9_lags_61 : decode cX9_lags 61 = .ok (.iconst (-1), 1) := by decide +kernel
theorem dX9_lags_62 : decode cX9_lags 62 = .ok (.if_icmp .ne 8, 3) := by decide +kernel
theorem dX9_lags_65 : decode cX9_lags 65 = .ok (.iload 5, 2) := by decide +kernel
theorem dX9_lags_67 : decode cX9_lags 67 = .ok (.goto 4, 3) := by decide +kernel
theorem dX9_lags_70 : decode cX9_lags 70 = .ok (.iload_n 3, 1) := by decide +kernel
theorem dX9_lags_71 : decode cX9_lags 71 = .ok (.istore_n 3, 1) := by decide +kernel
theorem dX9_lags_72 : decode cX9_lags 72 = .ok (.iload 5, 2) := by decide +kernel
theorem dX9_lags_74 : decode cX9_lags 74 = .ok (.istore 4, 2) := by decide +kernel
theorem dX9_lags_76 : decode cX9_lags 76 = .ok (.iinc 5 1, 3) := by decide +kernel
theorem dX9_lags_79 : decode cX9_lags 79 = .ok (.goto (-48), 3) := by decide +kernel
theorem dX9_lags_82 : decode cX9_lags 82 = .ok (.aload_n 0, 1) := by decide +kernel
theorem dX9_lags_83 : decode cX9_lags 83 = .ok (.getfield 78, 3) := by decide +kernel
theorem dX9_lags_86 : decode cX9_lags 86 = .ok (.iconst 1, 1) := by decide +kernel
theorem dX9_lags_87 : decode cX9_lags 87 = .ok (.iload_n 2, 1) := by decide +kernel
theorem dX9_lags_88 : decode cX9_lags 88 = .ok (.iastore, 1) := by decide +kernel
theorem dX9_lags_89 : decode cX9_lags 89 = .ok (.iload_n 1, 1) := by decide +kernel
theorem dX9_lags_90 : decode cX9_lags 90 = .ok (.ifCond .ne 7, 3) := by decide +kernel
theorem dX9_lags_93 : decode cX9_lags 93 = .ok (.iload_n 3, 1) := by decide +kernel
theorem dX9_lags_94 : decode cX9_lags 94 = .ok (.goto 5, 3) := by decide +kernel
theorem dX9_lags_97 : decode cX9_lags 97 = .ok (.iload 4, 2) := by decide +kernel
theorem dX9_lags_99 : decode cX9_lags 99 = .ok (.ireturn, 1) := by decide +kernel
def f_Mo_lags_60_L31 (v1 : Int32) (v2 : Int32) (a : Int32 × Int32 × Int32 × xS) : Option ((Int32 × Int32 × Int32 × xS) ⊕ (Int32 × Int32 × Int32 × xS)) :=
  let v3 := a.1; let v4 := a.2.1; let v5 := a.2.2.1; let σ := a.2.2.2;
  if (24 : Int32) < v5 then
    some (.inl (v3, v4, v5, σ))
  else
    let σ1 := x_pI σ 79 1 v5
    (f_Mo_goesThrough_60  σ1).bind fun q2 =>
    (f_Mo_isAsSeen_60  q2.2).bind fun q3 =>
    if q3.1 = 0 then
      let w6 := v5 + (1 : Int32)
      some (.inr (v3, v4, w6, q3.2))
    else
      if v3 = (-1 : Int32) then
        let w5 := v5 + (1 : Int32)
        some (.inr (v5, v5, w5, q3.2))
      else
        let w4 := v5 + (1 : Int32)
        some (.inr (v3, v5, w4, q3.2))
def f_Mo_lags_60 (v1 : Int32) (σ : xS) : Option (Int32 × xS) :=
  let σ7 := x_pI σ 60 0 (0 : Int32)
  (f_Mo_isWhat_60 v1 (1 : Int32) σ7).bind fun q8 =>
  if q8.1 = 0 then
    some ((0 : Int32), q8.2)
  else
    let w9 := q8.2.1 79 1
    (x_it (f_Mo_lags_60_L31 v1 w9) 10000 ((-1 : Int32), (-1 : Int32), (0 : Int32), q8.2)).bind fun b10 =>
    let σ11 := x_pI b10.2.2.2 79 1 w9
    if v1 = 0 then
      some (b10.1, σ11)
    else
      some (b10.2.1, σ11)
set_option maxHeartbeats 4000000 in
set_option maxRecDepth 100000 in
theorem b_Mo_lags_60_L31 {l : Launch} {s0 : State} {a0 : Array Value} {D : va_G} {cA : Nat → ClassId} {sp : Nat → Nat} (E : x_En CL l s0 a0 D cA sp) (v1 : Int32) (v2 : Int32) {r : Int32} {σ1 : xS} (a : Int32 × Int32 × Int32 × xS) (o : (Int32 × Int32 × Int32 × xS) ⊕ (Int32 × Int32 × Int32 × xS)) (h : f_Mo_lags_60_L31 v1 v2 a = some o) (hK : ∀ b, o = .inl b → zW l s0 D cA sp (zQ s0 D cA sp (some (.int r)) σ1) (x_rm 5 0 0) M_Mo_lags 0 0 82 [some (.ref 60), some (.int v1), some (.int v2), some (.int b.1), some (.int b.2.1), none] [] b.2.2.2) (hG : ∀ a', o = .inr a' → zW l s0 D cA sp (zQ s0 D cA sp (some (.int r)) σ1) (x_rm 5 0 0) M_Mo_lags 0 0 31 [some (.ref 60), some (.int v1), some (.int v2), some (.int a'.1), some (.int a'.2.1), some (.int a'.2.2.1)] [] a'.2.2.2) : zW l s0 D cA sp (zQ s0 D cA sp (some (.int r)) σ1) (x_rm 5 0 0) M_Mo_lags 0 0 31 [some (.ref 60), some (.int v1), some (.int v2), some (.int a.1), some (.int a.2.1), some (.int a.2.2.1)] [] a.2.2.2 := by
  obtain ⟨v3, v4, v5, σ⟩ := a
  unfold f_Mo_lags_60_L31 at h
  try dsimp only at h ⊢
  refine x_iload 33 rfl dX9_lags_31 rfl ?_
  refine x_bipush 35 rfl (v := 24) dX9_lags_33 (by decide) ?_
  refine x_icmp_gt 38 rfl 82 dX9_lags_35 (by decide) (fun hc => ?_) (fun hc => ?_)
  · replace h := x_ifT hc h
    cases h
    exact x_wk (x_le_s (x_le_s (x_le_s (x_le_s (x_le_s (x_le_n x_le_0)))))) (hK (_, _, _, _) rfl)
  · replace h := x_ifF hc h
    refine x_aload_n 39 rfl 0 dX9_lags_38 rfl rfl ?_
    refine x_getR E dX9_lags_39 F_RX9_78 sh_60 rf_60_53 42 rfl ?_
    refine x_iconst 43 rfl (v := 1) dX9_lags_42 (by decide) ?_
    refine x_iload 45 rfl dX9_lags_43 rfl ?_
    refine x_iast E dX9_lags_45 sh_79 1 (by decide) (by decide) 46 rfl ?_
    refine x_aload_n 47 rfl 0 dX9_lags_46 rfl rfl ?_
    obtain ⟨⟨q2r, q2s⟩, q2h, h⟩ := x_bind h
    try dsimp only at h
    refine z_callV E [] [] dX9_lags_47 K_RX9_408 ⟨Nat.le_of_ble_eq_true rfl, Nat.le_of_ble_eq_true rfl⟩ sh_60 (by decide) rfl (c_Mo_goesThrough_60 E  q2h) rfl rfl (Nat.le_of_ble_eq_true rfl) 50 rfl [] rfl ?_
    refine x_aload_n 51 rfl 0 dX9_lags_50 rfl rfl ?_
    obtain ⟨⟨q3r, q3s⟩, q3h, h⟩ := x_bind h
    try dsimp only at h
    refine z_callV E [] [] dX9_lags_51 K_RX9_463 ⟨Nat.le_of_ble_eq_true rfl, Nat.le_of_ble_eq_true rfl⟩ sh_60 (by decide) rfl (c_Mo_isAsSeen_60 E  q3h) rfl rfl (Nat.le_of_ble_eq_true rfl) 54 rfl [.int _] rfl ?_
    refine x_if_ne 57 rfl 60 dX9_lags_54 (by decide) (fun hc => ?_) (fun hc => ?_)
    · replace h := x_ifF hc h
      refine x_iload_n 61 rfl 3 dX9_lags_60 rfl rfl ?_
      refine x_iconst 62 rfl (v := -1) dX9_lags_61 (by decide) ?_
      refine x_icmp_ne 65 rfl 70 dX9_lags_62 (by decide) (fun hc => ?_) (fun hc => ?_)
      · replace h := x_ifF hc h
        refine x_iload_n 71 rfl 3 dX9_lags_70 rfl rfl ?_
        refine x_istore_n 72 rfl 3 dX9_lags_71 rfl (by decide) [some (.ref 60), some (.int _), some (.int _), some (.int _), some (.int _), some (.int _)] rfl ?_
        refine x_iload 74 rfl dX9_lags_72 rfl ?_
        refine x_istore 76 rfl dX9_lags_74 (by decide) [some (.ref 60), some (.int _), some (.int _), some (.int _), some (.int _), some (.int _)] rfl ?_
        refine x_iinc 79 rfl (1) dX9_lags_76 rfl (by decide) (by decide) [some (.ref 60), some (.int _), some (.int _), some (.int _), some (.int _), some (.int _)] rfl ?_
        refine x_goto 31 dX9_lags_79 (by decide) ?_
        cases h
        exact x_wk (x_le_s (x_le_s (x_le_s (x_le_s (x_le_s (x_le_s x_le_0)))))) (hG (_, _, _, _) rfl)
      · replace h := x_ifT hc h
        refine x_iload 67 rfl dX9_lags_65 rfl ?_
        refine x_goto 71 dX9_lags_67 (by decide) ?_
        refine x_istore_n 72 rfl 3 dX9_lags_71 rfl (by decide) [some (.ref 60), some (.int _), some (.int _), some (.int _), some (.int _), some (.int _)] rfl ?_
        refine x_iload 74 rfl dX9_lags_72 rfl ?_
        refine x_istore 76 rfl dX9_lags_74 (by decide) [some (.ref 60), some (.int _), some (.int _), some (.int _), some (.int _), some (.int _)] rfl ?_
        refine x_iinc 79 rfl (1) dX9_lags_76 rfl (by decide) (by decide) [some (.ref 60), some (.int _), some (.int _), some (.int _), some (.int _), some (.int _)] rfl ?_
        refine x_goto 31 dX9_lags_79 (by decide) ?_
        cases h
        exact x_wk (x_le_s (x_le_s (x_le_s (x_le_s (x_le_s (x_le_s x_le_0)))))) (hG (_, _, _, _) rfl)
    · replace h := x_ifT hc h
      refine x_goto 76 dX9_lags_57 (by decide) ?_
      refine x_iinc 79 rfl (1) dX9_lags_76 rfl (by decide) (by decide) [some (.ref 60), some (.int _), some (.int _), some (.int _), some (.int _), some (.int _)] rfl ?_
      refine x_goto 31 dX9_lags_79 (by decide) ?_
      cases h
      exact x_wk (x_le_s (x_le_s (x_le_s (x_le_s (x_le_s (x_le_s x_le_0)))))) (hG (_, _, _, _) rfl)
set_option maxHeartbeats 4000000 in
set_option maxRecDepth 100000 in
theorem c_Mo_lags_60 {l : Launch} {s0 : State} {a0 : Array Value} {D : va_G} {cA : Nat → ClassId} {sp : Nat → Nat} (E : x_En CL l s0 a0 D cA sp) (v1 : Int32) {σ : xS} {r : Int32} {σ1 : xS} (h : f_Mo_lags_60 v1 σ = some (r, σ1)) : zC l s0 D cA sp 5 M_Mo_lags [.ref 60, .int v1] σ (some (.int r)) σ1 := by
  unfold f_Mo_lags_60 at h
  try dsimp only at h
  refine x_enter [some (.ref 60), some (.int v1), none, none, none, none] rfl (Nat.le_of_ble_eq_true rfl) (by decide +kernel) rfl ?_
  refine x_aload_n 1 rfl 0 dX9_lags_0 rfl rfl ?_
  refine x_iconst 2 rfl (v := 0) dX9_lags_1 (by decide) ?_
  refine x_putI E dX9_lags_2 F_RX9_132 sh_60 5 rfl ?_
  refine x_aload_n 6 rfl 0 dX9_lags_5 rfl rfl ?_
  refine x_iload_n 7 rfl 1 dX9_lags_6 rfl rfl ?_
  refine x_iconst 8 rfl (v := 1) dX9_lags_7 (by decide) ?_
  obtain ⟨⟨q8r, q8s⟩, q8h, h⟩ := x_bind h
  try dsimp only at h
  refine z_callV E [.int _, .int _] [] dX9_lags_8 K_RX9_421 ⟨Nat.le_of_ble_eq_true rfl, Nat.le_of_ble_eq_true rfl⟩ sh_60 (by decide) rfl (c_Mo_isWhat_60 E _ _ q8h) rfl rfl (Nat.le_of_ble_eq_true rfl) 11 rfl [.int _] rfl ?_
  refine x_if_ne 14 rfl 16 dX9_lags_11 (by decide) (fun hc => ?_) (fun hc => ?_)
  · replace h := x_ifF hc h
    refine x_aload_n 17 rfl 0 dX9_lags_16 rfl rfl ?_
    refine x_getR E dX9_lags_17 F_RX9_78 sh_60 rf_60_53 20 rfl ?_
    refine x_iconst 21 rfl (v := 1) dX9_lags_20 (by decide) ?_
    refine x_iald E dX9_lags_21 sh_79 1 (by decide) (by decide) 22 rfl ?_
    refine x_istore_n 23 rfl 2 dX9_lags_22 rfl (by decide) [some (.ref 60), some (.int _), some (.int _), none, none, none] rfl ?_
    refine x_iconst 24 rfl (v := -1) dX9_lags_23 (by decide) ?_
    refine x_istore_n 25 rfl 3 dX9_lags_24 rfl (by decide) [some (.ref 60), some (.int _), some (.int _), some (.int _), none, none] rfl ?_
    refine x_iconst 26 rfl (v := -1) dX9_lags_25 (by decide) ?_
    refine x_istore 28 rfl dX9_lags_26 (by decide) [some (.ref 60), some (.int _), some (.int _), some (.int _), some (.int _), none] rfl ?_
    refine x_iconst 29 rfl (v := 0) dX9_lags_28 (by decide) ?_
    refine x_istore 31 rfl dX9_lags_29 (by decide) [some (.ref 60), some (.int _), some (.int _), some (.int _), some (.int _), some (.int _)] rfl ?_
    obtain ⟨b10, b10h, h⟩ := x_bind h
    try dsimp only at h
    refine x_wk (x_le_s (x_le_s (x_le_s (x_le_s (x_le_s (x_le_s x_le_0)))))) (x_loop (fun a o h hK hG => b_Mo_lags_60_L31 (r := r) (σ1 := σ1) E _ _ a o h hK hG) _ _ _ b10h ?_)
    refine x_aload_n 83 rfl 0 dX9_lags_82 rfl rfl ?_
    refine x_getR E dX9_lags_83 F_RX9_78 sh_60 rf_60_53 86 rfl ?_
    refine x_iconst 87 rfl (v := 1) dX9_lags_86 (by decide) ?_
    refine x_iload_n 88 rfl 2 dX9_lags_87 rfl rfl ?_
    refine x_iast E dX9_lags_88 sh_79 1 (by decide) (by decide) 89 rfl ?_
    refine x_iload_n 90 rfl 1 dX9_lags_89 rfl rfl ?_
    refine x_if_ne 93 rfl 97 dX9_lags_90 (by decide) (fun hc => ?_) (fun hc => ?_)
    · replace h := x_ifF hc h
      refine x_iload 99 rfl dX9_lags_97 rfl ?_
      cases h
      exact x_iret dX9_lags_99 rfl rfl rfl
    · replace h := x_ifT hc h
      refine x_iload_n 94 rfl 3 dX9_lags_93 rfl rfl ?_
      refine x_goto 99 dX9_lags_94 (by decide) ?_
      cases h
      exact x_iret dX9_lags_99 rfl rfl rfl
  · replace h := x_ifT hc h
    refine x_iconst 15 rfl (v := 0) dX9_lags_14 (by decide) ?_
    cases h
    exact x_iret dX9_lags_15 rfl rfl rfl
abbrev M_Mo_depth : xM := (yX9_depth, cX9_depth, 6, some .int, [])
theorem dX9_depth_0 : decode cX9_depth 0 = .ok (.aload_n 0, 1) := by decide +kernel
theorem dX9_depth_1 : decode cX9_depth 1 = .ok (.iconst 0, 1) := by decide +kernel
theorem dX9_depth_2 : decode cX9_depth 2 = .ok (.putfield 132, 3) := by decide +kernel
theorem dX9_depth_5 : decode cX9_depth 5 = .ok (.aload_n 0, 1) := by decide +kernel
theorem dX9_depth_6 : decode cX9_depth 6 = .ok (.iload_n 2, 1) := by decide +kernel
theorem dX9_depth_7 : decode cX9_depth 7 = .ok (.iconst 1, 1) := by decide +kernel
theorem dX9_depth_8 : decode cX9_depth 8 = .ok (.invokevirtual 421, 3) := by decide +kernel
theorem dX9_depth_11 : decode cX9_depth 11 = .ok (.ifCond .eq 19, 3) := by decide +kernel
theorem dX9_depth_14 : decode cX9_depth 14 = .ok (.aload_n 0, 1) := by decide +kernel
theorem dX9_depth_15 : decode cX9_depth 15 = .ok (.iload_n 1, 1) := by decide +kernel
theorem dX9_depth_16 : decode cX9_depth 16 = .ok (.iconst 0, 1) := by decide +kernel
theorem dX9_depth_17 : decode cX9_depth 17 = .ok (.sipush 999, 3) := by decide +kernel
theorem dX9_depth_20 : decode cX9_depth 20 = .ok (.invokestatic 414, 3) := by decide +kernel
theorem dX9_depth_23 : decode cX9_depth 23 = .ok (.iconst 2, 1) := by decide +kernel
theorem dX9_depth_24 : decode cX9_depth 24 = .ok (.invokevirtual 311, 3) := by decide +kernel
theorem dX9_depth_27 : decode cX9_depth 27 = .ok (.ifCond .ne 5, 3) := by decide +kernel
theorem dX9_depth_30 : decode cX9_depth 30 = .ok (.iconst 0, 1) := by decide +kernel
theorem dX9_depth_31 : decode cX9_depth 31 = .ok (.ireturn, 1) := by decide +kernel
theorem dX9_depth_32 : decode cX9_depth 32 = .ok (.iconst (-1), 1) := by decide +kernel
theorem dX9_depth_33 : decode cX9_depth 33 = .ok (.istore_n 3, 1) := by decide +kernel
theorem dX9_depth_34 : decode cX9_depth 34 = .ok (.iconst (-1), 1) := by decide +kernel
theorem dX9_depth_35 : decode cX9_depth 35 = .ok (.istore 4, 2) := by decide +kernel
theorem dX9_depth_37 : decode cX9_depth 37 = .ok (.bipush 12, 2) := by decide +kernel
theorem dX9_depth_39 : decode cX9_depth 39 = .ok (.istore 5, 2) := by decide +kernel
theorem dX9_depth_41 : decode cX9_depth 41 = .ok (.iload 5, 2) := by decide +kernel
theorem dX9_depth_43 : decode cX9_depth 43 = .ok (.sipush 480, 3) := by decide +kernel
theorem dX9_depth_46 : decode cX9_depth 46 = .ok (.if_icmp .gt 47, 3) := by decide +kernel
theorem dX9_depth_49 : decode cX9_depth 49 = .ok (.aload_n 0, 1) := by decide +kernel
theorem dX9_depth_50 : decode cX9_depth 50 = .ok (.iload 5, 2) := by decide +kernel
theorem dX9_depth_52 : decode cX9_depth 52 = .ok (.invokevirtual 396, 3) := by decide +kernel
theorem dX9_depth_55 : decode cX9_depth 55 = .ok (.iload_n 1, 1) := by decide +kernel
theorem dX9_depth_56 : decode cX9_depth 56 = .ok (.invokestatic 372, 3) := by decide +kernel
theorem dX9_depth_59 : decode cX9_depth 59 = .ok (.aload_n 0, 1) := by decide +kernel
theorem dX9_depth_60 : decode cX9_depth 60 = .ok (.getfield 78, 3) := by decide +kernel
theorem dX9_depth_63 : decode cX9_depth 63 = .ok (.iconst 0, 1) := by decide +kernel
theorem dX9_depth_64 : decode cX9_depth 64 = .ok (.iaload, 1) := by decide +kernel
theorem dX9_depth_65 : decode cX9_depth 65 = .ok (.if_icmp .le 6, 3) := by decide +kernel
theorem dX9_depth_68 : decode cX9_depth 68 = .ok (.goto 19, 3) := by decide +kernel
theorem dX9_depth_71 : decode cX9_depth 71 = .ok (.iload_n 3, 1) := by decide +kernel
theorem dX9_depth_72 : decode cX9_depth 72 = .ok (.iconst (-1), 1) := by decide +kernel
theorem dX9_depth_73 : decode cX9_depth 73 = .ok (.if_icmp .ne 8, 3) := by decide +kernel
theorem dX9_depth_76 : decode cX9_depth 76 = .ok (.iload 5, 2) := by decide +kernel
theorem dX9_depth_78 : decode cX9_depth 78 = .ok (.goto 4, 3) := by decide +kernel
theorem dX9_depth_81 : decode cX9_depth 81 = .ok (.iload_n 3, 1) := by decide +kernel
theorem dX9_depth_82 : decode cX9_depth 82 = .ok (.istore_n 3, 1) := by decide +kernel
theorem dX9_depth_83 : decode cX9_depth 83 = .ok (.iload 5, 2) := by decide +kernel
theorem dX9_depth_85 : decode cX9_depth 85 = .ok (.istore 4, 2) := by decide +kernel
theorem dX9_depth_87 : decode cX9_depth 87 = .ok (.iinc 5 1, 3) := by decide +kernel
theorem dX9_depth_90 : decode cX9_depth 90 = .ok (.goto (-49), 3) := by decide +kernel
theorem dX9_depth_93 : decode cX9_depth 93 = .ok (.iload_n 2, 1) := by decide +kernel
theorem dX9_depth_94 : decode cX9_depth 94 = .ok (.ifCond .ne 7, 3) := by decide +kernel
theorem dX9_depth_97 : decode cX9_depth 97 = .ok (.iload_n 3, 1) := by decide +kernel
theorem dX9_depth_98 : decode cX9_depth 98 = .ok (.goto 5, 3) := by decide +kernel
theorem dX9_depth_101 : decode cX9_depth 101 = .ok (.iload 4, 2) := by decide +kernel
theorem dX9_depth_103 : decode cX9_depth 103 = .ok (.ireturn, 1) := by decide +kernel
def f_Mo_depth_60_L41 (v1 : Int32) (v2 : Int32) (a : Int32 × Int32 × Int32 × xS) : Option ((Int32 × Int32 × Int32 × xS) ⊕ (Int32 × Int32 × Int32 × xS)) :=
  let v3 := a.1; let v4 := a.2.1; let v5 := a.2.2.1; let σ := a.2.2.2;
  if (480 : Int32) < v5 then
    some (.inl (v3, v4, v5, σ))
  else
    (f_Mo_turnOf_60 v5 σ).bind fun q1 =>
    (f_Mo_off q1.1 v1 q1.2).bind fun q2 =>
    if q2.1 ≤ q2.2.1 79 0 then
      if v3 = (-1 : Int32) then
        let w4 := v5 + (1 : Int32)
        some (.inr (v5, v5, w4, q2.2))
      else
        let w3 := v5 + (1 : Int32)
        some (.inr (v3, v5, w3, q2.2))
    else
      let w5 := v5 + (1 : Int32)
      some (.inr (v3, v4, w5, q2.2))
def f_Mo_depth_60 (v1 : Int32) (v2 : Int32) (σ : xS) : Option (Int32 × xS) :=
  let σ6 := x_pI σ 60 0 (0 : Int32)
  (f_Mo_isWhat_60 v2 (1 : Int32) σ6).bind fun q7 =>
  if q7.1 = 0 then
    some ((0 : Int32), q7.2)
  else
    (f_Mo_within v1 (0 : Int32) (999 : Int32) q7.2).bind fun q8 =>
    (f_Mo_right_60 q8.1 (2 : Int32) q8.2).bind fun q9 =>
    if q9.1 = 0 then
      some ((0 : Int32), q9.2)
    else
      (x_it (f_Mo_depth_60_L41 v1 v2) 10000 ((-1 : Int32), (-1 : Int32), (12 : Int32), q9.2)).bind fun b10 =>
      if v2 = 0 then
        some (b10.1, b10.2.2.2)
      else
        some (b10.2.1, b10.2.2.2)
set_option maxHeartbeats 4000000 in
set_option maxRecDepth 100000 in
theorem b_Mo_depth_60_L41 {l : Launch} {s0 : State} {a0 : Array Value} {D : va_G} {cA : Nat → ClassId} {sp : Nat → Nat} (E : x_En CL l s0 a0 D cA sp) (v1 : Int32) (v2 : Int32) {r : Int32} {σ1 : xS} (a : Int32 × Int32 × Int32 × xS) (o : (Int32 × Int32 × Int32 × xS) ⊕ (Int32 × Int32 × Int32 × xS)) (h : f_Mo_depth_60_L41 v1 v2 a = some o) (hK : ∀ b, o = .inl b → zW l s0 D cA sp (zQ s0 D cA sp (some (.int r)) σ1) (x_rm 3 0 0) M_Mo_depth 0 0 93 [none, none, some (.int v2), some (.int b.1), some (.int b.2.1), none] [] b.2.2.2) (hG : ∀ a', o = .inr a' → zW l s0 D cA sp (zQ s0 D cA sp (some (.int r)) σ1) (x_rm 3 0 0) M_Mo_depth 0 0 41 [some (.ref 60), some (.int v1), some (.int v2), some (.int a'.1), some (.int a'.2.1), some (.int a'.2.2.1)] [] a'.2.2.2) : zW l s0 D cA sp (zQ s0 D cA sp (some (.int r)) σ1) (x_rm 3 0 0) M_Mo_depth 0 0 41 [some (.ref 60), some (.int v1), some (.int v2), some (.int a.1), some (.int a.2.1), some (.int a.2.2.1)] [] a.2.2.2 := by
  obtain ⟨v3, v4, v5, σ⟩ := a
  unfold f_Mo_depth_60_L41 at h
  try dsimp only at h ⊢
  refine x_iload 43 rfl dX9_depth_41 rfl ?_
  refine x_sipush 46 rfl (v := 480) dX9_depth_43 (by decide) ?_
  refine x_icmp_gt 49 rfl 93 dX9_depth_46 (by decide) (fun hc => ?_) (fun hc => ?_)
  · replace h := x_ifT hc h
    cases h
    exact x_wk (x_le_n (x_le_n (x_le_s (x_le_s (x_le_s (x_le_n x_le_0)))))) (hK (_, _, _, _) rfl)
  · replace h := x_ifF hc h
    refine x_aload_n 50 rfl 0 dX9_depth_49 rfl rfl ?_
    refine x_iload 52 rfl dX9_depth_50 rfl ?_
    obtain ⟨⟨q1r, q1s⟩, q1h, h⟩ := x_bind h
    try dsimp only at h
    refine z_callV E [.int _] [] dX9_depth_52 K_RX9_396 ⟨Nat.le_of_ble_eq_true rfl, Nat.le_of_ble_eq_true rfl⟩ sh_60 (by decide) rfl (c_Mo_turnOf_60 E _ q1h) rfl rfl (Nat.le_of_ble_eq_true rfl) 55 rfl [.int _] rfl ?_
    refine x_iload_n 56 rfl 1 dX9_depth_55 rfl rfl ?_
    obtain ⟨⟨q2r, q2s⟩, q2h, h⟩ := x_bind h
    try dsimp only at h
    refine z_callS E [.int _, .int _] [] dX9_depth_56 K_RX9_372 ⟨Nat.le_of_ble_eq_true rfl, Nat.le_of_ble_eq_true rfl⟩ (c_Mo_off E _ _ q2h) rfl rfl (Nat.le_of_ble_eq_true rfl) 59 rfl [.int _] rfl ?_
    refine x_aload_n 60 rfl 0 dX9_depth_59 rfl rfl ?_
    refine x_getR E dX9_depth_60 F_RX9_78 sh_60 rf_60_53 63 rfl ?_
    refine x_iconst 64 rfl (v := 0) dX9_depth_63 (by decide) ?_
    refine x_iald E dX9_depth_64 sh_79 0 (by decide) (by decide) 65 rfl ?_
    refine x_icmp_le 68 rfl 71 dX9_depth_65 (by decide) (fun hc => ?_) (fun hc => ?_)
    · replace h := x_ifT hc h
      refine x_iload_n 72 rfl 3 dX9_depth_71 rfl rfl ?_
      refine x_iconst 73 rfl (v := -1) dX9_depth_72 (by decide) ?_
      refine x_icmp_ne 76 rfl 81 dX9_depth_73 (by decide) (fun hc => ?_) (fun hc => ?_)
      · replace h := x_ifF hc h
        refine x_iload_n 82 rfl 3 dX9_depth_81 rfl rfl ?_
        refine x_istore_n 83 rfl 3 dX9_depth_82 rfl (by decide) [some (.ref 60), some (.int _), some (.int _), some (.int _), some (.int _), some (.int _)] rfl ?_
        refine x_iload 85 rfl dX9_depth_83 rfl ?_
        refine x_istore 87 rfl dX9_depth_85 (by decide) [some (.ref 60), some (.int _), some (.int _), some (.int _), some (.int _), some (.int _)] rfl ?_
        refine x_iinc 90 rfl (1) dX9_depth_87 rfl (by decide) (by decide) [some (.ref 60), some (.int _), some (.int _), some (.int _), some (.int _), some (.int _)] rfl ?_
        refine x_goto 41 dX9_depth_90 (by decide) ?_
        cases h
        exact x_wk (x_le_s (x_le_s (x_le_s (x_le_s (x_le_s (x_le_s x_le_0)))))) (hG (_, _, _, _) rfl)
      · replace h := x_ifT hc h
        refine x_iload 78 rfl dX9_depth_76 rfl ?_
        refine x_goto 82 dX9_depth_78 (by decide) ?_
        refine x_istore_n 83 rfl 3 dX9_depth_82 rfl (by decide) [some (.ref 60), some (.int _), some (.int _), some (.int _), some (.int _), some (.int _)] rfl ?_
        refine x_iload 85 rfl dX9_depth_83 rfl ?_
        refine x_istore 87 rfl dX9_depth_85 (by decide) [some (.ref 60), some (.int _), some (.int _), some (.int _), some (.int _), some (.int _)] rfl ?_
        refine x_iinc 90 rfl (1) dX9_depth_87 rfl (by decide) (by decide) [some (.ref 60), some (.int _), some (.int _), some (.int _), some (.int _), some (.int _)] rfl ?_
        refine x_goto 41 dX9_depth_90 (by decide) ?_
        cases h
        exact x_wk (x_le_s (x_le_s (x_le_s (x_le_s (x_le_s (x_le_s x_le_0)))))) (hG (_, _, _, _) rfl)
    · replace h := x_ifF hc h
      refine x_goto 87 dX9_depth_68 (by decide) ?_
      refine x_iinc 90 rfl (1) dX9_depth_87 rfl (by decide) (by decide) [some (.ref 60), some (.int _), some (.int _), some (.int _), some (.int _), some (.int _)] rfl ?_
      refine x_goto 41 dX9_depth_90 (by decide) ?_
      cases h
      exact x_wk (x_le_s (x_le_s (x_le_s (x_le_s (x_le_s (x_le_s x_le_0)))))) (hG (_, _, _, _) rfl)
set_option maxHeartbeats 4000000 in
set_option maxRecDepth 100000 in
theorem c_Mo_depth_60 {l : Launch} {s0 : State} {a0 : Array Value} {D : va_G} {cA : Nat → ClassId} {sp : Nat → Nat} (E : x_En CL l s0 a0 D cA sp) (v1 : Int32) (v2 : Int32) {σ : xS} {r : Int32} {σ1 : xS} (h : f_Mo_depth_60 v1 v2 σ = some (r, σ1)) : zC l s0 D cA sp 3 M_Mo_depth [.ref 60, .int v1, .int v2] σ (some (.int r)) σ1 := by
  unfold f_Mo_depth_60 at h
  try dsimp only at h
  refine x_enter [some (.ref 60), some (.int v1), some (.int v2), none, none, none] rfl (Nat.le_of_ble_eq_true rfl) (by decide +kernel) rfl ?_
  refine x_aload_n 1 rfl 0 dX9_depth_0 rfl rfl ?_
  refine x_iconst 2 rfl (v := 0) dX9_depth_1 (by decide) ?_
  refine x_putI E dX9_depth_2 F_RX9_132 sh_60 5 rfl ?_
  refine x_aload_n 6 rfl 0 dX9_depth_5 rfl rfl ?_
  refine x_iload_n 7 rfl 2 dX9_depth_6 rfl rfl ?_
  refine x_iconst 8 rfl (v := 1) dX9_depth_7 (by decide) ?_
  obtain ⟨⟨q7r, q7s⟩, q7h, h⟩ := x_bind h
  try dsimp only at h
  refine z_callV E [.int _, .int _] [] dX9_depth_8 K_RX9_421 ⟨Nat.le_of_ble_eq_true rfl, Nat.le_of_ble_eq_true rfl⟩ sh_60 (by decide) rfl (c_Mo_isWhat_60 E _ _ q7h) rfl rfl (Nat.le_of_ble_eq_true rfl) 11 rfl [.int _] rfl ?_
  refine x_if_eq 14 rfl 30 dX9_depth_11 (by decide) (fun hc => ?_) (fun hc => ?_)
  · replace h := x_ifT hc h
    refine x_iconst 31 rfl (v := 0) dX9_depth_30 (by decide) ?_
    cases h
    exact x_iret dX9_depth_31 rfl rfl rfl
  · replace h := x_ifF hc h
    refine x_aload_n 15 rfl 0 dX9_depth_14 rfl rfl ?_
    refine x_iload_n 16 rfl 1 dX9_depth_15 rfl rfl ?_
    refine x_iconst 17 rfl (v := 0) dX9_depth_16 (by decide) ?_
    refine x_sipush 20 rfl (v := 999) dX9_depth_17 (by decide) ?_
    obtain ⟨⟨q8r, q8s⟩, q8h, h⟩ := x_bind h
    try dsimp only at h
    refine z_callS E [.int _, .int _, .int _] [.ref 60] dX9_depth_20 K_RX9_414 ⟨Nat.le_of_ble_eq_true rfl, Nat.le_of_ble_eq_true rfl⟩ (c_Mo_within E _ _ _ q8h) rfl rfl (Nat.le_of_ble_eq_true rfl) 23 rfl [.int _, .ref 60] rfl ?_
    refine x_iconst 24 rfl (v := 2) dX9_depth_23 (by decide) ?_
    obtain ⟨⟨q9r, q9s⟩, q9h, h⟩ := x_bind h
    try dsimp only at h
    refine z_callV E [.int _, .int _] [] dX9_depth_24 K_RX9_311 ⟨Nat.le_of_ble_eq_true rfl, Nat.le_of_ble_eq_true rfl⟩ sh_60 (by decide) rfl (c_Mo_right_60 E _ _ q9h) rfl rfl (Nat.le_of_ble_eq_true rfl) 27 rfl [.int _] rfl ?_
    refine x_if_ne 30 rfl 32 dX9_depth_27 (by decide) (fun hc => ?_) (fun hc => ?_)
    · replace h := x_ifF hc h
      refine x_iconst 33 rfl (v := -1) dX9_depth_32 (by decide) ?_
      refine x_istore_n 34 rfl 3 dX9_depth_33 rfl (by decide) [some (.ref 60), some (.int _), some (.int _), some (.int _), none, none] rfl ?_
      refine x_iconst 35 rfl (v := -1) dX9_depth_34 (by decide) ?_
      refine x_istore 37 rfl dX9_depth_35 (by decide) [some (.ref 60), some (.int _), some (.int _), some (.int _), some (.int _), none] rfl ?_
      refine x_bipush 39 rfl (v := 12) dX9_depth_37 (by decide) ?_
      refine x_istore 41 rfl dX9_depth_39 (by decide) [some (.ref 60), some (.int _), some (.int _), some (.int _), some (.int _), some (.int _)] rfl ?_
      obtain ⟨b10, b10h, h⟩ := x_bind h
      try dsimp only at h
      refine x_wk (x_le_s (x_le_s (x_le_s (x_le_s (x_le_s (x_le_s x_le_0)))))) (x_loop (fun a o h hK hG => b_Mo_depth_60_L41 (r := r) (σ1 := σ1) E _ _ a o h hK hG) _ _ _ b10h ?_)
      refine x_iload_n 94 rfl 2 dX9_depth_93 rfl rfl ?_
      refine x_if_ne 97 rfl 101 dX9_depth_94 (by decide) (fun hc => ?_) (fun hc => ?_)
      · replace h := x_ifF hc h
        refine x_iload 103 rfl dX9_depth_101 rfl ?_
        cases h
        exact x_iret dX9_depth_103 rfl rfl rfl
      · replace h := x_ifT hc h
        refine x_iload_n 98 rfl 3 dX9_depth_97 rfl rfl ?_
        refine x_goto 103 dX9_depth_98 (by decide) ?_
        cases h
        exact x_iret dX9_depth_103 rfl rfl rfl
    · replace h := x_ifT hc h
      refine x_iconst 31 rfl (v := 0) dX9_depth_30 (by decide) ?_
      cases h
      exact x_iret dX9_depth_31 rfl rfl rfl
abbrev M_Mo_shots : xM := (yX9_shots, cX9_shots, 5, some .int, [])
theorem dX9_shots_0 : decode cX9_shots 0 = .ok (.aload_n 0, 1) := by decide +kernel
theorem dX9_shots_1 : decode cX9_shots 1 = .ok (.iconst 0, 1) := by decide +kernel
theorem dX9_shots_2 : decode cX9_shots 2 = .ok (.putfield 132, 3) := by decide +kernel
theorem dX9_shots_5 : decode cX9_shots 5 = .ok (.aload_n 0, 1) := by decide +kernel
theorem dX9_shots_6 : decode cX9_shots 6 = .ok (.iload_n 1, 1) := by decide +kernel
theorem dX9_shots_7 : decode cX9_shots 7 = .ok (.iconst 1, 1) := by decide +kernel
theorem dX9_shots_8 : decode cX9_shots 8 = .ok (.sipush 601, 3) := by decide +kernel
theorem dX9_shots_11 : decode cX9_shots 11 = .ok (.invokestatic 414, 3) := by decide +kernel
theorem dX9_shots_14 : decode cX9_shots 14 = .ok (.iconst 1, 1) := by decide +kernel
theorem dX9_shots_15 : decode cX9_shots 15 = .ok (.invokevirtual 311, 3) := by decide +kernel
theorem dX9_shots_18 : decode cX9_shots 18 = .ok (.ifCond .ne 5, 3) := by decide +kernel
theorem dX9_shots_21 : decode cX9_shots 21 = .ok (.iconst 0, 1) := by decide +kernel
theorem dX9_shots_22 : decode cX9_shots 22 = .ok (.ireturn, 1) := by decide +kernel
theorem dX9_shots_23 : decode cX9_shots 23 = .ok (.aload_n 0, 1) := by decide +kernel
theorem dX9_shots_24 : decode cX9_shots 24 = .ok (.invokevirtual 408, 3) := by decide +kernel
theorem dX9_shots_27 : decode cX9_shots 27 = .ok (.iconst 0, 1) := by decide +kernel
theorem dX9_shots_28 : decode cX9_shots 28 = .ok (.istore_n 2, 1) := by decide +kernel
theorem dX9_shots_29 : decode cX9_shots 29 = .ok (.iconst 0, 1) := by decide +kernel
theorem dX9_shots_30 : decode cX9_shots 30 = .ok (.istore_n 3, 1) := by decide +kernel
theorem dX9_shots_31 : decode cX9_shots 31 = .ok (.iconst 0, 1) := by decide +kernel
theorem dX9_shots_32 : decode cX9_shots 32 = .ok (.istore 4, 2) := by decide +kernel
theorem dX9_shots_34 : decode cX9_shots 34 = .ok (.iload 4, 2) := by decide +kernel
theorem dX9_shots_36 : decode cX9_shots 36 = .ok (.aload_n 0, 1) := by decide +kernel
theorem dX9_shots_37 : decode cX9_shots 37 = .ok (.invokevirtual 390, 3) := by decide +kernel
theorem dX9_shots_40 : decode cX9_shots 40 = .ok (.if_icmp .gt 39, 3) := by decide +kernel
theorem dX9_shots_43 : decode cX9_shots 43 = .ok (.aload_n 0, 1) := by decide +kernel
theorem dX9_shots_44 : decode cX9_shots 44 = .ok (.iload 4, 2) := by decide +kernel
theorem dX9_shots_46 : decode cX9_shots 46 = .ok (.invokevirtual 405, 3) := by decide +kernel
theorem dX9_shots_49 : decode cX9_shots 49 = .ok (.ifCond .eq 9, 3) := by decide +kernel
theorem dX9_shots_52 : decode cX9_shots 52 = .ok (.iload_n 3, 1) := by decide +kernel
theorem dX9_shots_53 : decode cX9_shots 53 = .ok (.iconst 1, 1) := by decide +kernel
theorem dX9_shots_54 : decode cX9_shots 54 = .ok (.iadd, 1) := by decide +kernel
theorem dX9_shots_55 : decode cX9_shots 55 = .ok (.goto 4, 3) := by decide +kernel
theorem dX9_shots_58 : decode cX9_shots 58 = .ok (.iconst 0, 1) := by decide +kernel
theorem dX9_shots_59 : decode cX9_shots 59 = .ok (.istore_n 3, 1) := by decide +kernel
theorem dX9_shots_60 : decode cX9_shots 60 = .ok (.iload_n 2, 1) := by decide +kernel
theorem dX9_shots_61 : decode cX9_shots 61 = .ok (.iload_n 3, 1) := by decide +kernel
theorem dX9_shots_62 : decode cX9_shots 62 = .ok (.iload_n 1, 1) := by decide +kernel
theorem dX9_shots_63 : decode cX9_shots 63 = .ok (.if_icmp .lt 7, 3) := by decide +kernel
theorem dX9_shots_66 : decode cX9_shots 66 = .ok (.iconst 1, 1) := by decide +kernel
theorem dX9_shots_67 : decode cX9_shots 67 = .ok (.goto 4, 3) := by decide +kernel
theorem dX9_shots_70 : decode cX9_shots 70 = .ok (.iconst 0, 1) := by decide +kernel
theorem dX9_shots_71 : decode cX9_shots 71 = .ok (.iadd, 1) := by decide +kernel
theorem dX9_shots_72 : decode cX9_shots 72 = .ok (.istore_n 2, 1) := by decide +kernel
theorem dX9_shots_73 : decode cX9_shots 73 = .ok (.iinc 4 1, 3) := by decide +kernel
theorem dX9_shots_76 : decode cX9_shots 76 = .ok (.goto (-42), 3) := by decide +kernel
theorem dX9_shots_79 : decode cX9_shots 79 = .ok (.iload_n 2, 1) := by decide +kernel
theorem dX9_shots_80 : decode cX9_shots 80 = .ok (.ireturn, 1) := by decide +kernel
def f_Mo_shots_60_J59 (v1 : Int32) (v2 : Int32) (v4 : Int32) (y0 : Int32) (σ : xS) : Option ((Int32 × Int32 × Int32 × xS) ⊕ (Int32 × Int32 × Int32 × xS)) :=
  if y0 < v1 then
    let w1 := (v2 + (0 : Int32))
    let w2 := v4 + (1 : Int32)
    some (.inr (w1, y0, w2, σ))
  else
    let w3 := (v2 + (1 : Int32))
    let w4 := v4 + (1 : Int32)
    some (.inr (w3, y0, w4, σ))
def f_Mo_shots_60_L34 (v1 : Int32) (a : Int32 × Int32 × Int32 × xS) : Option ((Int32 × Int32 × Int32 × xS) ⊕ (Int32 × Int32 × Int32 × xS)) :=
  let v2 := a.1; let v3 := a.2.1; let v4 := a.2.2.1; let σ := a.2.2.2;
  (f_Mo_last_60  σ).bind fun q5 =>
  if q5.1 < v4 then
    some (.inl (v2, v3, v4, q5.2))
  else
    (f_Mo_isSharp_60 v4 q5.2).bind fun q6 =>
    if q6.1 = 0 then
      f_Mo_shots_60_J59 v1 v2 v4 (0 : Int32) q6.2
    else
      f_Mo_shots_60_J59 v1 v2 v4 (v3 + (1 : Int32)) q6.2
def f_Mo_shots_60 (v1 : Int32) (σ : xS) : Option (Int32 × xS) :=
  let σ7 := x_pI σ 60 0 (0 : Int32)
  (f_Mo_within v1 (1 : Int32) (601 : Int32) σ7).bind fun q8 =>
  (f_Mo_right_60 q8.1 (1 : Int32) q8.2).bind fun q9 =>
  if q9.1 = 0 then
    some ((0 : Int32), q9.2)
  else
    (f_Mo_goesThrough_60  q9.2).bind fun q10 =>
    (x_it (f_Mo_shots_60_L34 v1) 10000 ((0 : Int32), (0 : Int32), (0 : Int32), q10.2)).bind fun b11 =>
    some (b11.1, b11.2.2.2)
set_option maxHeartbeats 4000000 in
set_option maxRecDepth 100000 in
theorem j_Mo_shots_60_J59 {l : Launch} {s0 : State} {a0 : Array Value} {D : va_G} {cA : Nat → ClassId} {sp : Nat → Nat} (E : x_En CL l s0 a0 D cA sp) (v1 : Int32) (v2 : Int32) (v4 : Int32) (y0 : Int32)  (σ : xS) {r : Int32} {σ1 : xS} (o : (Int32 × Int32 × Int32 × xS) ⊕ (Int32 × Int32 × Int32 × xS)) (h : f_Mo_shots_60_J59 v1 v2 v4 y0 σ = some o) (hK : ∀ b, o = .inl b → zW l s0 D cA sp (zQ s0 D cA sp (some (.int r)) σ1) (x_rm 5 0 0) M_Mo_shots 0 0 79 [none, none, some (.int b.1), none, none] [] b.2.2.2) (hG : ∀ a', o = .inr a' → zW l s0 D cA sp (zQ s0 D cA sp (some (.int r)) σ1) (x_rm 5 0 0) M_Mo_shots 0 0 34 [some (.ref 60), some (.int v1), some (.int a'.1), some (.int a'.2.1), some (.int a'.2.2.1)] [] a'.2.2.2) : zW l s0 D cA sp (zQ s0 D cA sp (some (.int r)) σ1) (x_rm 5 0 0) M_Mo_shots 0 0 59 [some (.ref 60), some (.int v1), some (.int v2), none, some (.int v4)] [.int y0] σ := by
  unfold f_Mo_shots_60_J59 at h
  try dsimp only at h
  refine x_istore_n 60 rfl 3 dX9_shots_59 rfl (by decide) [some (.ref 60), some (.int _), some (.int _), some (.int _), some (.int _)] rfl ?_
  refine x_iload_n 61 rfl 2 dX9_shots_60 rfl rfl ?_
  refine x_iload_n 62 rfl 3 dX9_shots_61 rfl rfl ?_
  refine x_iload_n 63 rfl 1 dX9_shots_62 rfl rfl ?_
  refine x_icmp_lt 66 rfl 70 dX9_shots_63 (by decide) (fun hc => ?_) (fun hc => ?_)
  · replace h := x_ifT hc h
    refine x_iconst 71 rfl (v := 0) dX9_shots_70 (by decide) ?_
    refine x_iadd 72 rfl dX9_shots_71 ?_
    refine x_istore_n 73 rfl 2 dX9_shots_72 rfl (by decide) [some (.ref 60), some (.int _), some (.int _), some (.int _), some (.int _)] rfl ?_
    refine x_iinc 76 rfl (1) dX9_shots_73 rfl (by decide) (by decide) [some (.ref 60), some (.int _), some (.int _), some (.int _), some (.int _)] rfl ?_
    refine x_goto 34 dX9_shots_76 (by decide) ?_
    cases h
    exact x_wk (x_le_s (x_le_s (x_le_s (x_le_s (x_le_s x_le_0))))) (hG (_, _, _, _) rfl)
  · replace h := x_ifF hc h
    refine x_iconst 67 rfl (v := 1) dX9_shots_66 (by decide) ?_
    refine x_goto 71 dX9_shots_67 (by decide) ?_
    refine x_iadd 72 rfl dX9_shots_71 ?_
    refine x_istore_n 73 rfl 2 dX9_shots_72 rfl (by decide) [some (.ref 60), some (.int _), some (.int _), some (.int _), some (.int _)] rfl ?_
    refine x_iinc 76 rfl (1) dX9_shots_73 rfl (by decide) (by decide) [some (.ref 60), some (.int _), some (.int _), some (.int _), some (.int _)] rfl ?_
    refine x_goto 34 dX9_shots_76 (by decide) ?_
    cases h
    exact x_wk (x_le_s (x_le_s (x_le_s (x_le_s (x_le_s x_le_0))))) (hG (_, _, _, _) rfl)
set_option maxHeartbeats 4000000 in
set_option maxRecDepth 100000 in
theorem b_Mo_shots_60_L34 {l : Launch} {s0 : State} {a0 : Array Value} {D : va_G} {cA : Nat → ClassId} {sp : Nat → Nat} (E : x_En CL l s0 a0 D cA sp) (v1 : Int32) {r : Int32} {σ1 : xS} (a : Int32 × Int32 × Int32 × xS) (o : (Int32 × Int32 × Int32 × xS) ⊕ (Int32 × Int32 × Int32 × xS)) (h : f_Mo_shots_60_L34 v1 a = some o) (hK : ∀ b, o = .inl b → zW l s0 D cA sp (zQ s0 D cA sp (some (.int r)) σ1) (x_rm 5 0 0) M_Mo_shots 0 0 79 [none, none, some (.int b.1), none, none] [] b.2.2.2) (hG : ∀ a', o = .inr a' → zW l s0 D cA sp (zQ s0 D cA sp (some (.int r)) σ1) (x_rm 5 0 0) M_Mo_shots 0 0 34 [some (.ref 60), some (.int v1), some (.int a'.1), some (.int a'.2.1), some (.int a'.2.2.1)] [] a'.2.2.2) : zW l s0 D cA sp (zQ s0 D cA sp (some (.int r)) σ1) (x_rm 5 0 0) M_Mo_shots 0 0 34 [some (.ref 60), some (.int v1), some (.int a.1), some (.int a.2.1), some (.int a.2.2.1)] [] a.2.2.2 := by
  obtain ⟨v2, v3, v4, σ⟩ := a
  unfold f_Mo_shots_60_L34 at h
  try dsimp only at h ⊢
  refine x_iload 36 rfl dX9_shots_34 rfl ?_
  refine x_aload_n 37 rfl 0 dX9_shots_36 rfl rfl ?_
  obtain ⟨⟨q5r, q5s⟩, q5h, h⟩ := x_bind h
  try dsimp only at h
  refine z_callV E [] [.int _] dX9_shots_37 K_RX9_390 ⟨Nat.le_of_ble_eq_true rfl, Nat.le_of_ble_eq_true rfl⟩ sh_60 (by decide) rfl (c_Mo_last_60 E  q5h) rfl rfl (Nat.le_of_ble_eq_true rfl) 40 rfl [.int _, .int _] rfl ?_
  refine x_icmp_gt 43 rfl 79 dX9_shots_40 (by decide) (fun hc => ?_) (fun hc => ?_)
  · replace h := x_ifT hc h
    cases h
    exact x_wk (x_le_n (x_le_n (x_le_s (x_le_n (x_le_n x_le_0))))) (hK (_, _, _, _) rfl)
  · replace h := x_ifF hc h
    refine x_aload_n 44 rfl 0 dX9_shots_43 rfl rfl ?_
    refine x_iload 46 rfl dX9_shots_44 rfl ?_
    obtain ⟨⟨q6r, q6s⟩, q6h, h⟩ := x_bind h
    try dsimp only at h
    refine z_callV E [.int _] [] dX9_shots_46 K_RX9_405 ⟨Nat.le_of_ble_eq_true rfl, Nat.le_of_ble_eq_true rfl⟩ sh_60 (by decide) rfl (c_Mo_isSharp_60 E _ q6h) rfl rfl (Nat.le_of_ble_eq_true rfl) 49 rfl [.int _] rfl ?_
    refine x_if_eq 52 rfl 58 dX9_shots_49 (by decide) (fun hc => ?_) (fun hc => ?_)
    · replace h := x_ifT hc h
      refine x_iconst 59 rfl (v := 0) dX9_shots_58 (by decide) ?_
      exact x_wk (x_le_s (x_le_s (x_le_s (x_le_n (x_le_s x_le_0))))) (j_Mo_shots_60_J59 (r := r) (σ1 := σ1) E _ _ _ _  _ _ h hK hG)
    · replace h := x_ifF hc h
      refine x_iload_n 53 rfl 3 dX9_shots_52 rfl rfl ?_
      refine x_iconst 54 rfl (v := 1) dX9_shots_53 (by decide) ?_
      refine x_iadd 55 rfl dX9_shots_54 ?_
      refine x_goto 59 dX9_shots_55 (by decide) ?_
      exact x_wk (x_le_s (x_le_s (x_le_s (x_le_n (x_le_s x_le_0))))) (j_Mo_shots_60_J59 (r := r) (σ1 := σ1) E _ _ _ _  _ _ h hK hG)
set_option maxHeartbeats 4000000 in
set_option maxRecDepth 100000 in
theorem c_Mo_shots_60 {l : Launch} {s0 : State} {a0 : Array Value} {D : va_G} {cA : Nat → ClassId} {sp : Nat → Nat} (E : x_En CL l s0 a0 D cA sp) (v1 : Int32) {σ : xS} {r : Int32} {σ1 : xS} (h : f_Mo_shots_60 v1 σ = some (r, σ1)) : zC l s0 D cA sp 5 M_Mo_shots [.ref 60, .int v1] σ (some (.int r)) σ1 := by
  unfold f_Mo_shots_60 at h
  try dsimp only at h
  refine x_enter [some (.ref 60), some (.int v1), none, none, none] rfl (Nat.le_of_ble_eq_true rfl) (by decide +kernel) rfl ?_
  refine x_aload_n 1 rfl 0 dX9_shots_0 rfl rfl ?_
  refine x_iconst 2 rfl (v := 0) dX9_shots_1 (by decide) ?_
  refine x_putI E dX9_shots_2 F_RX9_132 sh_60 5 rfl ?_
  refine x_aload_n 6 rfl 0 dX9_shots_5 rfl rfl ?_
  refine x_iload_n 7 rfl 1 dX9_shots_6 rfl rfl ?_
  refine x_iconst 8 rfl (v := 1) dX9_shots_7 (by decide) ?_
  refine x_sipush 11 rfl (v := 601) dX9_shots_8 (by decide) ?_
  obtain ⟨⟨q8r, q8s⟩, q8h, h⟩ := x_bind h
  try dsimp only at h
  refine z_callS E [.int _, .int _, .int _] [.ref 60] dX9_shots_11 K_RX9_414 ⟨Nat.le_of_ble_eq_true rfl, Nat.le_of_ble_eq_true rfl⟩ (c_Mo_within E _ _ _ q8h) rfl rfl (Nat.le_of_ble_eq_true rfl) 14 rfl [.int _, .ref 60] rfl ?_
  refine x_iconst 15 rfl (v := 1) dX9_shots_14 (by decide) ?_
  obtain ⟨⟨q9r, q9s⟩, q9h, h⟩ := x_bind h
  try dsimp only at h
  refine z_callV E [.int _, .int _] [] dX9_shots_15 K_RX9_311 ⟨Nat.le_of_ble_eq_true rfl, Nat.le_of_ble_eq_true rfl⟩ sh_60 (by decide) rfl (c_Mo_right_60 E _ _ q9h) rfl rfl (Nat.le_of_ble_eq_true rfl) 18 rfl [.int _] rfl ?_
  refine x_if_ne 21 rfl 23 dX9_shots_18 (by decide) (fun hc => ?_) (fun hc => ?_)
  · replace h := x_ifF hc h
    refine x_aload_n 24 rfl 0 dX9_shots_23 rfl rfl ?_
    obtain ⟨⟨q10r, q10s⟩, q10h, h⟩ := x_bind h
    try dsimp only at h
    refine z_callV E [] [] dX9_shots_24 K_RX9_408 ⟨Nat.le_of_ble_eq_true rfl, Nat.le_of_ble_eq_true rfl⟩ sh_60 (by decide) rfl (c_Mo_goesThrough_60 E  q10h) rfl rfl (Nat.le_of_ble_eq_true rfl) 27 rfl [] rfl ?_
    refine x_iconst 28 rfl (v := 0) dX9_shots_27 (by decide) ?_
    refine x_istore_n 29 rfl 2 dX9_shots_28 rfl (by decide) [some (.ref 60), some (.int _), some (.int _), none, none] rfl ?_
    refine x_iconst 30 rfl (v := 0) dX9_shots_29 (by decide) ?_
    refine x_istore_n 31 rfl 3 dX9_shots_30 rfl (by decide) [some (.ref 60), some (.int _), some (.int _), some (.int _), none] rfl ?_
    refine x_iconst 32 rfl (v := 0) dX9_shots_31 (by decide) ?_
    refine x_istore 34 rfl dX9_shots_32 (by decide) [some (.ref 60), some (.int _), some (.int _), some (.int _), some (.int _)] rfl ?_
    obtain ⟨b11, b11h, h⟩ := x_bind h
    try dsimp only at h
    refine x_wk (x_le_s (x_le_s (x_le_s (x_le_s (x_le_s x_le_0))))) (x_loop (fun a o h hK hG => b_Mo_shots_60_L34 (r := r) (σ1 := σ1) E _ a o h hK hG) _ _ _ b11h ?_)
    refine x_iload_n 80 rfl 2 dX9_shots_79 rfl rfl ?_
    cases h
    exact x_iret dX9_shots_80 rfl rfl rfl
  · replace h := x_ifT hc h
    refine x_iconst 22 rfl (v := 0) dX9_shots_21 (by decide) ?_
    cases h
    exact x_iret dX9_shots_22 rfl rfl rfl
