/-! The reference's methods: functions and contracts. Written by wip/gen/emit.py. -/
abbrev M_Mo_book : xM := (yX9_book, cX9_book, 2, some .int, [])
theorem dX9_book_0 : decode cX9_book 0 = .ok (.aload_n 0, 1) := by decide +kernel
theorem dX9_book_1 : decode cX9_book 1 = .ok (.iconst 0, 1) := by decide +kernel
theorem dX9_book_2 : decode cX9_book 2 = .ok (.putfield 132, 3) := by decide +kernel
theorem dX9_book_5 : decode cX9_book 5 = .ok (.aload_n 0, 1) := by decide +kernel
theorem dX9_book_6 : decode cX9_book 6 = .ok (.getfield 346, 3) := by decide +kernel
theorem dX9_book_9 : decode cX9_book 9 = .ok (.bipush 16, 2) := by decide +kernel
theorem dX9_book_11 : decode cX9_book 11 = .ok (.if_icmp .eq 15, 3) := by decide +kernel
theorem dX9_book_14 : decode cX9_book 14 = .ok (.iload_n 1, 1) := by decide +kernel
theorem dX9_book_15 : decode cX9_book 15 = .ok (.bipush 12, 2) := by decide +kernel
theorem dX9_book_17 : decode cX9_book 17 = .ok (.sipush 480, 3) := by decide +kernel
theorem dX9_book_20 : decode cX9_book 20 = .ok (.invokestatic 414, 3) := by decide +kernel
theorem dX9_book_23 : decode cX9_book 23 = .ok (.ifCond .ne 10, 3) := by decide +kernel
theorem dX9_book_26 : decode cX9_book 26 = .ok (.aload_n 0, 1) := by decide +kernel
theorem dX9_book_27 : decode cX9_book 27 = .ok (.iconst 2, 1) := by decide +kernel
theorem dX9_book_28 : decode cX9_book 28 = .ok (.iconst (-1), 1) := by decide +kernel
theorem dX9_book_29 : decode cX9_book 29 = .ok (.invokevirtual 442, 3) := by decide +kernel
theorem dX9_book_32 : decode cX9_book 32 = .ok (.ireturn, 1) := by decide +kernel
theorem dX9_book_33 : decode cX9_book 33 = .ok (.aload_n 0, 1) := by decide +kernel
theorem dX9_book_34 : decode cX9_book 34 = .ok (.getfield 117, 3) := by decide +kernel
theorem dX9_book_37 : decode cX9_book 37 = .ok (.aload_n 0, 1) := by decide +kernel
theorem dX9_book_38 : decode cX9_book 38 = .ok (.getfield 346, 3) := by decide +kernel
theorem dX9_book_41 : decode cX9_book 41 = .ok (.iload_n 1, 1) := by decide +kernel
theorem dX9_book_42 : decode cX9_book 42 = .ok (.iastore, 1) := by decide +kernel
theorem dX9_book_43 : decode cX9_book 43 = .ok (.aload_n 0, 1) := by decide +kernel
theorem dX9_book_44 : decode cX9_book 44 = .ok (.dup, 1) := by decide +kernel
theorem dX9_book_45 : decode cX9_book 45 = .ok (.getfield 346, 3) := by decide +kernel
theorem dX9_book_48 : decode cX9_book 48 = .ok (.iconst 1, 1) := by decide +kernel
theorem dX9_book_49 : decode cX9_book 49 = .ok (.iadd, 1) := by decide +kernel
theorem dX9_book_50 : decode cX9_book 50 = .ok (.putfield 346, 3) := by decide +kernel
theorem dX9_book_53 : decode cX9_book 53 = .ok (.aload_n 0, 1) := by decide +kernel
theorem dX9_book_54 : decode cX9_book 54 = .ok (.getfield 346, 3) := by decide +kernel
theorem dX9_book_57 : decode cX9_book 57 = .ok (.ireturn, 1) := by decide +kernel
def f_Mo_book_60 (v1 : Int32) (σ : xS) : Option (Int32 × xS) :=
  let σ1 := x_pI σ 60 0 (0 : Int32)
  if σ1.1 60 76 = (16 : Int32) then
    (f_Mo_refuses_60 (2 : Int32) (-1 : Int32) σ1).bind fun q2 =>
    some (q2.1, q2.2)
  else
    (f_Mo_within v1 (12 : Int32) (480 : Int32) σ1).bind fun q3 =>
    if q3.1 = 0 then
      (f_Mo_refuses_60 (2 : Int32) (-1 : Int32) q3.2).bind fun q6 =>
      some (q6.1, q6.2)
    else
      if q3.2.1 60 76 < 0 ∨ 16 ≤ (q3.2.1 60 76).toNatClampNeg then none else
      let σ4 := x_pI q3.2 91 (q3.2.1 60 76).toNatClampNeg v1
      let σ5 := x_pI σ4 60 76 (σ4.1 60 76 + (1 : Int32))
      some (σ5.1 60 76, σ5)
set_option maxHeartbeats 4000000 in
set_option maxRecDepth 100000 in
theorem c_Mo_book_60 {l : Launch} {s0 : State} {a0 : Array Value} {D : va_G} {cA : Nat → ClassId} {sp : Nat → Nat} (E : x_En CL l s0 a0 D cA sp) (v1 : Int32) {σ : xS} {r : Int32} {σ1 : xS} (h : f_Mo_book_60 v1 σ = some (r, σ1)) : zC l s0 D cA sp 1 M_Mo_book [.ref 60, .int v1] σ (some (.int r)) σ1 := by
  unfold f_Mo_book_60 at h
  try dsimp only at h
  refine x_enter [some (.ref 60), some (.int v1)] rfl (Nat.le_of_ble_eq_true rfl) (by decide +kernel) rfl ?_
  refine x_aload_n 1 rfl 0 dX9_book_0 rfl rfl ?_
  refine x_iconst 2 rfl (v := 0) dX9_book_1 (by decide) ?_
  refine x_putI E dX9_book_2 F_RX9_132 sh_60 5 rfl ?_
  refine x_aload_n 6 rfl 0 dX9_book_5 rfl rfl ?_
  refine x_getI E dX9_book_6 F_RX9_346 sh_60 9 rfl ?_
  refine x_bipush 11 rfl (v := 16) dX9_book_9 (by decide) ?_
  refine x_icmp_eq 14 rfl 26 dX9_book_11 (by decide) (fun hc => ?_) (fun hc => ?_)
  · replace h := x_ifT hc h
    refine x_aload_n 27 rfl 0 dX9_book_26 rfl rfl ?_
    refine x_iconst 28 rfl (v := 2) dX9_book_27 (by decide) ?_
    refine x_iconst 29 rfl (v := -1) dX9_book_28 (by decide) ?_
    obtain ⟨⟨q2r, q2s⟩, q2h, h⟩ := x_bind h
    try dsimp only at h
    refine z_callV E [.int _, .int _] [] dX9_book_29 K_RX9_442 ⟨Nat.le_of_ble_eq_true rfl, Nat.le_of_ble_eq_true rfl⟩ sh_60 (by decide) rfl (c_Mo_refuses_60 E _ _ q2h) rfl rfl (Nat.le_of_ble_eq_true rfl) 32 rfl [.int _] rfl ?_
    cases h
    exact x_iret dX9_book_32 rfl rfl rfl
  · replace h := x_ifF hc h
    refine x_iload_n 15 rfl 1 dX9_book_14 rfl rfl ?_
    refine x_bipush 17 rfl (v := 12) dX9_book_15 (by decide) ?_
    refine x_sipush 20 rfl (v := 480) dX9_book_17 (by decide) ?_
    obtain ⟨⟨q3r, q3s⟩, q3h, h⟩ := x_bind h
    try dsimp only at h
    refine z_callS E [.int _, .int _, .int _] [] dX9_book_20 K_RX9_414 ⟨Nat.le_of_ble_eq_true rfl, Nat.le_of_ble_eq_true rfl⟩ (c_Mo_within E _ _ _ q3h) rfl rfl (Nat.le_of_ble_eq_true rfl) 23 rfl [.int _] rfl ?_
    refine x_if_ne 26 rfl 33 dX9_book_23 (by decide) (fun hc => ?_) (fun hc => ?_)
    · replace h := x_ifF hc h
      refine x_aload_n 34 rfl 0 dX9_book_33 rfl rfl ?_
      refine x_getR E dX9_book_34 F_RX9_117 sh_60 rf_60_77 37 rfl ?_
      refine x_aload_n 38 rfl 0 dX9_book_37 rfl rfl ?_
      refine x_getI E dX9_book_38 F_RX9_346 sh_60 41 rfl ?_
      refine x_iload_n 42 rfl 1 dX9_book_41 rfl rfl ?_
      obtain ⟨hz, h⟩ := x_ifn h
      refine x_iast E dX9_book_42 sh_91 _ rfl hz 43 rfl ?_
      refine x_aload_n 44 rfl 0 dX9_book_43 rfl rfl ?_
      refine x_dup 45 rfl dX9_book_44 rfl ?_
      refine x_getI E dX9_book_45 F_RX9_346 sh_60 48 rfl ?_
      refine x_iconst 49 rfl (v := 1) dX9_book_48 (by decide) ?_
      refine x_iadd 50 rfl dX9_book_49 ?_
      refine x_putI E dX9_book_50 F_RX9_346 sh_60 53 rfl ?_
      refine x_aload_n 54 rfl 0 dX9_book_53 rfl rfl ?_
      refine x_getI E dX9_book_54 F_RX9_346 sh_60 57 rfl ?_
      cases h
      exact x_iret dX9_book_57 rfl rfl rfl
    · replace h := x_ifT hc h
      refine x_aload_n 27 rfl 0 dX9_book_26 rfl rfl ?_
      refine x_iconst 28 rfl (v := 2) dX9_book_27 (by decide) ?_
      refine x_iconst 29 rfl (v := -1) dX9_book_28 (by decide) ?_
      obtain ⟨⟨q6r, q6s⟩, q6h, h⟩ := x_bind h
      try dsimp only at h
      refine z_callV E [.int _, .int _] [] dX9_book_29 K_RX9_442 ⟨Nat.le_of_ble_eq_true rfl, Nat.le_of_ble_eq_true rfl⟩ sh_60 (by decide) rfl (c_Mo_refuses_60 E _ _ q6h) rfl rfl (Nat.le_of_ble_eq_true rfl) 32 rfl [.int _] rfl ?_
      cases h
      exact x_iret dX9_book_32 rfl rfl rfl
abbrev M_Mo_portion : xM := (yX9_portion, cX9_portion, 6, some .int, [])
theorem dX9_portion_0 : decode cX9_portion 0 = .ok (.iload_n 1, 1) := by decide +kernel
theorem dX9_portion_1 : decode cX9_portion 1 = .ok (.istore_n 3, 1) := by decide +kernel
theorem dX9_portion_2 : decode cX9_portion 2 = .ok (.iload_n 0, 1) := by decide +kernel
theorem dX9_portion_3 : decode cX9_portion 3 = .ok (.istore 4, 2) := by decide +kernel
theorem dX9_portion_5 : decode cX9_portion 5 = .ok (.iload 4, 2) := by decide +kernel
theorem dX9_portion_7 : decode cX9_portion 7 = .ok (.ifCond .eq 19, 3) := by decide +kernel
theorem dX9_portion_10 : decode cX9_portion 10 = .ok (.iload_n 3, 1) := by decide +kernel
theorem dX9_portion_11 : decode cX9_portion 11 = .ok (.iload 4, 2) := by decide +kernel
theorem dX9_portion_13 : decode cX9_portion 13 = .ok (.irem, 1) := by decide +kernel
theorem dX9_portion_14 : decode cX9_portion 14 = .ok (.istore 5, 2) := by decide +kernel
theorem dX9_portion_16 : decode cX9_portion 16 = .ok (.iload 4, 2) := by decide +kernel
theorem dX9_portion_18 : decode cX9_portion 18 = .ok (.istore_n 3, 1) := by decide +kernel
theorem dX9_portion_19 : decode cX9_portion 19 = .ok (.iload 5, 2) := by decide +kernel
theorem dX9_portion_21 : decode cX9_portion 21 = .ok (.istore 4, 2) := by decide +kernel
theorem dX9_portion_23 : decode cX9_portion 23 = .ok (.goto (-18), 3) := by decide +kernel
theorem dX9_portion_26 : decode cX9_portion 26 = .ok (.iload_n 2, 1) := by decide +kernel
theorem dX9_portion_27 : decode cX9_portion 27 = .ok (.ifCond .ne 7, 3) := by decide +kernel
theorem dX9_portion_30 : decode cX9_portion 30 = .ok (.iload_n 0, 1) := by decide +kernel
theorem dX9_portion_31 : decode cX9_portion 31 = .ok (.goto 4, 3) := by decide +kernel
theorem dX9_portion_34 : decode cX9_portion 34 = .ok (.iload_n 1, 1) := by decide +kernel
theorem dX9_portion_35 : decode cX9_portion 35 = .ok (.iload_n 3, 1) := by decide +kernel
theorem dX9_portion_36 : decode cX9_portion 36 = .ok (.idiv, 1) := by decide +kernel
theorem dX9_portion_37 : decode cX9_portion 37 = .ok (.ireturn, 1) := by decide +kernel
def f_Mo_portion_L5 (v0 : Int32) (v1 : Int32) (v2 : Int32) (a : Int32 × Int32 × xS) : Option ((Int32 × Int32 × xS) ⊕ (Int32 × Int32 × xS)) :=
  let v3 := a.1; let v4 := a.2.1; let σ := a.2.2;
  if v4 = 0 then
    some (.inl (v3, v4, σ))
  else
    if v4 = 0 then none else
    let w1 := (v3 - v3 / v4 * v4)
    some (.inr (v4, w1, σ))
def f_Mo_portion (v0 : Int32) (v1 : Int32) (v2 : Int32) (σ : xS) : Option (Int32 × xS) :=
  (x_it (f_Mo_portion_L5 v0 v1 v2) 10000 (v1, v0, σ)).bind fun b2 =>
  if v2 = 0 then
    if b2.1 = 0 then none else
    some ((v0 / b2.1), b2.2.2)
  else
    if b2.1 = 0 then none else
    some ((v1 / b2.1), b2.2.2)
set_option maxHeartbeats 4000000 in
set_option maxRecDepth 100000 in
theorem b_Mo_portion_L5 {l : Launch} {s0 : State} {a0 : Array Value} {D : va_G} {cA : Nat → ClassId} {sp : Nat → Nat} (E : x_En CL l s0 a0 D cA sp) (v0 : Int32) (v1 : Int32) (v2 : Int32) {r : Int32} {σ1 : xS} (a : Int32 × Int32 × xS) (o : (Int32 × Int32 × xS) ⊕ (Int32 × Int32 × xS)) (h : f_Mo_portion_L5 v0 v1 v2 a = some o) (hK : ∀ b, o = .inl b → zW l s0 D cA sp (zQ s0 D cA sp (some (.int r)) σ1) (x_rm 0 0 0) M_Mo_portion 0 0 26 [some (.int v0), some (.int v1), some (.int v2), some (.int b.1), none, none] [] b.2.2) (hG : ∀ a', o = .inr a' → zW l s0 D cA sp (zQ s0 D cA sp (some (.int r)) σ1) (x_rm 0 0 0) M_Mo_portion 0 0 5 [some (.int v0), some (.int v1), some (.int v2), some (.int a'.1), some (.int a'.2.1), none] [] a'.2.2) : zW l s0 D cA sp (zQ s0 D cA sp (some (.int r)) σ1) (x_rm 0 0 0) M_Mo_portion 0 0 5 [some (.int v0), some (.int v1), some (.int v2), some (.int a.1), some (.int a.2.1), none] [] a.2.2 := by
  obtain ⟨v3, v4, σ⟩ := a
  unfold f_Mo_portion_L5 at h
  try dsimp only at h ⊢
  refine x_iload 7 rfl dX9_portion_5 rfl ?_
  refine x_if_eq 10 rfl 26 dX9_portion_7 (by decide) (fun hc => ?_) (fun hc => ?_)
  · replace h := x_ifT hc h
    cases h
    exact x_wk (x_le_s (x_le_s (x_le_s (x_le_s (x_le_n (x_le_n x_le_0)))))) (hK (_, _, _) rfl)
  · replace h := x_ifF hc h
    refine x_iload_n 11 rfl 3 dX9_portion_10 rfl rfl ?_
    refine x_iload 13 rfl dX9_portion_11 rfl ?_
    obtain ⟨hz, h⟩ := x_ifn h
    refine x_irem 14 rfl dX9_portion_13 hz ?_
    refine x_istore 16 rfl dX9_portion_14 (by decide) [some (.int _), some (.int _), some (.int _), some (.int _), some (.int _), some (.int _)] rfl ?_
    refine x_iload 18 rfl dX9_portion_16 rfl ?_
    refine x_istore_n 19 rfl 3 dX9_portion_18 rfl (by decide) [some (.int _), some (.int _), some (.int _), some (.int _), some (.int _), some (.int _)] rfl ?_
    refine x_iload 21 rfl dX9_portion_19 rfl ?_
    refine x_istore 23 rfl dX9_portion_21 (by decide) [some (.int _), some (.int _), some (.int _), some (.int _), some (.int _), some (.int _)] rfl ?_
    refine x_goto 5 dX9_portion_23 (by decide) ?_
    cases h
    exact x_wk (x_le_s (x_le_s (x_le_s (x_le_s (x_le_s (x_le_n x_le_0)))))) (hG (_, _, _) rfl)
set_option maxHeartbeats 4000000 in
set_option maxRecDepth 100000 in
theorem c_Mo_portion {l : Launch} {s0 : State} {a0 : Array Value} {D : va_G} {cA : Nat → ClassId} {sp : Nat → Nat} (E : x_En CL l s0 a0 D cA sp) (v0 : Int32) (v1 : Int32) (v2 : Int32) {σ : xS} {r : Int32} {σ1 : xS} (h : f_Mo_portion v0 v1 v2 σ = some (r, σ1)) : zC l s0 D cA sp 0 M_Mo_portion [.int v0, .int v1, .int v2] σ (some (.int r)) σ1 := by
  unfold f_Mo_portion at h
  try dsimp only at h
  refine x_enter [some (.int v0), some (.int v1), some (.int v2), none, none, none] rfl (Nat.le_of_ble_eq_true rfl) (by decide +kernel) rfl ?_
  refine x_iload_n 1 rfl 1 dX9_portion_0 rfl rfl ?_
  refine x_istore_n 2 rfl 3 dX9_portion_1 rfl (by decide) [some (.int _), some (.int _), some (.int _), some (.int _), none, none] rfl ?_
  refine x_iload_n 3 rfl 0 dX9_portion_2 rfl rfl ?_
  refine x_istore 5 rfl dX9_portion_3 (by decide) [some (.int _), some (.int _), some (.int _), some (.int _), some (.int _), none] rfl ?_
  obtain ⟨b2, b2h, h⟩ := x_bind h
  try dsimp only at h
  refine x_wk (x_le_s (x_le_s (x_le_s (x_le_s (x_le_s (x_le_n x_le_0)))))) (x_loop (fun a o h hK hG => b_Mo_portion_L5 (r := r) (σ1 := σ1) E _ _ _ a o h hK hG) _ _ _ b2h ?_)
  refine x_iload_n 27 rfl 2 dX9_portion_26 rfl rfl ?_
  refine x_if_ne 30 rfl 34 dX9_portion_27 (by decide) (fun hc => ?_) (fun hc => ?_)
  · replace h := x_ifF hc h
    refine x_iload_n 35 rfl 1 dX9_portion_34 rfl rfl ?_
    refine x_iload_n 36 rfl 3 dX9_portion_35 rfl rfl ?_
    obtain ⟨hz, h⟩ := x_ifn h
    refine x_idiv 37 rfl dX9_portion_36 hz ?_
    cases h
    exact x_iret dX9_portion_37 rfl rfl rfl
  · replace h := x_ifT hc h
    refine x_iload_n 31 rfl 0 dX9_portion_30 rfl rfl ?_
    refine x_goto 35 dX9_portion_31 (by decide) ?_
    refine x_iload_n 36 rfl 3 dX9_portion_35 rfl rfl ?_
    obtain ⟨hz, h⟩ := x_ifn h
    refine x_idiv 37 rfl dX9_portion_36 hz ?_
    cases h
    exact x_iret dX9_portion_37 rfl rfl rfl
theorem K_RX9_482 : x_KS RX9 482 M_Mo_portion 3 := ⟨⟨(List.mem_append_right _ (List.mem_of_getElem? (i := 1899) (by decide +kernel))), (List.mem_append_right _ (List.mem_of_getElem? (i := 1901) (by decide +kernel))), (List.mem_append_right _ (List.mem_of_getElem? (i := 9) (by decide +kernel))), ⟨by decide +kernel, by decide +kernel⟩, by decide +kernel⟩, (List.mem_append_right _ (List.mem_of_getElem? (i := 1900) (by decide +kernel)))⟩
abbrev M_Mo_next : xM := (yX9_next, cX9_next, 5, some .int, [])
theorem dX9_next_0 : decode cX9_next 0 = .ok (.aload_n 0, 1) := by decide +kernel
theorem dX9_next_1 : decode cX9_next 1 = .ok (.iconst 0, 1) := by decide +kernel
theorem dX9_next_2 : decode cX9_next 2 = .ok (.putfield 132, 3) := by decide +kernel
theorem dX9_next_5 : decode cX9_next 5 = .ok (.aload_n 0, 1) := by decide +kernel
theorem dX9_next_6 : decode cX9_next 6 = .ok (.iload_n 2, 1) := by decide +kernel
theorem dX9_next_7 : decode cX9_next 7 = .ok (.iconst 1, 1) := by decide +kernel
theorem dX9_next_8 : decode cX9_next 8 = .ok (.invokevirtual 421, 3) := by decide +kernel
theorem dX9_next_11 : decode cX9_next 11 = .ok (.ifCond .ne 5, 3) := by decide +kernel
theorem dX9_next_14 : decode cX9_next 14 = .ok (.iconst 0, 1) := by decide +kernel
theorem dX9_next_15 : decode cX9_next 15 = .ok (.ireturn, 1) := by decide +kernel
theorem dX9_next_16 : decode cX9_next 16 = .ok (.iconst 0, 1) := by decide +kernel
theorem dX9_next_17 : decode cX9_next 17 = .ok (.istore_n 3, 1) := by decide +kernel
theorem dX9_next_18 : decode cX9_next 18 = .ok (.iconst 0, 1) := by decide +kernel
theorem dX9_next_19 : decode cX9_next 19 = .ok (.istore 4, 2) := by decide +kernel
theorem dX9_next_21 : decode cX9_next 21 = .ok (.iload 4, 2) := by decide +kernel
theorem dX9_next_23 : decode cX9_next 23 = .ok (.aload_n 0, 1) := by decide +kernel
theorem dX9_next_24 : decode cX9_next 24 = .ok (.getfield 346, 3) := by decide +kernel
theorem dX9_next_27 : decode cX9_next 27 = .ok (.if_icmp .ge 28, 3) := by decide +kernel
theorem dX9_next_30 : decode cX9_next 30 = .ok (.iload_n 3, 1) := by decide +kernel
theorem dX9_next_31 : decode cX9_next 31 = .ok (.aload_n 0, 1) := by decide +kernel
theorem dX9_next_32 : decode cX9_next 32 = .ok (.getfield 117, 3) := by decide +kernel
theorem dX9_next_35 : decode cX9_next 35 = .ok (.iload 4, 2) := by decide +kernel
theorem dX9_next_37 : decode cX9_next 37 = .ok (.iaload, 1) := by decide +kernel
theorem dX9_next_38 : decode cX9_next 38 = .ok (.iload_n 1, 1) := by decide +kernel
theorem dX9_next_39 : decode cX9_next 39 = .ok (.if_icmp .gt 7, 3) := by decide +kernel
theorem dX9_next_42 : decode cX9_next 42 = .ok (.iconst 1, 1) := by decide +kernel
theorem dX9_next_43 : decode cX9_next 43 = .ok (.goto 4, 3) := by decide +kernel
theorem dX9_next_46 : decode cX9_next 46 = .ok (.iconst 0, 1) := by decide +kernel
theorem dX9_next_47 : decode cX9_next 47 = .ok (.iadd, 1) := by decide +kernel
theorem dX9_next_48 : decode cX9_next 48 = .ok (.istore_n 3, 1) := by decide +kernel
theorem dX9_next_49 : decode cX9_next 49 = .ok (.iinc 4 1, 3) := by decide +kernel
theorem dX9_next_52 : decode cX9_next 52 = .ok (.goto (-31), 3) := by decide +kernel
theorem dX9_next_55 : decode cX9_next 55 = .ok (.iload_n 3, 1) := by decide +kernel
theorem dX9_next_56 : decode cX9_next 56 = .ok (.aload_n 0, 1) := by decide +kernel
theorem dX9_next_57 : decode cX9_next 57 = .ok (.getfield 346, 3) := by decide +kernel
theorem dX9_next_60 : decode cX9_next 60 = .ok (.ifCond .ne 7, 3) := by decide +kernel
theorem dX9_next_63 : decode cX9_next 63 = .ok (.iconst 1, 1) := by decide +kernel
theorem dX9_next_64 : decode cX9_next 64 = .ok (.goto 7, 3) := by decide +kernel
theorem dX9_next_67 : decode cX9_next 67 = .ok (.aload_n 0, 1) := by decide +kernel
theorem dX9_next_68 : decode cX9_next 68 = .ok (.getfield 346, 3) := by decide +kernel
theorem dX9_next_71 : decode cX9_next 71 = .ok (.iload_n 2, 1) := by decide +kernel
theorem dX9_next_72 : decode cX9_next 72 = .ok (.invokestatic 482, 3) := by decide +kernel
theorem dX9_next_75 : decode cX9_next 75 = .ok (.ireturn, 1) := by decide +kernel
def f_Mo_next_60_L21 (v1 : Int32) (v2 : Int32) (a : Int32 × Int32 × xS) : Option ((Int32 × Int32 × xS) ⊕ (Int32 × Int32 × xS)) :=
  let v3 := a.1; let v4 := a.2.1; let σ := a.2.2;
  if σ.1 60 76 ≤ v4 then
    some (.inl (v3, v4, σ))
  else
    if v4 < 0 ∨ 16 ≤ v4.toNatClampNeg then none else
    if v1 < σ.1 91 v4.toNatClampNeg then
      let w1 := (v3 + (0 : Int32))
      let w2 := v4 + (1 : Int32)
      some (.inr (w1, w2, σ))
    else
      let w3 := (v3 + (1 : Int32))
      let w4 := v4 + (1 : Int32)
      some (.inr (w3, w4, σ))
def f_Mo_next_60 (v1 : Int32) (v2 : Int32) (σ : xS) : Option (Int32 × xS) :=
  let σ5 := x_pI σ 60 0 (0 : Int32)
  (f_Mo_isWhat_60 v2 (1 : Int32) σ5).bind fun q6 =>
  if q6.1 = 0 then
    some ((0 : Int32), q6.2)
  else
    (x_it (f_Mo_next_60_L21 v1 v2) 10000 ((0 : Int32), (0 : Int32), q6.2)).bind fun b7 =>
    if b7.2.2.1 60 76 = 0 then
      (f_Mo_portion b7.1 (1 : Int32) v2 b7.2.2).bind fun q9 =>
      some (q9.1, q9.2)
    else
      (f_Mo_portion b7.1 (b7.2.2.1 60 76) v2 b7.2.2).bind fun q8 =>
      some (q8.1, q8.2)
set_option maxHeartbeats 4000000 in
set_option maxRecDepth 100000 in
theorem b_Mo_next_60_L21 {l : Launch} {s0 : State} {a0 : Array Value} {D : va_G} {cA : Nat → ClassId} {sp : Nat → Nat} (E : x_En CL l s0 a0 D cA sp) (v1 : Int32) (v2 : Int32) {r : Int32} {σ1 : xS} (a : Int32 × Int32 × xS) (o : (Int32 × Int32 × xS) ⊕ (Int32 × Int32 × xS)) (h : f_Mo_next_60_L21 v1 v2 a = some o) (hK : ∀ b, o = .inl b → zW l s0 D cA sp (zQ s0 D cA sp (some (.int r)) σ1) (x_rm 2 0 0) M_Mo_next 0 0 55 [some (.ref 60), none, some (.int v2), some (.int b.1), none] [] b.2.2) (hG : ∀ a', o = .inr a' → zW l s0 D cA sp (zQ s0 D cA sp (some (.int r)) σ1) (x_rm 2 0 0) M_Mo_next 0 0 21 [some (.ref 60), some (.int v1), some (.int v2), some (.int a'.1), some (.int a'.2.1)] [] a'.2.2) : zW l s0 D cA sp (zQ s0 D cA sp (some (.int r)) σ1) (x_rm 2 0 0) M_Mo_next 0 0 21 [some (.ref 60), some (.int v1), some (.int v2), some (.int a.1), some (.int a.2.1)] [] a.2.2 := by
  obtain ⟨v3, v4, σ⟩ := a
  unfold f_Mo_next_60_L21 at h
  try dsimp only at h ⊢
  refine x_iload 23 rfl dX9_next_21 rfl ?_
  refine x_aload_n 24 rfl 0 dX9_next_23 rfl rfl ?_
  refine x_getI E dX9_next_24 F_RX9_346 sh_60 27 rfl ?_
  refine x_icmp_ge 30 rfl 55 dX9_next_27 (by decide) (fun hc => ?_) (fun hc => ?_)
  · replace h := x_ifT hc h
    cases h
    exact x_wk (x_le_s (x_le_n (x_le_s (x_le_s (x_le_n x_le_0))))) (hK (_, _, _) rfl)
  · replace h := x_ifF hc h
    refine x_iload_n 31 rfl 3 dX9_next_30 rfl rfl ?_
    refine x_aload_n 32 rfl 0 dX9_next_31 rfl rfl ?_
    refine x_getR E dX9_next_32 F_RX9_117 sh_60 rf_60_77 35 rfl ?_
    refine x_iload 37 rfl dX9_next_35 rfl ?_
    obtain ⟨hz, h⟩ := x_ifn h
    refine x_iald E dX9_next_37 sh_91 _ rfl hz 38 rfl ?_
    refine x_iload_n 39 rfl 1 dX9_next_38 rfl rfl ?_
    refine x_icmp_gt 42 rfl 46 dX9_next_39 (by decide) (fun hc => ?_) (fun hc => ?_)
    · replace h := x_ifT hc h
      refine x_iconst 47 rfl (v := 0) dX9_next_46 (by decide) ?_
      refine x_iadd 48 rfl dX9_next_47 ?_
      refine x_istore_n 49 rfl 3 dX9_next_48 rfl (by decide) [some (.ref 60), some (.int _), some (.int _), some (.int _), some (.int _)] rfl ?_
      refine x_iinc 52 rfl (1) dX9_next_49 rfl (by decide) (by decide) [some (.ref 60), some (.int _), some (.int _), some (.int _), some (.int _)] rfl ?_
      refine x_goto 21 dX9_next_52 (by decide) ?_
      cases h
      exact x_wk (x_le_s (x_le_s (x_le_s (x_le_s (x_le_s x_le_0))))) (hG (_, _, _) rfl)
    · replace h := x_ifF hc h
      refine x_iconst 43 rfl (v := 1) dX9_next_42 (by decide) ?_
      refine x_goto 47 dX9_next_43 (by decide) ?_
      refine x_iadd 48 rfl dX9_next_47 ?_
      refine x_istore_n 49 rfl 3 dX9_next_48 rfl (by decide) [some (.ref 60), some (.int _), some (.int _), some (.int _), some (.int _)] rfl ?_
      refine x_iinc 52 rfl (1) dX9_next_49 rfl (by decide) (by decide) [some (.ref 60), some (.int _), some (.int _), some (.int _), some (.int _)] rfl ?_
      refine x_goto 21 dX9_next_52 (by decide) ?_
      cases h
      exact x_wk (x_le_s (x_le_s (x_le_s (x_le_s (x_le_s x_le_0))))) (hG (_, _, _) rfl)
set_option maxHeartbeats 4000000 in
set_option maxRecDepth 100000 in
theorem c_Mo_next_60 {l : Launch} {s0 : State} {a0 : Array Value} {D : va_G} {cA : Nat → ClassId} {sp : Nat → Nat} (E : x_En CL l s0 a0 D cA sp) (v1 : Int32) (v2 : Int32) {σ : xS} {r : Int32} {σ1 : xS} (h : f_Mo_next_60 v1 v2 σ = some (r, σ1)) : zC l s0 D cA sp 2 M_Mo_next [.ref 60, .int v1, .int v2] σ (some (.int r)) σ1 := by
  unfold f_Mo_next_60 at h
  try dsimp only at h
  refine x_enter [some (.ref 60), some (.int v1), some (.int v2), none, none] rfl (Nat.le_of_ble_eq_true rfl) (by decide +kernel) rfl ?_
  refine x_aload_n 1 rfl 0 dX9_next_0 rfl rfl ?_
  refine x_iconst 2 rfl (v := 0) dX9_next_1 (by decide) ?_
  refine x_putI E dX9_next_2 F_RX9_132 sh_60 5 rfl ?_
  refine x_aload_n 6 rfl 0 dX9_next_5 rfl rfl ?_
  refine x_iload_n 7 rfl 2 dX9_next_6 rfl rfl ?_
  refine x_iconst 8 rfl (v := 1) dX9_next_7 (by decide) ?_
  obtain ⟨⟨q6r, q6s⟩, q6h, h⟩ := x_bind h
  try dsimp only at h
  refine z_callV E [.int _, .int _] [] dX9_next_8 K_RX9_421 ⟨Nat.le_of_ble_eq_true rfl, Nat.le_of_ble_eq_true rfl⟩ sh_60 (by decide) rfl (c_Mo_isWhat_60 E _ _ q6h) rfl rfl (Nat.le_of_ble_eq_true rfl) 11 rfl [.int _] rfl ?_
  refine x_if_ne 14 rfl 16 dX9_next_11 (by decide) (fun hc => ?_) (fun hc => ?_)
  · replace h := x_ifF hc h
    refine x_iconst 17 rfl (v := 0) dX9_next_16 (by decide) ?_
    refine x_istore_n 18 rfl 3 dX9_next_17 rfl (by decide) [some (.ref 60), some (.int _), some (.int _), some (.int _), none] rfl ?_
    refine x_iconst 19 rfl (v := 0) dX9_next_18 (by decide) ?_
    refine x_istore 21 rfl dX9_next_19 (by decide) [some (.ref 60), some (.int _), some (.int _), some (.int _), some (.int _)] rfl ?_
    obtain ⟨b7, b7h, h⟩ := x_bind h
    try dsimp only at h
    refine x_wk (x_le_s (x_le_s (x_le_s (x_le_s (x_le_s x_le_0))))) (x_loop (fun a o h hK hG => b_Mo_next_60_L21 (r := r) (σ1 := σ1) E _ _ a o h hK hG) _ _ _ b7h ?_)
    refine x_iload_n 56 rfl 3 dX9_next_55 rfl rfl ?_
    refine x_aload_n 57 rfl 0 dX9_next_56 rfl rfl ?_
    refine x_getI E dX9_next_57 F_RX9_346 sh_60 60 rfl ?_
    refine x_if_ne 63 rfl 67 dX9_next_60 (by decide) (fun hc => ?_) (fun hc => ?_)
    · replace h := x_ifF hc h
      refine x_aload_n 68 rfl 0 dX9_next_67 rfl rfl ?_
      refine x_getI E dX9_next_68 F_RX9_346 sh_60 71 rfl ?_
      refine x_iload_n 72 rfl 2 dX9_next_71 rfl rfl ?_
      obtain ⟨⟨q8r, q8s⟩, q8h, h⟩ := x_bind h
      try dsimp only at h
      refine z_callS E [.int _, .int _, .int _] [] dX9_next_72 K_RX9_482 ⟨Nat.le_of_ble_eq_true rfl, Nat.le_of_ble_eq_true rfl⟩ (c_Mo_portion E _ _ _ q8h) rfl rfl (Nat.le_of_ble_eq_true rfl) 75 rfl [.int _] rfl ?_
      cases h
      exact x_iret dX9_next_75 rfl rfl rfl
    · replace h := x_ifT hc h
      refine x_iconst 64 rfl (v := 1) dX9_next_63 (by decide) ?_
      refine x_goto 71 dX9_next_64 (by decide) ?_
      refine x_iload_n 72 rfl 2 dX9_next_71 rfl rfl ?_
      obtain ⟨⟨q9r, q9s⟩, q9h, h⟩ := x_bind h
      try dsimp only at h
      refine z_callS E [.int _, .int _, .int _] [] dX9_next_72 K_RX9_482 ⟨Nat.le_of_ble_eq_true rfl, Nat.le_of_ble_eq_true rfl⟩ (c_Mo_portion E _ _ _ q9h) rfl rfl (Nat.le_of_ble_eq_true rfl) 75 rfl [.int _] rfl ?_
      cases h
      exact x_iret dX9_next_75 rfl rfl rfl
  · replace h := x_ifT hc h
    refine x_iconst 15 rfl (v := 0) dX9_next_14 (by decide) ?_
    cases h
    exact x_iret dX9_next_15 rfl rfl rfl
abbrev M_Mo_middle : xM := (yX9_middle, cX9_middle, 6, some .int, [])
theorem dX9_middle_0 : decode cX9_middle 0 = .ok (.aload_n 0, 1) := by decide +kernel
theorem dX9_middle_1 : decode cX9_middle 1 = .ok (.iconst 0, 1) := by decide +kernel
theorem dX9_middle_2 : decode cX9_middle 2 = .ok (.putfield 132, 3) := by decide +kernel
theorem dX9_middle_5 : decode cX9_middle 5 = .ok (.aload_n 0, 1) := by decide +kernel
theorem dX9_middle_6 : decode cX9_middle 6 = .ok (.iload_n 1, 1) := by decide +kernel
theorem dX9_middle_7 : decode cX9_middle 7 = .ok (.iconst 2, 1) := by decide +kernel
theorem dX9_middle_8 : decode cX9_middle 8 = .ok (.invokevirtual 421, 3) := by decide +kernel
theorem dX9_middle_11 : decode cX9_middle 11 = .ok (.ifCond .ne 5, 3) := by decide +kernel
theorem dX9_middle_14 : decode cX9_middle 14 = .ok (.iconst 0, 1) := by decide +kernel
theorem dX9_middle_15 : decode cX9_middle 15 = .ok (.ireturn, 1) := by decide +kernel
theorem dX9_middle_16 : decode cX9_middle 16 = .ok (.iconst 0, 1) := by decide +kernel
theorem dX9_middle_17 : decode cX9_middle 17 = .ok (.istore_n 2, 1) := by decide +kernel
theorem dX9_middle_18 : decode cX9_middle 18 = .ok (.iconst 0, 1) := by decide +kernel
theorem dX9_middle_19 : decode cX9_middle 19 = .ok (.istore_n 3, 1) := by decide +kernel
theorem dX9_middle_20 : decode cX9_middle 20 = .ok (.iconst 0, 1) := by decide +kernel
theorem dX9_middle_21 : decode cX9_middle 21 = .ok (.istore 4, 2) := by decide +kernel
theorem dX9_middle_23 : decode cX9_middle 23 = .ok (.iconst 0, 1) := by decide +kernel
theorem dX9_middle_24 : decode cX9_middle 24 = .ok (.istore 5, 2) := by decide +kernel
theorem dX9_middle_26 : decode cX9_middle 26 = .ok (.iload 5, 2) := by decide +kernel
theorem dX9_middle_28 : decode cX9_middle 28 = .ok (.aload_n 0, 1) := by decide +kernel
theorem dX9_middle_29 : decode cX9_middle 29 = .ok (.getfield 346, 3) := by decide +kernel
theorem dX9_middle_32 : decode cX9_middle 32 = .ok (.if_icmp .ge 78, 3) := by decide +kernel
theorem dX9_middle_35 : decode cX9_middle 35 = .ok (.iload_n 2, 1) := by decide +kernel
theorem dX9_middle_36 : decode cX9_middle 36 = .ok (.aload_n 0, 1) := by decide +kernel
theorem dX9_middle_37 : decode cX9_middle 37 = .ok (.getfield 117, 3) := by decide +kernel
theorem dX9_middle_40 : decode cX9_middle 40 = .ok (.iload 5, 2) := by decide +kernel
theorem dX9_middle_42 : decode cX9_middle 42 = .ok (.iaload, 1) := by decide +kernel
theorem dX9_middle_43 : decode cX9_middle 43 = .ok (.iadd, 1) := by decide +kernel
theorem dX9_middle_44 : decode cX9_middle 44 = .ok (.istore_n 2, 1) := by decide +kernel
theorem dX9_middle_45 : decode cX9_middle 45 = .ok (.iload 5, 2) := by decide +kernel
theorem dX9_middle_47 : decode cX9_middle 47 = .ok (.ifCond .eq 14, 3) := by decide +kernel
theorem dX9_middle_50 : decode cX9_middle 50 = .ok (.aload_n 0, 1) := by decide +kernel
theorem dX9_middle_51 : decode cX9_middle 51 = .ok (.getfield 117, 3) := by decide +kernel
theorem dX9_middle_54 : decode cX9_middle 54 = .ok (.iload 5, 2) := by decide +kernel
theorem dX9_middle_56 : decode cX9_middle 56 = .ok (.iaload, 1) := by decide +kernel
theorem dX9_middle_57 : decode cX9_middle 57 = .ok (.iload_n 3, 1) := by decide +kernel
theorem dX9_middle_58 : decode cX9_middle 58 = .ok (.if_icmp .le 13, 3) := by decide +kernel
theorem dX9_middle_61 : decode cX9_middle 61 = .ok (.aload_n 0, 1) := by decide +kernel
theorem dX9_middle_62 : decode cX9_middle 62 = .ok (.getfield 117, 3) := by decide +kernel
theorem dX9_middle_65 : decode cX9_middle 65 = .ok (.iload 5, 2) := by decide +kernel
theorem dX9_middle_67 : decode cX9_middle 67 = .ok (.iaload, 1) := by decide +kernel
theorem dX9_middle_68 : decode cX9_middle 68 = .ok (.goto 4, 3) := by decide +kernel
theorem dX9_middle_71 : decode cX9_middle 71 = .ok (.iload_n 3, 1) := by decide +kernel
theorem dX9_middle_72 : decode cX9_middle 72 = .ok (.istore_n 3, 1) := by decide +kernel
theorem dX9_middle_73 : decode cX9_middle 73 = .ok (.iload 5, 2) := by decide +kernel
theorem dX9_middle_75 : decode cX9_middle 75 = .ok (.ifCond .eq 15, 3) := by decide +kernel
theorem dX9_middle_78 : decode cX9_middle 78 = .ok (.aload_n 0, 1) := by decide +kernel
theorem dX9_middle_79 : decode cX9_middle 79 = .ok (.getfield 117, 3) := by decide +kernel
theorem dX9_middle_82 : decode cX9_middle 82 = .ok (.iload 5, 2) := by decide +kernel
theorem dX9_middle_84 : decode cX9_middle 84 = .ok (.iaload, 1) := by decide +kernel
theorem dX9_middle_85 : decode cX9_middle 85 = .ok (.iload 4, 2) := by decide +kernel
theorem dX9_middle_87 : decode cX9_middle 87 = .ok (.if_icmp .ge 13, 3) := by decide +kernel
theorem dX9_middle_90 : decode cX9_middle 90 = .ok (.aload_n 0, 1) := by decide +kernel
theorem dX9_middle_91 : decode cX9_middle 91 = .ok (.getfield 117, 3) := by decide +kernel
theorem dX9_middle_94 : decode cX9_middle 94 = .ok (.iload 5, 2) := by decide +kernel
theorem dX9_middle_96 : decode cX9_middle 96 = .ok (.iaload, 1) := by decide +kernel
theorem dX9_middle_97 : decode cX9_middle 97 = .ok (.goto 5, 3) := by decide +kernel
theorem dX9_middle_100 : decode cX9_middle 100 = .ok (.iload 4, 2) := by decide +kernel
theorem dX9_middle_102 : decode cX9_middle 102 = .ok (.istore 4, 2) := by decide +kernel
theorem dX9_middle_104 : decode cX9_middle 104 = .ok (.iinc 5 1, 3) := by decide +kernel
theorem dX9_middle_107 : decode cX9_middle 107 = .ok (.goto (-81), 3) := by decide +kernel
theorem dX9_middle_110 : decode cX9_middle 110 = .ok (.iload_n 1, 1) := by decide +kernel
theorem dX9_middle_111 : decode cX9_middle 111 = .ok (.iconst 2, 1) := by decide +kernel
theorem dX9_middle_112 : decode cX9_middle 112 = .ok (.if_icmp .ne 10, 3) := by decide +kernel
theorem dX9_middle_115 : decode cX9_middle 115 = .ok (.iload_n 3, 1) := by decide +kernel
theorem dX9_middle_116 : decode cX9_middle 116 = .ok (.iload 4, 2) := by decide +kernel
theorem dX9_middle_118 : decode cX9_middle 118 = .ok (.isub, 1) := by decide +kernel
theorem dX9_middle_119 : decode cX9_middle 119 = .ok (.goto 23, 3) := by decide +kernel
theorem dX9_middle_122 : decode cX9_middle 122 = .ok (.iload_n 2, 1) := by decide +kernel
theorem dX9_middle_123 : decode cX9_middle 123 = .ok (.aload_n 0, 1) := by decide +kernel
theorem dX9_middle_124 : decode cX9_middle 124 = .ok (.getfield 346, 3) := by decide +kernel
theorem dX9_middle_127 : decode cX9_middle 127 = .ok (.ifCond .ne 7, 3) := by decide +kernel
theorem dX9_middle_130 : decode cX9_middle 130 = .ok (.iconst 1, 1) := by decide +kernel
theorem dX9_middle_131 : decode cX9_middle 131 = .ok (.goto 7, 3) := by decide +kernel
theorem dX9_middle_134 : decode cX9_middle 134 = .ok (.aload_n 0, 1) := by decide +kernel
theorem dX9_middle_135 : decode cX9_middle 135 = .ok (.getfield 346, 3) := by decide +kernel
theorem dX9_middle_138 : decode cX9_middle 138 = .ok (.iload_n 1, 1) := by decide +kernel
theorem dX9_middle_139 : decode cX9_middle 139 = .ok (.invokestatic 482, 3) := by decide +kernel
theorem dX9_middle_142 : decode cX9_middle 142 = .ok (.ireturn, 1) := by decide +kernel
def f_Mo_middle_60_J72 (v1 : Int32) (v2 : Int32) (v4 : Int32) (v5 : Int32) (y0 : Int32) (σ : xS) : Option ((Int32 × Int32 × Int32 × Int32 × xS) ⊕ (Int32 × Int32 × Int32 × Int32 × xS)) :=
  if v5 = 0 then
    if v5 < 0 ∨ 16 ≤ v5.toNatClampNeg then none else
    let w1 := σ.1 91 v5.toNatClampNeg
    let w2 := v5 + (1 : Int32)
    some (.inr (v2, y0, w1, w2, σ))
  else
    if v5 < 0 ∨ 16 ≤ v5.toNatClampNeg then none else
    if v4 ≤ σ.1 91 v5.toNatClampNeg then
      let w3 := v5 + (1 : Int32)
      some (.inr (v2, y0, v4, w3, σ))
    else
      if v5 < 0 ∨ 16 ≤ v5.toNatClampNeg then none else
      let w4 := σ.1 91 v5.toNatClampNeg
      let w5 := v5 + (1 : Int32)
      some (.inr (v2, y0, w4, w5, σ))
def f_Mo_middle_60_J61 (v1 : Int32) (v2 : Int32) (v4 : Int32) (v5 : Int32) (σ : xS) : Option ((Int32 × Int32 × Int32 × Int32 × xS) ⊕ (Int32 × Int32 × Int32 × Int32 × xS)) :=
  if v5 < 0 ∨ 16 ≤ v5.toNatClampNeg then none else
  f_Mo_middle_60_J72 v1 v2 v4 v5 (σ.1 91 v5.toNatClampNeg) σ
def f_Mo_middle_60_L26 (v1 : Int32) (a : Int32 × Int32 × Int32 × Int32 × xS) : Option ((Int32 × Int32 × Int32 × Int32 × xS) ⊕ (Int32 × Int32 × Int32 × Int32 × xS)) :=
  let v2 := a.1; let v3 := a.2.1; let v4 := a.2.2.1; let v5 := a.2.2.2.1; let σ := a.2.2.2.2;
  if σ.1 60 76 ≤ v5 then
    some (.inl (v2, v3, v4, v5, σ))
  else
    if v5 < 0 ∨ 16 ≤ v5.toNatClampNeg then none else
    let w6 := (v2 + σ.1 91 v5.toNatClampNeg)
    if v5 = 0 then
      f_Mo_middle_60_J61 v1 w6 v4 v5 σ
    else
      if v5 < 0 ∨ 16 ≤ v5.toNatClampNeg then none else
      if σ.1 91 v5.toNatClampNeg ≤ v3 then
        f_Mo_middle_60_J72 v1 w6 v4 v5 v3 σ
      else
        f_Mo_middle_60_J61 v1 w6 v4 v5 σ
def f_Mo_middle_60 (v1 : Int32) (σ : xS) : Option (Int32 × xS) :=
  let σ7 := x_pI σ 60 0 (0 : Int32)
  (f_Mo_isWhat_60 v1 (2 : Int32) σ7).bind fun q8 =>
  if q8.1 = 0 then
    some ((0 : Int32), q8.2)
  else
    (x_it (f_Mo_middle_60_L26 v1) 10000 ((0 : Int32), (0 : Int32), (0 : Int32), (0 : Int32), q8.2)).bind fun b9 =>
    if v1 = (2 : Int32) then
      some ((b9.2.1 - b9.2.2.1), b9.2.2.2.2)
    else
      if b9.2.2.2.2.1 60 76 = 0 then
        (f_Mo_portion b9.1 (1 : Int32) v1 b9.2.2.2.2).bind fun q11 =>
        some (q11.1, q11.2)
      else
        (f_Mo_portion b9.1 (b9.2.2.2.2.1 60 76) v1 b9.2.2.2.2).bind fun q10 =>
        some (q10.1, q10.2)
set_option maxHeartbeats 4000000 in
set_option maxRecDepth 100000 in
theorem j_Mo_middle_60_J72 {l : Launch} {s0 : State} {a0 : Array Value} {D : va_G} {cA : Nat → ClassId} {sp : Nat → Nat} (E : x_En CL l s0 a0 D cA sp) (v1 : Int32) (v2 : Int32) (v4 : Int32) (v5 : Int32) (y0 : Int32)  (σ : xS) {r : Int32} {σ1 : xS} (o : (Int32 × Int32 × Int32 × Int32 × xS) ⊕ (Int32 × Int32 × Int32 × Int32 × xS)) (h : f_Mo_middle_60_J72 v1 v2 v4 v5 y0 σ = some o) (hK : ∀ b, o = .inl b → zW l s0 D cA sp (zQ s0 D cA sp (some (.int r)) σ1) (x_rm 2 0 0) M_Mo_middle 0 0 110 [some (.ref 60), some (.int v1), some (.int b.1), some (.int b.2.1), some (.int b.2.2.1), none] [] b.2.2.2.2) (hG : ∀ a', o = .inr a' → zW l s0 D cA sp (zQ s0 D cA sp (some (.int r)) σ1) (x_rm 2 0 0) M_Mo_middle 0 0 26 [some (.ref 60), some (.int v1), some (.int a'.1), some (.int a'.2.1), some (.int a'.2.2.1), some (.int a'.2.2.2.1)] [] a'.2.2.2.2) : zW l s0 D cA sp (zQ s0 D cA sp (some (.int r)) σ1) (x_rm 2 0 0) M_Mo_middle 0 0 72 [some (.ref 60), some (.int v1), some (.int v2), none, some (.int v4), some (.int v5)] [.int y0] σ := by
  unfold f_Mo_middle_60_J72 at h
  try dsimp only at h
  refine x_istore_n 73 rfl 3 dX9_middle_72 rfl (by decide) [some (.ref 60), some (.int _), some (.int _), some (.int _), some (.int _), some (.int _)] rfl ?_
  refine x_iload 75 rfl dX9_middle_73 rfl ?_
  refine x_if_eq 78 rfl 90 dX9_middle_75 (by decide) (fun hc => ?_) (fun hc => ?_)
  · replace h := x_ifT hc h
    refine x_aload_n 91 rfl 0 dX9_middle_90 rfl rfl ?_
    refine x_getR E dX9_middle_91 F_RX9_117 sh_60 rf_60_77 94 rfl ?_
    refine x_iload 96 rfl dX9_middle_94 rfl ?_
    obtain ⟨hz, h⟩ := x_ifn h
    refine x_iald E dX9_middle_96 sh_91 _ rfl hz 97 rfl ?_
    refine x_goto 102 dX9_middle_97 (by decide) ?_
    refine x_istore 104 rfl dX9_middle_102 (by decide) [some (.ref 60), some (.int _), some (.int _), some (.int _), some (.int _), some (.int _)] rfl ?_
    refine x_iinc 107 rfl (1) dX9_middle_104 rfl (by decide) (by decide) [some (.ref 60), some (.int _), some (.int _), some (.int _), some (.int _), some (.int _)] rfl ?_
    refine x_goto 26 dX9_middle_107 (by decide) ?_
    cases h
    exact x_wk (x_le_s (x_le_s (x_le_s (x_le_s (x_le_s (x_le_s x_le_0)))))) (hG (_, _, _, _, _) rfl)
  · replace h := x_ifF hc h
    refine x_aload_n 79 rfl 0 dX9_middle_78 rfl rfl ?_
    refine x_getR E dX9_middle_79 F_RX9_117 sh_60 rf_60_77 82 rfl ?_
    refine x_iload 84 rfl dX9_middle_82 rfl ?_
    obtain ⟨hz, h⟩ := x_ifn h
    refine x_iald E dX9_middle_84 sh_91 _ rfl hz 85 rfl ?_
    refine x_iload 87 rfl dX9_middle_85 rfl ?_
    refine x_icmp_ge 90 rfl 100 dX9_middle_87 (by decide) (fun hc => ?_) (fun hc => ?_)
    · replace h := x_ifT hc h
      refine x_iload 102 rfl dX9_middle_100 rfl ?_
      refine x_istore 104 rfl dX9_middle_102 (by decide) [some (.ref 60), some (.int _), some (.int _), some (.int _), some (.int _), some (.int _)] rfl ?_
      refine x_iinc 107 rfl (1) dX9_middle_104 rfl (by decide) (by decide) [some (.ref 60), some (.int _), some (.int _), some (.int _), some (.int _), some (.int _)] rfl ?_
      refine x_goto 26 dX9_middle_107 (by decide) ?_
      cases h
      exact x_wk (x_le_s (x_le_s (x_le_s (x_le_s (x_le_s (x_le_s x_le_0)))))) (hG (_, _, _, _, _) rfl)
    · replace h := x_ifF hc h
      refine x_aload_n 91 rfl 0 dX9_middle_90 rfl rfl ?_
      refine x_getR E dX9_middle_91 F_RX9_117 sh_60 rf_60_77 94 rfl ?_
      refine x_iload 96 rfl dX9_middle_94 rfl ?_
      obtain ⟨hz, h⟩ := x_ifn h
      refine x_iald E dX9_middle_96 sh_91 _ rfl hz 97 rfl ?_
      refine x_goto 102 dX9_middle_97 (by decide) ?_
      refine x_istore 104 rfl dX9_middle_102 (by decide) [some (.ref 60), some (.int _), some (.int _), some (.int _), some (.int _), some (.int _)] rfl ?_
      refine x_iinc 107 rfl (1) dX9_middle_104 rfl (by decide) (by decide) [some (.ref 60), some (.int _), some (.int _), some (.int _), some (.int _), some (.int _)] rfl ?_
      refine x_goto 26 dX9_middle_107 (by decide) ?_
      cases h
      exact x_wk (x_le_s (x_le_s (x_le_s (x_le_s (x_le_s (x_le_s x_le_0)))))) (hG (_, _, _, _, _) rfl)
set_option maxHeartbeats 4000000 in
set_option maxRecDepth 100000 in
theorem j_Mo_middle_60_J61 {l : Launch} {s0 : State} {a0 : Array Value} {D : va_G} {cA : Nat → ClassId} {sp : Nat → Nat} (E : x_En CL l s0 a0 D cA sp) (v1 : Int32) (v2 : Int32) (v4 : Int32) (v5 : Int32)  (σ : xS) {r : Int32} {σ1 : xS} (o : (Int32 × Int32 × Int32 × Int32 × xS) ⊕ (Int32 × Int32 × Int32 × Int32 × xS)) (h : f_Mo_middle_60_J61 v1 v2 v4 v5 σ = some o) (hK : ∀ b, o = .inl b → zW l s0 D cA sp (zQ s0 D cA sp (some (.int r)) σ1) (x_rm 2 0 0) M_Mo_middle 0 0 110 [some (.ref 60), some (.int v1), some (.int b.1), some (.int b.2.1), some (.int b.2.2.1), none] [] b.2.2.2.2) (hG : ∀ a', o = .inr a' → zW l s0 D cA sp (zQ s0 D cA sp (some (.int r)) σ1) (x_rm 2 0 0) M_Mo_middle 0 0 26 [some (.ref 60), some (.int v1), some (.int a'.1), some (.int a'.2.1), some (.int a'.2.2.1), some (.int a'.2.2.2.1)] [] a'.2.2.2.2) : zW l s0 D cA sp (zQ s0 D cA sp (some (.int r)) σ1) (x_rm 2 0 0) M_Mo_middle 0 0 61 [some (.ref 60), some (.int v1), some (.int v2), none, some (.int v4), some (.int v5)] [] σ := by
  unfold f_Mo_middle_60_J61 at h
  try dsimp only at h
  refine x_aload_n 62 rfl 0 dX9_middle_61 rfl rfl ?_
  refine x_getR E dX9_middle_62 F_RX9_117 sh_60 rf_60_77 65 rfl ?_
  refine x_iload 67 rfl dX9_middle_65 rfl ?_
  obtain ⟨hz, h⟩ := x_ifn h
  refine x_iald E dX9_middle_67 sh_91 _ rfl hz 68 rfl ?_
  refine x_goto 72 dX9_middle_68 (by decide) ?_
  exact x_wk (x_le_s (x_le_s (x_le_s (x_le_n (x_le_s (x_le_s x_le_0)))))) (j_Mo_middle_60_J72 (r := r) (σ1 := σ1) E _ _ _ _ _  _ _ h hK hG)
set_option maxHeartbeats 4000000 in
set_option maxRecDepth 100000 in
theorem b_Mo_middle_60_L26 {l : Launch} {s0 : State} {a0 : Array Value} {D : va_G} {cA : Nat → ClassId} {sp : Nat → Nat} (E : x_En CL l s0 a0 D cA sp) (v1 : Int32) {r : Int32} {σ1 : xS} (a : Int32 × Int32 × Int32 × Int32 × xS) (o : (Int32 × Int32 × Int32 × Int32 × xS) ⊕ (Int32 × Int32 × Int32 × Int32 × xS)) (h : f_Mo_middle_60_L26 v1 a = some o) (hK : ∀ b, o = .inl b → zW l s0 D cA sp (zQ s0 D cA sp (some (.int r)) σ1) (x_rm 2 0 0) M_Mo_middle 0 0 110 [some (.ref 60), some (.int v1), some (.int b.1), some (.int b.2.1), some (.int b.2.2.1), none] [] b.2.2.2.2) (hG : ∀ a', o = .inr a' → zW l s0 D cA sp (zQ s0 D cA sp (some (.int r)) σ1) (x_rm 2 0 0) M_Mo_middle 0 0 26 [some (.ref 60), some (.int v1), some (.int a'.1), some (.int a'.2.1), some (.int a'.2.2.1), some (.int a'.2.2.2.1)] [] a'.2.2.2.2) : zW l s0 D cA sp (zQ s0 D cA sp (some (.int r)) σ1) (x_rm 2 0 0) M_Mo_middle 0 0 26 [some (.ref 60), some (.int v1), some (.int a.1), some (.int a.2.1), some (.int a.2.2.1), some (.int a.2.2.2.1)] [] a.2.2.2.2 := by
  obtain ⟨v2, v3, v4, v5, σ⟩ := a
  unfold f_Mo_middle_60_L26 at h
  try dsimp only at h ⊢
  refine x_iload 28 rfl dX9_middle_26 rfl ?_
  refine x_aload_n 29 rfl 0 dX9_middle_28 rfl rfl ?_
  refine x_getI E dX9_middle_29 F_RX9_346 sh_60 32 rfl ?_
  refine x_icmp_ge 35 rfl 110 dX9_middle_32 (by decide) (fun hc => ?_) (fun hc => ?_)
  · replace h := x_ifT hc h
    cases h
    exact x_wk (x_le_s (x_le_s (x_le_s (x_le_s (x_le_s (x_le_n x_le_0)))))) (hK (_, _, _, _, _) rfl)
  · replace h := x_ifF hc h
    refine x_iload_n 36 rfl 2 dX9_middle_35 rfl rfl ?_
    refine x_aload_n 37 rfl 0 dX9_middle_36 rfl rfl ?_
    refine x_getR E dX9_middle_37 F_RX9_117 sh_60 rf_60_77 40 rfl ?_
    refine x_iload 42 rfl dX9_middle_40 rfl ?_
    obtain ⟨hz, h⟩ := x_ifn h
    refine x_iald E dX9_middle_42 sh_91 _ rfl hz 43 rfl ?_
    refine x_iadd 44 rfl dX9_middle_43 ?_
    refine x_istore_n 45 rfl 2 dX9_middle_44 rfl (by decide) [some (.ref 60), some (.int _), some (.int _), some (.int _), some (.int _), some (.int _)] rfl ?_
    refine x_iload 47 rfl dX9_middle_45 rfl ?_
    refine x_if_eq 50 rfl 61 dX9_middle_47 (by decide) (fun hc => ?_) (fun hc => ?_)
    · replace h := x_ifT hc h
      exact x_wk (x_le_s (x_le_s (x_le_s (x_le_n (x_le_s (x_le_s x_le_0)))))) (j_Mo_middle_60_J61 (r := r) (σ1 := σ1) E _ _ _ _  _ _ h hK hG)
    · replace h := x_ifF hc h
      refine x_aload_n 51 rfl 0 dX9_middle_50 rfl rfl ?_
      refine x_getR E dX9_middle_51 F_RX9_117 sh_60 rf_60_77 54 rfl ?_
      refine x_iload 56 rfl dX9_middle_54 rfl ?_
      obtain ⟨hz, h⟩ := x_ifn h
      refine x_iald E dX9_middle_56 sh_91 _ rfl hz 57 rfl ?_
      refine x_iload_n 58 rfl 3 dX9_middle_57 rfl rfl ?_
      refine x_icmp_le 61 rfl 71 dX9_middle_58 (by decide) (fun hc => ?_) (fun hc => ?_)
      · replace h := x_ifT hc h
        refine x_iload_n 72 rfl 3 dX9_middle_71 rfl rfl ?_
        exact x_wk (x_le_s (x_le_s (x_le_s (x_le_n (x_le_s (x_le_s x_le_0)))))) (j_Mo_middle_60_J72 (r := r) (σ1 := σ1) E _ _ _ _ _  _ _ h hK hG)
      · replace h := x_ifF hc h
        exact x_wk (x_le_s (x_le_s (x_le_s (x_le_n (x_le_s (x_le_s x_le_0)))))) (j_Mo_middle_60_J61 (r := r) (σ1 := σ1) E _ _ _ _  _ _ h hK hG)
set_option maxHeartbeats 4000000 in
set_option maxRecDepth 100000 in
theorem c_Mo_middle_60 {l : Launch} {s0 : State} {a0 : Array Value} {D : va_G} {cA : Nat → ClassId} {sp : Nat → Nat} (E : x_En CL l s0 a0 D cA sp) (v1 : Int32) {σ : xS} {r : Int32} {σ1 : xS} (h : f_Mo_middle_60 v1 σ = some (r, σ1)) : zC l s0 D cA sp 2 M_Mo_middle [.ref 60, .int v1] σ (some (.int r)) σ1 := by
  unfold f_Mo_middle_60 at h
  try dsimp only at h
  refine x_enter [some (.ref 60), some (.int v1), none, none, none, none] rfl (Nat.le_of_ble_eq_true rfl) (by decide +kernel) rfl ?_
  refine x_aload_n 1 rfl 0 dX9_middle_0 rfl rfl ?_
  refine x_iconst 2 rfl (v := 0) dX9_middle_1 (by decide) ?_
  refine x_putI E dX9_middle_2 F_RX9_132 sh_60 5 rfl ?_
  refine x_aload_n 6 rfl 0 dX9_middle_5 rfl rfl ?_
  refine x_iload_n 7 rfl 1 dX9_middle_6 rfl rfl ?_
  refine x_iconst 8 rfl (v := 2) dX9_middle_7 (by decide) ?_
  obtain ⟨⟨q8r, q8s⟩, q8h, h⟩ := x_bind h
  try dsimp only at h
  refine z_callV E [.int _, .int _] [] dX9_middle_8 K_RX9_421 ⟨Nat.le_of_ble_eq_true rfl, Nat.le_of_ble_eq_true rfl⟩ sh_60 (by decide) rfl (c_Mo_isWhat_60 E _ _ q8h) rfl rfl (Nat.le_of_ble_eq_true rfl) 11 rfl [.int _] rfl ?_
  refine x_if_ne 14 rfl 16 dX9_middle_11 (by decide) (fun hc => ?_) (fun hc => ?_)
  · replace h := x_ifF hc h
    refine x_iconst 17 rfl (v := 0) dX9_middle_16 (by decide) ?_
    refine x_istore_n 18 rfl 2 dX9_middle_17 rfl (by decide) [some (.ref 60), some (.int _), some (.int _), none, none, none] rfl ?_
    refine x_iconst 19 rfl (v := 0) dX9_middle_18 (by decide) ?_
    refine x_istore_n 20 rfl 3 dX9_middle_19 rfl (by decide) [some (.ref 60), some (.int _), some (.int _), some (.int _), none, none] rfl ?_
    refine x_iconst 21 rfl (v := 0) dX9_middle_20 (by decide) ?_
    refine x_istore 23 rfl dX9_middle_21 (by decide) [some (.ref 60), some (.int _), some (.int _), some (.int _), some (.int _), none] rfl ?_
    refine x_iconst 24 rfl (v := 0) dX9_middle_23 (by decide) ?_
    refine x_istore 26 rfl dX9_middle_24 (by decide) [some (.ref 60), some (.int _), some (.int _), some (.int _), some (.int _), some (.int _)] rfl ?_
    obtain ⟨b9, b9h, h⟩ := x_bind h
    try dsimp only at h
    refine x_wk (x_le_s (x_le_s (x_le_s (x_le_s (x_le_s (x_le_s x_le_0)))))) (x_loop (fun a o h hK hG => b_Mo_middle_60_L26 (r := r) (σ1 := σ1) E _ a o h hK hG) _ _ _ b9h ?_)
    refine x_iload_n 111 rfl 1 dX9_middle_110 rfl rfl ?_
    refine x_iconst 112 rfl (v := 2) dX9_middle_111 (by decide) ?_
    refine x_icmp_ne 115 rfl 122 dX9_middle_112 (by decide) (fun hc => ?_) (fun hc => ?_)
    · replace h := x_ifF hc h
      refine x_iload_n 123 rfl 2 dX9_middle_122 rfl rfl ?_
      refine x_aload_n 124 rfl 0 dX9_middle_123 rfl rfl ?_
      refine x_getI E dX9_middle_124 F_RX9_346 sh_60 127 rfl ?_
      refine x_if_ne 130 rfl 134 dX9_middle_127 (by decide) (fun hc => ?_) (fun hc => ?_)
      · replace h := x_ifF hc h
        refine x_aload_n 135 rfl 0 dX9_middle_134 rfl rfl ?_
        refine x_getI E dX9_middle_135 F_RX9_346 sh_60 138 rfl ?_
        refine x_iload_n 139 rfl 1 dX9_middle_138 rfl rfl ?_
        obtain ⟨⟨q10r, q10s⟩, q10h, h⟩ := x_bind h
        try dsimp only at h
        refine z_callS E [.int _, .int _, .int _] [] dX9_middle_139 K_RX9_482 ⟨Nat.le_of_ble_eq_true rfl, Nat.le_of_ble_eq_true rfl⟩ (c_Mo_portion E _ _ _ q10h) rfl rfl (Nat.le_of_ble_eq_true rfl) 142 rfl [.int _] rfl ?_
        cases h
        exact x_iret dX9_middle_142 rfl rfl rfl
      · replace h := x_ifT hc h
        refine x_iconst 131 rfl (v := 1) dX9_middle_130 (by decide) ?_
        refine x_goto 138 dX9_middle_131 (by decide) ?_
        refine x_iload_n 139 rfl 1 dX9_middle_138 rfl rfl ?_
        obtain ⟨⟨q11r, q11s⟩, q11h, h⟩ := x_bind h
        try dsimp only at h
        refine z_callS E [.int _, .int _, .int _] [] dX9_middle_139 K_RX9_482 ⟨Nat.le_of_ble_eq_true rfl, Nat.le_of_ble_eq_true rfl⟩ (c_Mo_portion E _ _ _ q11h) rfl rfl (Nat.le_of_ble_eq_true rfl) 142 rfl [.int _] rfl ?_
        cases h
        exact x_iret dX9_middle_142 rfl rfl rfl
    · replace h := x_ifT hc h
      refine x_iload_n 116 rfl 3 dX9_middle_115 rfl rfl ?_
      refine x_iload 118 rfl dX9_middle_116 rfl ?_
      refine x_isub 119 rfl dX9_middle_118 ?_
      refine x_goto 142 dX9_middle_119 (by decide) ?_
      cases h
      exact x_iret dX9_middle_142 rfl rfl rfl
  · replace h := x_ifT hc h
    refine x_iconst 15 rfl (v := 0) dX9_middle_14 (by decide) ?_
    cases h
    exact x_iret dX9_middle_15 rfl rfl rfl
abbrev M_Mo_forget : xM := (yX9_forget, cX9_forget, 1, none, [])
theorem dX9_forget_0 : decode cX9_forget 0 = .ok (.aload_n 0, 1) := by decide +kernel
theorem dX9_forget_1 : decode cX9_forget 1 = .ok (.iconst 0, 1) := by decide +kernel
theorem dX9_forget_2 : decode cX9_forget 2 = .ok (.putfield 132, 3) := by decide +kernel
theorem dX9_forget_5 : decode cX9_forget 5 = .ok (.aload_n 0, 1) := by decide +kernel
theorem dX9_forget_6 : decode cX9_forget 6 = .ok (.iconst 0, 1) := by decide +kernel
theorem dX9_forget_7 : decode cX9_forget 7 = .ok (.putfield 343, 3) := by decide +kernel
theorem dX9_forget_10 : decode cX9_forget 10 = .ok (.aload_n 0, 1) := by decide +kernel
theorem dX9_forget_11 : decode cX9_forget 11 = .ok (.iconst 0, 1) := by decide +kernel
theorem dX9_forget_12 : decode cX9_forget 12 = .ok (.putfield 346, 3) := by decide +kernel
theorem dX9_forget_15 : decode cX9_forget 15 = .ok (.return_, 1) := by decide +kernel
def f_Mo_forget_60  (σ : xS) : Option (Unit × xS) :=
  let σ1 := x_pI σ 60 0 (0 : Int32)
  let σ2 := x_pI σ1 60 74 (0 : Int32)
  let σ3 := x_pI σ2 60 76 (0 : Int32)
  some ((), σ3)
set_option maxHeartbeats 4000000 in
set_option maxRecDepth 100000 in
theorem c_Mo_forget_60 {l : Launch} {s0 : State} {a0 : Array Value} {D : va_G} {cA : Nat → ClassId} {sp : Nat → Nat} (E : x_En CL l s0 a0 D cA sp)  {σ : xS} {r : Unit} {σ1 : xS} (h : f_Mo_forget_60  σ = some (r, σ1)) : zC l s0 D cA sp 0 M_Mo_forget [.ref 60] σ none σ1 := by
  unfold f_Mo_forget_60 at h
  try dsimp only at h
  refine x_enter [some (.ref 60)] rfl (Nat.le_of_ble_eq_true rfl) (by decide +kernel) rfl ?_
  refine x_aload_n 1 rfl 0 dX9_forget_0 rfl rfl ?_
  refine x_iconst 2 rfl (v := 0) dX9_forget_1 (by decide) ?_
  refine x_putI E dX9_forget_2 F_RX9_132 sh_60 5 rfl ?_
  refine x_aload_n 6 rfl 0 dX9_forget_5 rfl rfl ?_
  refine x_iconst 7 rfl (v := 0) dX9_forget_6 (by decide) ?_
  refine x_putI E dX9_forget_7 F_RX9_343 sh_60 10 rfl ?_
  refine x_aload_n 11 rfl 0 dX9_forget_10 rfl rfl ?_
  refine x_iconst 12 rfl (v := 0) dX9_forget_11 (by decide) ?_
  refine x_putI E dX9_forget_12 F_RX9_346 sh_60 15 rfl ?_
  cases h
  exact x_vret dX9_forget_15 rfl rfl rfl
def f_Mo_copies_60_79_92_L2  (a : Int32 × xS) : Option ((Int32 × xS) ⊕ (Int32 × xS)) :=
  let v3 := a.1; let σ := a.2;
  if (Int32.ofNat 12) ≤ v3 then
    some (.inl (v3, σ))
  else
    if v3 < 0 ∨ 12 ≤ v3.toNatClampNeg then none else
    if v3 < 0 ∨ 12 ≤ v3.toNatClampNeg then none else
    let σ1 := x_pI σ 92 v3.toNatClampNeg (σ.1 79 v3.toNatClampNeg)
    let w2 := v3 + (1 : Int32)
    some (.inr (w2, σ1))
def f_Mo_copies_60_79_92  (σ : xS) : Option (Unit × xS) :=
  (x_it (f_Mo_copies_60_79_92_L2 ) 10000 ((0 : Int32), σ)).bind fun b3 =>
  some ((), b3.2)
set_option maxHeartbeats 4000000 in
set_option maxRecDepth 100000 in
theorem b_Mo_copies_60_79_92_L2 {l : Launch} {s0 : State} {a0 : Array Value} {D : va_G} {cA : Nat → ClassId} {sp : Nat → Nat} (E : x_En CL l s0 a0 D cA sp)  {r : Unit} {σ1 : xS} (a : Int32 × xS) (o : (Int32 × xS) ⊕ (Int32 × xS)) (h : f_Mo_copies_60_79_92_L2  a = some o) (hK : ∀ b, o = .inl b → zW l s0 D cA sp (zQ s0 D cA sp none σ1) (x_rm 0 0 0) M_Mo_copies 0 0 20 [none, none, none, none] [] b.2) (hG : ∀ a', o = .inr a' → zW l s0 D cA sp (zQ s0 D cA sp none σ1) (x_rm 0 0 0) M_Mo_copies 0 0 2 [none, some (.ref 79), some (.ref 92), some (.int a'.1)] [] a'.2) : zW l s0 D cA sp (zQ s0 D cA sp none σ1) (x_rm 0 0 0) M_Mo_copies 0 0 2 [none, some (.ref 79), some (.ref 92), some (.int a.1)] [] a.2 := by
  obtain ⟨v3, σ⟩ := a
  unfold f_Mo_copies_60_79_92_L2 at h
  try dsimp only at h ⊢
  refine x_iload_n 3 rfl 3 dX9_copies_2 rfl rfl ?_
  refine x_aload_n 4 rfl 1 dX9_copies_3 rfl rfl ?_
  refine x_alen E dX9_copies_4 sh_79 5 rfl ?_
  refine x_icmp_ge 8 rfl 20 dX9_copies_5 (by decide) (fun hc => ?_) (fun hc => ?_)
  · replace h := x_ifT hc h
    cases h
    exact x_wk (x_le_n (x_le_n (x_le_n (x_le_n x_le_0)))) (hK (_, _) rfl)
  · replace h := x_ifF hc h
    refine x_aload_n 9 rfl 2 dX9_copies_8 rfl rfl ?_
    refine x_iload_n 10 rfl 3 dX9_copies_9 rfl rfl ?_
    refine x_aload_n 11 rfl 1 dX9_copies_10 rfl rfl ?_
    refine x_iload_n 12 rfl 3 dX9_copies_11 rfl rfl ?_
    obtain ⟨hz, h⟩ := x_ifn h
    refine x_iald E dX9_copies_12 sh_79 _ rfl hz 13 rfl ?_
    obtain ⟨hz, h⟩ := x_ifn h
    refine x_iast E dX9_copies_13 sh_92 _ rfl hz 14 rfl ?_
    refine x_iinc 17 rfl (1) dX9_copies_14 rfl (by decide) (by decide) [none, some (.ref 79), some (.ref 92), some (.int _)] rfl ?_
    refine x_goto 2 dX9_copies_17 (by decide) ?_
    cases h
    exact x_wk (x_le_n (x_le_s (x_le_s (x_le_s x_le_0)))) (hG (_, _) rfl)
set_option maxHeartbeats 4000000 in
set_option maxRecDepth 100000 in
theorem c_Mo_copies_60_79_92 {l : Launch} {s0 : State} {a0 : Array Value} {D : va_G} {cA : Nat → ClassId} {sp : Nat → Nat} (E : x_En CL l s0 a0 D cA sp)  {σ : xS} {r : Unit} {σ1 : xS} (h : f_Mo_copies_60_79_92  σ = some (r, σ1)) : zC l s0 D cA sp 0 M_Mo_copies [.ref 60, .ref 79, .ref 92] σ none σ1 := by
  unfold f_Mo_copies_60_79_92 at h
  try dsimp only at h
  refine x_enter [some (.ref 60), some (.ref 79), some (.ref 92), none] rfl (Nat.le_of_ble_eq_true rfl) (by decide +kernel) rfl ?_
  refine x_iconst 1 rfl (v := 0) dX9_copies_0 (by decide) ?_
  refine x_istore_n 2 rfl 3 dX9_copies_1 rfl (by decide) [some (.ref 60), some (.ref 79), some (.ref 92), some (.int _)] rfl ?_
  obtain ⟨b3, b3h, h⟩ := x_bind h
  try dsimp only at h
  refine x_wk (x_le_n (x_le_s (x_le_s (x_le_s x_le_0)))) (x_loop (fun a o h hK hG => b_Mo_copies_60_79_92_L2 (r := r) (σ1 := σ1) E  a o h hK hG) _ _ _ b3h ?_)
  cases h
  exact x_vret dX9_copies_20 rfl rfl rfl
def f_Mo_copies_60_81_93_L2  (a : Int32 × xS) : Option ((Int32 × xS) ⊕ (Int32 × xS)) :=
  let v3 := a.1; let σ := a.2;
  if (Int32.ofNat 80) ≤ v3 then
    some (.inl (v3, σ))
  else
    if v3 < 0 ∨ 80 ≤ v3.toNatClampNeg then none else
    if v3 < 0 ∨ 80 ≤ v3.toNatClampNeg then none else
    let σ1 := x_pI σ 93 v3.toNatClampNeg (σ.1 81 v3.toNatClampNeg)
    let w2 := v3 + (1 : Int32)
    some (.inr (w2, σ1))
def f_Mo_copies_60_81_93  (σ : xS) : Option (Unit × xS) :=
  (x_it (f_Mo_copies_60_81_93_L2 ) 10000 ((0 : Int32), σ)).bind fun b3 =>
  some ((), b3.2)
set_option maxHeartbeats 4000000 in
set_option maxRecDepth 100000 in
theorem b_Mo_copies_60_81_93_L2 {l : Launch} {s0 : State} {a0 : Array Value} {D : va_G} {cA : Nat → ClassId} {sp : Nat → Nat} (E : x_En CL l s0 a0 D cA sp)  {r : Unit} {σ1 : xS} (a : Int32 × xS) (o : (Int32 × xS) ⊕ (Int32 × xS)) (h : f_Mo_copies_60_81_93_L2  a = some o) (hK : ∀ b, o = .inl b → zW l s0 D cA sp (zQ s0 D cA sp none σ1) (x_rm 0 0 0) M_Mo_copies 0 0 20 [none, none, none, none] [] b.2) (hG : ∀ a', o = .inr a' → zW l s0 D cA sp (zQ s0 D cA sp none σ1) (x_rm 0 0 0) M_Mo_copies 0 0 2 [none, some (.ref 81), some (.ref 93), some (.int a'.1)] [] a'.2) : zW l s0 D cA sp (zQ s0 D cA sp none σ1) (x_rm 0 0 0) M_Mo_copies 0 0 2 [none, some (.ref 81), some (.ref 93), some (.int a.1)] [] a.2 := by
  obtain ⟨v3, σ⟩ := a
  unfold f_Mo_copies_60_81_93_L2 at h
  try dsimp only at h ⊢
  refine x_iload_n 3 rfl 3 dX9_copies_2 rfl rfl ?_
  refine x_aload_n 4 rfl 1 dX9_copies_3 rfl rfl ?_
  refine x_alen E dX9_copies_4 sh_81 5 rfl ?_
  refine x_icmp_ge 8 rfl 20 dX9_copies_5 (by decide) (fun hc => ?_) (fun hc => ?_)
  · replace h := x_ifT hc h
    cases h
    exact x_wk (x_le_n (x_le_n (x_le_n (x_le_n x_le_0)))) (hK (_, _) rfl)
  · replace h := x_ifF hc h
    refine x_aload_n 9 rfl 2 dX9_copies_8 rfl rfl ?_
    refine x_iload_n 10 rfl 3 dX9_copies_9 rfl rfl ?_
    refine x_aload_n 11 rfl 1 dX9_copies_10 rfl rfl ?_
    refine x_iload_n 12 rfl 3 dX9_copies_11 rfl rfl ?_
    obtain ⟨hz, h⟩ := x_ifn h
    refine x_iald E dX9_copies_12 sh_81 _ rfl hz 13 rfl ?_
    obtain ⟨hz, h⟩ := x_ifn h
    refine x_iast E dX9_copies_13 sh_93 _ rfl hz 14 rfl ?_
    refine x_iinc 17 rfl (1) dX9_copies_14 rfl (by decide) (by decide) [none, some (.ref 81), some (.ref 93), some (.int _)] rfl ?_
    refine x_goto 2 dX9_copies_17 (by decide) ?_
    cases h
    exact x_wk (x_le_n (x_le_s (x_le_s (x_le_s x_le_0)))) (hG (_, _) rfl)
set_option maxHeartbeats 4000000 in
set_option maxRecDepth 100000 in
theorem c_Mo_copies_60_81_93 {l : Launch} {s0 : State} {a0 : Array Value} {D : va_G} {cA : Nat → ClassId} {sp : Nat → Nat} (E : x_En CL l s0 a0 D cA sp)  {σ : xS} {r : Unit} {σ1 : xS} (h : f_Mo_copies_60_81_93  σ = some (r, σ1)) : zC l s0 D cA sp 0 M_Mo_copies [.ref 60, .ref 81, .ref 93] σ none σ1 := by
  unfold f_Mo_copies_60_81_93 at h
  try dsimp only at h
  refine x_enter [some (.ref 60), some (.ref 81), some (.ref 93), none] rfl (Nat.le_of_ble_eq_true rfl) (by decide +kernel) rfl ?_
  refine x_iconst 1 rfl (v := 0) dX9_copies_0 (by decide) ?_
  refine x_istore_n 2 rfl 3 dX9_copies_1 rfl (by decide) [some (.ref 60), some (.ref 81), some (.ref 93), some (.int _)] rfl ?_
  obtain ⟨b3, b3h, h⟩ := x_bind h
  try dsimp only at h
  refine x_wk (x_le_n (x_le_s (x_le_s (x_le_s x_le_0)))) (x_loop (fun a o h hK hG => b_Mo_copies_60_81_93_L2 (r := r) (σ1 := σ1) E  a o h hK hG) _ _ _ b3h ?_)
  cases h
  exact x_vret dX9_copies_20 rfl rfl rfl
def f_Mo_copies_60_90_94_L2  (a : Int32 × xS) : Option ((Int32 × xS) ⊕ (Int32 × xS)) :=
  let v3 := a.1; let σ := a.2;
  if (Int32.ofNat 16) ≤ v3 then
    some (.inl (v3, σ))
  else
    if v3 < 0 ∨ 16 ≤ v3.toNatClampNeg then none else
    if v3 < 0 ∨ 16 ≤ v3.toNatClampNeg then none else
    let σ1 := x_pI σ 94 v3.toNatClampNeg (σ.1 90 v3.toNatClampNeg)
    let w2 := v3 + (1 : Int32)
    some (.inr (w2, σ1))
def f_Mo_copies_60_90_94  (σ : xS) : Option (Unit × xS) :=
  (x_it (f_Mo_copies_60_90_94_L2 ) 10000 ((0 : Int32), σ)).bind fun b3 =>
  some ((), b3.2)
set_option maxHeartbeats 4000000 in
set_option maxRecDepth 100000 in
theorem b_Mo_copies_60_90_94_L2 {l : Launch} {s0 : State} {a0 : Array Value} {D : va_G} {cA : Nat → ClassId} {sp : Nat → Nat} (E : x_En CL l s0 a0 D cA sp)  {r : Unit} {σ1 : xS} (a : Int32 × xS) (o : (Int32 × xS) ⊕ (Int32 × xS)) (h : f_Mo_copies_60_90_94_L2  a = some o) (hK : ∀ b, o = .inl b → zW l s0 D cA sp (zQ s0 D cA sp none σ1) (x_rm 0 0 0) M_Mo_copies 0 0 20 [none, none, none, none] [] b.2) (hG : ∀ a', o = .inr a' → zW l s0 D cA sp (zQ s0 D cA sp none σ1) (x_rm 0 0 0) M_Mo_copies 0 0 2 [none, some (.ref 90), some (.ref 94), some (.int a'.1)] [] a'.2) : zW l s0 D cA sp (zQ s0 D cA sp none σ1) (x_rm 0 0 0) M_Mo_copies 0 0 2 [none, some (.ref 90), some (.ref 94), some (.int a.1)] [] a.2 := by
  obtain ⟨v3, σ⟩ := a
  unfold f_Mo_copies_60_90_94_L2 at h
  try dsimp only at h ⊢
  refine x_iload_n 3 rfl 3 dX9_copies_2 rfl rfl ?_
  refine x_aload_n 4 rfl 1 dX9_copies_3 rfl rfl ?_
  refine x_alen E dX9_copies_4 sh_90 5 rfl ?_
  refine x_icmp_ge 8 rfl 20 dX9_copies_5 (by decide) (fun hc => ?_) (fun hc => ?_)
  · replace h := x_ifT hc h
    cases h
    exact x_wk (x_le_n (x_le_n (x_le_n (x_le_n x_le_0)))) (hK (_, _) rfl)
  · replace h := x_ifF hc h
    refine x_aload_n 9 rfl 2 dX9_copies_8 rfl rfl ?_
    refine x_iload_n 10 rfl 3 dX9_copies_9 rfl rfl ?_
    refine x_aload_n 11 rfl 1 dX9_copies_10 rfl rfl ?_
    refine x_iload_n 12 rfl 3 dX9_copies_11 rfl rfl ?_
    obtain ⟨hz, h⟩ := x_ifn h
    refine x_iald E dX9_copies_12 sh_90 _ rfl hz 13 rfl ?_
    obtain ⟨hz, h⟩ := x_ifn h
    refine x_iast E dX9_copies_13 sh_94 _ rfl hz 14 rfl ?_
    refine x_iinc 17 rfl (1) dX9_copies_14 rfl (by decide) (by decide) [none, some (.ref 90), some (.ref 94), some (.int _)] rfl ?_
    refine x_goto 2 dX9_copies_17 (by decide) ?_
    cases h
    exact x_wk (x_le_n (x_le_s (x_le_s (x_le_s x_le_0)))) (hG (_, _) rfl)
set_option maxHeartbeats 4000000 in
set_option maxRecDepth 100000 in
theorem c_Mo_copies_60_90_94 {l : Launch} {s0 : State} {a0 : Array Value} {D : va_G} {cA : Nat → ClassId} {sp : Nat → Nat} (E : x_En CL l s0 a0 D cA sp)  {σ : xS} {r : Unit} {σ1 : xS} (h : f_Mo_copies_60_90_94  σ = some (r, σ1)) : zC l s0 D cA sp 0 M_Mo_copies [.ref 60, .ref 90, .ref 94] σ none σ1 := by
  unfold f_Mo_copies_60_90_94 at h
  try dsimp only at h
  refine x_enter [some (.ref 60), some (.ref 90), some (.ref 94), none] rfl (Nat.le_of_ble_eq_true rfl) (by decide +kernel) rfl ?_
  refine x_iconst 1 rfl (v := 0) dX9_copies_0 (by decide) ?_
  refine x_istore_n 2 rfl 3 dX9_copies_1 rfl (by decide) [some (.ref 60), some (.ref 90), some (.ref 94), some (.int _)] rfl ?_
  obtain ⟨b3, b3h, h⟩ := x_bind h
  try dsimp only at h
  refine x_wk (x_le_n (x_le_s (x_le_s (x_le_s x_le_0)))) (x_loop (fun a o h hK hG => b_Mo_copies_60_90_94_L2 (r := r) (σ1 := σ1) E  a o h hK hG) _ _ _ b3h ?_)
  cases h
  exact x_vret dX9_copies_20 rfl rfl rfl
def f_Mo_copies_60_91_95_L2  (a : Int32 × xS) : Option ((Int32 × xS) ⊕ (Int32 × xS)) :=
  let v3 := a.1; let σ := a.2;
  if (Int32.ofNat 16) ≤ v3 then
    some (.inl (v3, σ))
  else
    if v3 < 0 ∨ 16 ≤ v3.toNatClampNeg then none else
    if v3 < 0 ∨ 16 ≤ v3.toNatClampNeg then none else
    let σ1 := x_pI σ 95 v3.toNatClampNeg (σ.1 91 v3.toNatClampNeg)
    let w2 := v3 + (1 : Int32)
    some (.inr (w2, σ1))
def f_Mo_copies_60_91_95  (σ : xS) : Option (Unit × xS) :=
  (x_it (f_Mo_copies_60_91_95_L2 ) 10000 ((0 : Int32), σ)).bind fun b3 =>
  some ((), b3.2)
set_option maxHeartbeats 4000000 in
set_option maxRecDepth 100000 in
theorem b_Mo_copies_60_91_95_L2 {l : Launch} {s0 : State} {a0 : Array Value} {D : va_G} {cA : Nat → ClassId} {sp : Nat → Nat} (E : x_En CL l s0 a0 D cA sp)  {r : Unit} {σ1 : xS} (a : Int32 × xS) (o : (Int32 × xS) ⊕ (Int32 × xS)) (h : f_Mo_copies_60_91_95_L2  a = some o) (hK : ∀ b, o = .inl b → zW l s0 D cA sp (zQ s0 D cA sp none σ1) (x_rm 0 0 0) M_Mo_copies 0 0 20 [none, none, none, none] [] b.2) (hG : ∀ a', o = .inr a' → zW l s0 D cA sp (zQ s0 D cA sp none σ1) (x_rm 0 0 0) M_Mo_copies 0 0 2 [none, some (.ref 91), some (.ref 95), some (.int a'.1)] [] a'.2) : zW l s0 D cA sp (zQ s0 D cA sp none σ1) (x_rm 0 0 0) M_Mo_copies 0 0 2 [none, some (.ref 91), some (.ref 95), some (.int a.1)] [] a.2 := by
  obtain ⟨v3, σ⟩ := a
  unfold f_Mo_copies_60_91_95_L2 at h
  try dsimp only at h ⊢
  refine x_iload_n 3 rfl 3 dX9_copies_2 rfl rfl ?_
  refine x_aload_n 4 rfl 1 dX9_copies_3 rfl rfl ?_
  refine x_alen E dX9_copies_4 sh_91 5 rfl ?_
  refine x_icmp_ge 8 rfl 20 dX9_copies_5 (by decide) (fun hc => ?_) (fun hc => ?_)
  · replace h := x_ifT hc h
    cases h
    exact x_wk (x_le_n (x_le_n (x_le_n (x_le_n x_le_0)))) (hK (_, _) rfl)
  · replace h := x_ifF hc h
    refine x_aload_n 9 rfl 2 dX9_copies_8 rfl rfl ?_
    refine x_iload_n 10 rfl 3 dX9_copies_9 rfl rfl ?_
    refine x_aload_n 11 rfl 1 dX9_copies_10 rfl rfl ?_
    refine x_iload_n 12 rfl 3 dX9_copies_11 rfl rfl ?_
    obtain ⟨hz, h⟩ := x_ifn h
    refine x_iald E dX9_copies_12 sh_91 _ rfl hz 13 rfl ?_
    obtain ⟨hz, h⟩ := x_ifn h
    refine x_iast E dX9_copies_13 sh_95 _ rfl hz 14 rfl ?_
    refine x_iinc 17 rfl (1) dX9_copies_14 rfl (by decide) (by decide) [none, some (.ref 91), some (.ref 95), some (.int _)] rfl ?_
    refine x_goto 2 dX9_copies_17 (by decide) ?_
    cases h
    exact x_wk (x_le_n (x_le_s (x_le_s (x_le_s x_le_0)))) (hG (_, _) rfl)
set_option maxHeartbeats 4000000 in
set_option maxRecDepth 100000 in
theorem c_Mo_copies_60_91_95 {l : Launch} {s0 : State} {a0 : Array Value} {D : va_G} {cA : Nat → ClassId} {sp : Nat → Nat} (E : x_En CL l s0 a0 D cA sp)  {σ : xS} {r : Unit} {σ1 : xS} (h : f_Mo_copies_60_91_95  σ = some (r, σ1)) : zC l s0 D cA sp 0 M_Mo_copies [.ref 60, .ref 91, .ref 95] σ none σ1 := by
  unfold f_Mo_copies_60_91_95 at h
  try dsimp only at h
  refine x_enter [some (.ref 60), some (.ref 91), some (.ref 95), none] rfl (Nat.le_of_ble_eq_true rfl) (by decide +kernel) rfl ?_
  refine x_iconst 1 rfl (v := 0) dX9_copies_0 (by decide) ?_
  refine x_istore_n 2 rfl 3 dX9_copies_1 rfl (by decide) [some (.ref 60), some (.ref 91), some (.ref 95), some (.int _)] rfl ?_
  obtain ⟨b3, b3h, h⟩ := x_bind h
  try dsimp only at h
  refine x_wk (x_le_n (x_le_s (x_le_s (x_le_s x_le_0)))) (x_loop (fun a o h hK hG => b_Mo_copies_60_91_95_L2 (r := r) (σ1 := σ1) E  a o h hK hG) _ _ _ b3h ?_)
  cases h
  exact x_vret dX9_copies_20 rfl rfl rfl
abbrev M_Mo_image : xM := (yX9_image, cX9_image, 1, none, [])
theorem dX9_image_0 : decode cX9_image 0 = .ok (.aload_n 0, 1) := by decide +kernel
theorem dX9_image_1 : decode cX9_image 1 = .ok (.iconst 0, 1) := by decide +kernel
theorem dX9_image_2 : decode cX9_image 2 = .ok (.putfield 132, 3) := by decide +kernel
theorem dX9_image_5 : decode cX9_image 5 = .ok (.aload_n 0, 1) := by decide +kernel
theorem dX9_image_6 : decode cX9_image 6 = .ok (.iconst 1, 1) := by decide +kernel
theorem dX9_image_7 : decode cX9_image 7 = .ok (.putfield 349, 3) := by decide +kernel
theorem dX9_image_10 : decode cX9_image 10 = .ok (.aload_n 0, 1) := by decide +kernel
theorem dX9_image_11 : decode cX9_image 11 = .ok (.aload_n 0, 1) := by decide +kernel
theorem dX9_image_12 : decode cX9_image 12 = .ok (.getfield 340, 3) := by decide +kernel
theorem dX9_image_15 : decode cX9_image 15 = .ok (.putfield 485, 3) := by decide +kernel
theorem dX9_image_18 : decode cX9_image 18 = .ok (.aload_n 0, 1) := by decide +kernel
theorem dX9_image_19 : decode cX9_image 19 = .ok (.aload_n 0, 1) := by decide +kernel
theorem dX9_image_20 : decode cX9_image 20 = .ok (.getfield 343, 3) := by decide +kernel
theorem dX9_image_23 : decode cX9_image 23 = .ok (.putfield 488, 3) := by decide +kernel
theorem dX9_image_26 : decode cX9_image 26 = .ok (.aload_n 0, 1) := by decide +kernel
theorem dX9_image_27 : decode cX9_image 27 = .ok (.aload_n 0, 1) := by decide +kernel
theorem dX9_image_28 : decode cX9_image 28 = .ok (.getfield 346, 3) := by decide +kernel
theorem dX9_image_31 : decode cX9_image 31 = .ok (.putfield 491, 3) := by decide +kernel
theorem dX9_image_34 : decode cX9_image 34 = .ok (.aload_n 0, 1) := by decide +kernel
theorem dX9_image_35 : decode cX9_image 35 = .ok (.aload_n 0, 1) := by decide +kernel
theorem dX9_image_36 : decode cX9_image 36 = .ok (.getfield 78, 3) := by decide +kernel
theorem dX9_image_39 : decode cX9_image 39 = .ok (.aload_n 0, 1) := by decide +kernel
theorem dX9_image_40 : decode cX9_image 40 = .ok (.getfield 120, 3) := by decide +kernel
theorem dX9_image_43 : decode cX9_image 43 = .ok (.invokevirtual 336, 3) := by decide +kernel
theorem dX9_image_46 : decode cX9_image 46 = .ok (.aload_n 0, 1) := by decide +kernel
theorem dX9_image_47 : decode cX9_image 47 = .ok (.aload_n 0, 1) := by decide +kernel
theorem dX9_image_48 : decode cX9_image 48 = .ok (.getfield 84, 3) := by decide +kernel
theorem dX9_image_51 : decode cX9_image 51 = .ok (.aload_n 0, 1) := by decide +kernel
theorem dX9_image_52 : decode cX9_image 52 = .ok (.getfield 123, 3) := by decide +kernel
theorem dX9_image_55 : decode cX9_image 55 = .ok (.invokevirtual 336, 3) := by decide +kernel
theorem dX9_image_58 : decode cX9_image 58 = .ok (.aload_n 0, 1) := by decide +kernel
theorem dX9_image_59 : decode cX9_image 59 = .ok (.aload_n 0, 1) := by decide +kernel
theorem dX9_image_60 : decode cX9_image 60 = .ok (.getfield 114, 3) := by decide +kernel
theorem dX9_image_63 : decode cX9_image 63 = .ok (.aload_n 0, 1) := by decide +kernel
theorem dX9_image_64 : decode cX9_image 64 = .ok (.getfield 126, 3) := by decide +kernel
theorem dX9_image_67 : decode cX9_image 67 = .ok (.invokevirtual 336, 3) := by decide +kernel
theorem dX9_image_70 : decode cX9_image 70 = .ok (.aload_n 0, 1) := by decide +kernel
theorem dX9_image_71 : decode cX9_image 71 = .ok (.aload_n 0, 1) := by decide +kernel
theorem dX9_image_72 : decode cX9_image 72 = .ok (.getfield 117, 3) := by decide +kernel
theorem dX9_image_75 : decode cX9_image 75 = .ok (.aload_n 0, 1) := by decide +kernel
theorem dX9_image_76 : decode cX9_image 76 = .ok (.getfield 129, 3) := by decide +kernel
theorem dX9_image_79 : decode cX9_image 79 = .ok (.invokevirtual 336, 3) := by decide +kernel
theorem dX9_image_82 : decode cX9_image 82 = .ok (.return_, 1) := by decide +kernel
def f_Mo_image_60  (σ : xS) : Option (Unit × xS) :=
  let σ1 := x_pI σ 60 0 (0 : Int32)
  let σ2 := x_pI σ1 60 78 (1 : Int32)
  let σ3 := x_pI σ2 60 79 (σ2.1 60 56)
  let σ4 := x_pI σ3 60 80 (σ3.1 60 74)
  let σ5 := x_pI σ4 60 81 (σ4.1 60 76)
  (f_Mo_copies_60_79_92  σ5).bind fun q6 =>
  (f_Mo_copies_60_81_93  q6.2).bind fun q7 =>
  (f_Mo_copies_60_90_94  q7.2).bind fun q8 =>
  (f_Mo_copies_60_91_95  q8.2).bind fun q9 =>
  some ((), q9.2)
set_option maxHeartbeats 4000000 in
set_option maxRecDepth 100000 in
theorem c_Mo_image_60 {l : Launch} {s0 : State} {a0 : Array Value} {D : va_G} {cA : Nat → ClassId} {sp : Nat → Nat} (E : x_En CL l s0 a0 D cA sp)  {σ : xS} {r : Unit} {σ1 : xS} (h : f_Mo_image_60  σ = some (r, σ1)) : zC l s0 D cA sp 1 M_Mo_image [.ref 60] σ none σ1 := by
  unfold f_Mo_image_60 at h
  try dsimp only at h
  refine x_enter [some (.ref 60)] rfl (Nat.le_of_ble_eq_true rfl) (by decide +kernel) rfl ?_
  refine x_aload_n 1 rfl 0 dX9_image_0 rfl rfl ?_
  refine x_iconst 2 rfl (v := 0) dX9_image_1 (by decide) ?_
  refine x_putI E dX9_image_2 F_RX9_132 sh_60 5 rfl ?_
  refine x_aload_n 6 rfl 0 dX9_image_5 rfl rfl ?_
  refine x_iconst 7 rfl (v := 1) dX9_image_6 (by decide) ?_
  refine x_putZ E (Or.inr rfl) dX9_image_7 F_RX9_349 sh_60 10 rfl ?_
  refine x_aload_n 11 rfl 0 dX9_image_10 rfl rfl ?_
  refine x_aload_n 12 rfl 0 dX9_image_11 rfl rfl ?_
  refine x_getI E dX9_image_12 F_RX9_340 sh_60 15 rfl ?_
  refine x_putI E dX9_image_15 F_RX9_485 sh_60 18 rfl ?_
  refine x_aload_n 19 rfl 0 dX9_image_18 rfl rfl ?_
  refine x_aload_n 20 rfl 0 dX9_image_19 rfl rfl ?_
  refine x_getI E dX9_image_20 F_RX9_343 sh_60 23 rfl ?_
  refine x_putI E dX9_image_23 F_RX9_488 sh_60 26 rfl ?_
  refine x_aload_n 27 rfl 0 dX9_image_26 rfl rfl ?_
  refine x_aload_n 28 rfl 0 dX9_image_27 rfl rfl ?_
  refine x_getI E dX9_image_28 F_RX9_346 sh_60 31 rfl ?_
  refine x_putI E dX9_image_31 F_RX9_491 sh_60 34 rfl ?_
  refine x_aload_n 35 rfl 0 dX9_image_34 rfl rfl ?_
  refine x_aload_n 36 rfl 0 dX9_image_35 rfl rfl ?_
  refine x_getR E dX9_image_36 F_RX9_78 sh_60 rf_60_53 39 rfl ?_
  refine x_aload_n 40 rfl 0 dX9_image_39 rfl rfl ?_
  refine x_getR E dX9_image_40 F_RX9_120 sh_60 rf_60_82 43 rfl ?_
  obtain ⟨⟨q6r, q6s⟩, q6h, h⟩ := x_bind h
  try dsimp only at h
  refine z_callV E [.ref 79, .ref 92] [] dX9_image_43 K_RX9_336 ⟨Nat.le_of_ble_eq_true rfl, Nat.le_of_ble_eq_true rfl⟩ sh_60 (by decide) rfl (c_Mo_copies_60_79_92 E  q6h) rfl rfl (Nat.le_of_ble_eq_true rfl) 46 rfl [] rfl ?_
  refine x_aload_n 47 rfl 0 dX9_image_46 rfl rfl ?_
  refine x_aload_n 48 rfl 0 dX9_image_47 rfl rfl ?_
  refine x_getR E dX9_image_48 F_RX9_84 sh_60 rf_60_55 51 rfl ?_
  refine x_aload_n 52 rfl 0 dX9_image_51 rfl rfl ?_
  refine x_getR E dX9_image_52 F_RX9_123 sh_60 rf_60_83 55 rfl ?_
  obtain ⟨⟨q7r, q7s⟩, q7h, h⟩ := x_bind h
  try dsimp only at h
  refine z_callV E [.ref 81, .ref 93] [] dX9_image_55 K_RX9_336 ⟨Nat.le_of_ble_eq_true rfl, Nat.le_of_ble_eq_true rfl⟩ sh_60 (by decide) rfl (c_Mo_copies_60_81_93 E  q7h) rfl rfl (Nat.le_of_ble_eq_true rfl) 58 rfl [] rfl ?_
  refine x_aload_n 59 rfl 0 dX9_image_58 rfl rfl ?_
  refine x_aload_n 60 rfl 0 dX9_image_59 rfl rfl ?_
  refine x_getR E dX9_image_60 F_RX9_114 sh_60 rf_60_75 63 rfl ?_
  refine x_aload_n 64 rfl 0 dX9_image_63 rfl rfl ?_
  refine x_getR E dX9_image_64 F_RX9_126 sh_60 rf_60_84 67 rfl ?_
  obtain ⟨⟨q8r, q8s⟩, q8h, h⟩ := x_bind h
  try dsimp only at h
  refine z_callV E [.ref 90, .ref 94] [] dX9_image_67 K_RX9_336 ⟨Nat.le_of_ble_eq_true rfl, Nat.le_of_ble_eq_true rfl⟩ sh_60 (by decide) rfl (c_Mo_copies_60_90_94 E  q8h) rfl rfl (Nat.le_of_ble_eq_true rfl) 70 rfl [] rfl ?_
  refine x_aload_n 71 rfl 0 dX9_image_70 rfl rfl ?_
  refine x_aload_n 72 rfl 0 dX9_image_71 rfl rfl ?_
  refine x_getR E dX9_image_72 F_RX9_117 sh_60 rf_60_77 75 rfl ?_
  refine x_aload_n 76 rfl 0 dX9_image_75 rfl rfl ?_
  refine x_getR E dX9_image_76 F_RX9_129 sh_60 rf_60_85 79 rfl ?_
  obtain ⟨⟨q9r, q9s⟩, q9h, h⟩ := x_bind h
  try dsimp only at h
  refine z_callV E [.ref 91, .ref 95] [] dX9_image_79 K_RX9_336 ⟨Nat.le_of_ble_eq_true rfl, Nat.le_of_ble_eq_true rfl⟩ sh_60 (by decide) rfl (c_Mo_copies_60_91_95 E  q9h) rfl rfl (Nat.le_of_ble_eq_true rfl) 82 rfl [] rfl ?_
  cases h
  exact x_vret dX9_image_82 rfl rfl rfl
def f_Mo_copies_60_92_79_L2  (a : Int32 × xS) : Option ((Int32 × xS) ⊕ (Int32 × xS)) :=
  let v3 := a.1; let σ := a.2;
  if (Int32.ofNat 12) ≤ v3 then
    some (.inl (v3, σ))
  else
    if v3 < 0 ∨ 12 ≤ v3.toNatClampNeg then none else
    if v3 < 0 ∨ 12 ≤ v3.toNatClampNeg then none else
    let σ1 := x_pI σ 79 v3.toNatClampNeg (σ.1 92 v3.toNatClampNeg)
    let w2 := v3 + (1 : Int32)
    some (.inr (w2, σ1))
def f_Mo_copies_60_92_79  (σ : xS) : Option (Unit × xS) :=
  (x_it (f_Mo_copies_60_92_79_L2 ) 10000 ((0 : Int32), σ)).bind fun b3 =>
  some ((), b3.2)
set_option maxHeartbeats 4000000 in
set_option maxRecDepth 100000 in
theorem b_Mo_copies_60_92_79_L2 {l : Launch} {s0 : State} {a0 : Array Value} {D : va_G} {cA : Nat → ClassId} {sp : Nat → Nat} (E : x_En CL l s0 a0 D cA sp)  {r : Unit} {σ1 : xS} (a : Int32 × xS) (o : (Int32 × xS) ⊕ (Int32 × xS)) (h : f_Mo_copies_60_92_79_L2  a = some o) (hK : ∀ b, o = .inl b → zW l s0 D cA sp (zQ s0 D cA sp none σ1) (x_rm 0 0 0) M_Mo_copies 0 0 20 [none, none, none, none] [] b.2) (hG : ∀ a', o = .inr a' → zW l s0 D cA sp (zQ s0 D cA sp none σ1) (x_rm 0 0 0) M_Mo_copies 0 0 2 [none, some (.ref 92), some (.ref 79), some (.int a'.1)] [] a'.2) : zW l s0 D cA sp (zQ s0 D cA sp none σ1) (x_rm 0 0 0) M_Mo_copies 0 0 2 [none, some (.ref 92), some (.ref 79), some (.int a.1)] [] a.2 := by
  obtain ⟨v3, σ⟩ := a
  unfold f_Mo_copies_60_92_79_L2 at h
  try dsimp only at h ⊢
  refine x_iload_n 3 rfl 3 dX9_copies_2 rfl rfl ?_
  refine x_aload_n 4 rfl 1 dX9_copies_3 rfl rfl ?_
  refine x_alen E dX9_copies_4 sh_92 5 rfl ?_
  refine x_icmp_ge 8 rfl 20 dX9_copies_5 (by decide) (fun hc => ?_) (fun hc => ?_)
  · replace h := x_ifT hc h
    cases h
    exact x_wk (x_le_n (x_le_n (x_le_n (x_le_n x_le_0)))) (hK (_, _) rfl)
  · replace h := x_ifF hc h
    refine x_aload_n 9 rfl 2 dX9_copies_8 rfl rfl ?_
    refine x_iload_n 10 rfl 3 dX9_copies_9 rfl rfl ?_
    refine x_aload_n 11 rfl 1 dX9_copies_10 rfl rfl ?_
    refine x_iload_n 12 rfl 3 dX9_copies_11 rfl rfl ?_
    obtain ⟨hz, h⟩ := x_ifn h
    refine x_iald E dX9_copies_12 sh_92 _ rfl hz 13 rfl ?_
    obtain ⟨hz, h⟩ := x_ifn h
    refine x_iast E dX9_copies_13 sh_79 _ rfl hz 14 rfl ?_
    refine x_iinc 17 rfl (1) dX9_copies_14 rfl (by decide) (by decide) [none, some (.ref 92), some (.ref 79), some (.int _)] rfl ?_
    refine x_goto 2 dX9_copies_17 (by decide) ?_
    cases h
    exact x_wk (x_le_n (x_le_s (x_le_s (x_le_s x_le_0)))) (hG (_, _) rfl)
set_option maxHeartbeats 4000000 in
set_option maxRecDepth 100000 in
theorem c_Mo_copies_60_92_79 {l : Launch} {s0 : State} {a0 : Array Value} {D : va_G} {cA : Nat → ClassId} {sp : Nat → Nat} (E : x_En CL l s0 a0 D cA sp)  {σ : xS} {r : Unit} {σ1 : xS} (h : f_Mo_copies_60_92_79  σ = some (r, σ1)) : zC l s0 D cA sp 0 M_Mo_copies [.ref 60, .ref 92, .ref 79] σ none σ1 := by
  unfold f_Mo_copies_60_92_79 at h
  try dsimp only at h
  refine x_enter [some (.ref 60), some (.ref 92), some (.ref 79), none] rfl (Nat.le_of_ble_eq_true rfl) (by decide +kernel) rfl ?_
  refine x_iconst 1 rfl (v := 0) dX9_copies_0 (by decide) ?_
  refine x_istore_n 2 rfl 3 dX9_copies_1 rfl (by decide) [some (.ref 60), some (.ref 92), some (.ref 79), some (.int _)] rfl ?_
  obtain ⟨b3, b3h, h⟩ := x_bind h
  try dsimp only at h
  refine x_wk (x_le_n (x_le_s (x_le_s (x_le_s x_le_0)))) (x_loop (fun a o h hK hG => b_Mo_copies_60_92_79_L2 (r := r) (σ1 := σ1) E  a o h hK hG) _ _ _ b3h ?_)
  cases h
  exact x_vret dX9_copies_20 rfl rfl rfl
def f_Mo_copies_60_93_81_L2  (a : Int32 × xS) : Option ((Int32 × xS) ⊕ (Int32 × xS)) :=
  let v3 := a.1; let σ := a.2;
  if (Int32.ofNat 80) ≤ v3 then
    some (.inl (v3, σ))
  else
    if v3 < 0 ∨ 80 ≤ v3.toNatClampNeg then none else
    if v3 < 0 ∨ 80 ≤ v3.toNatClampNeg then none else
    let σ1 := x_pI σ 81 v3.toNatClampNeg (σ.1 93 v3.toNatClampNeg)
    let w2 := v3 + (1 : Int32)
    some (.inr (w2, σ1))
def f_Mo_copies_60_93_81  (σ : xS) : Option (Unit × xS) :=
  (x_it (f_Mo_copies_60_93_81_L2 ) 10000 ((0 : Int32), σ)).bind fun b3 =>
  some ((), b3.2)
set_option maxHeartbeats 4000000 in
set_option maxRecDepth 100000 in
theorem b_Mo_copies_60_93_81_L2 {l : Launch} {s0 : State} {a0 : Array Value} {D : va_G} {cA : Nat → ClassId} {sp : Nat → Nat} (E : x_En CL l s0 a0 D cA sp)  {r : Unit} {σ1 : xS} (a : Int32 × xS) (o : (Int32 × xS) ⊕ (Int32 × xS)) (h : f_Mo_copies_60_93_81_L2  a = some o) (hK : ∀ b, o = .inl b → zW l s0 D cA sp (zQ s0 D cA sp none σ1) (x_rm 0 0 0) M_Mo_copies 0 0 20 [none, none, none, none] [] b.2) (hG : ∀ a', o = .inr a' → zW l s0 D cA sp (zQ s0 D cA sp none σ1) (x_rm 0 0 0) M_Mo_copies 0 0 2 [none, some (.ref 93), some (.ref 81), some (.int a'.1)] [] a'.2) : zW l s0 D cA sp (zQ s0 D cA sp none σ1) (x_rm 0 0 0) M_Mo_copies 0 0 2 [none, some (.ref 93), some (.ref 81), some (.int a.1)] [] a.2 := by
  obtain ⟨v3, σ⟩ := a
  unfold f_Mo_copies_60_93_81_L2 at h
  try dsimp only at h ⊢
  refine x_iload_n 3 rfl 3 dX9_copies_2 rfl rfl ?_
  refine x_aload_n 4 rfl 1 dX9_copies_3 rfl rfl ?_
  refine x_alen E dX9_copies_4 sh_93 5 rfl ?_
  refine x_icmp_ge 8 rfl 20 dX9_copies_5 (by decide) (fun hc => ?_) (fun hc => ?_)
  · replace h := x_ifT hc h
    cases h
    exact x_wk (x_le_n (x_le_n (x_le_n (x_le_n x_le_0)))) (hK (_, _) rfl)
  · replace h := x_ifF hc h
    refine x_aload_n 9 rfl 2 dX9_copies_8 rfl rfl ?_
    refine x_iload_n 10 rfl 3 dX9_copies_9 rfl rfl ?_
    refine x_aload_n 11 rfl 1 dX9_copies_10 rfl rfl ?_
    refine x_iload_n 12 rfl 3 dX9_copies_11 rfl rfl ?_
    obtain ⟨hz, h⟩ := x_ifn h
    refine x_iald E dX9_copies_12 sh_93 _ rfl hz 13 rfl ?_
    obtain ⟨hz, h⟩ := x_ifn h
    refine x_iast E dX9_copies_13 sh_81 _ rfl hz 14 rfl ?_
    refine x_iinc 17 rfl (1) dX9_copies_14 rfl (by decide) (by decide) [none, some (.ref 93), some (.ref 81), some (.int _)] rfl ?_
    refine x_goto 2 dX9_copies_17 (by decide) ?_
    cases h
    exact x_wk (x_le_n (x_le_s (x_le_s (x_le_s x_le_0)))) (hG (_, _) rfl)
set_option maxHeartbeats 4000000 in
set_option maxRecDepth 100000 in
theorem c_Mo_copies_60_93_81 {l : Launch} {s0 : State} {a0 : Array Value} {D : va_G} {cA : Nat → ClassId} {sp : Nat → Nat} (E : x_En CL l s0 a0 D cA sp)  {σ : xS} {r : Unit} {σ1 : xS} (h : f_Mo_copies_60_93_81  σ = some (r, σ1)) : zC l s0 D cA sp 0 M_Mo_copies [.ref 60, .ref 93, .ref 81] σ none σ1 := by
  unfold f_Mo_copies_60_93_81 at h
  try dsimp only at h
  refine x_enter [some (.ref 60), some (.ref 93), some (.ref 81), none] rfl (Nat.le_of_ble_eq_true rfl) (by decide +kernel) rfl ?_
  refine x_iconst 1 rfl (v := 0) dX9_copies_0 (by decide) ?_
  refine x_istore_n 2 rfl 3 dX9_copies_1 rfl (by decide) [some (.ref 60), some (.ref 93), some (.ref 81), some (.int _)] rfl ?_
  obtain ⟨b3, b3h, h⟩ := x_bind h
  try dsimp only at h
  refine x_wk (x_le_n (x_le_s (x_le_s (x_le_s x_le_0)))) (x_loop (fun a o h hK hG => b_Mo_copies_60_93_81_L2 (r := r) (σ1 := σ1) E  a o h hK hG) _ _ _ b3h ?_)
  cases h
  exact x_vret dX9_copies_20 rfl rfl rfl
def f_Mo_copies_60_94_90_L2  (a : Int32 × xS) : Option ((Int32 × xS) ⊕ (Int32 × xS)) :=
  let v3 := a.1; let σ := a.2;
  if (Int32.ofNat 16) ≤ v3 then
    some (.inl (v3, σ))
  else
    if v3 < 0 ∨ 16 ≤ v3.toNatClampNeg then none else
    if v3 < 0 ∨ 16 ≤ v3.toNatClampNeg then none else
    let σ1 := x_pI σ 90 v3.toNatClampNeg (σ.1 94 v3.toNatClampNeg)
    let w2 := v3 + (1 : Int32)
    some (.inr (w2, σ1))
def f_Mo_copies_60_94_90  (σ : xS) : Option (Unit × xS) :=
  (x_it (f_Mo_copies_60_94_90_L2 ) 10000 ((0 : Int32), σ)).bind fun b3 =>
  some ((), b3.2)
set_option maxHeartbeats 4000000 in
set_option maxRecDepth 100000 in
theorem b_Mo_copies_60_94_90_L2 {l : Launch} {s0 : State} {a0 : Array Value} {D : va_G} {cA : Nat → ClassId} {sp : Nat → Nat} (E : x_En CL l s0 a0 D cA sp)  {r : Unit} {σ1 : xS} (a : Int32 × xS) (o : (Int32 × xS) ⊕ (Int32 × xS)) (h : f_Mo_copies_60_94_90_L2  a = some o) (hK : ∀ b, o = .inl b → zW l s0 D cA sp (zQ s0 D cA sp none σ1) (x_rm 0 0 0) M_Mo_copies 0 0 20 [none, none, none, none] [] b.2) (hG : ∀ a', o = .inr a' → zW l s0 D cA sp (zQ s0 D cA sp none σ1) (x_rm 0 0 0) M_Mo_copies 0 0 2 [none, some (.ref 94), some (.ref 90), some (.int a'.1)] [] a'.2) : zW l s0 D cA sp (zQ s0 D cA sp none σ1) (x_rm 0 0 0) M_Mo_copies 0 0 2 [none, some (.ref 94), some (.ref 90), some (.int a.1)] [] a.2 := by
  obtain ⟨v3, σ⟩ := a
  unfold f_Mo_copies_60_94_90_L2 at h
  try dsimp only at h ⊢
  refine x_iload_n 3 rfl 3 dX9_copies_2 rfl rfl ?_
  refine x_aload_n 4 rfl 1 dX9_copies_3 rfl rfl ?_
  refine x_alen E dX9_copies_4 sh_94 5 rfl ?_
  refine x_icmp_ge 8 rfl 20 dX9_copies_5 (by decide) (fun hc => ?_) (fun hc => ?_)
  · replace h := x_ifT hc h
    cases h
    exact x_wk (x_le_n (x_le_n (x_le_n (x_le_n x_le_0)))) (hK (_, _) rfl)
  · replace h := x_ifF hc h
    refine x_aload_n 9 rfl 2 dX9_copies_8 rfl rfl ?_
    refine x_iload_n 10 rfl 3 dX9_copies_9 rfl rfl ?_
    refine x_aload_n 11 rfl 1 dX9_copies_10 rfl rfl ?_
    refine x_iload_n 12 rfl 3 dX9_copies_11 rfl rfl ?_
    obtain ⟨hz, h⟩ := x_ifn h
    refine x_iald E dX9_copies_12 sh_94 _ rfl hz 13 rfl ?_
    obtain ⟨hz, h⟩ := x_ifn h
    refine x_iast E dX9_copies_13 sh_90 _ rfl hz 14 rfl ?_
    refine x_iinc 17 rfl (1) dX9_copies_14 rfl (by decide) (by decide) [none, some (.ref 94), some (.ref 90), some (.int _)] rfl ?_
    refine x_goto 2 dX9_copies_17 (by decide) ?_
    cases h
    exact x_wk (x_le_n (x_le_s (x_le_s (x_le_s x_le_0)))) (hG (_, _) rfl)
set_option maxHeartbeats 4000000 in
set_option maxRecDepth 100000 in
theorem c_Mo_copies_60_94_90 {l : Launch} {s0 : State} {a0 : Array Value} {D : va_G} {cA : Nat → ClassId} {sp : Nat → Nat} (E : x_En CL l s0 a0 D cA sp)  {σ : xS} {r : Unit} {σ1 : xS} (h : f_Mo_copies_60_94_90  σ = some (r, σ1)) : zC l s0 D cA sp 0 M_Mo_copies [.ref 60, .ref 94, .ref 90] σ none σ1 := by
  unfold f_Mo_copies_60_94_90 at h
  try dsimp only at h
  refine x_enter [some (.ref 60), some (.ref 94), some (.ref 90), none] rfl (Nat.le_of_ble_eq_true rfl) (by decide +kernel) rfl ?_
  refine x_iconst 1 rfl (v := 0) dX9_copies_0 (by decide) ?_
  refine x_istore_n 2 rfl 3 dX9_copies_1 rfl (by decide) [some (.ref 60), some (.ref 94), some (.ref 90), some (.int _)] rfl ?_
  obtain ⟨b3, b3h, h⟩ := x_bind h
  try dsimp only at h
  refine x_wk (x_le_n (x_le_s (x_le_s (x_le_s x_le_0)))) (x_loop (fun a o h hK hG => b_Mo_copies_60_94_90_L2 (r := r) (σ1 := σ1) E  a o h hK hG) _ _ _ b3h ?_)
  cases h
  exact x_vret dX9_copies_20 rfl rfl rfl
def f_Mo_copies_60_95_91_L2  (a : Int32 × xS) : Option ((Int32 × xS) ⊕ (Int32 × xS)) :=
  let v3 := a.1; let σ := a.2;
  if (Int32.ofNat 16) ≤ v3 then
    some (.inl (v3, σ))
  else
    if v3 < 0 ∨ 16 ≤ v3.toNatClampNeg then none else
    if v3 < 0 ∨ 16 ≤ v3.toNatClampNeg then none else
    let σ1 := x_pI σ 91 v3.toNatClampNeg (σ.1 95 v3.toNatClampNeg)
    let w2 := v3 + (1 : Int32)
    some (.inr (w2, σ1))
def f_Mo_copies_60_95_91  (σ : xS) : Option (Unit × xS) :=
  (x_it (f_Mo_copies_60_95_91_L2 ) 10000 ((0 : Int32), σ)).bind fun b3 =>
  some ((), b3.2)
set_option maxHeartbeats 4000000 in
set_option maxRecDepth 100000 in
theorem b_Mo_copies_60_95_91_L2 {l : Launch} {s0 : State} {a0 : Array Value} {D : va_G} {cA : Nat → ClassId} {sp : Nat → Nat} (E : x_En CL l s0 a0 D cA sp)  {r : Unit} {σ1 : xS} (a : Int32 × xS) (o : (Int32 × xS) ⊕ (Int32 × xS)) (h : f_Mo_copies_60_95_91_L2  a = some o) (hK : ∀ b, o = .inl b → zW l s0 D cA sp (zQ s0 D cA sp none σ1) (x_rm 0 0 0) M_Mo_copies 0 0 20 [none, none, none, none] [] b.2) (hG : ∀ a', o = .inr a' → zW l s0 D cA sp (zQ s0 D cA sp none σ1) (x_rm 0 0 0) M_Mo_copies 0 0 2 [none, some (.ref 95), some (.ref 91), some (.int a'.1)] [] a'.2) : zW l s0 D cA sp (zQ s0 D cA sp none σ1) (x_rm 0 0 0) M_Mo_copies 0 0 2 [none, some (.ref 95), some (.ref 91), some (.int a.1)] [] a.2 := by
  obtain ⟨v3, σ⟩ := a
  unfold f_Mo_copies_60_95_91_L2 at h
  try dsimp only at h ⊢
  refine x_iload_n 3 rfl 3 dX9_copies_2 rfl rfl ?_
  refine x_aload_n 4 rfl 1 dX9_copies_3 rfl rfl ?_
  refine x_alen E dX9_copies_4 sh_95 5 rfl ?_
  refine x_icmp_ge 8 rfl 20 dX9_copies_5 (by decide) (fun hc => ?_) (fun hc => ?_)
  · replace h := x_ifT hc h
    cases h
    exact x_wk (x_le_n (x_le_n (x_le_n (x_le_n x_le_0)))) (hK (_, _) rfl)
  · replace h := x_ifF hc h
    refine x_aload_n 9 rfl 2 dX9_copies_8 rfl rfl ?_
    refine x_iload_n 10 rfl 3 dX9_copies_9 rfl rfl ?_
    refine x_aload_n 11 rfl 1 dX9_copies_10 rfl rfl ?_
    refine x_iload_n 12 rfl 3 dX9_copies_11 rfl rfl ?_
    obtain ⟨hz, h⟩ := x_ifn h
    refine x_iald E dX9_copies_12 sh_95 _ rfl hz 13 rfl ?_
    obtain ⟨hz, h⟩ := x_ifn h
    refine x_iast E dX9_copies_13 sh_91 _ rfl hz 14 rfl ?_
    refine x_iinc 17 rfl (1) dX9_copies_14 rfl (by decide) (by decide) [none, some (.ref 95), some (.ref 91), some (.int _)] rfl ?_
    refine x_goto 2 dX9_copies_17 (by decide) ?_
    cases h
    exact x_wk (x_le_n (x_le_s (x_le_s (x_le_s x_le_0)))) (hG (_, _) rfl)
set_option maxHeartbeats 4000000 in
set_option maxRecDepth 100000 in
theorem c_Mo_copies_60_95_91 {l : Launch} {s0 : State} {a0 : Array Value} {D : va_G} {cA : Nat → ClassId} {sp : Nat → Nat} (E : x_En CL l s0 a0 D cA sp)  {σ : xS} {r : Unit} {σ1 : xS} (h : f_Mo_copies_60_95_91  σ = some (r, σ1)) : zC l s0 D cA sp 0 M_Mo_copies [.ref 60, .ref 95, .ref 91] σ none σ1 := by
  unfold f_Mo_copies_60_95_91 at h
  try dsimp only at h
  refine x_enter [some (.ref 60), some (.ref 95), some (.ref 91), none] rfl (Nat.le_of_ble_eq_true rfl) (by decide +kernel) rfl ?_
  refine x_iconst 1 rfl (v := 0) dX9_copies_0 (by decide) ?_
  refine x_istore_n 2 rfl 3 dX9_copies_1 rfl (by decide) [some (.ref 60), some (.ref 95), some (.ref 91), some (.int _)] rfl ?_
  obtain ⟨b3, b3h, h⟩ := x_bind h
  try dsimp only at h
  refine x_wk (x_le_n (x_le_s (x_le_s (x_le_s x_le_0)))) (x_loop (fun a o h hK hG => b_Mo_copies_60_95_91_L2 (r := r) (σ1 := σ1) E  a o h hK hG) _ _ _ b3h ?_)
  cases h
  exact x_vret dX9_copies_20 rfl rfl rfl
abbrev M_Mo_restore : xM := (yX9_restore, cX9_restore, 1, some .boolean, [])
theorem dX9_restore_0 : decode cX9_restore 0 = .ok (.aload_n 0, 1) := by decide +kernel
theorem dX9_restore_1 : decode cX9_restore 1 = .ok (.iconst 0, 1) := by decide +kernel
theorem dX9_restore_2 : decode cX9_restore 2 = .ok (.putfield 132, 3) := by decide +kernel
theorem dX9_restore_5 : decode cX9_restore 5 = .ok (.aload_n 0, 1) := by decide +kernel
theorem dX9_restore_6 : decode cX9_restore 6 = .ok (.getfield 349, 3) := by decide +kernel
theorem dX9_restore_9 : decode cX9_restore 9 = .ok (.ifCond .ne 5, 3) := by decide +kernel
theorem dX9_restore_12 : decode cX9_restore 12 = .ok (.iconst 0, 1) := by decide +kernel
theorem dX9_restore_13 : decode cX9_restore 13 = .ok (.ireturn, 1) := by decide +kernel
theorem dX9_restore_14 : decode cX9_restore 14 = .ok (.aload_n 0, 1) := by decide +kernel
theorem dX9_restore_15 : decode cX9_restore 15 = .ok (.aload_n 0, 1) := by decide +kernel
theorem dX9_restore_16 : decode cX9_restore 16 = .ok (.getfield 485, 3) := by decide +kernel
theorem dX9_restore_19 : decode cX9_restore 19 = .ok (.putfield 340, 3) := by decide +kernel
theorem dX9_restore_22 : decode cX9_restore 22 = .ok (.aload_n 0, 1) := by decide +kernel
theorem dX9_restore_23 : decode cX9_restore 23 = .ok (.aload_n 0, 1) := by decide +kernel
theorem dX9_restore_24 : decode cX9_restore 24 = .ok (.getfield 488, 3) := by decide +kernel
theorem dX9_restore_27 : decode cX9_restore 27 = .ok (.putfield 343, 3) := by decide +kernel
theorem dX9_restore_30 : decode cX9_restore 30 = .ok (.aload_n 0, 1) := by decide +kernel
theorem dX9_restore_31 : decode cX9_restore 31 = .ok (.aload_n 0, 1) := by decide +kernel
theorem dX9_restore_32 : decode cX9_restore 32 = .ok (.getfield 491, 3) := by decide +kernel
theorem dX9_restore_35 : decode cX9_restore 35 = .ok (.putfield 346, 3) := by decide +kernel
theorem dX9_restore_38 : decode cX9_restore 38 = .ok (.aload_n 0, 1) := by decide +kernel
theorem dX9_restore_39 : decode cX9_restore 39 = .ok (.aload_n 0, 1) := by decide +kernel
theorem dX9_restore_40 : decode cX9_restore 40 = .ok (.getfield 120, 3) := by decide +kernel
theorem dX9_restore_43 : decode cX9_restore 43 = .ok (.aload_n 0, 1) := by decide +kernel
theorem dX9_restore_44 : decode cX9_restore 44 = .ok (.getfield 78, 3) := by decide +kernel
theorem dX9_restore_47 : decode cX9_restore 47 = .ok (.invokevirtual 336, 3) := by decide +kernel
theorem dX9_restore_50 : decode cX9_restore 50 = .ok (.aload_n 0, 1) := by decide +kernel
theorem dX9_restore_51 : decode cX9_restore 51 = .ok (.aload_n 0, 1) := by decide +kernel
theorem dX9_restore_52 : decode cX9_restore 52 = .ok (.getfield 123, 3) := by decide +kernel
theorem dX9_restore_55 : decode cX9_restore 55 = .ok (.aload_n 0, 1) := by decide +kernel
theorem dX9_restore_56 : decode cX9_restore 56 = .ok (.getfield 84, 3) := by decide +kernel
theorem dX9_restore_59 : decode cX9_restore 59 = .ok (.invokevirtual 336, 3) := by decide +kernel
theorem dX9_restore_62 : decode cX9_restore 62 = .ok (.aload_n 0, 1) := by decide +kernel
theorem dX9_restore_63 : decode cX9_restore 63 = .ok (.aload_n 0, 1) := by decide +kernel
theorem dX9_restore_64 : decode cX9_restore 64 = .ok (.getfield 126, 3) := by decide +kernel
theorem dX9_restore_67 : decode cX9_restore 67 = .ok (.aload_n 0, 1) := by decide +kernel
theorem dX9_restore_68 : decode cX9_restore 68 = .ok (.getfield 114, 3) := by decide +kernel
theorem dX9_restore_71 : decode cX9_restore 71 = .ok (.invokevirtual 336, 3) := by decide +kernel
theorem dX9_restore_74 : decode cX9_restore 74 = .ok (.aload_n 0, 1) := by decide +kernel
theorem dX9_restore_75 : decode cX9_restore 75 = .ok (.aload_n 0, 1) := by decide +kernel
theorem dX9_restore_76 : decode cX9_restore 76 = .ok (.getfield 129, 3) := by decide +kernel
theorem dX9_restore_79 : decode cX9_restore 79 = .ok (.aload_n 0, 1) := by decide +kernel
theorem dX9_restore_80 : decode cX9_restore 80 = .ok (.getfield 117, 3) := by decide +kernel
theorem dX9_restore_83 : decode cX9_restore 83 = .ok (.invokevirtual 336, 3) := by decide +kernel
theorem dX9_restore_86 : decode cX9_restore 86 = .ok (.iconst 1, 1) := by decide +kernel
theorem dX9_restore_87 : decode cX9_restore 87 = .ok (.ireturn, 1) := by decide +kernel
def f_Mo_restore_60  (σ : xS) : Option (Int32 × xS) :=
  let σ1 := x_pI σ 60 0 (0 : Int32)
  if σ1.1 60 78 = 0 then
    some ((0 : Int32), σ1)
  else
    let σ2 := x_pI σ1 60 56 (σ1.1 60 79)
    let σ3 := x_pI σ2 60 74 (σ2.1 60 80)
    let σ4 := x_pI σ3 60 76 (σ3.1 60 81)
    (f_Mo_copies_60_92_79  σ4).bind fun q5 =>
    (f_Mo_copies_60_93_81  q5.2).bind fun q6 =>
    (f_Mo_copies_60_94_90  q6.2).bind fun q7 =>
    (f_Mo_copies_60_95_91  q7.2).bind fun q8 =>
    some ((1 : Int32), q8.2)
set_option maxHeartbeats 4000000 in
set_option maxRecDepth 100000 in
theorem c_Mo_restore_60 {l : Launch} {s0 : State} {a0 : Array Value} {D : va_G} {cA : Nat → ClassId} {sp : Nat → Nat} (E : x_En CL l s0 a0 D cA sp)  {σ : xS} {r : Int32} {σ1 : xS} (h : f_Mo_restore_60  σ = some (r, σ1)) : zC l s0 D cA sp 1 M_Mo_restore [.ref 60] σ (some (.int r)) σ1 := by
  unfold f_Mo_restore_60 at h
  try dsimp only at h
  refine x_enter [some (.ref 60)] rfl (Nat.le_of_ble_eq_true rfl) (by decide +kernel) rfl ?_
  refine x_aload_n 1 rfl 0 dX9_restore_0 rfl rfl ?_
  refine x_iconst 2 rfl (v := 0) dX9_restore_1 (by decide) ?_
  refine x_putI E dX9_restore_2 F_RX9_132 sh_60 5 rfl ?_
  refine x_aload_n 6 rfl 0 dX9_restore_5 rfl rfl ?_
  refine x_getI E dX9_restore_6 F_RX9_349 sh_60 9 rfl ?_
  refine x_if_ne 12 rfl 14 dX9_restore_9 (by decide) (fun hc => ?_) (fun hc => ?_)
  · replace h := x_ifF hc h
    refine x_aload_n 15 rfl 0 dX9_restore_14 rfl rfl ?_
    refine x_aload_n 16 rfl 0 dX9_restore_15 rfl rfl ?_
    refine x_getI E dX9_restore_16 F_RX9_485 sh_60 19 rfl ?_
    refine x_putI E dX9_restore_19 F_RX9_340 sh_60 22 rfl ?_
    refine x_aload_n 23 rfl 0 dX9_restore_22 rfl rfl ?_
    refine x_aload_n 24 rfl 0 dX9_restore_23 rfl rfl ?_
    refine x_getI E dX9_restore_24 F_RX9_488 sh_60 27 rfl ?_
    refine x_putI E dX9_restore_27 F_RX9_343 sh_60 30 rfl ?_
    refine x_aload_n 31 rfl 0 dX9_restore_30 rfl rfl ?_
    refine x_aload_n 32 rfl 0 dX9_restore_31 rfl rfl ?_
    refine x_getI E dX9_restore_32 F_RX9_491 sh_60 35 rfl ?_
    refine x_putI E dX9_restore_35 F_RX9_346 sh_60 38 rfl ?_
    refine x_aload_n 39 rfl 0 dX9_restore_38 rfl rfl ?_
    refine x_aload_n 40 rfl 0 dX9_restore_39 rfl rfl ?_
    refine x_getR E dX9_restore_40 F_RX9_120 sh_60 rf_60_82 43 rfl ?_
    refine x_aload_n 44 rfl 0 dX9_restore_43 rfl rfl ?_
    refine x_getR E dX9_restore_44 F_RX9_78 sh_60 rf_60_53 47 rfl ?_
    obtain ⟨⟨q5r, q5s⟩, q5h, h⟩ := x_bind h
    try dsimp only at h
    refine z_callV E [.ref 92, .ref 79] [] dX9_restore_47 K_RX9_336 ⟨Nat.le_of_ble_eq_true rfl, Nat.le_of_ble_eq_true rfl⟩ sh_60 (by decide) rfl (c_Mo_copies_60_92_79 E  q5h) rfl rfl (Nat.le_of_ble_eq_true rfl) 50 rfl [] rfl ?_
    refine x_aload_n 51 rfl 0 dX9_restore_50 rfl rfl ?_
    refine x_aload_n 52 rfl 0 dX9_restore_51 rfl rfl ?_
    refine x_getR E dX9_restore_52 F_RX9_123 sh_60 rf_60_83 55 rfl ?_
    refine x_aload_n 56 rfl 0 dX9_restore_55 rfl rfl ?_
    refine x_getR E dX9_restore_56 F_RX9_84 sh_60 rf_60_55 59 rfl ?_
    obtain ⟨⟨q6r, q6s⟩, q6h, h⟩ := x_bind h
    try dsimp only at h
    refine z_callV E [.ref 93, .ref 81] [] dX9_restore_59 K_RX9_336 ⟨Nat.le_of_ble_eq_true rfl, Nat.le_of_ble_eq_true rfl⟩ sh_60 (by decide) rfl (c_Mo_copies_60_93_81 E  q6h) rfl rfl (Nat.le_of_ble_eq_true rfl) 62 rfl [] rfl ?_
    refine x_aload_n 63 rfl 0 dX9_restore_62 rfl rfl ?_
    refine x_aload_n 64 rfl 0 dX9_restore_63 rfl rfl ?_
    refine x_getR E dX9_restore_64 F_RX9_126 sh_60 rf_60_84 67 rfl ?_
    refine x_aload_n 68 rfl 0 dX9_restore_67 rfl rfl ?_
    refine x_getR E dX9_restore_68 F_RX9_114 sh_60 rf_60_75 71 rfl ?_
    obtain ⟨⟨q7r, q7s⟩, q7h, h⟩ := x_bind h
    try dsimp only at h
    refine z_callV E [.ref 94, .ref 90] [] dX9_restore_71 K_RX9_336 ⟨Nat.le_of_ble_eq_true rfl, Nat.le_of_ble_eq_true rfl⟩ sh_60 (by decide) rfl (c_Mo_copies_60_94_90 E  q7h) rfl rfl (Nat.le_of_ble_eq_true rfl) 74 rfl [] rfl ?_
    refine x_aload_n 75 rfl 0 dX9_restore_74 rfl rfl ?_
    refine x_aload_n 76 rfl 0 dX9_restore_75 rfl rfl ?_
    refine x_getR E dX9_restore_76 F_RX9_129 sh_60 rf_60_85 79 rfl ?_
    refine x_aload_n 80 rfl 0 dX9_restore_79 rfl rfl ?_
    refine x_getR E dX9_restore_80 F_RX9_117 sh_60 rf_60_77 83 rfl ?_
    obtain ⟨⟨q8r, q8s⟩, q8h, h⟩ := x_bind h
    try dsimp only at h
    refine z_callV E [.ref 95, .ref 91] [] dX9_restore_83 K_RX9_336 ⟨Nat.le_of_ble_eq_true rfl, Nat.le_of_ble_eq_true rfl⟩ sh_60 (by decide) rfl (c_Mo_copies_60_95_91 E  q8h) rfl rfl (Nat.le_of_ble_eq_true rfl) 86 rfl [] rfl ?_
    refine x_iconst 87 rfl (v := 1) dX9_restore_86 (by decide) ?_
    cases h
    exact x_zret (Or.inr rfl) dX9_restore_87 rfl rfl rfl
  · replace h := x_ifT hc h
    refine x_iconst 13 rfl (v := 0) dX9_restore_12 (by decide) ?_
    cases h
    exact x_zret (Or.inl rfl) dX9_restore_13 rfl rfl rfl
