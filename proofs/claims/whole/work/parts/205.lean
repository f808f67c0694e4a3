/-! The class's methods: functions and contracts. Written by wip/gen/emit.py. -/
abbrev M_Ch_keepPicked : xM := (yX1_keepPicked, cX1_keepPicked, 3, none, [])
theorem dX1_keepPicked_0 : decode cX1_keepPicked 0 = .ok (.aload_n 0, 1) := by decide +kernel
theorem dX1_keepPicked_1 : decode cX1_keepPicked 1 = .ok (.iload_n 1, 1) := by decide +kernel
theorem dX1_keepPicked_2 : decode cX1_keepPicked 2 = .ok (.putfield 25, 3) := by decide +kernel
theorem dX1_keepPicked_5 : decode cX1_keepPicked 5 = .ok (.iconst 0, 1) := by decide +kernel
theorem dX1_keepPicked_6 : decode cX1_keepPicked 6 = .ok (.istore_n 2, 1) := by decide +kernel
theorem dX1_keepPicked_7 : decode cX1_keepPicked 7 = .ok (.iload_n 2, 1) := by decide +kernel
theorem dX1_keepPicked_8 : decode cX1_keepPicked 8 = .ok (.iload_n 1, 1) := by decide +kernel
theorem dX1_keepPicked_9 : decode cX1_keepPicked 9 = .ok (.if_icmp .ge 25, 3) := by decide +kernel
theorem dX1_keepPicked_12 : decode cX1_keepPicked 12 = .ok (.iload_n 2, 1) := by decide +kernel
theorem dX1_keepPicked_13 : decode cX1_keepPicked 13 = .ok (.iconst 3, 1) := by decide +kernel
theorem dX1_keepPicked_14 : decode cX1_keepPicked 14 = .ok (.if_icmp .ge 20, 3) := by decide +kernel
theorem dX1_keepPicked_17 : decode cX1_keepPicked 17 = .ok (.aload_n 0, 1) := by decide +kernel
theorem dX1_keepPicked_18 : decode cX1_keepPicked 18 = .ok (.getfield 22, 3) := by decide +kernel
theorem dX1_keepPicked_21 : decode cX1_keepPicked 21 = .ok (.iload_n 2, 1) := by decide +kernel
theorem dX1_keepPicked_22 : decode cX1_keepPicked 22 = .ok (.aload_n 0, 1) := by decide +kernel
theorem dX1_keepPicked_23 : decode cX1_keepPicked 23 = .ok (.iload_n 2, 1) := by decide +kernel
theorem dX1_keepPicked_24 : decode cX1_keepPicked 24 = .ok (.invokevirtual 57, 3) := by decide +kernel
theorem dX1_keepPicked_27 : decode cX1_keepPicked 27 = .ok (.iastore, 1) := by decide +kernel
theorem dX1_keepPicked_28 : decode cX1_keepPicked 28 = .ok (.iinc 2 1, 3) := by decide +kernel
theorem dX1_keepPicked_31 : decode cX1_keepPicked 31 = .ok (.goto (-24), 3) := by decide +kernel
theorem dX1_keepPicked_34 : decode cX1_keepPicked 34 = .ok (.return_, 1) := by decide +kernel
def f_Ch_keepPicked_55_L7 (v1 : Int32) (a : Int32 × xS) : Option ((Int32 × xS) ⊕ (Int32 × xS)) :=
  let v2 := a.1; let σ := a.2;
  if v1 ≤ v2 then
    some (.inl (v2, σ))
  else
    if (3 : Int32) ≤ v2 then
      some (.inl (v2, σ))
    else
      (f_Ch_pickedInches_55 v2 σ).bind fun q1 =>
      if v2 < 0 ∨ 3 ≤ v2.toNatClampNeg then none else
      let σ2 := x_pI q1.2 58 v2.toNatClampNeg q1.1
      let w3 := v2 + (1 : Int32)
      some (.inr (w3, σ2))
def f_Ch_keepPicked_55 (v1 : Int32) (σ : xS) : Option (Unit × xS) :=
  let σ4 := x_pI σ 55 4 v1
  (x_it (f_Ch_keepPicked_55_L7 v1) 10000 ((0 : Int32), σ4)).bind fun b5 =>
  some ((), b5.2)
set_option maxHeartbeats 4000000 in
set_option maxRecDepth 100000 in
theorem b_Ch_keepPicked_55_L7 {l : Launch} {s0 : State} {a0 : Array Value} {D : va_G} {cA : Nat → ClassId} {sp : Nat → Nat} (E : x_En CL l s0 a0 D cA sp) (v1 : Int32) {r : Unit} {σ1 : xS} (a : Int32 × xS) (o : (Int32 × xS) ⊕ (Int32 × xS)) (h : f_Ch_keepPicked_55_L7 v1 a = some o) (hK : ∀ b, o = .inl b → zW l s0 D cA sp (zQ s0 D cA sp none σ1) (x_rm 1 0 0) M_Ch_keepPicked 0 0 34 [none, none, none] [] b.2) (hG : ∀ a', o = .inr a' → zW l s0 D cA sp (zQ s0 D cA sp none σ1) (x_rm 1 0 0) M_Ch_keepPicked 0 0 7 [some (.ref 55), some (.int v1), some (.int a'.1)] [] a'.2) : zW l s0 D cA sp (zQ s0 D cA sp none σ1) (x_rm 1 0 0) M_Ch_keepPicked 0 0 7 [some (.ref 55), some (.int v1), some (.int a.1)] [] a.2 := by
  obtain ⟨v2, σ⟩ := a
  unfold f_Ch_keepPicked_55_L7 at h
  try dsimp only at h ⊢
  refine x_iload_n 8 rfl 2 dX1_keepPicked_7 rfl rfl ?_
  refine x_iload_n 9 rfl 1 dX1_keepPicked_8 rfl rfl ?_
  refine x_icmp_ge 12 rfl 34 dX1_keepPicked_9 (by decide) (fun hc => ?_) (fun hc => ?_)
  · replace h := x_ifT hc h
    cases h
    exact x_wk (x_le_n (x_le_n (x_le_n x_le_0))) (hK (_, _) rfl)
  · replace h := x_ifF hc h
    refine x_iload_n 13 rfl 2 dX1_keepPicked_12 rfl rfl ?_
    refine x_iconst 14 rfl (v := 3) dX1_keepPicked_13 (by decide) ?_
    refine x_icmp_ge 17 rfl 34 dX1_keepPicked_14 (by decide) (fun hc => ?_) (fun hc => ?_)
    · replace h := x_ifT hc h
      cases h
      exact x_wk (x_le_n (x_le_n (x_le_n x_le_0))) (hK (_, _) rfl)
    · replace h := x_ifF hc h
      refine x_aload_n 18 rfl 0 dX1_keepPicked_17 rfl rfl ?_
      refine x_getR E dX1_keepPicked_18 F_RX1_22 sh_55 rf_55_3 21 rfl ?_
      refine x_iload_n 22 rfl 2 dX1_keepPicked_21 rfl rfl ?_
      refine x_aload_n 23 rfl 0 dX1_keepPicked_22 rfl rfl ?_
      refine x_iload_n 24 rfl 2 dX1_keepPicked_23 rfl rfl ?_
      obtain ⟨⟨q1r, q1s⟩, q1h, h⟩ := x_bind h
      try dsimp only at h
      refine z_callV E [.int _] [.int _, .ref 58] dX1_keepPicked_24 K_RX1_57 ⟨Nat.le_of_ble_eq_true rfl, Nat.le_of_ble_eq_true rfl⟩ sh_55 (by decide) rfl (c_Ch_pickedInches_55 E _ q1h) rfl rfl (Nat.le_of_ble_eq_true rfl) 27 rfl [.int _, .int _, .ref 58] rfl ?_
      obtain ⟨hz, h⟩ := x_ifn h
      refine x_iast E dX1_keepPicked_27 sh_58 _ rfl hz 28 rfl ?_
      refine x_iinc 31 rfl (1) dX1_keepPicked_28 rfl (by decide) (by decide) [some (.ref 55), some (.int _), some (.int _)] rfl ?_
      refine x_goto 7 dX1_keepPicked_31 (by decide) ?_
      cases h
      exact x_wk (x_le_s (x_le_s (x_le_s x_le_0))) (hG (_, _) rfl)
set_option maxHeartbeats 4000000 in
set_option maxRecDepth 100000 in
theorem c_Ch_keepPicked_55 {l : Launch} {s0 : State} {a0 : Array Value} {D : va_G} {cA : Nat → ClassId} {sp : Nat → Nat} (E : x_En CL l s0 a0 D cA sp) (v1 : Int32) {σ : xS} {r : Unit} {σ1 : xS} (h : f_Ch_keepPicked_55 v1 σ = some (r, σ1)) : zC l s0 D cA sp 1 M_Ch_keepPicked [.ref 55, .int v1] σ none σ1 := by
  unfold f_Ch_keepPicked_55 at h
  try dsimp only at h
  refine x_enter [some (.ref 55), some (.int v1), none] rfl (Nat.le_of_ble_eq_true rfl) (by decide +kernel) rfl ?_
  refine x_aload_n 1 rfl 0 dX1_keepPicked_0 rfl rfl ?_
  refine x_iload_n 2 rfl 1 dX1_keepPicked_1 rfl rfl ?_
  refine x_putI E dX1_keepPicked_2 F_RX1_25 sh_55 5 rfl ?_
  refine x_iconst 6 rfl (v := 0) dX1_keepPicked_5 (by decide) ?_
  refine x_istore_n 7 rfl 2 dX1_keepPicked_6 rfl (by decide) [some (.ref 55), some (.int _), some (.int _)] rfl ?_
  obtain ⟨b5, b5h, h⟩ := x_bind h
  try dsimp only at h
  refine x_wk (x_le_s (x_le_s (x_le_s x_le_0))) (x_loop (fun a o h hK hG => b_Ch_keepPicked_55_L7 (r := r) (σ1 := σ1) E _ a o h hK hG) _ _ _ b5h ?_)
  cases h
  exact x_vret dX1_keepPicked_34 rfl rfl rfl
abbrev M_Ch_addPlace : xM := (yX1_addPlace, cX1_addPlace, 3, none, [])
theorem dX1_addPlace_0 : decode cX1_addPlace 0 = .ok (.iconst 0, 1) := by decide +kernel
theorem dX1_addPlace_1 : decode cX1_addPlace 1 = .ok (.istore_n 2, 1) := by decide +kernel
theorem dX1_addPlace_2 : decode cX1_addPlace 2 = .ok (.iload_n 2, 1) := by decide +kernel
theorem dX1_addPlace_3 : decode cX1_addPlace 3 = .ok (.aload_n 0, 1) := by decide +kernel
theorem dX1_addPlace_4 : decode cX1_addPlace 4 = .ok (.getfield 15, 3) := by decide +kernel
theorem dX1_addPlace_7 : decode cX1_addPlace 7 = .ok (.if_icmp .ge 29, 3) := by decide +kernel
theorem dX1_addPlace_10 : decode cX1_addPlace 10 = .ok (.iload_n 2, 1) := by decide +kernel
theorem dX1_addPlace_11 : decode cX1_addPlace 11 = .ok (.aload_n 0, 1) := by decide +kernel
theorem dX1_addPlace_12 : decode cX1_addPlace 12 = .ok (.getfield 9, 3) := by decide +kernel
theorem dX1_addPlace_15 : decode cX1_addPlace 15 = .ok (.arraylength, 1) := by decide +kernel
theorem dX1_addPlace_16 : decode cX1_addPlace 16 = .ok (.if_icmp .ge 20, 3) := by decide +kernel
theorem dX1_addPlace_19 : decode cX1_addPlace 19 = .ok (.aload_n 0, 1) := by decide +kernel
theorem dX1_addPlace_20 : decode cX1_addPlace 20 = .ok (.getfield 9, 3) := by decide +kernel
theorem dX1_addPlace_23 : decode cX1_addPlace 23 = .ok (.iload_n 2, 1) := by decide +kernel
theorem dX1_addPlace_24 : decode cX1_addPlace 24 = .ok (.iaload, 1) := by decide +kernel
theorem dX1_addPlace_25 : decode cX1_addPlace 25 = .ok (.iload_n 1, 1) := by decide +kernel
theorem dX1_addPlace_26 : decode cX1_addPlace 26 = .ok (.if_icmp .ne 4, 3) := by decide +kernel
theorem dX1_addPlace_29 : decode cX1_addPlace 29 = .ok (.return_, 1) := by decide +kernel
theorem dX1_addPlace_30 : decode cX1_addPlace 30 = .ok (.iinc 2 1, 3) := by decide +kernel
theorem dX1_addPlace_33 : decode cX1_addPlace 33 = .ok (.goto (-31), 3) := by decide +kernel
theorem dX1_addPlace_36 : decode cX1_addPlace 36 = .ok (.aload_n 0, 1) := by decide +kernel
theorem dX1_addPlace_37 : decode cX1_addPlace 37 = .ok (.getfield 15, 3) := by decide +kernel
theorem dX1_addPlace_40 : decode cX1_addPlace 40 = .ok (.aload_n 0, 1) := by decide +kernel
theorem dX1_addPlace_41 : decode cX1_addPlace 41 = .ok (.getfield 9, 3) := by decide +kernel
theorem dX1_addPlace_44 : decode cX1_addPlace 44 = .ok (.arraylength, 1) := by decide +kernel
theorem dX1_addPlace_45 : decode cX1_addPlace 45 = .ok (.if_icmp .ge 23, 3) := by decide +kernel
theorem dX1_addPlace_48 : decode cX1_addPlace 48 = .ok (.aload_n 0, 1) := by decide +kernel
theorem dX1_addPlace_49 : decode cX1_addPlace 49 = .ok (.getfield 9, 3) := by decide +kernel
theorem dX1_addPlace_52 : decode cX1_addPlace 52 = .ok (.aload_n 0, 1) := by decide +kernel
theorem dX1_addPlace_53 : decode cX1_addPlace 53 = .ok (.getfield 15, 3) := by decide +kernel
theorem dX1_addPlace_56 : decode cX1_addPlace 56 = .ok (.iload_n 1, 1) := by decide +kernel
theorem dX1_addPlace_57 : decode cX1_addPlace 57 = .ok (.iastore, 1) := by decide +kernel
theorem dX1_addPlace_58 : decode cX1_addPlace 58 = .ok (.aload_n 0, 1) := by decide +kernel
theorem dX1_addPlace_59 : decode cX1_addPlace 59 = .ok (.dup, 1) := by decide +kernel
theorem dX1_addPlace_60 : decode cX1_addPlace 60 = .ok (.getfield 15, 3) := by decide +kernel
theorem dX1_addPlace_63 : decode cX1_addPlace 63 = .ok (.iconst 1, 1) := by decide +kernel
theorem dX1_addPlace_64 : decode cX1_addPlace 64 = .ok (.iadd, 1) := by decide +kernel
theorem dX1_addPlace_65 : decode cX1_addPlace 65 = .ok (.putfield 15, 3) := by decide +kernel
theorem dX1_addPlace_68 : decode cX1_addPlace 68 = .ok (.return_, 1) := by decide +kernel
def f_Ch_addPlace_55_L2 (v1 : Int32) (a : Int32 × xS) : Option (((Unit × xS) ⊕ (Int32 × xS)) ⊕ (Int32 × xS)) :=
  let v2 := a.1; let σ := a.2;
  if σ.1 55 1 ≤ v2 then
    some (.inl (.inr (v2, σ)))
  else
    if (Int32.ofNat 13) ≤ v2 then
      some (.inl (.inr (v2, σ)))
    else
      if v2 < 0 ∨ 13 ≤ v2.toNatClampNeg then none else
      if σ.1 56 v2.toNatClampNeg = v1 then
        some (.inl (.inl ((), σ)))
      else
        let w1 := v2 + (1 : Int32)
        some (.inr (w1, σ))
def f_Ch_addPlace_55_J36 (v1 : Int32) (σ : xS) : Option (Unit × xS) :=
  if (Int32.ofNat 13) ≤ σ.1 55 1 then
    some ((), σ)
  else
    if σ.1 55 1 < 0 ∨ 13 ≤ (σ.1 55 1).toNatClampNeg then none else
    let σ2 := x_pI σ 56 (σ.1 55 1).toNatClampNeg v1
    let σ3 := x_pI σ2 55 1 (σ2.1 55 1 + (1 : Int32))
    some ((), σ3)
def f_Ch_addPlace_55 (v1 : Int32) (σ : xS) : Option (Unit × xS) :=
  (x_it (f_Ch_addPlace_55_L2 v1) 10000 ((0 : Int32), σ)).bind fun b4 =>
  match b4 with
  | .inl b4r => some b4r
  | .inr b4e =>
    f_Ch_addPlace_55_J36 v1 b4e.2
set_option maxHeartbeats 4000000 in
set_option maxRecDepth 100000 in
theorem b_Ch_addPlace_55_L2 {l : Launch} {s0 : State} {a0 : Array Value} {D : va_G} {cA : Nat → ClassId} {sp : Nat → Nat} (E : x_En CL l s0 a0 D cA sp) (v1 : Int32) {r : Unit} {σ1 : xS} (a : Int32 × xS) (o : ((Unit × xS) ⊕ (Int32 × xS)) ⊕ (Int32 × xS)) (h : f_Ch_addPlace_55_L2 v1 a = some o) (hK : ∀ b, o = .inl b → (∀ q, b = .inl q → q = (r, σ1)) ∧ ∀ e, b = .inr e → zW l s0 D cA sp (zQ s0 D cA sp none σ1) (x_rm 0 0 0) M_Ch_addPlace 0 0 36 [some (.ref 55), some (.int v1), none] [] e.2) (hG : ∀ a', o = .inr a' → zW l s0 D cA sp (zQ s0 D cA sp none σ1) (x_rm 0 0 0) M_Ch_addPlace 0 0 2 [some (.ref 55), some (.int v1), some (.int a'.1)] [] a'.2) : zW l s0 D cA sp (zQ s0 D cA sp none σ1) (x_rm 0 0 0) M_Ch_addPlace 0 0 2 [some (.ref 55), some (.int v1), some (.int a.1)] [] a.2 := by
  obtain ⟨v2, σ⟩ := a
  unfold f_Ch_addPlace_55_L2 at h
  try dsimp only at h ⊢
  refine x_iload_n 3 rfl 2 dX1_addPlace_2 rfl rfl ?_
  refine x_aload_n 4 rfl 0 dX1_addPlace_3 rfl rfl ?_
  refine x_getI E dX1_addPlace_4 F_RX1_15 sh_55 7 rfl ?_
  refine x_icmp_ge 10 rfl 36 dX1_addPlace_7 (by decide) (fun hc => ?_) (fun hc => ?_)
  · replace h := x_ifT hc h
    cases h
    exact x_wk (x_le_s (x_le_s (x_le_n x_le_0))) ((hK (.inr (_, _)) rfl).2 (_, _) rfl)
  · replace h := x_ifF hc h
    refine x_iload_n 11 rfl 2 dX1_addPlace_10 rfl rfl ?_
    refine x_aload_n 12 rfl 0 dX1_addPlace_11 rfl rfl ?_
    refine x_getR E dX1_addPlace_12 F_RX1_9 sh_55 rf_55_0 15 rfl ?_
    refine x_alen E dX1_addPlace_15 sh_56 16 rfl ?_
    refine x_icmp_ge 19 rfl 36 dX1_addPlace_16 (by decide) (fun hc => ?_) (fun hc => ?_)
    · replace h := x_ifT hc h
      cases h
      exact x_wk (x_le_s (x_le_s (x_le_n x_le_0))) ((hK (.inr (_, _)) rfl).2 (_, _) rfl)
    · replace h := x_ifF hc h
      refine x_aload_n 20 rfl 0 dX1_addPlace_19 rfl rfl ?_
      refine x_getR E dX1_addPlace_20 F_RX1_9 sh_55 rf_55_0 23 rfl ?_
      refine x_iload_n 24 rfl 2 dX1_addPlace_23 rfl rfl ?_
      obtain ⟨hz, h⟩ := x_ifn h
      refine x_iald E dX1_addPlace_24 sh_56 _ rfl hz 25 rfl ?_
      refine x_iload_n 26 rfl 1 dX1_addPlace_25 rfl rfl ?_
      refine x_icmp_ne 29 rfl 30 dX1_addPlace_26 (by decide) (fun hc => ?_) (fun hc => ?_)
      · replace h := x_ifF hc h
        refine x_iinc 33 rfl (1) dX1_addPlace_30 rfl (by decide) (by decide) [some (.ref 55), some (.int _), some (.int _)] rfl ?_
        refine x_goto 2 dX1_addPlace_33 (by decide) ?_
        cases h
        exact x_wk (x_le_s (x_le_s (x_le_s x_le_0))) (hG (_, _) rfl)
      · replace h := x_ifT hc h
        cases h
        cases (hK (.inl (_, _)) rfl).1 (_, _) rfl
        exact x_vret dX1_addPlace_29 rfl rfl rfl
set_option maxHeartbeats 4000000 in
set_option maxRecDepth 100000 in
theorem j_Ch_addPlace_55_J36 {l : Launch} {s0 : State} {a0 : Array Value} {D : va_G} {cA : Nat → ClassId} {sp : Nat → Nat} (E : x_En CL l s0 a0 D cA sp) (v1 : Int32) (σ : xS) {r : Unit} {σ1 : xS} (h : f_Ch_addPlace_55_J36 v1 σ = some (r, σ1)) : zW l s0 D cA sp (zQ s0 D cA sp none σ1) (x_rm 0 0 0) M_Ch_addPlace 0 0 36 [some (.ref 55), some (.int v1), none] [] σ := by
  unfold f_Ch_addPlace_55_J36 at h
  try dsimp only at h
  refine x_aload_n 37 rfl 0 dX1_addPlace_36 rfl rfl ?_
  refine x_getI E dX1_addPlace_37 F_RX1_15 sh_55 40 rfl ?_
  refine x_aload_n 41 rfl 0 dX1_addPlace_40 rfl rfl ?_
  refine x_getR E dX1_addPlace_41 F_RX1_9 sh_55 rf_55_0 44 rfl ?_
  refine x_alen E dX1_addPlace_44 sh_56 45 rfl ?_
  refine x_icmp_ge 48 rfl 68 dX1_addPlace_45 (by decide) (fun hc => ?_) (fun hc => ?_)
  · replace h := x_ifT hc h
    cases h
    exact x_vret dX1_addPlace_68 rfl rfl rfl
  · replace h := x_ifF hc h
    refine x_aload_n 49 rfl 0 dX1_addPlace_48 rfl rfl ?_
    refine x_getR E dX1_addPlace_49 F_RX1_9 sh_55 rf_55_0 52 rfl ?_
    refine x_aload_n 53 rfl 0 dX1_addPlace_52 rfl rfl ?_
    refine x_getI E dX1_addPlace_53 F_RX1_15 sh_55 56 rfl ?_
    refine x_iload_n 57 rfl 1 dX1_addPlace_56 rfl rfl ?_
    obtain ⟨hz, h⟩ := x_ifn h
    refine x_iast E dX1_addPlace_57 sh_56 _ rfl hz 58 rfl ?_
    refine x_aload_n 59 rfl 0 dX1_addPlace_58 rfl rfl ?_
    refine x_dup 60 rfl dX1_addPlace_59 rfl ?_
    refine x_getI E dX1_addPlace_60 F_RX1_15 sh_55 63 rfl ?_
    refine x_iconst 64 rfl (v := 1) dX1_addPlace_63 (by decide) ?_
    refine x_iadd 65 rfl dX1_addPlace_64 ?_
    refine x_putI E dX1_addPlace_65 F_RX1_15 sh_55 68 rfl ?_
    cases h
    exact x_vret dX1_addPlace_68 rfl rfl rfl
set_option maxHeartbeats 4000000 in
set_option maxRecDepth 100000 in
theorem c_Ch_addPlace_55 {l : Launch} {s0 : State} {a0 : Array Value} {D : va_G} {cA : Nat → ClassId} {sp : Nat → Nat} (E : x_En CL l s0 a0 D cA sp) (v1 : Int32) {σ : xS} {r : Unit} {σ1 : xS} (h : f_Ch_addPlace_55 v1 σ = some (r, σ1)) : zC l s0 D cA sp 0 M_Ch_addPlace [.ref 55, .int v1] σ none σ1 := by
  unfold f_Ch_addPlace_55 at h
  try dsimp only at h
  refine x_enter [some (.ref 55), some (.int v1), none] rfl (Nat.le_of_ble_eq_true rfl) (by decide +kernel) rfl ?_
  refine x_iconst 1 rfl (v := 0) dX1_addPlace_0 (by decide) ?_
  refine x_istore_n 2 rfl 2 dX1_addPlace_1 rfl (by decide) [some (.ref 55), some (.int _), some (.int _)] rfl ?_
  obtain ⟨b4, b4h, h⟩ := x_bind h
  try dsimp only at h
  refine x_wk (x_le_s (x_le_s (x_le_s x_le_0))) (x_loop (fun a o h hK hG => b_Ch_addPlace_55_L2 (r := r) (σ1 := σ1) E _ a o h hK hG) _ _ _ b4h ?_)
  cases b4 with
  | inl b4r =>
    try dsimp only at h
    cases h
    exact ⟨fun q e => (by cases e; rfl), fun e he => (by cases he)⟩
  | inr b4e =>
    try dsimp only at h
    refine ⟨fun q e => (by cases e), fun e he => ?_⟩
    cases he
    exact x_wk (x_le_s (x_le_s (x_le_n x_le_0))) (j_Ch_addPlace_55_J36 E _ _ h)
theorem K_RX1_33 : x_KV RX1 33 M_Ch_addPlace 1 := ⟨⟨(List.mem_append_right _ (List.mem_of_getElem? (i := 1036) (by decide +kernel))), (List.mem_append_right _ (List.mem_of_getElem? (i := 1039) (by decide +kernel))), (List.mem_append_right _ (List.mem_of_getElem? (i := 7) (by decide +kernel))), ⟨by decide +kernel, by decide +kernel⟩, by decide +kernel⟩, (List.mem_append_right _ (List.mem_of_getElem? (i := 1038) (by decide +kernel))), (List.mem_append_left _ (List.mem_of_getElem? (i := 44) (by decide +kernel)))⟩
abbrev M_Ch_findPlaces : xM := (yX1_findPlaces, cX1_findPlaces, 3, none, [])
theorem dX1_findPlaces_0 : decode cX1_findPlaces 0 = .ok (.aload_n 0, 1) := by decide +kernel
theorem dX1_findPlaces_1 : decode cX1_findPlaces 1 = .ok (.iconst 0, 1) := by decide +kernel
theorem dX1_findPlaces_2 : decode cX1_findPlaces 2 = .ok (.putfield 15, 3) := by decide +kernel
theorem dX1_findPlaces_5 : decode cX1_findPlaces 5 = .ok (.aload_n 0, 1) := by decide +kernel
theorem dX1_findPlaces_6 : decode cX1_findPlaces 6 = .ok (.aload_n 1, 1) := by decide +kernel
theorem dX1_findPlaces_7 : decode cX1_findPlaces 7 = .ok (.getfield 28, 3) := by decide +kernel
theorem dX1_findPlaces_10 : decode cX1_findPlaces 10 = .ok (.invokevirtual 33, 3) := by decide +kernel
theorem dX1_findPlaces_13 : decode cX1_findPlaces 13 = .ok (.iconst 0, 1) := by decide +kernel
theorem dX1_findPlaces_14 : decode cX1_findPlaces 14 = .ok (.istore_n 2, 1) := by decide +kernel
theorem dX1_findPlaces_15 : decode cX1_findPlaces 15 = .ok (.iload_n 2, 1) := by decide +kernel
theorem dX1_findPlaces_16 : decode cX1_findPlaces 16 = .ok (.aload_n 1, 1) := by decide +kernel
theorem dX1_findPlaces_17 : decode cX1_findPlaces 17 = .ok (.getfield 37, 3) := by decide +kernel
theorem dX1_findPlaces_20 : decode cX1_findPlaces 20 = .ok (.if_icmp .ge 25, 3) := by decide +kernel
theorem dX1_findPlaces_23 : decode cX1_findPlaces 23 = .ok (.iload_n 2, 1) := by decide +kernel
theorem dX1_findPlaces_24 : decode cX1_findPlaces 24 = .ok (.bipush 12, 2) := by decide +kernel
theorem dX1_findPlaces_26 : decode cX1_findPlaces 26 = .ok (.if_icmp .ge 19, 3) := by decide +kernel
theorem dX1_findPlaces_29 : decode cX1_findPlaces 29 = .ok (.aload_n 0, 1) := by decide +kernel
theorem dX1_findPlaces_30 : decode cX1_findPlaces 30 = .ok (.aload_n 1, 1) := by decide +kernel
theorem dX1_findPlaces_31 : decode cX1_findPlaces 31 = .ok (.getfield 40, 3) := by decide +kernel
theorem dX1_findPlaces_34 : decode cX1_findPlaces 34 = .ok (.iload_n 2, 1) := by decide +kernel
theorem dX1_findPlaces_35 : decode cX1_findPlaces 35 = .ok (.iaload, 1) := by decide +kernel
theorem dX1_findPlaces_36 : decode cX1_findPlaces 36 = .ok (.invokevirtual 33, 3) := by decide +kernel
theorem dX1_findPlaces_39 : decode cX1_findPlaces 39 = .ok (.iinc 2 1, 3) := by decide +kernel
theorem dX1_findPlaces_42 : decode cX1_findPlaces 42 = .ok (.goto (-27), 3) := by decide +kernel
theorem dX1_findPlaces_45 : decode cX1_findPlaces 45 = .ok (.return_, 1) := by decide +kernel
def f_Ch_findPlaces_55_7_L15  (a : Int32 × xS) : Option ((Int32 × xS) ⊕ (Int32 × xS)) :=
  let v2 := a.1; let σ := a.2;
  if σ.1 7 1 ≤ v2 then
    some (.inl (v2, σ))
  else
    if (12 : Int32) ≤ v2 then
      some (.inl (v2, σ))
    else
      if v2 < 0 ∨ 12 ≤ v2.toNatClampNeg then none else
      (f_Ch_addPlace_55 (σ.1 8 v2.toNatClampNeg) σ).bind fun q1 =>
      let w2 := v2 + (1 : Int32)
      some (.inr (w2, q1.2))
def f_Ch_findPlaces_55_7  (σ : xS) : Option (Unit × xS) :=
  let σ3 := x_pI σ 55 1 (0 : Int32)
  (f_Ch_addPlace_55 (σ3.1 7 0) σ3).bind fun q4 =>
  (x_it (f_Ch_findPlaces_55_7_L15 ) 10000 ((0 : Int32), q4.2)).bind fun b5 =>
  some ((), b5.2)
set_option maxHeartbeats 4000000 in
set_option maxRecDepth 100000 in
theorem b_Ch_findPlaces_55_7_L15 {l : Launch} {s0 : State} {a0 : Array Value} {D : va_G} {cA : Nat → ClassId} {sp : Nat → Nat} (E : x_En CL l s0 a0 D cA sp)  {r : Unit} {σ1 : xS} (a : Int32 × xS) (o : (Int32 × xS) ⊕ (Int32 × xS)) (h : f_Ch_findPlaces_55_7_L15  a = some o) (hK : ∀ b, o = .inl b → zW l s0 D cA sp (zQ s0 D cA sp none σ1) (x_rm 1 0 0) M_Ch_findPlaces 0 0 45 [none, none, none] [] b.2) (hG : ∀ a', o = .inr a' → zW l s0 D cA sp (zQ s0 D cA sp none σ1) (x_rm 1 0 0) M_Ch_findPlaces 0 0 15 [some (.ref 55), some (.ref 7), some (.int a'.1)] [] a'.2) : zW l s0 D cA sp (zQ s0 D cA sp none σ1) (x_rm 1 0 0) M_Ch_findPlaces 0 0 15 [some (.ref 55), some (.ref 7), some (.int a.1)] [] a.2 := by
  obtain ⟨v2, σ⟩ := a
  unfold f_Ch_findPlaces_55_7_L15 at h
  try dsimp only at h ⊢
  refine x_iload_n 16 rfl 2 dX1_findPlaces_15 rfl rfl ?_
  refine x_aload_n 17 rfl 1 dX1_findPlaces_16 rfl rfl ?_
  refine x_getI E dX1_findPlaces_17 F_RX1_37 sh_7 20 rfl ?_
  refine x_icmp_ge 23 rfl 45 dX1_findPlaces_20 (by decide) (fun hc => ?_) (fun hc => ?_)
  · replace h := x_ifT hc h
    cases h
    exact x_wk (x_le_n (x_le_n (x_le_n x_le_0))) (hK (_, _) rfl)
  · replace h := x_ifF hc h
    refine x_iload_n 24 rfl 2 dX1_findPlaces_23 rfl rfl ?_
    refine x_bipush 26 rfl (v := 12) dX1_findPlaces_24 (by decide) ?_
    refine x_icmp_ge 29 rfl 45 dX1_findPlaces_26 (by decide) (fun hc => ?_) (fun hc => ?_)
    · replace h := x_ifT hc h
      cases h
      exact x_wk (x_le_n (x_le_n (x_le_n x_le_0))) (hK (_, _) rfl)
    · replace h := x_ifF hc h
      refine x_aload_n 30 rfl 0 dX1_findPlaces_29 rfl rfl ?_
      refine x_aload_n 31 rfl 1 dX1_findPlaces_30 rfl rfl ?_
      refine x_getR E dX1_findPlaces_31 F_RX1_40 sh_7 rf_7_2 34 rfl ?_
      refine x_iload_n 35 rfl 2 dX1_findPlaces_34 rfl rfl ?_
      obtain ⟨hz, h⟩ := x_ifn h
      refine x_iald E dX1_findPlaces_35 sh_8 _ rfl hz 36 rfl ?_
      obtain ⟨⟨q1r, q1s⟩, q1h, h⟩ := x_bind h
      try dsimp only at h
      refine z_callV E [.int _] [] dX1_findPlaces_36 K_RX1_33 ⟨Nat.le_of_ble_eq_true rfl, Nat.le_of_ble_eq_true rfl⟩ sh_55 (by decide) rfl (c_Ch_addPlace_55 E _ q1h) rfl rfl (Nat.le_of_ble_eq_true rfl) 39 rfl [] rfl ?_
      refine x_iinc 42 rfl (1) dX1_findPlaces_39 rfl (by decide) (by decide) [some (.ref 55), some (.ref 7), some (.int _)] rfl ?_
      refine x_goto 15 dX1_findPlaces_42 (by decide) ?_
      cases h
      exact x_wk (x_le_s (x_le_s (x_le_s x_le_0))) (hG (_, _) rfl)
set_option maxHeartbeats 4000000 in
set_option maxRecDepth 100000 in
theorem c_Ch_findPlaces_55_7 {l : Launch} {s0 : State} {a0 : Array Value} {D : va_G} {cA : Nat → ClassId} {sp : Nat → Nat} (E : x_En CL l s0 a0 D cA sp)  {σ : xS} {r : Unit} {σ1 : xS} (h : f_Ch_findPlaces_55_7  σ = some (r, σ1)) : zC l s0 D cA sp 1 M_Ch_findPlaces [.ref 55, .ref 7] σ none σ1 := by
  unfold f_Ch_findPlaces_55_7 at h
  try dsimp only at h
  refine x_enter [some (.ref 55), some (.ref 7), none] rfl (Nat.le_of_ble_eq_true rfl) (by decide +kernel) rfl ?_
  refine x_aload_n 1 rfl 0 dX1_findPlaces_0 rfl rfl ?_
  refine x_iconst 2 rfl (v := 0) dX1_findPlaces_1 (by decide) ?_
  refine x_putI E dX1_findPlaces_2 F_RX1_15 sh_55 5 rfl ?_
  refine x_aload_n 6 rfl 0 dX1_findPlaces_5 rfl rfl ?_
  refine x_aload_n 7 rfl 1 dX1_findPlaces_6 rfl rfl ?_
  refine x_getI E dX1_findPlaces_7 F_RX1_28 sh_7 10 rfl ?_
  obtain ⟨⟨q4r, q4s⟩, q4h, h⟩ := x_bind h
  try dsimp only at h
  refine z_callV E [.int _] [] dX1_findPlaces_10 K_RX1_33 ⟨Nat.le_of_ble_eq_true rfl, Nat.le_of_ble_eq_true rfl⟩ sh_55 (by decide) rfl (c_Ch_addPlace_55 E _ q4h) rfl rfl (Nat.le_of_ble_eq_true rfl) 13 rfl [] rfl ?_
  refine x_iconst 14 rfl (v := 0) dX1_findPlaces_13 (by decide) ?_
  refine x_istore_n 15 rfl 2 dX1_findPlaces_14 rfl (by decide) [some (.ref 55), some (.ref 7), some (.int _)] rfl ?_
  obtain ⟨b5, b5h, h⟩ := x_bind h
  try dsimp only at h
  refine x_wk (x_le_s (x_le_s (x_le_s x_le_0))) (x_loop (fun a o h hK hG => b_Ch_findPlaces_55_7_L15 (r := r) (σ1 := σ1) E  a o h hK hG) _ _ _ b5h ?_)
  cases h
  exact x_vret dX1_findPlaces_45 rfl rfl rfl
abbrev M_Ch_pickFirst : xM := (yX1_pickFirst, cX1_pickFirst, 3, some .boolean, [])
theorem dX1_pickFirst_0 : decode cX1_pickFirst 0 = .ok (.iload_n 1, 1) := by decide +kernel
theorem dX1_pickFirst_1 : decode cX1_pickFirst 1 = .ok (.aload_n 0, 1) := by decide +kernel
theorem dX1_pickFirst_2 : decode cX1_pickFirst 2 = .ok (.getfield 15, 3) := by decide +kernel
theorem dX1_pickFirst_5 : decode cX1_pickFirst 5 = .ok (.if_icmp .le 5, 3) := by decide +kernel
theorem dX1_pickFirst_8 : decode cX1_pickFirst 8 = .ok (.iconst 0, 1) := by decide +kernel
theorem dX1_pickFirst_9 : decode cX1_pickFirst 9 = .ok (.ireturn, 1) := by decide +kernel
theorem dX1_pickFirst_10 : decode cX1_pickFirst 10 = .ok (.iconst 0, 1) := by decide +kernel
theorem dX1_pickFirst_11 : decode cX1_pickFirst 11 = .ok (.istore_n 2, 1) := by decide +kernel
theorem dX1_pickFirst_12 : decode cX1_pickFirst 12 = .ok (.iload_n 2, 1) := by decide +kernel
theorem dX1_pickFirst_13 : decode cX1_pickFirst 13 = .ok (.iload_n 1, 1) := by decide +kernel
theorem dX1_pickFirst_14 : decode cX1_pickFirst 14 = .ok (.if_icmp .ge 21, 3) := by decide +kernel
theorem dX1_pickFirst_17 : decode cX1_pickFirst 17 = .ok (.iload_n 2, 1) := by decide +kernel
theorem dX1_pickFirst_18 : decode cX1_pickFirst 18 = .ok (.iconst 3, 1) := by decide +kernel
theorem dX1_pickFirst_19 : decode cX1_pickFirst 19 = .ok (.if_icmp .ge 16, 3) := by decide +kernel
theorem dX1_pickFirst_22 : decode cX1_pickFirst 22 = .ok (.aload_n 0, 1) := by decide +kernel
theorem dX1_pickFirst_23 : decode cX1_pickFirst 23 = .ok (.getfield 19, 3) := by decide +kernel
theorem dX1_pickFirst_26 : decode cX1_pickFirst 26 = .ok (.iload_n 2, 1) := by decide +kernel
theorem dX1_pickFirst_27 : decode cX1_pickFirst 27 = .ok (.iload_n 2, 1) := by decide +kernel
theorem dX1_pickFirst_28 : decode cX1_pickFirst 28 = .ok (.iastore, 1) := by decide +kernel
theorem dX1_pickFirst_29 : decode cX1_pickFirst 29 = .ok (.iinc 2 1, 3) := by decide +kernel
theorem dX1_pickFirst_32 : decode cX1_pickFirst 32 = .ok (.goto (-20), 3) := by decide +kernel
theorem dX1_pickFirst_35 : decode cX1_pickFirst 35 = .ok (.iconst 1, 1) := by decide +kernel
theorem dX1_pickFirst_36 : decode cX1_pickFirst 36 = .ok (.ireturn, 1) := by decide +kernel
def f_Ch_pickFirst_55_L12 (v1 : Int32) (a : Int32 × xS) : Option ((Int32 × xS) ⊕ (Int32 × xS)) :=
  let v2 := a.1; let σ := a.2;
  if v1 ≤ v2 then
    some (.inl (v2, σ))
  else
    if (3 : Int32) ≤ v2 then
      some (.inl (v2, σ))
    else
      if v2 < 0 ∨ 3 ≤ v2.toNatClampNeg then none else
      let σ1 := x_pI σ 57 v2.toNatClampNeg v2
      let w2 := v2 + (1 : Int32)
      some (.inr (w2, σ1))
def f_Ch_pickFirst_55 (v1 : Int32) (σ : xS) : Option (Int32 × xS) :=
  if v1 ≤ σ.1 55 1 then
    (x_it (f_Ch_pickFirst_55_L12 v1) 10000 ((0 : Int32), σ)).bind fun b3 =>
    some ((1 : Int32), b3.2)
  else
    some ((0 : Int32), σ)
set_option maxHeartbeats 4000000 in
set_option maxRecDepth 100000 in
theorem b_Ch_pickFirst_55_L12 {l : Launch} {s0 : State} {a0 : Array Value} {D : va_G} {cA : Nat → ClassId} {sp : Nat → Nat} (E : x_En CL l s0 a0 D cA sp) (v1 : Int32) {r : Int32} {σ1 : xS} (a : Int32 × xS) (o : (Int32 × xS) ⊕ (Int32 × xS)) (h : f_Ch_pickFirst_55_L12 v1 a = some o) (hK : ∀ b, o = .inl b → zW l s0 D cA sp (zQ s0 D cA sp (some (.int r)) σ1) (x_rm 0 0 0) M_Ch_pickFirst 0 0 35 [none, none, none] [] b.2) (hG : ∀ a', o = .inr a' → zW l s0 D cA sp (zQ s0 D cA sp (some (.int r)) σ1) (x_rm 0 0 0) M_Ch_pickFirst 0 0 12 [some (.ref 55), some (.int v1), some (.int a'.1)] [] a'.2) : zW l s0 D cA sp (zQ s0 D cA sp (some (.int r)) σ1) (x_rm 0 0 0) M_Ch_pickFirst 0 0 12 [some (.ref 55), some (.int v1), some (.int a.1)] [] a.2 := by
  obtain ⟨v2, σ⟩ := a
  unfold f_Ch_pickFirst_55_L12 at h
  try dsimp only at h ⊢
  refine x_iload_n 13 rfl 2 dX1_pickFirst_12 rfl rfl ?_
  refine x_iload_n 14 rfl 1 dX1_pickFirst_13 rfl rfl ?_
  refine x_icmp_ge 17 rfl 35 dX1_pickFirst_14 (by decide) (fun hc => ?_) (fun hc => ?_)
  · replace h := x_ifT hc h
    cases h
    exact x_wk (x_le_n (x_le_n (x_le_n x_le_0))) (hK (_, _) rfl)
  · replace h := x_ifF hc h
    refine x_iload_n 18 rfl 2 dX1_pickFirst_17 rfl rfl ?_
    refine x_iconst 19 rfl (v := 3) dX1_pickFirst_18 (by decide) ?_
    refine x_icmp_ge 22 rfl 35 dX1_pickFirst_19 (by decide) (fun hc => ?_) (fun hc => ?_)
    · replace h := x_ifT hc h
      cases h
      exact x_wk (x_le_n (x_le_n (x_le_n x_le_0))) (hK (_, _) rfl)
    · replace h := x_ifF hc h
      refine x_aload_n 23 rfl 0 dX1_pickFirst_22 rfl rfl ?_
      refine x_getR E dX1_pickFirst_23 F_RX1_19 sh_55 rf_55_2 26 rfl ?_
      refine x_iload_n 27 rfl 2 dX1_pickFirst_26 rfl rfl ?_
      refine x_iload_n 28 rfl 2 dX1_pickFirst_27 rfl rfl ?_
      obtain ⟨hz, h⟩ := x_ifn h
      refine x_iast E dX1_pickFirst_28 sh_57 _ rfl hz 29 rfl ?_
      refine x_iinc 32 rfl (1) dX1_pickFirst_29 rfl (by decide) (by decide) [some (.ref 55), some (.int _), some (.int _)] rfl ?_
      refine x_goto 12 dX1_pickFirst_32 (by decide) ?_
      cases h
      exact x_wk (x_le_s (x_le_s (x_le_s x_le_0))) (hG (_, _) rfl)
set_option maxHeartbeats 4000000 in
set_option maxRecDepth 100000 in
theorem c_Ch_pickFirst_55 {l : Launch} {s0 : State} {a0 : Array Value} {D : va_G} {cA : Nat → ClassId} {sp : Nat → Nat} (E : x_En CL l s0 a0 D cA sp) (v1 : Int32) {σ : xS} {r : Int32} {σ1 : xS} (h : f_Ch_pickFirst_55 v1 σ = some (r, σ1)) : zC l s0 D cA sp 0 M_Ch_pickFirst [.ref 55, .int v1] σ (some (.int r)) σ1 := by
  unfold f_Ch_pickFirst_55 at h
  try dsimp only at h
  refine x_enter [some (.ref 55), some (.int v1), none] rfl (Nat.le_of_ble_eq_true rfl) (by decide +kernel) rfl ?_
  refine x_iload_n 1 rfl 1 dX1_pickFirst_0 rfl rfl ?_
  refine x_aload_n 2 rfl 0 dX1_pickFirst_1 rfl rfl ?_
  refine x_getI E dX1_pickFirst_2 F_RX1_15 sh_55 5 rfl ?_
  refine x_icmp_le 8 rfl 10 dX1_pickFirst_5 (by decide) (fun hc => ?_) (fun hc => ?_)
  · replace h := x_ifT hc h
    refine x_iconst 11 rfl (v := 0) dX1_pickFirst_10 (by decide) ?_
    refine x_istore_n 12 rfl 2 dX1_pickFirst_11 rfl (by decide) [some (.ref 55), some (.int _), some (.int _)] rfl ?_
    obtain ⟨b3, b3h, h⟩ := x_bind h
    try dsimp only at h
    refine x_wk (x_le_s (x_le_s (x_le_s x_le_0))) (x_loop (fun a o h hK hG => b_Ch_pickFirst_55_L12 (r := r) (σ1 := σ1) E _ a o h hK hG) _ _ _ b3h ?_)
    refine x_iconst 36 rfl (v := 1) dX1_pickFirst_35 (by decide) ?_
    cases h
    exact x_zret (Or.inr rfl) dX1_pickFirst_36 rfl rfl rfl
  · replace h := x_ifF hc h
    refine x_iconst 9 rfl (v := 0) dX1_pickFirst_8 (by decide) ?_
    cases h
    exact x_zret (Or.inl rfl) dX1_pickFirst_9 rfl rfl rfl
theorem KX_RX8_264 : x_KX RX8 85 264 89 (x_Xn 1) "not so many MARKS" := ⟨by decide +kernel, (List.mem_append_right _ (List.mem_of_getElem? (i := 544) (by decide +kernel))), (List.mem_append_right _ (List.mem_of_getElem? (i := 13) (by decide +kernel))), (List.mem_append_right _ (List.mem_of_getElem? (i := 1031) (by decide +kernel))), (List.mem_of_getElem? (i := 691) (by decide +kernel)), AX_89, AO_85_89⟩
theorem K_RX8_266 : x_KV RX8 266 M_Ch_findPlaces 1 := ⟨⟨(List.mem_append_right _ (List.mem_of_getElem? (i := 1032) (by decide +kernel))), (List.mem_append_right _ (List.mem_of_getElem? (i := 1035) (by decide +kernel))), (List.mem_append_right _ (List.mem_of_getElem? (i := 7) (by decide +kernel))), ⟨by decide +kernel, by decide +kernel⟩, by decide +kernel⟩, (List.mem_append_right _ (List.mem_of_getElem? (i := 1033) (by decide +kernel))), (List.mem_append_right _ (List.mem_of_getElem? (i := 1034) (by decide +kernel)))⟩
theorem K_RX8_269 : x_KV RX8 269 M_Ch_pickFirst 1 := ⟨⟨(List.mem_append_right _ (List.mem_of_getElem? (i := 1040) (by decide +kernel))), (List.mem_append_right _ (List.mem_of_getElem? (i := 1043) (by decide +kernel))), (List.mem_append_right _ (List.mem_of_getElem? (i := 7) (by decide +kernel))), ⟨by decide +kernel, by decide +kernel⟩, by decide +kernel⟩, (List.mem_append_right _ (List.mem_of_getElem? (i := 1041) (by decide +kernel))), (List.mem_append_right _ (List.mem_of_getElem? (i := 1042) (by decide +kernel)))⟩
theorem K_RX8_272 : x_KV RX8 272 M_Ch_putPicked 2 := ⟨⟨(List.mem_append_right _ (List.mem_of_getElem? (i := 1044) (by decide +kernel))), (List.mem_append_right _ (List.mem_of_getElem? (i := 1047) (by decide +kernel))), (List.mem_append_right _ (List.mem_of_getElem? (i := 7) (by decide +kernel))), ⟨by decide +kernel, by decide +kernel⟩, by decide +kernel⟩, (List.mem_append_right _ (List.mem_of_getElem? (i := 1045) (by decide +kernel))), (List.mem_append_right _ (List.mem_of_getElem? (i := 1046) (by decide +kernel)))⟩
theorem K_RX8_276 : x_KV RX8 276 M_RH_sharpAsTried 0 := ⟨⟨(List.mem_append_right _ (List.mem_of_getElem? (i := 510) (by decide +kernel))), (List.mem_append_right _ (List.mem_of_getElem? (i := 513) (by decide +kernel))), (List.mem_append_right _ (List.mem_of_getElem? (i := 1) (by decide +kernel))), ⟨by decide +kernel, by decide +kernel⟩, by decide +kernel⟩, (List.mem_append_right _ (List.mem_of_getElem? (i := 512) (by decide +kernel))), (List.mem_append_left _ (List.mem_of_getElem? (i := 10) (by decide +kernel)))⟩
theorem K_RX8_279 : x_KV RX8 279 M_Ch_keepPicked 1 := ⟨⟨(List.mem_append_right _ (List.mem_of_getElem? (i := 1052) (by decide +kernel))), (List.mem_append_right _ (List.mem_of_getElem? (i := 1055) (by decide +kernel))), (List.mem_append_right _ (List.mem_of_getElem? (i := 7) (by decide +kernel))), ⟨by decide +kernel, by decide +kernel⟩, by decide +kernel⟩, (List.mem_append_right _ (List.mem_of_getElem? (i := 1053) (by decide +kernel))), (List.mem_append_right _ (List.mem_of_getElem? (i := 1054) (by decide +kernel)))⟩
theorem K_RX8_282 : x_KV RX8 282 M_Ch_pickNext 1 := ⟨⟨(List.mem_append_right _ (List.mem_of_getElem? (i := 1056) (by decide +kernel))), (List.mem_append_right _ (List.mem_of_getElem? (i := 1059) (by decide +kernel))), (List.mem_append_right _ (List.mem_of_getElem? (i := 7) (by decide +kernel))), ⟨by decide +kernel, by decide +kernel⟩, by decide +kernel⟩, (List.mem_append_right _ (List.mem_of_getElem? (i := 1057) (by decide +kernel))), (List.mem_append_right _ (List.mem_of_getElem? (i := 1058) (by decide +kernel)))⟩
abbrev M_RH_marks : xM := (yX8_marks, cX8_marks, 6, some .int, [])
theorem dX8_marks_0 : decode cX8_marks 0 = .ok (.iload_n 1, 1) := by decide +kernel
theorem dX8_marks_1 : decode cX8_marks 1 = .ok (.ifCond .lt 8, 3) := by decide +kernel
theorem dX8_marks_4 : decode cX8_marks 4 = .ok (.iload_n 1, 1) := by decide +kernel
theorem dX8_marks_5 : decode cX8_marks 5 = .ok (.iconst 3, 1) := by decide +kernel
theorem dX8_marks_6 : decode cX8_marks 6 = .ok (.if_icmp .le 14, 3) := by decide +kernel
theorem dX8_marks_9 : decode cX8_marks 9 = .ok (.new 85, 3) := by decide +kernel
theorem dX8_marks_12 : decode cX8_marks 12 = .ok (.dup, 1) := by decide +kernel
theorem dX8_marks_13 : decode cX8_marks 13 = .ok (.ldc_w 264, 3) := by decide +kernel
theorem dX8_marks_16 : decode cX8_marks 16 = .ok (.invokespecial 89, 3) := by decide +kernel
theorem dX8_marks_19 : decode cX8_marks 19 = .ok (.athrow, 1) := by decide +kernel
theorem dX8_marks_20 : decode cX8_marks 20 = .ok (.aload_n 0, 1) := by decide +kernel
theorem dX8_marks_21 : decode cX8_marks 21 = .ok (.getfield 61, 3) := by decide +kernel
theorem dX8_marks_24 : decode cX8_marks 24 = .ok (.aload_n 0, 1) := by decide +kernel
theorem dX8_marks_25 : decode cX8_marks 25 = .ok (.getfield 27, 3) := by decide +kernel
theorem dX8_marks_28 : decode cX8_marks 28 = .ok (.invokevirtual 266, 3) := by decide +kernel
theorem dX8_marks_31 : decode cX8_marks 31 = .ok (.aload_n 0, 1) := by decide +kernel
theorem dX8_marks_32 : decode cX8_marks 32 = .ok (.getfield 61, 3) := by decide +kernel
theorem dX8_marks_35 : decode cX8_marks 35 = .ok (.iload_n 1, 1) := by decide +kernel
theorem dX8_marks_36 : decode cX8_marks 36 = .ok (.invokevirtual 269, 3) := by decide +kernel
theorem dX8_marks_39 : decode cX8_marks 39 = .ok (.ifCond .ne 5, 3) := by decide +kernel
theorem dX8_marks_42 : decode cX8_marks 42 = .ok (.iconst (-1), 1) := by decide +kernel
theorem dX8_marks_43 : decode cX8_marks 43 = .ok (.ireturn, 1) := by decide +kernel
theorem dX8_marks_44 : decode cX8_marks 44 = .ok (.iconst (-1), 1) := by decide +kernel
theorem dX8_marks_45 : decode cX8_marks 45 = .ok (.istore_n 2, 1) := by decide +kernel
theorem dX8_marks_46 : decode cX8_marks 46 = .ok (.iconst 1, 1) := by decide +kernel
theorem dX8_marks_47 : decode cX8_marks 47 = .ok (.istore_n 3, 1) := by decide +kernel
theorem dX8_marks_48 : decode cX8_marks 48 = .ok (.iconst 0, 1) := by decide +kernel
theorem dX8_marks_49 : decode cX8_marks 49 = .ok (.istore 4, 2) := by decide +kernel
theorem dX8_marks_51 : decode cX8_marks 51 = .ok (.iload_n 3, 1) := by decide +kernel
theorem dX8_marks_52 : decode cX8_marks 52 = .ok (.ifCond .eq 65, 3) := by decide +kernel
theorem dX8_marks_55 : decode cX8_marks 55 = .ok (.iload 4, 2) := by decide +kernel
theorem dX8_marks_57 : decode cX8_marks 57 = .ok (.sipush 1000, 3) := by decide +kernel
theorem dX8_marks_60 : decode cX8_marks 60 = .ok (.if_icmp .ge 57, 3) := by decide +kernel
theorem dX8_marks_63 : decode cX8_marks 63 = .ok (.aload_n 0, 1) := by decide +kernel
theorem dX8_marks_64 : decode cX8_marks 64 = .ok (.invokevirtual 187, 3) := by decide +kernel
theorem dX8_marks_67 : decode cX8_marks 67 = .ok (.aload_n 0, 1) := by decide +kernel
theorem dX8_marks_68 : decode cX8_marks 68 = .ok (.getfield 61, 3) := by decide +kernel
theorem dX8_marks_71 : decode cX8_marks 71 = .ok (.aload_n 0, 1) := by decide +kernel
theorem dX8_marks_72 : decode cX8_marks 72 = .ok (.getfield 51, 3) := by decide +kernel
theorem dX8_marks_75 : decode cX8_marks 75 = .ok (.iload_n 1, 1) := by decide +kernel
theorem dX8_marks_76 : decode cX8_marks 76 = .ok (.invokevirtual 272, 3) := by decide +kernel
theorem dX8_marks_79 : decode cX8_marks 79 = .ok (.aload_n 0, 1) := by decide +kernel
theorem dX8_marks_80 : decode cX8_marks 80 = .ok (.invokevirtual 276, 3) := by decide +kernel
theorem dX8_marks_83 : decode cX8_marks 83 = .ok (.istore 5, 2) := by decide +kernel
theorem dX8_marks_85 : decode cX8_marks 85 = .ok (.iload 5, 2) := by decide +kernel
theorem dX8_marks_87 : decode cX8_marks 87 = .ok (.iload_n 2, 1) := by decide +kernel
theorem dX8_marks_88 : decode cX8_marks 88 = .ok (.if_icmp .le 14, 3) := by decide +kernel
theorem dX8_marks_91 : decode cX8_marks 91 = .ok (.iload 5, 2) := by decide +kernel
theorem dX8_marks_93 : decode cX8_marks 93 = .ok (.istore_n 2, 1) := by decide +kernel
theorem dX8_marks_94 : decode cX8_marks 94 = .ok (.aload_n 0, 1) := by decide +kernel
theorem dX8_marks_95 : decode cX8_marks 95 = .ok (.getfield 61, 3) := by decide +kernel
theorem dX8_marks_98 : decode cX8_marks 98 = .ok (.iload_n 1, 1) := by decide +kernel
theorem dX8_marks_99 : decode cX8_marks 99 = .ok (.invokevirtual 279, 3) := by decide +kernel
theorem dX8_marks_102 : decode cX8_marks 102 = .ok (.aload_n 0, 1) := by decide +kernel
theorem dX8_marks_103 : decode cX8_marks 103 = .ok (.getfield 61, 3) := by decide +kernel
theorem dX8_marks_106 : decode cX8_marks 106 = .ok (.iload_n 1, 1) := by decide +kernel
theorem dX8_marks_107 : decode cX8_marks 107 = .ok (.invokevirtual 282, 3) := by decide +kernel
theorem dX8_marks_110 : decode cX8_marks 110 = .ok (.istore_n 3, 1) := by decide +kernel
theorem dX8_marks_111 : decode cX8_marks 111 = .ok (.iinc 4 1, 3) := by decide +kernel
theorem dX8_marks_114 : decode cX8_marks 114 = .ok (.goto (-63), 3) := by decide +kernel
theorem dX8_marks_117 : decode cX8_marks 117 = .ok (.iload_n 2, 1) := by decide +kernel
theorem dX8_marks_118 : decode cX8_marks 118 = .ok (.ireturn, 1) := by decide +kernel
def f_RH_marks_0_L51 (v1 : Int32) (a : Int32 × Int32 × Int32 × xS) : Option ((Int32 × Int32 × Int32 × xS) ⊕ (Int32 × Int32 × Int32 × xS)) :=
  let v2 := a.1; let v3 := a.2.1; let v4 := a.2.2.1; let σ := a.2.2.2;
  if v3 = 0 then
    some (.inl (v2, v3, v4, σ))
  else
    if (1000 : Int32) ≤ v4 then
      some (.inl (v2, v3, v4, σ))
    else
      (f_RH_takeSettings_0  σ).bind fun q1 =>
      (f_Ch_putPicked_55_49 v1 q1.2).bind fun q2 =>
      (f_RH_sharpAsTried_0  q2.2).bind fun q3 =>
      let w4 := q3.1
      if w4 ≤ v2 then
        (f_Ch_pickNext_55 v1 q3.2).bind fun q5 =>
        let w6 := q5.1
        let w7 := v4 + (1 : Int32)
        some (.inr (v2, w6, w7, q5.2))
      else
        (f_Ch_keepPicked_55 v1 q3.2).bind fun q8 =>
        (f_Ch_pickNext_55 v1 q8.2).bind fun q9 =>
        let w10 := q9.1
        let w11 := v4 + (1 : Int32)
        some (.inr (w4, w10, w11, q9.2))
def f_RH_marks_0 (v1 : Int32) (σ : xS) : Option ((Int32 ⊕ Nat) × xS) :=
  if v1 < 0 then
    some (.inr 1, σ)
  else
    if v1 ≤ (3 : Int32) then
      (f_Ch_findPlaces_55_7  σ).bind fun q12 =>
      (f_Ch_pickFirst_55 v1 q12.2).bind fun q13 =>
      if q13.1 = 0 then
        some (.inl (-1 : Int32), q13.2)
      else
        (x_it (f_RH_marks_0_L51 v1) 10000 ((-1 : Int32), (1 : Int32), (0 : Int32), q13.2)).bind fun b14 =>
        some (.inl b14.1, b14.2.2.2)
    else
      some (.inr 1, σ)
set_option maxHeartbeats 4000000 in
set_option maxRecDepth 100000 in
theorem b_RH_marks_0_L51 {l : Launch} {s0 : State} {a0 : Array Value} {D : va_G} {cA : Nat → ClassId} {sp : Nat → Nat} (E : x_En CL l s0 a0 D cA sp) (v1 : Int32) {r : Int32 ⊕ Nat} {σ1 : xS} (a : Int32 × Int32 × Int32 × xS) (o : (Int32 × Int32 × Int32 × xS) ⊕ (Int32 × Int32 × Int32 × xS)) (h : f_RH_marks_0_L51 v1 a = some o) (hK : ∀ b, o = .inl b → zW l s0 D cA sp (oQ s0 D cA sp (x_oi r) σ1) (x_rm 7 1 6) M_RH_marks 1 6 117 [none, none, some (.int b.1), none, none, none] [] b.2.2.2) (hG : ∀ a', o = .inr a' → zW l s0 D cA sp (oQ s0 D cA sp (x_oi r) σ1) (x_rm 7 1 6) M_RH_marks 1 6 51 [some (.ref 0), some (.int v1), some (.int a'.1), some (.int a'.2.1), some (.int a'.2.2.1), none] [] a'.2.2.2) : zW l s0 D cA sp (oQ s0 D cA sp (x_oi r) σ1) (x_rm 7 1 6) M_RH_marks 1 6 51 [some (.ref 0), some (.int v1), some (.int a.1), some (.int a.2.1), some (.int a.2.2.1), none] [] a.2.2.2 := by
  obtain ⟨v2, v3, v4, σ⟩ := a
  unfold f_RH_marks_0_L51 at h
  try dsimp only at h ⊢
  refine x_iload_n 52 rfl 3 dX8_marks_51 rfl rfl ?_
  refine x_if_eq 55 rfl 117 dX8_marks_52 (by decide) (fun hc => ?_) (fun hc => ?_)
  · replace h := x_ifT hc h
    cases h
    exact x_wk (x_le_n (x_le_n (x_le_s (x_le_n (x_le_n (x_le_n x_le_0)))))) (hK (_, _, _, _) rfl)
  · replace h := x_ifF hc h
    refine x_iload 57 rfl dX8_marks_55 rfl ?_
    refine x_sipush 60 rfl (v := 1000) dX8_marks_57 (by decide) ?_
    refine x_icmp_ge 63 rfl 117 dX8_marks_60 (by decide) (fun hc => ?_) (fun hc => ?_)
    · replace h := x_ifT hc h
      cases h
      exact x_wk (x_le_n (x_le_n (x_le_s (x_le_n (x_le_n (x_le_n x_le_0)))))) (hK (_, _, _, _) rfl)
    · replace h := x_ifF hc h
      refine x_aload_n 64 rfl 0 dX8_marks_63 rfl rfl ?_
      obtain ⟨⟨q1r, q1s⟩, q1h, h⟩ := x_bind h
      try dsimp only at h
      refine z_callV E [] [] dX8_marks_64 K_RX8_187 ⟨Nat.le_of_ble_eq_true rfl, Nat.le_of_ble_eq_true rfl⟩ sh_0 (by decide) rfl (c_RH_takeSettings_0 E  q1h) rfl rfl (Nat.le_of_ble_eq_true rfl) 67 rfl [] rfl ?_
      refine x_aload_n 68 rfl 0 dX8_marks_67 rfl rfl ?_
      refine x_getR E dX8_marks_68 F_RX8_61 sh_0 rf_0_10 71 rfl ?_
      refine x_aload_n 72 rfl 0 dX8_marks_71 rfl rfl ?_
      refine x_getR E dX8_marks_72 F_RX8_51 sh_0 rf_0_8 75 rfl ?_
      refine x_iload_n 76 rfl 1 dX8_marks_75 rfl rfl ?_
      obtain ⟨⟨q2r, q2s⟩, q2h, h⟩ := x_bind h
      try dsimp only at h
      refine z_callV E [.ref 49, .int _] [] dX8_marks_76 K_RX8_272 ⟨Nat.le_of_ble_eq_true rfl, Nat.le_of_ble_eq_true rfl⟩ sh_55 (by decide) rfl (c_Ch_putPicked_55_49 E _ q2h) rfl rfl (Nat.le_of_ble_eq_true rfl) 79 rfl [] rfl ?_
      refine x_aload_n 80 rfl 0 dX8_marks_79 rfl rfl ?_
      obtain ⟨⟨q3r, q3s⟩, q3h, h⟩ := x_bind h
      try dsimp only at h
      refine z_callV E [] [] dX8_marks_80 K_RX8_276 ⟨Nat.le_of_ble_eq_true rfl, Nat.le_of_ble_eq_true rfl⟩ sh_0 (by decide) rfl (c_RH_sharpAsTried_0 E  q3h) rfl rfl (Nat.le_of_ble_eq_true rfl) 83 rfl [.int _] rfl ?_
      refine x_istore 85 rfl dX8_marks_83 (by decide) [some (.ref 0), some (.int _), some (.int _), some (.int _), some (.int _), some (.int _)] rfl ?_
      refine x_iload 87 rfl dX8_marks_85 rfl ?_
      refine x_iload_n 88 rfl 2 dX8_marks_87 rfl rfl ?_
      refine x_icmp_le 91 rfl 102 dX8_marks_88 (by decide) (fun hc => ?_) (fun hc => ?_)
      · replace h := x_ifT hc h
        refine x_aload_n 103 rfl 0 dX8_marks_102 rfl rfl ?_
        refine x_getR E dX8_marks_103 F_RX8_61 sh_0 rf_0_10 106 rfl ?_
        refine x_iload_n 107 rfl 1 dX8_marks_106 rfl rfl ?_
        obtain ⟨⟨q5r, q5s⟩, q5h, h⟩ := x_bind h
        try dsimp only at h
        refine z_callV E [.int _] [] dX8_marks_107 K_RX8_282 ⟨Nat.le_of_ble_eq_true rfl, Nat.le_of_ble_eq_true rfl⟩ sh_55 (by decide) rfl (c_Ch_pickNext_55 E _ q5h) rfl rfl (Nat.le_of_ble_eq_true rfl) 110 rfl [.int _] rfl ?_
        refine x_istore_n 111 rfl 3 dX8_marks_110 rfl (by decide) [some (.ref 0), some (.int _), some (.int _), some (.int _), some (.int _), some (.int _)] rfl ?_
        refine x_iinc 114 rfl (1) dX8_marks_111 rfl (by decide) (by decide) [some (.ref 0), some (.int _), some (.int _), some (.int _), some (.int _), some (.int _)] rfl ?_
        refine x_goto 51 dX8_marks_114 (by decide) ?_
        cases h
        exact x_wk (x_le_s (x_le_s (x_le_s (x_le_s (x_le_s (x_le_n x_le_0)))))) (hG (_, _, _, _) rfl)
      · replace h := x_ifF hc h
        refine x_iload 93 rfl dX8_marks_91 rfl ?_
        refine x_istore_n 94 rfl 2 dX8_marks_93 rfl (by decide) [some (.ref 0), some (.int _), some (.int _), some (.int _), some (.int _), some (.int _)] rfl ?_
        refine x_aload_n 95 rfl 0 dX8_marks_94 rfl rfl ?_
        refine x_getR E dX8_marks_95 F_RX8_61 sh_0 rf_0_10 98 rfl ?_
        refine x_iload_n 99 rfl 1 dX8_marks_98 rfl rfl ?_
        obtain ⟨⟨q8r, q8s⟩, q8h, h⟩ := x_bind h
        try dsimp only at h
        refine z_callV E [.int _] [] dX8_marks_99 K_RX8_279 ⟨Nat.le_of_ble_eq_true rfl, Nat.le_of_ble_eq_true rfl⟩ sh_55 (by decide) rfl (c_Ch_keepPicked_55 E _ q8h) rfl rfl (Nat.le_of_ble_eq_true rfl) 102 rfl [] rfl ?_
        refine x_aload_n 103 rfl 0 dX8_marks_102 rfl rfl ?_
        refine x_getR E dX8_marks_103 F_RX8_61 sh_0 rf_0_10 106 rfl ?_
        refine x_iload_n 107 rfl 1 dX8_marks_106 rfl rfl ?_
        obtain ⟨⟨q9r, q9s⟩, q9h, h⟩ := x_bind h
        try dsimp only at h
        refine z_callV E [.int _] [] dX8_marks_107 K_RX8_282 ⟨Nat.le_of_ble_eq_true rfl, Nat.le_of_ble_eq_true rfl⟩ sh_55 (by decide) rfl (c_Ch_pickNext_55 E _ q9h) rfl rfl (Nat.le_of_ble_eq_true rfl) 110 rfl [.int _] rfl ?_
        refine x_istore_n 111 rfl 3 dX8_marks_110 rfl (by decide) [some (.ref 0), some (.int _), some (.int _), some (.int _), some (.int _), some (.int _)] rfl ?_
        refine x_iinc 114 rfl (1) dX8_marks_111 rfl (by decide) (by decide) [some (.ref 0), some (.int _), some (.int _), some (.int _), some (.int _), some (.int _)] rfl ?_
        refine x_goto 51 dX8_marks_114 (by decide) ?_
        cases h
        exact x_wk (x_le_s (x_le_s (x_le_s (x_le_s (x_le_s (x_le_n x_le_0)))))) (hG (_, _, _, _) rfl)
set_option maxHeartbeats 4000000 in
set_option maxRecDepth 100000 in
theorem c_RH_marks_0 {l : Launch} {s0 : State} {a0 : Array Value} {D : va_G} {cA : Nat → ClassId} {sp : Nat → Nat} (E : x_En CL l s0 a0 D cA sp) (v1 : Int32) {σ : xS} {r : Int32 ⊕ Nat} {σ1 : xS} (h : f_RH_marks_0 v1 σ = some (r, σ1)) : oC l s0 D cA sp 7 M_RH_marks [.ref 0, .int v1] σ (x_oi r) σ1 := by
  unfold f_RH_marks_0 at h
  try dsimp only at h
  refine x_enterO [some (.ref 0), some (.int v1), none, none, none, none] rfl (Nat.le_of_ble_eq_true rfl) (by decide +kernel) rfl ?_
  refine x_iload_n 1 rfl 1 dX8_marks_0 rfl rfl ?_
  refine x_if_lt 4 rfl 9 dX8_marks_1 (by decide) (fun hc => ?_) (fun hc => ?_)
  · replace h := x_ifT hc h
    cases h
    exact x_throwW E KU_ (k := 1) KX_RX8_264 rfl dX8_marks_9 dX8_marks_12 dX8_marks_13 dX8_marks_16 dX8_marks_19 (Nat.le_of_ble_eq_true rfl)
  · replace h := x_ifF hc h
    refine x_iload_n 5 rfl 1 dX8_marks_4 rfl rfl ?_
    refine x_iconst 6 rfl (v := 3) dX8_marks_5 (by decide) ?_
    refine x_icmp_le 9 rfl 20 dX8_marks_6 (by decide) (fun hc => ?_) (fun hc => ?_)
    · replace h := x_ifT hc h
      refine x_aload_n 21 rfl 0 dX8_marks_20 rfl rfl ?_
      refine x_getR E dX8_marks_21 F_RX8_61 sh_0 rf_0_10 24 rfl ?_
      refine x_aload_n 25 rfl 0 dX8_marks_24 rfl rfl ?_
      refine x_getR E dX8_marks_25 F_RX8_27 sh_0 rf_0_3 28 rfl ?_
      obtain ⟨⟨q12r, q12s⟩, q12h, h⟩ := x_bind h
      try dsimp only at h
      refine z_callV E [.ref 7] [] dX8_marks_28 K_RX8_266 ⟨Nat.le_of_ble_eq_true rfl, Nat.le_of_ble_eq_true rfl⟩ sh_55 (by decide) rfl (c_Ch_findPlaces_55_7 E  q12h) rfl rfl (Nat.le_of_ble_eq_true rfl) 31 rfl [] rfl ?_
      refine x_aload_n 32 rfl 0 dX8_marks_31 rfl rfl ?_
      refine x_getR E dX8_marks_32 F_RX8_61 sh_0 rf_0_10 35 rfl ?_
      refine x_iload_n 36 rfl 1 dX8_marks_35 rfl rfl ?_
      obtain ⟨⟨q13r, q13s⟩, q13h, h⟩ := x_bind h
      try dsimp only at h
      refine z_callV E [.int _] [] dX8_marks_36 K_RX8_269 ⟨Nat.le_of_ble_eq_true rfl, Nat.le_of_ble_eq_true rfl⟩ sh_55 (by decide) rfl (c_Ch_pickFirst_55 E _ q13h) rfl rfl (Nat.le_of_ble_eq_true rfl) 39 rfl [.int _] rfl ?_
      refine x_if_ne 42 rfl 44 dX8_marks_39 (by decide) (fun hc => ?_) (fun hc => ?_)
      · replace h := x_ifF hc h
        refine x_iconst 45 rfl (v := -1) dX8_marks_44 (by decide) ?_
        refine x_istore_n 46 rfl 2 dX8_marks_45 rfl (by decide) [some (.ref 0), some (.int _), some (.int _), none, none, none] rfl ?_
        refine x_iconst 47 rfl (v := 1) dX8_marks_46 (by decide) ?_
        refine x_istore_n 48 rfl 3 dX8_marks_47 rfl (by decide) [some (.ref 0), some (.int _), some (.int _), some (.int _), none, none] rfl ?_
        refine x_iconst 49 rfl (v := 0) dX8_marks_48 (by decide) ?_
        refine x_istore 51 rfl dX8_marks_49 (by decide) [some (.ref 0), some (.int _), some (.int _), some (.int _), some (.int _), none] rfl ?_
        obtain ⟨b14, b14h, h⟩ := x_bind h
        try dsimp only at h
        refine x_wk (x_le_s (x_le_s (x_le_s (x_le_s (x_le_s (x_le_n x_le_0)))))) (x_loop (fun a o h hK hG => b_RH_marks_0_L51 (r := r) (σ1 := σ1) E _ a o h hK hG) _ _ _ b14h ?_)
        refine x_iload_n 118 rfl 2 dX8_marks_117 rfl rfl ?_
        cases h
        exact x_Oret (x_iret dX8_marks_118 rfl rfl rfl)
      · replace h := x_ifT hc h
        refine x_iconst 43 rfl (v := -1) dX8_marks_42 (by decide) ?_
        cases h
        exact x_Oret (x_iret dX8_marks_43 rfl rfl rfl)
    · replace h := x_ifF hc h
      cases h
      exact x_throwW E KU_ (k := 1) KX_RX8_264 rfl dX8_marks_9 dX8_marks_12 dX8_marks_13 dX8_marks_16 dX8_marks_19 (Nat.le_of_ble_eq_true rfl)
theorem KX_RX8_288 : x_KN2 RX8 130 288 134 (x_Xn 2) "no such MARK is kept" := ⟨by decide +kernel, (List.mem_append_right _ (List.mem_of_getElem? (i := 881) (by decide +kernel))), (List.mem_append_right _ (List.mem_of_getElem? (i := 22) (by decide +kernel))), (List.mem_append_right _ (List.mem_of_getElem? (i := 1068) (by decide +kernel))), (List.mem_of_getElem? (i := 712) (by decide +kernel)), AX_134, AO_130_134⟩
abbrev M_RH_kept : xM := (yX8_kept, cX8_kept, 2, some .int, [])
theorem dX8_kept_0 : decode cX8_kept 0 = .ok (.iload_n 1, 1) := by decide +kernel
theorem dX8_kept_1 : decode cX8_kept 1 = .ok (.ifCond .lt 19, 3) := by decide +kernel
theorem dX8_kept_4 : decode cX8_kept 4 = .ok (.iload_n 1, 1) := by decide +kernel
theorem dX8_kept_5 : decode cX8_kept 5 = .ok (.aload_n 0, 1) := by decide +kernel
theorem dX8_kept_6 : decode cX8_kept 6 = .ok (.getfield 61, 3) := by decide +kernel
theorem dX8_kept_9 : decode cX8_kept 9 = .ok (.getfield 285, 3) := by decide +kernel
theorem dX8_kept_12 : decode cX8_kept 12 = .ok (.if_icmp .ge 8, 3) := by decide +kernel
theorem dX8_kept_15 : decode cX8_kept 15 = .ok (.iload_n 1, 1) := by decide +kernel
theorem dX8_kept_16 : decode cX8_kept 16 = .ok (.iconst 3, 1) := by decide +kernel
theorem dX8_kept_17 : decode cX8_kept 17 = .ok (.if_icmp .lt 14, 3) := by decide +kernel
theorem dX8_kept_20 : decode cX8_kept 20 = .ok (.new 130, 3) := by decide +kernel
theorem dX8_kept_23 : decode cX8_kept 23 = .ok (.dup, 1) := by decide +kernel
theorem dX8_kept_24 : decode cX8_kept 24 = .ok (.ldc_w 288, 3) := by decide +kernel
theorem dX8_kept_27 : decode cX8_kept 27 = .ok (.invokespecial 134, 3) := by decide +kernel
theorem dX8_kept_30 : decode cX8_kept 30 = .ok (.athrow, 1) := by decide +kernel
theorem dX8_kept_31 : decode cX8_kept 31 = .ok (.aload_n 0, 1) := by decide +kernel
theorem dX8_kept_32 : decode cX8_kept 32 = .ok (.getfield 61, 3) := by decide +kernel
theorem dX8_kept_35 : decode cX8_kept 35 = .ok (.getfield 290, 3) := by decide +kernel
theorem dX8_kept_38 : decode cX8_kept 38 = .ok (.iload_n 1, 1) := by decide +kernel
theorem dX8_kept_39 : decode cX8_kept 39 = .ok (.iaload, 1) := by decide +kernel
theorem dX8_kept_40 : decode cX8_kept 40 = .ok (.ireturn, 1) := by decide +kernel
def f_RH_kept_0 (v1 : Int32) (σ : xS) : Option ((Int32 ⊕ Nat) × xS) :=
  if v1 < 0 then
    some (.inr 2, σ)
  else
    if σ.1 55 4 ≤ v1 then
      some (.inr 2, σ)
    else
      if v1 < (3 : Int32) then
        if v1 < 0 ∨ 3 ≤ v1.toNatClampNeg then none else
        some (.inl (σ.1 58 v1.toNatClampNeg), σ)
      else
        some (.inr 2, σ)
set_option maxHeartbeats 4000000 in
set_option maxRecDepth 100000 in
theorem c_RH_kept_0 {l : Launch} {s0 : State} {a0 : Array Value} {D : va_G} {cA : Nat → ClassId} {sp : Nat → Nat} (E : x_En CL l s0 a0 D cA sp) (v1 : Int32) {σ : xS} {r : Int32 ⊕ Nat} {σ1 : xS} (h : f_RH_kept_0 v1 σ = some (r, σ1)) : oC l s0 D cA sp 0 M_RH_kept [.ref 0, .int v1] σ (x_oi r) σ1 := by
  unfold f_RH_kept_0 at h
  try dsimp only at h
  refine x_enterO [some (.ref 0), some (.int v1)] rfl (Nat.le_of_ble_eq_true rfl) (by decide +kernel) rfl ?_
  refine x_iload_n 1 rfl 1 dX8_kept_0 rfl rfl ?_
  refine x_if_lt 4 rfl 20 dX8_kept_1 (by decide) (fun hc => ?_) (fun hc => ?_)
  · replace h := x_ifT hc h
    cases h
    exact x_throwNW2 E KU_ (k := 2) KX_RX8_288 rfl dX8_kept_20 dX8_kept_23 dX8_kept_24 dX8_kept_27 dX8_kept_30 (Nat.le_of_ble_eq_true rfl)
  · replace h := x_ifF hc h
    refine x_iload_n 5 rfl 1 dX8_kept_4 rfl rfl ?_
    refine x_aload_n 6 rfl 0 dX8_kept_5 rfl rfl ?_
    refine x_getR E dX8_kept_6 F_RX8_61 sh_0 rf_0_10 9 rfl ?_
    refine x_getI E dX8_kept_9 F_RX8_285 sh_55 12 rfl ?_
    refine x_icmp_ge 15 rfl 20 dX8_kept_12 (by decide) (fun hc => ?_) (fun hc => ?_)
    · replace h := x_ifT hc h
      cases h
      exact x_throwNW2 E KU_ (k := 2) KX_RX8_288 rfl dX8_kept_20 dX8_kept_23 dX8_kept_24 dX8_kept_27 dX8_kept_30 (Nat.le_of_ble_eq_true rfl)
    · replace h := x_ifF hc h
      refine x_iload_n 16 rfl 1 dX8_kept_15 rfl rfl ?_
      refine x_iconst 17 rfl (v := 3) dX8_kept_16 (by decide) ?_
      refine x_icmp_lt 20 rfl 31 dX8_kept_17 (by decide) (fun hc => ?_) (fun hc => ?_)
      · replace h := x_ifT hc h
        refine x_aload_n 32 rfl 0 dX8_kept_31 rfl rfl ?_
        refine x_getR E dX8_kept_32 F_RX8_61 sh_0 rf_0_10 35 rfl ?_
        refine x_getR E dX8_kept_35 F_RX8_290 sh_55 rf_55_3 38 rfl ?_
        refine x_iload_n 39 rfl 1 dX8_kept_38 rfl rfl ?_
        obtain ⟨hz, h⟩ := x_ifn h
        refine x_iald E dX8_kept_39 sh_58 _ rfl hz 40 rfl ?_
        cases h
        exact x_Oret (x_iret dX8_kept_40 rfl rfl rfl)
      · replace h := x_ifF hc h
        cases h
        exact x_throwNW2 E KU_ (k := 2) KX_RX8_288 rfl dX8_kept_20 dX8_kept_23 dX8_kept_24 dX8_kept_27 dX8_kept_30 (Nat.le_of_ble_eq_true rfl)
abbrev M_RH_sharpLate : xM := (yX8_sharpLate, cX8_sharpLate, 2, some .int, [])
theorem dX8_sharpLate_0 : decode cX8_sharpLate 0 = .ok (.aload_n 0, 1) := by decide +kernel
theorem dX8_sharpLate_1 : decode cX8_sharpLate 1 = .ok (.invokevirtual 187, 3) := by decide +kernel
theorem dX8_sharpLate_4 : decode cX8_sharpLate 4 = .ok (.aload_n 0, 1) := by decide +kernel
theorem dX8_sharpLate_5 : decode cX8_sharpLate 5 = .ok (.getfield 51, 3) := by decide +kernel
theorem dX8_sharpLate_8 : decode cX8_sharpLate 8 = .ok (.iload_n 1, 1) := by decide +kernel
theorem dX8_sharpLate_9 : decode cX8_sharpLate 9 = .ok (.putfield 304, 3) := by decide +kernel
theorem dX8_sharpLate_12 : decode cX8_sharpLate 12 = .ok (.aload_n 0, 1) := by decide +kernel
theorem dX8_sharpLate_13 : decode cX8_sharpLate 13 = .ok (.invokevirtual 276, 3) := by decide +kernel
theorem dX8_sharpLate_16 : decode cX8_sharpLate 16 = .ok (.ireturn, 1) := by decide +kernel
def f_RH_sharpLate_0 (v1 : Int32) (σ : xS) : Option (Int32 × xS) :=
  (f_RH_takeSettings_0  σ).bind fun q1 =>
  let σ2 := x_pI q1.2 49 2 v1
  (f_RH_sharpAsTried_0  σ2).bind fun q3 =>
  some (q3.1, q3.2)
set_option maxHeartbeats 4000000 in
set_option maxRecDepth 100000 in
theorem c_RH_sharpLate_0 {l : Launch} {s0 : State} {a0 : Array Value} {D : va_G} {cA : Nat → ClassId} {sp : Nat → Nat} (E : x_En CL l s0 a0 D cA sp) (v1 : Int32) {σ : xS} {r : Int32} {σ1 : xS} (h : f_RH_sharpLate_0 v1 σ = some (r, σ1)) : zC l s0 D cA sp 7 M_RH_sharpLate [.ref 0, .int v1] σ (some (.int r)) σ1 := by
  unfold f_RH_sharpLate_0 at h
  try dsimp only at h
  refine x_enter [some (.ref 0), some (.int v1)] rfl (Nat.le_of_ble_eq_true rfl) (by decide +kernel) rfl ?_
  refine x_aload_n 1 rfl 0 dX8_sharpLate_0 rfl rfl ?_
  obtain ⟨⟨q1r, q1s⟩, q1h, h⟩ := x_bind h
  try dsimp only at h
  refine z_callV E [] [] dX8_sharpLate_1 K_RX8_187 ⟨Nat.le_of_ble_eq_true rfl, Nat.le_of_ble_eq_true rfl⟩ sh_0 (by decide) rfl (c_RH_takeSettings_0 E  q1h) rfl rfl (Nat.le_of_ble_eq_true rfl) 4 rfl [] rfl ?_
  refine x_aload_n 5 rfl 0 dX8_sharpLate_4 rfl rfl ?_
  refine x_getR E dX8_sharpLate_5 F_RX8_51 sh_0 rf_0_8 8 rfl ?_
  refine x_iload_n 9 rfl 1 dX8_sharpLate_8 rfl rfl ?_
  refine x_putI E dX8_sharpLate_9 F_RX8_304 sh_49 12 rfl ?_
  refine x_aload_n 13 rfl 0 dX8_sharpLate_12 rfl rfl ?_
  obtain ⟨⟨q3r, q3s⟩, q3h, h⟩ := x_bind h
  try dsimp only at h
  refine z_callV E [] [] dX8_sharpLate_13 K_RX8_276 ⟨Nat.le_of_ble_eq_true rfl, Nat.le_of_ble_eq_true rfl⟩ sh_0 (by decide) rfl (c_RH_sharpAsTried_0 E  q3h) rfl rfl (Nat.le_of_ble_eq_true rfl) 16 rfl [.int _] rfl ?_
  cases h
  exact x_iret dX8_sharpLate_16 rfl rfl rfl
theorem KX_RX8_293 : x_KN2 RX8 130 293 134 (x_Xn 2) "nothing such of TAKES" := ⟨by decide +kernel, (List.mem_append_right _ (List.mem_of_getElem? (i := 881) (by decide +kernel))), (List.mem_append_right _ (List.mem_of_getElem? (i := 22) (by decide +kernel))), (List.mem_append_right _ (List.mem_of_getElem? (i := 1076) (by decide +kernel))), (List.mem_of_getElem? (i := 736) (by decide +kernel)), AX_134, AO_130_134⟩
theorem KX_RX8_295 : x_KX RX8 85 295 89 (x_Xn 1) "not so many TAKES or tenths" := ⟨by decide +kernel, (List.mem_append_right _ (List.mem_of_getElem? (i := 544) (by decide +kernel))), (List.mem_append_right _ (List.mem_of_getElem? (i := 13) (by decide +kernel))), (List.mem_append_right _ (List.mem_of_getElem? (i := 1077) (by decide +kernel))), (List.mem_of_getElem? (i := 761) (by decide +kernel)), AX_89, AO_85_89⟩
theorem K_RX8_298 : x_KV RX8 298 M_RH_sharpLate 1 := ⟨⟨(List.mem_append_right _ (List.mem_of_getElem? (i := 1079) (by decide +kernel))), (List.mem_append_right _ (List.mem_of_getElem? (i := 1082) (by decide +kernel))), (List.mem_append_right _ (List.mem_of_getElem? (i := 1) (by decide +kernel))), ⟨by decide +kernel, by decide +kernel⟩, by decide +kernel⟩, (List.mem_append_right _ (List.mem_of_getElem? (i := 1081) (by decide +kernel))), (List.mem_append_left _ (List.mem_of_getElem? (i := 46) (by decide +kernel)))⟩
theorem K_RX8_301 : x_KM RX8 301 Lib.Math.min.name Lib.Math.min.code 2 := ⟨(List.mem_append_right _ (List.mem_of_getElem? (i := 1083) (by decide +kernel))), (List.mem_append_right _ (List.mem_of_getElem? (i := 461) (by decide +kernel))), (List.mem_append_right _ (List.mem_of_getElem? (i := 14) (by decide +kernel))), (List.mem_append_right _ (List.mem_of_getElem? (i := 462) (by decide +kernel)))⟩
abbrev M_RH_takes : xM := (yX8_takes, cX8_takes, 12, some .int, [])
theorem dX8_takes_0 : decode cX8_takes 0 = .ok (.iload 5, 2) := by decide +kernel
theorem dX8_takes_2 : decode cX8_takes 2 = .ok (.ifCond .lt 9, 3) := by decide +kernel
theorem dX8_takes_5 : decode cX8_takes 5 = .ok (.iload 5, 2) := by decide +kernel
theorem dX8_takes_7 : decode cX8_takes 7 = .ok (.iconst 2, 1) := by decide +kernel
theorem dX8_takes_8 : decode cX8_takes 8 = .ok (.if_icmp .le 14, 3) := by decide +kernel
theorem dX8_takes_11 : decode cX8_takes 11 = .ok (.new 130, 3) := by decide +kernel
theorem dX8_takes_14 : decode cX8_takes 14 = .ok (.dup, 1) := by decide +kernel
theorem dX8_takes_15 : decode cX8_takes 15 = .ok (.ldc_w 293, 3) := by decide +kernel
theorem dX8_takes_18 : decode cX8_takes 18 = .ok (.invokespecial 134, 3) := by decide +kernel
theorem dX8_takes_21 : decode cX8_takes 21 = .ok (.athrow, 1) := by decide +kernel
theorem dX8_takes_22 : decode cX8_takes 22 = .ok (.iload_n 2, 1) := by decide +kernel
theorem dX8_takes_23 : decode cX8_takes 23 = .ok (.ifCond .lt 33, 3) := by decide +kernel
theorem dX8_takes_26 : decode cX8_takes 26 = .ok (.iload_n 2, 1) := by decide +kernel
theorem dX8_takes_27 : decode cX8_takes 27 = .ok (.bipush 40, 2) := by decide +kernel
theorem dX8_takes_29 : decode cX8_takes 29 = .ok (.if_icmp .gt 27, 3) := by decide +kernel
theorem dX8_takes_32 : decode cX8_takes 32 = .ok (.iload_n 3, 1) := by decide +kernel
theorem dX8_takes_33 : decode cX8_takes 33 = .ok (.iconst 1, 1) := by decide +kernel
theorem dX8_takes_34 : decode cX8_takes 34 = .ok (.if_icmp .lt 22, 3) := by decide +kernel
theorem dX8_takes_37 : decode cX8_takes 37 = .ok (.iload_n 3, 1) := by decide +kernel
theorem dX8_takes_38 : decode cX8_takes 38 = .ok (.bipush 30, 2) := by decide +kernel
theorem dX8_takes_40 : decode cX8_takes 40 = .ok (.if_icmp .gt 16, 3) := by decide +kernel
theorem dX8_takes_43 : decode cX8_takes 43 = .ok (.iload 4, 2) := by decide +kernel
theorem dX8_takes_45 : decode cX8_takes 45 = .ok (.ifCond .lt 11, 3) := by decide +kernel
theorem dX8_takes_48 : decode cX8_takes 48 = .ok (.iload 4, 2) := by decide +kernel
theorem dX8_takes_50 : decode cX8_takes 50 = .ok (.sipush 601, 3) := by decide +kernel
theorem dX8_takes_53 : decode cX8_takes 53 = .ok (.if_icmp .le 14, 3) := by decide +kernel
theorem dX8_takes_56 : decode cX8_takes 56 = .ok (.new 85, 3) := by decide +kernel
theorem dX8_takes_59 : decode cX8_takes 59 = .ok (.dup, 1) := by decide +kernel
theorem dX8_takes_60 : decode cX8_takes 60 = .ok (.ldc_w 295, 3) := by decide +kernel
theorem dX8_takes_63 : decode cX8_takes 63 = .ok (.invokespecial 89, 3) := by decide +kernel
theorem dX8_takes_66 : decode cX8_takes 66 = .ok (.athrow, 1) := by decide +kernel
theorem dX8_takes_67 : decode cX8_takes 67 = .ok (.iload_n 1, 1) := by decide +kernel
theorem dX8_takes_68 : decode cX8_takes 68 = .ok (.istore 6, 2) := by decide +kernel
theorem dX8_takes_70 : decode cX8_takes 70 = .ok (.iconst 0, 1) := by decide +kernel
theorem dX8_takes_71 : decode cX8_takes 71 = .ok (.istore 7, 2) := by decide +kernel
theorem dX8_takes_73 : decode cX8_takes 73 = .ok (.iconst 0, 1) := by decide +kernel
theorem dX8_takes_74 : decode cX8_takes 74 = .ok (.istore 8, 2) := by decide +kernel
theorem dX8_takes_76 : decode cX8_takes 76 = .ok (.iconst 0, 1) := by decide +kernel
theorem dX8_takes_77 : decode cX8_takes 77 = .ok (.istore 9, 2) := by decide +kernel
theorem dX8_takes_79 : decode cX8_takes 79 = .ok (.iconst 0, 1) := by decide +kernel
theorem dX8_takes_80 : decode cX8_takes 80 = .ok (.istore 10, 2) := by decide +kernel
theorem dX8_takes_82 : decode cX8_takes 82 = .ok (.iload 10, 2) := by decide +kernel
theorem dX8_takes_84 : decode cX8_takes 84 = .ok (.iload_n 2, 1) := by decide +kernel
theorem dX8_takes_85 : decode cX8_takes 85 = .ok (.if_icmp .ge 81, 3) := by decide +kernel
theorem dX8_takes_88 : decode cX8_takes 88 = .ok (.iload 6, 2) := by decide +kernel
theorem dX8_takes_90 : decode cX8_takes 90 = .ok (.ldc_w 297, 3) := by decide +kernel
theorem dX8_takes_93 : decode cX8_takes 93 = .ok (.imul, 1) := by decide +kernel
theorem dX8_takes_94 : decode cX8_takes 94 = .ok (.sipush 12345, 3) := by decide +kernel
theorem dX8_takes_97 : decode cX8_takes 97 = .ok (.iadd, 1) := by decide +kernel
theorem dX8_takes_98 : decode cX8_takes 98 = .ok (.istore 6, 2) := by decide +kernel
theorem dX8_takes_100 : decode cX8_takes 100 = .ok (.aload_n 0, 1) := by decide +kernel
theorem dX8_takes_101 : decode cX8_takes 101 = .ok (.iload 6, 2) := by decide +kernel
theorem dX8_takes_103 : decode cX8_takes 103 = .ok (.bipush 16, 2) := by decide +kernel
theorem dX8_takes_105 : decode cX8_takes 105 = .ok (.iushr, 1) := by decide +kernel
theorem dX8_takes_106 : decode cX8_takes 106 = .ok (.sipush 32767, 3) := by decide +kernel
theorem dX8_takes_109 : decode cX8_takes 109 = .ok (.iand, 1) := by decide +kernel
theorem dX8_takes_110 : decode cX8_takes 110 = .ok (.iload_n 3, 1) := by decide +kernel
theorem dX8_takes_111 : decode cX8_takes 111 = .ok (.irem, 1) := by decide +kernel
theorem dX8_takes_112 : decode cX8_takes 112 = .ok (.invokevirtual 298, 3) := by decide +kernel
theorem dX8_takes_115 : decode cX8_takes 115 = .ok (.istore 11, 2) := by decide +kernel
theorem dX8_takes_117 : decode cX8_takes 117 = .ok (.iload 7, 2) := by decide +kernel
theorem dX8_takes_119 : decode cX8_takes 119 = .ok (.iload 11, 2) := by decide +kernel
theorem dX8_takes_121 : decode cX8_takes 121 = .ok (.iload 4, 2) := by decide +kernel
theorem dX8_takes_123 : decode cX8_takes 123 = .ok (.if_icmp .lt 7, 3) := by decide +kernel
theorem dX8_takes_126 : decode cX8_takes 126 = .ok (.iconst 1, 1) := by decide +kernel
theorem dX8_takes_127 : decode cX8_takes 127 = .ok (.goto 4, 3) := by decide +kernel
theorem dX8_takes_130 : decode cX8_takes 130 = .ok (.iconst 0, 1) := by decide +kernel
theorem dX8_takes_131 : decode cX8_takes 131 = .ok (.iadd, 1) := by decide +kernel
theorem dX8_takes_132 : decode cX8_takes 132 = .ok (.istore 7, 2) := by decide +kernel
theorem dX8_takes_134 : decode cX8_takes 134 = .ok (.iload 8, 2) := by decide +kernel
theorem dX8_takes_136 : decode cX8_takes 136 = .ok (.iload 11, 2) := by decide +kernel
theorem dX8_takes_138 : decode cX8_takes 138 = .ok (.iadd, 1) := by decide +kernel
theorem dX8_takes_139 : decode cX8_takes 139 = .ok (.istore 8, 2) := by decide +kernel
theorem dX8_takes_141 : decode cX8_takes 141 = .ok (.iload 10, 2) := by decide +kernel
theorem dX8_takes_143 : decode cX8_takes 143 = .ok (.ifCond .ne 8, 3) := by decide +kernel
theorem dX8_takes_146 : decode cX8_takes 146 = .ok (.iload 11, 2) := by decide +kernel
theorem dX8_takes_148 : decode cX8_takes 148 = .ok (.goto 10, 3) := by decide +kernel
theorem dX8_takes_151 : decode cX8_takes 151 = .ok (.iload 9, 2) := by decide +kernel
theorem dX8_takes_153 : decode cX8_takes 153 = .ok (.iload 11, 2) := by decide +kernel
theorem dX8_takes_155 : decode cX8_takes 155 = .ok (.invokestatic 301, 3) := by decide +kernel
theorem dX8_takes_158 : decode cX8_takes 158 = .ok (.istore 9, 2) := by decide +kernel
theorem dX8_takes_160 : decode cX8_takes 160 = .ok (.iinc 10 1, 3) := by decide +kernel
theorem dX8_takes_163 : decode cX8_takes 163 = .ok (.goto (-81), 3) := by decide +kernel
theorem dX8_takes_166 : decode cX8_takes 166 = .ok (.iload 5, 2) := by decide +kernel
theorem dX8_takes_168 : decode cX8_takes 168 = .ok (.lookupswitch 34 #[(0, 28), (1, 31)], 28) := by decide +kernel
theorem dX8_takes_196 : decode cX8_takes 196 = .ok (.iload 7, 2) := by decide +kernel
theorem dX8_takes_198 : decode cX8_takes 198 = .ok (.ireturn, 1) := by decide +kernel
theorem dX8_takes_199 : decode cX8_takes 199 = .ok (.iload 8, 2) := by decide +kernel
theorem dX8_takes_201 : decode cX8_takes 201 = .ok (.ireturn, 1) := by decide +kernel
theorem dX8_takes_202 : decode cX8_takes 202 = .ok (.iload 9, 2) := by decide +kernel
theorem dX8_takes_204 : decode cX8_takes 204 = .ok (.ireturn, 1) := by decide +kernel
def f_RH_takes_0_J131 (v2 : Int32) (v3 : Int32) (v4 : Int32) (v5 : Int32) (v6 : Int32) (v8 : Int32) (v9 : Int32) (v10 : Int32) (v11 : Int32) (y0 : Int32) (y1 : Int32) (σ : xS) : Option ((Int32 × Int32 × Int32 × Int32 × Int32 × xS) ⊕ (Int32 × Int32 × Int32 × Int32 × Int32 × xS)) :=
  let w1 := (y0 + y1)
  let w2 := (v8 + v11)
  if v10 = 0 then
    let w5 := v10 + (1 : Int32)
    some (.inr (v6, w1, w2, v11, w5, σ))
  else
    let w3 := (if v11 < v9 then v11 else v9)
    let w4 := v10 + (1 : Int32)
    some (.inr (v6, w1, w2, w3, w4, σ))
def f_RH_takes_0_L82 (v2 : Int32) (v3 : Int32) (v4 : Int32) (v5 : Int32) (a : Int32 × Int32 × Int32 × Int32 × Int32 × xS) : Option ((Int32 × Int32 × Int32 × Int32 × Int32 × xS) ⊕ (Int32 × Int32 × Int32 × Int32 × Int32 × xS)) :=
  let v6 := a.1; let v7 := a.2.1; let v8 := a.2.2.1; let v9 := a.2.2.2.1; let v10 := a.2.2.2.2.1; let σ := a.2.2.2.2.2;
  if v2 ≤ v10 then
    some (.inl (v6, v7, v8, v9, v10, σ))
  else
    let w6 := ((v6 * (1103515245 : Int32)) + (12345 : Int32))
    if v3 = 0 then none else
    (f_RH_sharpLate_0 (((w6.toUInt32 >>> ((16 : Int32).toUInt32 &&& Int32.toUInt32 31)).toInt32 &&& (32767 : Int32)) - ((w6.toUInt32 >>> ((16 : Int32).toUInt32 &&& Int32.toUInt32 31)).toInt32 &&& (32767 : Int32)) / v3 * v3) σ).bind fun q7 =>
    let w8 := q7.1
    if w8 < v4 then
      f_RH_takes_0_J131 v2 v3 v4 v5 w6 v8 v9 v10 w8 v7 (0 : Int32) q7.2
    else
      f_RH_takes_0_J131 v2 v3 v4 v5 w6 v8 v9 v10 w8 v7 (1 : Int32) q7.2
def f_RH_takes_0 (v1 : Int32) (v2 : Int32) (v3 : Int32) (v4 : Int32) (v5 : Int32) (σ : xS) : Option ((Int32 ⊕ Nat) × xS) :=
  if v5 < 0 then
    some (.inr 2, σ)
  else
    if v5 ≤ (2 : Int32) then
      if v2 < 0 then
        some (.inr 1, σ)
      else
        if (40 : Int32) < v2 then
          some (.inr 1, σ)
        else
          if v3 < (1 : Int32) then
            some (.inr 1, σ)
          else
            if (30 : Int32) < v3 then
              some (.inr 1, σ)
            else
              if v4 < 0 then
                some (.inr 1, σ)
              else
                if v4 ≤ (601 : Int32) then
                  (x_it (f_RH_takes_0_L82 v2 v3 v4 v5) 10000 (v1, (0 : Int32), (0 : Int32), (0 : Int32), (0 : Int32), σ)).bind fun b9 =>
                  if v5 = (0 : Int32) then
                    some (.inl b9.2.1, b9.2.2.2.2.2)
                  else if v5 = (1 : Int32) then
                    some (.inl b9.2.2.1, b9.2.2.2.2.2)
                  else 
                    some (.inl b9.2.2.2.1, b9.2.2.2.2.2)
                else
                  some (.inr 1, σ)
    else
      some (.inr 2, σ)
set_option maxHeartbeats 4000000 in
set_option maxRecDepth 100000 in
theorem j_RH_takes_0_J131 {l : Launch} {s0 : State} {a0 : Array Value} {D : va_G} {cA : Nat → ClassId} {sp : Nat → Nat} (E : x_En CL l s0 a0 D cA sp) (v2 : Int32) (v3 : Int32) (v4 : Int32) (v5 : Int32) (v6 : Int32) (v8 : Int32) (v9 : Int32) (v10 : Int32) (v11 : Int32) (y0 : Int32) (y1 : Int32)  (σ : xS) {r : Int32 ⊕ Nat} {σ1 : xS} (o : (Int32 × Int32 × Int32 × Int32 × Int32 × xS) ⊕ (Int32 × Int32 × Int32 × Int32 × Int32 × xS)) (h : f_RH_takes_0_J131 v2 v3 v4 v5 v6 v8 v9 v10 v11 y0 y1 σ = some o) (hK : ∀ b, o = .inl b → zW l s0 D cA sp (oQ s0 D cA sp (x_oi r) σ1) (x_rm 8 1 6) M_RH_takes 1 6 166 [none, none, none, none, none, some (.int v5), none, some (.int b.2.1), some (.int b.2.2.1), some (.int b.2.2.2.1), none, none] [] b.2.2.2.2.2) (hG : ∀ a', o = .inr a' → zW l s0 D cA sp (oQ s0 D cA sp (x_oi r) σ1) (x_rm 8 1 6) M_RH_takes 1 6 82 [some (.ref 0), none, some (.int v2), some (.int v3), some (.int v4), some (.int v5), some (.int a'.1), some (.int a'.2.1), some (.int a'.2.2.1), some (.int a'.2.2.2.1), some (.int a'.2.2.2.2.1), none] [] a'.2.2.2.2.2) : zW l s0 D cA sp (oQ s0 D cA sp (x_oi r) σ1) (x_rm 8 1 6) M_RH_takes 1 6 131 [some (.ref 0), none, some (.int v2), some (.int v3), some (.int v4), some (.int v5), some (.int v6), none, some (.int v8), some (.int v9), some (.int v10), some (.int v11)] [.int y1, .int y0] σ := by
  unfold f_RH_takes_0_J131 at h
  try dsimp only at h
  refine x_iadd 132 rfl dX8_takes_131 ?_
  refine x_istore 134 rfl dX8_takes_132 (by decide) [some (.ref 0), none, some (.int _), some (.int _), some (.int _), some (.int _), some (.int _), some (.int _), some (.int _), some (.int _), some (.int _), some (.int _)] rfl ?_
  refine x_iload 136 rfl dX8_takes_134 rfl ?_
  refine x_iload 138 rfl dX8_takes_136 rfl ?_
  refine x_iadd 139 rfl dX8_takes_138 ?_
  refine x_istore 141 rfl dX8_takes_139 (by decide) [some (.ref 0), none, some (.int _), some (.int _), some (.int _), some (.int _), some (.int _), some (.int _), some (.int _), some (.int _), some (.int _), some (.int _)] rfl ?_
  refine x_iload 143 rfl dX8_takes_141 rfl ?_
  refine x_if_ne 146 rfl 151 dX8_takes_143 (by decide) (fun hc => ?_) (fun hc => ?_)
  · replace h := x_ifF hc h
    refine x_iload 153 rfl dX8_takes_151 rfl ?_
    refine x_iload 155 rfl dX8_takes_153 rfl ?_
    refine x_mmin E dX8_takes_155 K_RX8_301 (Nat.le_of_ble_eq_true rfl) (Nat.le_of_ble_eq_true rfl) 158 rfl ?_
    refine x_istore 160 rfl dX8_takes_158 (by decide) [some (.ref 0), none, some (.int _), some (.int _), some (.int _), some (.int _), some (.int _), some (.int _), some (.int _), some (.int _), some (.int _), some (.int _)] rfl ?_
    refine x_iinc 163 rfl (1) dX8_takes_160 rfl (by decide) (by decide) [some (.ref 0), none, some (.int _), some (.int _), some (.int _), some (.int _), some (.int _), some (.int _), some (.int _), some (.int _), some (.int _), some (.int _)] rfl ?_
    refine x_goto 82 dX8_takes_163 (by decide) ?_
    cases h
    exact x_wk (x_le_s (x_le_n (x_le_s (x_le_s (x_le_s (x_le_s (x_le_s (x_le_s (x_le_s (x_le_s (x_le_s (x_le_n x_le_0)))))))))))) (hG (_, _, _, _, _, _) rfl)
  · replace h := x_ifT hc h
    refine x_iload 148 rfl dX8_takes_146 rfl ?_
    refine x_goto 158 dX8_takes_148 (by decide) ?_
    refine x_istore 160 rfl dX8_takes_158 (by decide) [some (.ref 0), none, some (.int _), some (.int _), some (.int _), some (.int _), some (.int _), some (.int _), some (.int _), some (.int _), some (.int _), some (.int _)] rfl ?_
    refine x_iinc 163 rfl (1) dX8_takes_160 rfl (by decide) (by decide) [some (.ref 0), none, some (.int _), some (.int _), some (.int _), some (.int _), some (.int _), some (.int _), some (.int _), some (.int _), some (.int _), some (.int _)] rfl ?_
    refine x_goto 82 dX8_takes_163 (by decide) ?_
    cases h
    exact x_wk (x_le_s (x_le_n (x_le_s (x_le_s (x_le_s (x_le_s (x_le_s (x_le_s (x_le_s (x_le_s (x_le_s (x_le_n x_le_0)))))))))))) (hG (_, _, _, _, _, _) rfl)
set_option maxHeartbeats 4000000 in
set_option maxRecDepth 100000 in
theorem b_RH_takes_0_L82 {l : Launch} {s0 : State} {a0 : Array Value} {D : va_G} {cA : Nat → ClassId} {sp : Nat → Nat} (E : x_En CL l s0 a0 D cA sp) (v2 : Int32) (v3 : Int32) (v4 : Int32) (v5 : Int32) {r : Int32 ⊕ Nat} {σ1 : xS} (a : Int32 × Int32 × Int32 × Int32 × Int32 × xS) (o : (Int32 × Int32 × Int32 × Int32 × Int32 × xS) ⊕ (Int32 × Int32 × Int32 × Int32 × Int32 × xS)) (h : f_RH_takes_0_L82 v2 v3 v4 v5 a = some o) (hK : ∀ b, o = .inl b → zW l s0 D cA sp (oQ s0 D cA sp (x_oi r) σ1) (x_rm 8 1 6) M_RH_takes 1 6 166 [none, none, none, none, none, some (.int v5), none, some (.int b.2.1), some (.int b.2.2.1), some (.int b.2.2.2.1), none, none] [] b.2.2.2.2.2) (hG : ∀ a', o = .inr a' → zW l s0 D cA sp (oQ s0 D cA sp (x_oi r) σ1) (x_rm 8 1 6) M_RH_takes 1 6 82 [some (.ref 0), none, some (.int v2), some (.int v3), some (.int v4), some (.int v5), some (.int a'.1), some (.int a'.2.1), some (.int a'.2.2.1), some (.int a'.2.2.2.1), some (.int a'.2.2.2.2.1), none] [] a'.2.2.2.2.2) : zW l s0 D cA sp (oQ s0 D cA sp (x_oi r) σ1) (x_rm 8 1 6) M_RH_takes 1 6 82 [some (.ref 0), none, some (.int v2), some (.int v3), some (.int v4), some (.int v5), some (.int a.1), some (.int a.2.1), some (.int a.2.2.1), some (.int a.2.2.2.1), some (.int a.2.2.2.2.1), none] [] a.2.2.2.2.2 := by
  obtain ⟨v6, v7, v8, v9, v10, σ⟩ := a
  unfold f_RH_takes_0_L82 at h
  try dsimp only at h ⊢
  refine x_iload 84 rfl dX8_takes_82 rfl ?_
  refine x_iload_n 85 rfl 2 dX8_takes_84 rfl rfl ?_
  refine x_icmp_ge 88 rfl 166 dX8_takes_85 (by decide) (fun hc => ?_) (fun hc => ?_)
  · replace h := x_ifT hc h
    cases h
    exact x_wk (x_le_n (x_le_n (x_le_n (x_le_n (x_le_n (x_le_s (x_le_n (x_le_s (x_le_s (x_le_s (x_le_n (x_le_n x_le_0)))))))))))) (hK (_, _, _, _, _, _) rfl)
  · replace h := x_ifF hc h
    refine x_iload 90 rfl dX8_takes_88 rfl ?_
    refine x_ldcw 93 rfl E (v := 1103515245) dX8_takes_90 (List.mem_append_right _ (List.mem_of_getElem? (i := 1078) (by decide +kernel))) ?_
    refine x_imul 94 rfl dX8_takes_93 ?_
    refine x_sipush 97 rfl (v := 12345) dX8_takes_94 (by decide) ?_
    refine x_iadd 98 rfl dX8_takes_97 ?_
    refine x_istore 100 rfl dX8_takes_98 (by decide) [some (.ref 0), none, some (.int _), some (.int _), some (.int _), some (.int _), some (.int _), some (.int _), some (.int _), some (.int _), some (.int _), none] rfl ?_
    refine x_aload_n 101 rfl 0 dX8_takes_100 rfl rfl ?_
    refine x_iload 103 rfl dX8_takes_101 rfl ?_
    refine x_bipush 105 rfl (v := 16) dX8_takes_103 (by decide) ?_
    refine x_iushr 106 rfl dX8_takes_105 ?_
    refine x_sipush 109 rfl (v := 32767) dX8_takes_106 (by decide) ?_
    refine x_iand 110 rfl dX8_takes_109 ?_
    refine x_iload_n 111 rfl 3 dX8_takes_110 rfl rfl ?_
    obtain ⟨hz, h⟩ := x_ifn h
    refine x_irem 112 rfl dX8_takes_111 hz ?_
    obtain ⟨⟨q7r, q7s⟩, q7h, h⟩ := x_bind h
    try dsimp only at h
    refine z_callV E [.int _] [] dX8_takes_112 K_RX8_298 ⟨Nat.le_of_ble_eq_true rfl, Nat.le_of_ble_eq_true rfl⟩ sh_0 (by decide) rfl (c_RH_sharpLate_0 E _ q7h) rfl rfl (Nat.le_of_ble_eq_true rfl) 115 rfl [.int _] rfl ?_
    refine x_istore 117 rfl dX8_takes_115 (by decide) [some (.ref 0), none, some (.int _), some (.int _), some (.int _), some (.int _), some (.int _), some (.int _), some (.int _), some (.int _), some (.int _), some (.int _)] rfl ?_
    refine x_iload 119 rfl dX8_takes_117 rfl ?_
    refine x_iload 121 rfl dX8_takes_119 rfl ?_
    refine x_iload 123 rfl dX8_takes_121 rfl ?_
    refine x_icmp_lt 126 rfl 130 dX8_takes_123 (by decide) (fun hc => ?_) (fun hc => ?_)
    · replace h := x_ifT hc h
      refine x_iconst 131 rfl (v := 0) dX8_takes_130 (by decide) ?_
      exact x_wk (x_le_s (x_le_n (x_le_s (x_le_s (x_le_s (x_le_s (x_le_s (x_le_n (x_le_s (x_le_s (x_le_s (x_le_s x_le_0)))))))))))) (j_RH_takes_0_J131 (r := r) (σ1 := σ1) E _ _ _ _ _ _ _ _ _ _ _  _ _ h hK hG)
    · replace h := x_ifF hc h
      refine x_iconst 127 rfl (v := 1) dX8_takes_126 (by decide) ?_
      refine x_goto 131 dX8_takes_127 (by decide) ?_
      exact x_wk (x_le_s (x_le_n (x_le_s (x_le_s (x_le_s (x_le_s (x_le_s (x_le_n (x_le_s (x_le_s (x_le_s (x_le_s x_le_0)))))))))))) (j_RH_takes_0_J131 (r := r) (σ1 := σ1) E _ _ _ _ _ _ _ _ _ _ _  _ _ h hK hG)
set_option maxHeartbeats 4000000 in
set_option maxRecDepth 100000 in
theorem c_RH_takes_0 {l : Launch} {s0 : State} {a0 : Array Value} {D : va_G} {cA : Nat → ClassId} {sp : Nat → Nat} (E : x_En CL l s0 a0 D cA sp) (v1 : Int32) (v2 : Int32) (v3 : Int32) (v4 : Int32) (v5 : Int32) {σ : xS} {r : Int32 ⊕ Nat} {σ1 : xS} (h : f_RH_takes_0 v1 v2 v3 v4 v5 σ = some (r, σ1)) : oC l s0 D cA sp 8 M_RH_takes [.ref 0, .int v1, .int v2, .int v3, .int v4, .int v5] σ (x_oi r) σ1 := by
  unfold f_RH_takes_0 at h
  try dsimp only at h
  refine x_enterO [some (.ref 0), some (.int v1), some (.int v2), some (.int v3), some (.int v4), some (.int v5), none, none, none, none, none, none] rfl (Nat.le_of_ble_eq_true rfl) (by decide +kernel) rfl ?_
  refine x_iload 2 rfl dX8_takes_0 rfl ?_
  refine x_if_lt 5 rfl 11 dX8_takes_2 (by decide) (fun hc => ?_) (fun hc => ?_)
  · replace h := x_ifT hc h
    cases h
    exact x_throwNW2 E KU_ (k := 2) KX_RX8_293 rfl dX8_takes_11 dX8_takes_14 dX8_takes_15 dX8_takes_18 dX8_takes_21 (Nat.le_of_ble_eq_true rfl)
  · replace h := x_ifF hc h
    refine x_iload 7 rfl dX8_takes_5 rfl ?_
    refine x_iconst 8 rfl (v := 2) dX8_takes_7 (by decide) ?_
    refine x_icmp_le 11 rfl 22 dX8_takes_8 (by decide) (fun hc => ?_) (fun hc => ?_)
    · replace h := x_ifT hc h
      refine x_iload_n 23 rfl 2 dX8_takes_22 rfl rfl ?_
      refine x_if_lt 26 rfl 56 dX8_takes_23 (by decide) (fun hc => ?_) (fun hc => ?_)
      · replace h := x_ifT hc h
        cases h
        exact x_throwW E KU_ (k := 1) KX_RX8_295 rfl dX8_takes_56 dX8_takes_59 dX8_takes_60 dX8_takes_63 dX8_takes_66 (Nat.le_of_ble_eq_true rfl)
      · replace h := x_ifF hc h
        refine x_iload_n 27 rfl 2 dX8_takes_26 rfl rfl ?_
        refine x_bipush 29 rfl (v := 40) dX8_takes_27 (by decide) ?_
        refine x_icmp_gt 32 rfl 56 dX8_takes_29 (by decide) (fun hc => ?_) (fun hc => ?_)
        · replace h := x_ifT hc h
          cases h
          exact x_throwW E KU_ (k := 1) KX_RX8_295 rfl dX8_takes_56 dX8_takes_59 dX8_takes_60 dX8_takes_63 dX8_takes_66 (Nat.le_of_ble_eq_true rfl)
        · replace h := x_ifF hc h
          refine x_iload_n 33 rfl 3 dX8_takes_32 rfl rfl ?_
          refine x_iconst 34 rfl (v := 1) dX8_takes_33 (by decide) ?_
          refine x_icmp_lt 37 rfl 56 dX8_takes_34 (by decide) (fun hc => ?_) (fun hc => ?_)
          · replace h := x_ifT hc h
            cases h
            exact x_throwW E KU_ (k := 1) KX_RX8_295 rfl dX8_takes_56 dX8_takes_59 dX8_takes_60 dX8_takes_63 dX8_takes_66 (Nat.le_of_ble_eq_true rfl)
          · replace h := x_ifF hc h
            refine x_iload_n 38 rfl 3 dX8_takes_37 rfl rfl ?_
            refine x_bipush 40 rfl (v := 30) dX8_takes_38 (by decide) ?_
            refine x_icmp_gt 43 rfl 56 dX8_takes_40 (by decide) (fun hc => ?_) (fun hc => ?_)
            · replace h := x_ifT hc h
              cases h
              exact x_throwW E KU_ (k := 1) KX_RX8_295 rfl dX8_takes_56 dX8_takes_59 dX8_takes_60 dX8_takes_63 dX8_takes_66 (Nat.le_of_ble_eq_true rfl)
            · replace h := x_ifF hc h
              refine x_iload 45 rfl dX8_takes_43 rfl ?_
              refine x_if_lt 48 rfl 56 dX8_takes_45 (by decide) (fun hc => ?_) (fun hc => ?_)
              · replace h := x_ifT hc h
                cases h
                exact x_throwW E KU_ (k := 1) KX_RX8_295 rfl dX8_takes_56 dX8_takes_59 dX8_takes_60 dX8_takes_63 dX8_takes_66 (Nat.le_of_ble_eq_true rfl)
              · replace h := x_ifF hc h
                refine x_iload 50 rfl dX8_takes_48 rfl ?_
                refine x_sipush 53 rfl (v := 601) dX8_takes_50 (by decide) ?_
                refine x_icmp_le 56 rfl 67 dX8_takes_53 (by decide) (fun hc => ?_) (fun hc => ?_)
                · replace h := x_ifT hc h
                  refine x_iload_n 68 rfl 1 dX8_takes_67 rfl rfl ?_
                  refine x_istore 70 rfl dX8_takes_68 (by decide) [some (.ref 0), some (.int _), some (.int _), some (.int _), some (.int _), some (.int _), some (.int _), none, none, none, none, none] rfl ?_
                  refine x_iconst 71 rfl (v := 0) dX8_takes_70 (by decide) ?_
                  refine x_istore 73 rfl dX8_takes_71 (by decide) [some (.ref 0), some (.int _), some (.int _), some (.int _), some (.int _), some (.int _), some (.int _), some (.int _), none, none, none, none] rfl ?_
                  refine x_iconst 74 rfl (v := 0) dX8_takes_73 (by decide) ?_
                  refine x_istore 76 rfl dX8_takes_74 (by decide) [some (.ref 0), some (.int _), some (.int _), some (.int _), some (.int _), some (.int _), some (.int _), some (.int _), some (.int _), none, none, none] rfl ?_
                  refine x_iconst 77 rfl (v := 0) dX8_takes_76 (by decide) ?_
                  refine x_istore 79 rfl dX8_takes_77 (by decide) [some (.ref 0), some (.int _), some (.int _), some (.int _), some (.int _), some (.int _), some (.int _), some (.int _), some (.int _), some (.int _), none, none] rfl ?_
                  refine x_iconst 80 rfl (v := 0) dX8_takes_79 (by decide) ?_
                  refine x_istore 82 rfl dX8_takes_80 (by decide) [some (.ref 0), some (.int _), some (.int _), some (.int _), some (.int _), some (.int _), some (.int _), some (.int _), some (.int _), some (.int _), some (.int _), none] rfl ?_
                  obtain ⟨b9, b9h, h⟩ := x_bind h
                  try dsimp only at h
                  refine x_wk (x_le_s (x_le_n (x_le_s (x_le_s (x_le_s (x_le_s (x_le_s (x_le_s (x_le_s (x_le_s (x_le_s (x_le_n x_le_0)))))))))))) (x_loop (fun a o h hK hG => b_RH_takes_0_L82 (r := r) (σ1 := σ1) E _ _ _ _ a o h hK hG) _ _ _ b9h ?_)
                  refine x_iload 168 rfl dX8_takes_166 rfl ?_
                  refine x_case (0) (fun hc0 => ?_) (fun hc0 => ?_)
                  · replace h := x_ifT hc0 h
                    refine x_look (off := 28) 196 dX8_takes_168 (by decide +kernel) (by rw [hc0]; decide +kernel) (by decide) ?_
                    refine x_iload 198 rfl dX8_takes_196 rfl ?_
                    cases h
                    exact x_Oret (x_iret dX8_takes_198 rfl rfl rfl)
                  replace h := x_ifF hc0 h
                  refine x_case (1) (fun hc1 => ?_) (fun hc1 => ?_)
                  · replace h := x_ifT hc1 h
                    refine x_look (off := 31) 199 dX8_takes_168 (by decide +kernel) (by rw [hc1]; decide +kernel) (by decide) ?_
                    refine x_iload 201 rfl dX8_takes_199 rfl ?_
                    cases h
                    exact x_Oret (x_iret dX8_takes_201 rfl rfl rfl)
                  replace h := x_ifF hc1 h
                  refine x_look (off := 34) 202 dX8_takes_168 (by decide +kernel) (by have g0 := x_toNe hc0 (k := 0) (by decide); have g1 := x_toNe hc1 (k := 1) (by decide); simp [Op.lookupswitch.offset, g0, g1, g0.symm, g1.symm]) (by decide) ?_
                  refine x_iload 204 rfl dX8_takes_202 rfl ?_
                  cases h
                  exact x_Oret (x_iret dX8_takes_204 rfl rfl rfl)
                · replace h := x_ifF hc h
                  cases h
                  exact x_throwW E KU_ (k := 1) KX_RX8_295 rfl dX8_takes_56 dX8_takes_59 dX8_takes_60 dX8_takes_63 dX8_takes_66 (Nat.le_of_ble_eq_true rfl)
    · replace h := x_ifF hc h
      cases h
      exact x_throwNW2 E KU_ (k := 2) KX_RX8_293 rfl dX8_takes_11 dX8_takes_14 dX8_takes_15 dX8_takes_18 dX8_takes_21 (Nat.le_of_ble_eq_true rfl)
abbrev M_Se_note : xM := (yX5_note, cX5_note, 3, some .boolean, [])
theorem dX5_note_0 : decode cX5_note 0 = .ok (.aload_n 0, 1) := by decide +kernel
theorem dX5_note_1 : decode cX5_note 1 = .ok (.getfield 31, 3) := by decide +kernel
theorem dX5_note_4 : decode cX5_note 4 = .ok (.bipush 8, 2) := by decide +kernel
theorem dX5_note_6 : decode cX5_note 6 = .ok (.if_icmp .lt 5, 3) := by decide +kernel
theorem dX5_note_9 : decode cX5_note 9 = .ok (.iconst 0, 1) := by decide +kernel
theorem dX5_note_10 : decode cX5_note 10 = .ok (.ireturn, 1) := by decide +kernel
theorem dX5_note_11 : decode cX5_note 11 = .ok (.aload_n 0, 1) := by decide +kernel
theorem dX5_note_12 : decode cX5_note 12 = .ok (.getfield 25, 3) := by decide +kernel
theorem dX5_note_15 : decode cX5_note 15 = .ok (.aload_n 0, 1) := by decide +kernel
theorem dX5_note_16 : decode cX5_note 16 = .ok (.getfield 31, 3) := by decide +kernel
theorem dX5_note_19 : decode cX5_note 19 = .ok (.iload_n 1, 1) := by decide +kernel
theorem dX5_note_20 : decode cX5_note 20 = .ok (.iastore, 1) := by decide +kernel
theorem dX5_note_21 : decode cX5_note 21 = .ok (.aload_n 0, 1) := by decide +kernel
theorem dX5_note_22 : decode cX5_note 22 = .ok (.getfield 28, 3) := by decide +kernel
theorem dX5_note_25 : decode cX5_note 25 = .ok (.aload_n 0, 1) := by decide +kernel
theorem dX5_note_26 : decode cX5_note 26 = .ok (.getfield 31, 3) := by decide +kernel
theorem dX5_note_29 : decode cX5_note 29 = .ok (.iload_n 2, 1) := by decide +kernel
theorem dX5_note_30 : decode cX5_note 30 = .ok (.ifCond .eq 7, 3) := by decide +kernel
theorem dX5_note_33 : decode cX5_note 33 = .ok (.iconst 1, 1) := by decide +kernel
theorem dX5_note_34 : decode cX5_note 34 = .ok (.goto 4, 3) := by decide +kernel
theorem dX5_note_37 : decode cX5_note 37 = .ok (.iconst 0, 1) := by decide +kernel
theorem dX5_note_38 : decode cX5_note 38 = .ok (.iastore, 1) := by decide +kernel
theorem dX5_note_39 : decode cX5_note 39 = .ok (.aload_n 0, 1) := by decide +kernel
theorem dX5_note_40 : decode cX5_note 40 = .ok (.dup, 1) := by decide +kernel
theorem dX5_note_41 : decode cX5_note 41 = .ok (.getfield 31, 3) := by decide +kernel
theorem dX5_note_44 : decode cX5_note 44 = .ok (.iconst 1, 1) := by decide +kernel
theorem dX5_note_45 : decode cX5_note 45 = .ok (.iadd, 1) := by decide +kernel
theorem dX5_note_46 : decode cX5_note 46 = .ok (.putfield 31, 3) := by decide +kernel
theorem dX5_note_49 : decode cX5_note 49 = .ok (.iconst 1, 1) := by decide +kernel
theorem dX5_note_50 : decode cX5_note 50 = .ok (.ireturn, 1) := by decide +kernel
def f_Se_note_35 (v1 : Int32) (v2 : Int32) (σ : xS) : Option (Int32 × xS) :=
  if σ.1 35 6 < (8 : Int32) then
    if σ.1 35 6 < 0 ∨ 8 ≤ (σ.1 35 6).toNatClampNeg then none else
    let σ1 := x_pI σ 39 (σ.1 35 6).toNatClampNeg v1
    if v2 = 0 then
      if σ1.1 35 6 < 0 ∨ 8 ≤ (σ1.1 35 6).toNatClampNeg then none else
      let σ2 := x_pI σ1 40 (σ1.1 35 6).toNatClampNeg (0 : Int32)
      let σ3 := x_pI σ2 35 6 (σ2.1 35 6 + (1 : Int32))
      some ((1 : Int32), σ3)
    else
      if σ1.1 35 6 < 0 ∨ 8 ≤ (σ1.1 35 6).toNatClampNeg then none else
      let σ4 := x_pI σ1 40 (σ1.1 35 6).toNatClampNeg (1 : Int32)
      let σ5 := x_pI σ4 35 6 (σ4.1 35 6 + (1 : Int32))
      some ((1 : Int32), σ5)
  else
    some ((0 : Int32), σ)
set_option maxHeartbeats 4000000 in
set_option maxRecDepth 100000 in
theorem c_Se_note_35 {l : Launch} {s0 : State} {a0 : Array Value} {D : va_G} {cA : Nat → ClassId} {sp : Nat → Nat} (E : x_En CL l s0 a0 D cA sp) (v1 : Int32) (v2 : Int32) {σ : xS} {r : Int32} {σ1 : xS} (h : f_Se_note_35 v1 v2 σ = some (r, σ1)) : zC l s0 D cA sp 0 M_Se_note [.ref 35, .int v1, .int v2] σ (some (.int r)) σ1 := by
  unfold f_Se_note_35 at h
  try dsimp only at h
  refine x_enter [some (.ref 35), some (.int v1), some (.int v2)] rfl (Nat.le_of_ble_eq_true rfl) (by decide +kernel) rfl ?_
  refine x_aload_n 1 rfl 0 dX5_note_0 rfl rfl ?_
  refine x_getI E dX5_note_1 F_RX5_31 sh_35 4 rfl ?_
  refine x_bipush 6 rfl (v := 8) dX5_note_4 (by decide) ?_
  refine x_icmp_lt 9 rfl 11 dX5_note_6 (by decide) (fun hc => ?_) (fun hc => ?_)
  · replace h := x_ifT hc h
    refine x_aload_n 12 rfl 0 dX5_note_11 rfl rfl ?_
    refine x_getR E dX5_note_12 F_RX5_25 sh_35 rf_35_4 15 rfl ?_
    refine x_aload_n 16 rfl 0 dX5_note_15 rfl rfl ?_
    refine x_getI E dX5_note_16 F_RX5_31 sh_35 19 rfl ?_
    refine x_iload_n 20 rfl 1 dX5_note_19 rfl rfl ?_
    obtain ⟨hz, h⟩ := x_ifn h
    refine x_iast E dX5_note_20 sh_39 _ rfl hz 21 rfl ?_
    refine x_aload_n 22 rfl 0 dX5_note_21 rfl rfl ?_
    refine x_getR E dX5_note_22 F_RX5_28 sh_35 rf_35_5 25 rfl ?_
    refine x_aload_n 26 rfl 0 dX5_note_25 rfl rfl ?_
    refine x_getI E dX5_note_26 F_RX5_31 sh_35 29 rfl ?_
    refine x_iload_n 30 rfl 2 dX5_note_29 rfl rfl ?_
    refine x_if_eq 33 rfl 37 dX5_note_30 (by decide) (fun hc => ?_) (fun hc => ?_)
    · replace h := x_ifT hc h
      refine x_iconst 38 rfl (v := 0) dX5_note_37 (by decide) ?_
      obtain ⟨hz, h⟩ := x_ifn h
      refine x_iast E dX5_note_38 sh_40 _ rfl hz 39 rfl ?_
      refine x_aload_n 40 rfl 0 dX5_note_39 rfl rfl ?_
      refine x_dup 41 rfl dX5_note_40 rfl ?_
      refine x_getI E dX5_note_41 F_RX5_31 sh_35 44 rfl ?_
      refine x_iconst 45 rfl (v := 1) dX5_note_44 (by decide) ?_
      refine x_iadd 46 rfl dX5_note_45 ?_
      refine x_putI E dX5_note_46 F_RX5_31 sh_35 49 rfl ?_
      refine x_iconst 50 rfl (v := 1) dX5_note_49 (by decide) ?_
      cases h
      exact x_zret (Or.inr rfl) dX5_note_50 rfl rfl rfl
    · replace h := x_ifF hc h
      refine x_iconst 34 rfl (v := 1) dX5_note_33 (by decide) ?_
      refine x_goto 38 dX5_note_34 (by decide) ?_
      obtain ⟨hz, h⟩ := x_ifn h
      refine x_iast E dX5_note_38 sh_40 _ rfl hz 39 rfl ?_
      refine x_aload_n 40 rfl 0 dX5_note_39 rfl rfl ?_
      refine x_dup 41 rfl dX5_note_40 rfl ?_
      refine x_getI E dX5_note_41 F_RX5_31 sh_35 44 rfl ?_
      refine x_iconst 45 rfl (v := 1) dX5_note_44 (by decide) ?_
      refine x_iadd 46 rfl dX5_note_45 ?_
      refine x_putI E dX5_note_46 F_RX5_31 sh_35 49 rfl ?_
      refine x_iconst 50 rfl (v := 1) dX5_note_49 (by decide) ?_
      cases h
      exact x_zret (Or.inr rfl) dX5_note_50 rfl rfl rfl
  · replace h := x_ifF hc h
    refine x_iconst 10 rfl (v := 0) dX5_note_9 (by decide) ?_
    cases h
    exact x_zret (Or.inl rfl) dX5_note_10 rfl rfl rfl
theorem KX_RX8_307 : x_KN2 RX8 130 307 134 (x_Xn 2) "no such tenth" := ⟨by decide +kernel, (List.mem_append_right _ (List.mem_of_getElem? (i := 881) (by decide +kernel))), (List.mem_append_right _ (List.mem_of_getElem? (i := 22) (by decide +kernel))), (List.mem_append_right _ (List.mem_of_getElem? (i := 1091) (by decide +kernel))), (List.mem_of_getElem? (i := 792) (by decide +kernel)), AX_134, AO_130_134⟩
theorem K_RX8_309 : x_KV RX8 309 M_Se_note 2 := ⟨⟨(List.mem_append_right _ (List.mem_of_getElem? (i := 1092) (by decide +kernel))), (List.mem_append_right _ (List.mem_of_getElem? (i := 1095) (by decide +kernel))), (List.mem_append_right _ (List.mem_of_getElem? (i := 5) (by decide +kernel))), ⟨by decide +kernel, by decide +kernel⟩, by decide +kernel⟩, (List.mem_append_right _ (List.mem_of_getElem? (i := 1093) (by decide +kernel))), (List.mem_append_right _ (List.mem_of_getElem? (i := 1094) (by decide +kernel)))⟩
abbrev M_RH_see : xM := (yX8_see, cX8_see, 3, some .int, [])
theorem dX8_see_0 : decode cX8_see 0 = .ok (.aload_n 0, 1) := by decide +kernel
theorem dX8_see_1 : decode cX8_see 1 = .ok (.iload_n 1, 1) := by decide +kernel
theorem dX8_see_2 : decode cX8_see 2 = .ok (.invokevirtual 141, 3) := by decide +kernel
theorem dX8_see_5 : decode cX8_see 5 = .ok (.ifCond .ne 14, 3) := by decide +kernel
theorem dX8_see_8 : decode cX8_see 8 = .ok (.new 130, 3) := by decide +kernel
theorem dX8_see_11 : decode cX8_see 11 = .ok (.dup, 1) := by decide +kernel
theorem dX8_see_12 : decode cX8_see 12 = .ok (.ldc_w 307, 3) := by decide +kernel
theorem dX8_see_15 : decode cX8_see 15 = .ok (.invokespecial 134, 3) := by decide +kernel
theorem dX8_see_18 : decode cX8_see 18 = .ok (.athrow, 1) := by decide +kernel
theorem dX8_see_19 : decode cX8_see 19 = .ok (.aload_n 0, 1) := by decide +kernel
theorem dX8_see_20 : decode cX8_see 20 = .ok (.getfield 37, 3) := by decide +kernel
theorem dX8_see_23 : decode cX8_see 23 = .ok (.iload_n 1, 1) := by decide +kernel
theorem dX8_see_24 : decode cX8_see 24 = .ok (.iload_n 2, 1) := by decide +kernel
theorem dX8_see_25 : decode cX8_see 25 = .ok (.invokevirtual 309, 3) := by decide +kernel
theorem dX8_see_28 : decode cX8_see 28 = .ok (.ifCond .ne 15, 3) := by decide +kernel
theorem dX8_see_31 : decode cX8_see 31 = .ok (.aload_n 0, 1) := by decide +kernel
theorem dX8_see_32 : decode cX8_see 32 = .ok (.getfield 68, 3) := by decide +kernel
theorem dX8_see_35 : decode cX8_see 35 = .ok (.iconst 2, 1) := by decide +kernel
theorem dX8_see_36 : decode cX8_see 36 = .ok (.dup2, 1) := by decide +kernel
theorem dX8_see_37 : decode cX8_see 37 = .ok (.iaload, 1) := by decide +kernel
theorem dX8_see_38 : decode cX8_see 38 = .ok (.iconst 1, 1) := by decide +kernel
theorem dX8_see_39 : decode cX8_see 39 = .ok (.iadd, 1) := by decide +kernel
theorem dX8_see_40 : decode cX8_see 40 = .ok (.iastore, 1) := by decide +kernel
theorem dX8_see_41 : decode cX8_see 41 = .ok (.iconst (-1), 1) := by decide +kernel
theorem dX8_see_42 : decode cX8_see 42 = .ok (.ireturn, 1) := by decide +kernel
theorem dX8_see_43 : decode cX8_see 43 = .ok (.aload_n 0, 1) := by decide +kernel
theorem dX8_see_44 : decode cX8_see 44 = .ok (.getfield 37, 3) := by decide +kernel
theorem dX8_see_47 : decode cX8_see 47 = .ok (.getfield 124, 3) := by decide +kernel
theorem dX8_see_50 : decode cX8_see 50 = .ok (.ireturn, 1) := by decide +kernel
def f_RH_see_0 (v1 : Int32) (v2 : Int32) (σ : xS) : Option ((Int32 ⊕ Nat) × xS) :=
  (f_RH_isTenth_0 v1 σ).bind fun q1 =>
  if q1.1 = 0 then
    some (.inr 2, q1.2)
  else
    (f_Se_note_35 v1 v2 q1.2).bind fun q2 =>
    if q2.1 = 0 then
      let σ3 := x_pI q2.2 59 2 (q2.2.1 59 2 + (1 : Int32))
      some (.inl (-1 : Int32), σ3)
    else
      some (.inl (q2.2.1 35 6), q2.2)
set_option maxHeartbeats 4000000 in
set_option maxRecDepth 100000 in
theorem c_RH_see_0 {l : Launch} {s0 : State} {a0 : Array Value} {D : va_G} {cA : Nat → ClassId} {sp : Nat → Nat} (E : x_En CL l s0 a0 D cA sp) (v1 : Int32) (v2 : Int32) {σ : xS} {r : Int32 ⊕ Nat} {σ1 : xS} (h : f_RH_see_0 v1 v2 σ = some (r, σ1)) : oC l s0 D cA sp 1 M_RH_see [.ref 0, .int v1, .int v2] σ (x_oi r) σ1 := by
  unfold f_RH_see_0 at h
  try dsimp only at h
  refine x_enterO [some (.ref 0), some (.int v1), some (.int v2)] rfl (Nat.le_of_ble_eq_true rfl) (by decide +kernel) rfl ?_
  refine x_aload_n 1 rfl 0 dX8_see_0 rfl rfl ?_
  refine x_iload_n 2 rfl 1 dX8_see_1 rfl rfl ?_
  obtain ⟨⟨q1r, q1s⟩, q1h, h⟩ := x_bind h
  try dsimp only at h
  refine z_callV E [.int _] [] dX8_see_2 K_RX8_141 ⟨Nat.le_of_ble_eq_true rfl, Nat.le_of_ble_eq_true rfl⟩ sh_0 (by decide) rfl (c_RH_isTenth_0 E _ q1h) rfl rfl (Nat.le_of_ble_eq_true rfl) 5 rfl [.int _] rfl ?_
  refine x_if_ne 8 rfl 19 dX8_see_5 (by decide) (fun hc => ?_) (fun hc => ?_)
  · replace h := x_ifF hc h
    refine x_aload_n 20 rfl 0 dX8_see_19 rfl rfl ?_
    refine x_getR E dX8_see_20 F_RX8_37 sh_0 rf_0_5 23 rfl ?_
    refine x_iload_n 24 rfl 1 dX8_see_23 rfl rfl ?_
    refine x_iload_n 25 rfl 2 dX8_see_24 rfl rfl ?_
    obtain ⟨⟨q2r, q2s⟩, q2h, h⟩ := x_bind h
    try dsimp only at h
    refine z_callV E [.int _, .int _] [] dX8_see_25 K_RX8_309 ⟨Nat.le_of_ble_eq_true rfl, Nat.le_of_ble_eq_true rfl⟩ sh_35 (by decide) rfl (c_Se_note_35 E _ _ q2h) rfl rfl (Nat.le_of_ble_eq_true rfl) 28 rfl [.int _] rfl ?_
    refine x_if_ne 31 rfl 43 dX8_see_28 (by decide) (fun hc => ?_) (fun hc => ?_)
    · replace h := x_ifF hc h
      refine x_aload_n 44 rfl 0 dX8_see_43 rfl rfl ?_
      refine x_getR E dX8_see_44 F_RX8_37 sh_0 rf_0_5 47 rfl ?_
      refine x_getI E dX8_see_47 F_RX8_124 sh_35 50 rfl ?_
      cases h
      exact x_Oret (x_iret dX8_see_50 rfl rfl rfl)
    · replace h := x_ifT hc h
      refine x_aload_n 32 rfl 0 dX8_see_31 rfl rfl ?_
      refine x_getR E dX8_see_32 F_RX8_68 sh_0 rf_0_12 35 rfl ?_
      refine x_iconst 36 rfl (v := 2) dX8_see_35 (by decide) ?_
      refine x_dup2 37 rfl dX8_see_36 rfl rfl ?_
      refine x_iald E dX8_see_37 sh_59 2 (by decide) (by decide) 38 rfl ?_
      refine x_iconst 39 rfl (v := 1) dX8_see_38 (by decide) ?_
      refine x_iadd 40 rfl dX8_see_39 ?_
      refine x_iast E dX8_see_40 sh_59 2 (by decide) (by decide) 41 rfl ?_
      refine x_iconst 42 rfl (v := -1) dX8_see_41 (by decide) ?_
      cases h
      exact x_Oret (x_iret dX8_see_42 rfl rfl rfl)
  · replace h := x_ifT hc h
    cases h
    exact x_throwNW2 E KU_ (k := 2) KX_RX8_307 rfl dX8_see_8 dX8_see_11 dX8_see_12 dX8_see_15 dX8_see_18 (Nat.le_of_ble_eq_true rfl)
theorem K_RX5_52 : x_KV RX5 52 M_Tr_isSharp 1 := ⟨⟨(List.mem_append_right _ (List.mem_of_getElem? (i := 1112) (by decide +kernel))), (List.mem_append_right _ (List.mem_of_getElem? (i := 941) (by decide +kernel))), (List.mem_append_right _ (List.mem_of_getElem? (i := 6) (by decide +kernel))), ⟨by decide +kernel, by decide +kernel⟩, by decide +kernel⟩, (List.mem_append_right _ (List.mem_of_getElem? (i := 939) (by decide +kernel))), (List.mem_append_right _ (List.mem_of_getElem? (i := 940) (by decide +kernel)))⟩
abbrev M_Se_isFilmOf : xM := (yX5_isFilmOf, cX5_isFilmOf, 3, some .boolean, [])
theorem dX5_isFilmOf_0 : decode cX5_isFilmOf 0 = .ok (.iconst 0, 1) := by decide +kernel
theorem dX5_isFilmOf_1 : decode cX5_isFilmOf 1 = .ok (.istore_n 2, 1) := by decide +kernel
theorem dX5_isFilmOf_2 : decode cX5_isFilmOf 2 = .ok (.iload_n 2, 1) := by decide +kernel
theorem dX5_isFilmOf_3 : decode cX5_isFilmOf 3 = .ok (.aload_n 0, 1) := by decide +kernel
theorem dX5_isFilmOf_4 : decode cX5_isFilmOf 4 = .ok (.getfield 31, 3) := by decide +kernel
theorem dX5_isFilmOf_7 : decode cX5_isFilmOf 7 = .ok (.if_icmp .ge 45, 3) := by decide +kernel
theorem dX5_isFilmOf_10 : decode cX5_isFilmOf 10 = .ok (.iload_n 2, 1) := by decide +kernel
theorem dX5_isFilmOf_11 : decode cX5_isFilmOf 11 = .ok (.bipush 8, 2) := by decide +kernel
theorem dX5_isFilmOf_13 : decode cX5_isFilmOf 13 = .ok (.if_icmp .ge 39, 3) := by decide +kernel
theorem dX5_isFilmOf_16 : decode cX5_isFilmOf 16 = .ok (.aload_n 1, 1) := by decide +kernel
theorem dX5_isFilmOf_17 : decode cX5_isFilmOf 17 = .ok (.aload_n 0, 1) := by decide +kernel
theorem dX5_isFilmOf_18 : decode cX5_isFilmOf 18 = .ok (.getfield 25, 3) := by decide +kernel
theorem dX5_isFilmOf_21 : decode cX5_isFilmOf 21 = .ok (.iload_n 2, 1) := by decide +kernel
theorem dX5_isFilmOf_22 : decode cX5_isFilmOf 22 = .ok (.iaload, 1) := by decide +kernel
theorem dX5_isFilmOf_23 : decode cX5_isFilmOf 23 = .ok (.invokevirtual 52, 3) := by decide +kernel
theorem dX5_isFilmOf_26 : decode cX5_isFilmOf 26 = .ok (.aload_n 0, 1) := by decide +kernel
theorem dX5_isFilmOf_27 : decode cX5_isFilmOf 27 = .ok (.getfield 28, 3) := by decide +kernel
theorem dX5_isFilmOf_30 : decode cX5_isFilmOf 30 = .ok (.iload_n 2, 1) := by decide +kernel
theorem dX5_isFilmOf_31 : decode cX5_isFilmOf 31 = .ok (.iaload, 1) := by decide +kernel
theorem dX5_isFilmOf_32 : decode cX5_isFilmOf 32 = .ok (.iconst 1, 1) := by decide +kernel
theorem dX5_isFilmOf_33 : decode cX5_isFilmOf 33 = .ok (.if_icmp .ne 7, 3) := by decide +kernel
theorem dX5_isFilmOf_36 : decode cX5_isFilmOf 36 = .ok (.iconst 1, 1) := by decide +kernel
theorem dX5_isFilmOf_37 : decode cX5_isFilmOf 37 = .ok (.goto 4, 3) := by decide +kernel
theorem dX5_isFilmOf_40 : decode cX5_isFilmOf 40 = .ok (.iconst 0, 1) := by decide +kernel
theorem dX5_isFilmOf_41 : decode cX5_isFilmOf 41 = .ok (.if_icmp .eq 5, 3) := by decide +kernel
theorem dX5_isFilmOf_44 : decode cX5_isFilmOf 44 = .ok (.iconst 0, 1) := by decide +kernel
theorem dX5_isFilmOf_45 : decode cX5_isFilmOf 45 = .ok (.ireturn, 1) := by decide +kernel
theorem dX5_isFilmOf_46 : decode cX5_isFilmOf 46 = .ok (.iinc 2 1, 3) := by decide +kernel
theorem dX5_isFilmOf_49 : decode cX5_isFilmOf 49 = .ok (.goto (-47), 3) := by decide +kernel
theorem dX5_isFilmOf_52 : decode cX5_isFilmOf 52 = .ok (.iconst 1, 1) := by decide +kernel
theorem dX5_isFilmOf_53 : decode cX5_isFilmOf 53 = .ok (.ireturn, 1) := by decide +kernel
def f_Se_isFilmOf_35_49_L2  (a : Int32 × xS) : Option (((Int32 × xS) ⊕ (Int32 × xS)) ⊕ (Int32 × xS)) :=
  let v2 := a.1; let σ := a.2;
  if σ.1 35 6 ≤ v2 then
    some (.inl (.inr (v2, σ)))
  else
    if (8 : Int32) ≤ v2 then
      some (.inl (.inr (v2, σ)))
    else
      if v2 < 0 ∨ 8 ≤ v2.toNatClampNeg then none else
      (f_Tr_isSharp_49 (σ.1 39 v2.toNatClampNeg) σ).bind fun q1 =>
      if v2 < 0 ∨ 8 ≤ v2.toNatClampNeg then none else
      if q1.2.1 40 v2.toNatClampNeg = (1 : Int32) then
        if q1.1 = (1 : Int32) then
          let w3 := v2 + (1 : Int32)
          some (.inr (w3, q1.2))
        else
          some (.inl (.inl ((0 : Int32), q1.2)))
      else
        if q1.1 = (0 : Int32) then
          let w2 := v2 + (1 : Int32)
          some (.inr (w2, q1.2))
        else
          some (.inl (.inl ((0 : Int32), q1.2)))
def f_Se_isFilmOf_35_49  (σ : xS) : Option (Int32 × xS) :=
  (x_it (f_Se_isFilmOf_35_49_L2 ) 10000 ((0 : Int32), σ)).bind fun b4 =>
  match b4 with
  | .inl b4r => some b4r
  | .inr b4e =>
    some ((1 : Int32), b4e.2)
set_option maxHeartbeats 4000000 in
set_option maxRecDepth 100000 in
theorem b_Se_isFilmOf_35_49_L2 {l : Launch} {s0 : State} {a0 : Array Value} {D : va_G} {cA : Nat → ClassId} {sp : Nat → Nat} (E : x_En CL l s0 a0 D cA sp)  {r : Int32} {σ1 : xS} (a : Int32 × xS) (o : ((Int32 × xS) ⊕ (Int32 × xS)) ⊕ (Int32 × xS)) (h : f_Se_isFilmOf_35_49_L2  a = some o) (hK : ∀ b, o = .inl b → (∀ q, b = .inl q → q = (r, σ1)) ∧ ∀ e, b = .inr e → zW l s0 D cA sp (zQ s0 D cA sp (some (.int r)) σ1) (x_rm 1 0 0) M_Se_isFilmOf 0 0 52 [none, none, none] [] e.2) (hG : ∀ a', o = .inr a' → zW l s0 D cA sp (zQ s0 D cA sp (some (.int r)) σ1) (x_rm 1 0 0) M_Se_isFilmOf 0 0 2 [some (.ref 35), some (.ref 49), some (.int a'.1)] [] a'.2) : zW l s0 D cA sp (zQ s0 D cA sp (some (.int r)) σ1) (x_rm 1 0 0) M_Se_isFilmOf 0 0 2 [some (.ref 35), some (.ref 49), some (.int a.1)] [] a.2 := by
  obtain ⟨v2, σ⟩ := a
  unfold f_Se_isFilmOf_35_49_L2 at h
  try dsimp only at h ⊢
  refine x_iload_n 3 rfl 2 dX5_isFilmOf_2 rfl rfl ?_
  refine x_aload_n 4 rfl 0 dX5_isFilmOf_3 rfl rfl ?_
  refine x_getI E dX5_isFilmOf_4 F_RX5_31 sh_35 7 rfl ?_
  refine x_icmp_ge 10 rfl 52 dX5_isFilmOf_7 (by decide) (fun hc => ?_) (fun hc => ?_)
  · replace h := x_ifT hc h
    cases h
    exact x_wk (x_le_n (x_le_n (x_le_n x_le_0))) ((hK (.inr (_, _)) rfl).2 (_, _) rfl)
  · replace h := x_ifF hc h
    refine x_iload_n 11 rfl 2 dX5_isFilmOf_10 rfl rfl ?_
    refine x_bipush 13 rfl (v := 8) dX5_isFilmOf_11 (by decide) ?_
    refine x_icmp_ge 16 rfl 52 dX5_isFilmOf_13 (by decide) (fun hc => ?_) (fun hc => ?_)
    · replace h := x_ifT hc h
      cases h
      exact x_wk (x_le_n (x_le_n (x_le_n x_le_0))) ((hK (.inr (_, _)) rfl).2 (_, _) rfl)
    · replace h := x_ifF hc h
      refine x_aload_n 17 rfl 1 dX5_isFilmOf_16 rfl rfl ?_
      refine x_aload_n 18 rfl 0 dX5_isFilmOf_17 rfl rfl ?_
      refine x_getR E dX5_isFilmOf_18 F_RX5_25 sh_35 rf_35_4 21 rfl ?_
      refine x_iload_n 22 rfl 2 dX5_isFilmOf_21 rfl rfl ?_
      obtain ⟨hz, h⟩ := x_ifn h
      refine x_iald E dX5_isFilmOf_22 sh_39 _ rfl hz 23 rfl ?_
      obtain ⟨⟨q1r, q1s⟩, q1h, h⟩ := x_bind h
      try dsimp only at h
      refine z_callV E [.int _] [] dX5_isFilmOf_23 K_RX5_52 ⟨Nat.le_of_ble_eq_true rfl, Nat.le_of_ble_eq_true rfl⟩ sh_49 (by decide) rfl (c_Tr_isSharp_49 E _ q1h) rfl rfl (Nat.le_of_ble_eq_true rfl) 26 rfl [.int _] rfl ?_
      refine x_aload_n 27 rfl 0 dX5_isFilmOf_26 rfl rfl ?_
      refine x_getR E dX5_isFilmOf_27 F_RX5_28 sh_35 rf_35_5 30 rfl ?_
      refine x_iload_n 31 rfl 2 dX5_isFilmOf_30 rfl rfl ?_
      obtain ⟨hz, h⟩ := x_ifn h
      refine x_iald E dX5_isFilmOf_31 sh_40 _ rfl hz 32 rfl ?_
      refine x_iconst 33 rfl (v := 1) dX5_isFilmOf_32 (by decide) ?_
      refine x_icmp_ne 36 rfl 40 dX5_isFilmOf_33 (by decide) (fun hc => ?_) (fun hc => ?_)
      · replace h := x_ifF hc h
        refine x_iconst 41 rfl (v := 0) dX5_isFilmOf_40 (by decide) ?_
        refine x_icmp_eq 44 rfl 46 dX5_isFilmOf_41 (by decide) (fun hc => ?_) (fun hc => ?_)
        · replace h := x_ifT hc h
          refine x_iinc 49 rfl (1) dX5_isFilmOf_46 rfl (by decide) (by decide) [some (.ref 35), some (.ref 49), some (.int _)] rfl ?_
          refine x_goto 2 dX5_isFilmOf_49 (by decide) ?_
          cases h
          exact x_wk (x_le_s (x_le_s (x_le_s x_le_0))) (hG (_, _) rfl)
        · replace h := x_ifF hc h
          refine x_iconst 45 rfl (v := 0) dX5_isFilmOf_44 (by decide) ?_
          cases h
          cases (hK (.inl (_, _)) rfl).1 (_, _) rfl
          exact x_zret (Or.inl rfl) dX5_isFilmOf_45 rfl rfl rfl
      · replace h := x_ifT hc h
        refine x_iconst 37 rfl (v := 1) dX5_isFilmOf_36 (by decide) ?_
        refine x_goto 41 dX5_isFilmOf_37 (by decide) ?_
        refine x_icmp_eq 44 rfl 46 dX5_isFilmOf_41 (by decide) (fun hc => ?_) (fun hc => ?_)
        · replace h := x_ifT hc h
          refine x_iinc 49 rfl (1) dX5_isFilmOf_46 rfl (by decide) (by decide) [some (.ref 35), some (.ref 49), some (.int _)] rfl ?_
          refine x_goto 2 dX5_isFilmOf_49 (by decide) ?_
          cases h
          exact x_wk (x_le_s (x_le_s (x_le_s x_le_0))) (hG (_, _) rfl)
        · replace h := x_ifF hc h
          refine x_iconst 45 rfl (v := 0) dX5_isFilmOf_44 (by decide) ?_
          cases h
          cases (hK (.inl (_, _)) rfl).1 (_, _) rfl
          exact x_zret (Or.inl rfl) dX5_isFilmOf_45 rfl rfl rfl
set_option maxHeartbeats 4000000 in
set_option maxRecDepth 100000 in
theorem c_Se_isFilmOf_35_49 {l : Launch} {s0 : State} {a0 : Array Value} {D : va_G} {cA : Nat → ClassId} {sp : Nat → Nat} (E : x_En CL l s0 a0 D cA sp)  {σ : xS} {r : Int32} {σ1 : xS} (h : f_Se_isFilmOf_35_49  σ = some (r, σ1)) : zC l s0 D cA sp 1 M_Se_isFilmOf [.ref 35, .ref 49] σ (some (.int r)) σ1 := by
  unfold f_Se_isFilmOf_35_49 at h
  try dsimp only at h
  refine x_enter [some (.ref 35), some (.ref 49), none] rfl (Nat.le_of_ble_eq_true rfl) (by decide +kernel) rfl ?_
  refine x_iconst 1 rfl (v := 0) dX5_isFilmOf_0 (by decide) ?_
  refine x_istore_n 2 rfl 2 dX5_isFilmOf_1 rfl (by decide) [some (.ref 35), some (.ref 49), some (.int _)] rfl ?_
  obtain ⟨b4, b4h, h⟩ := x_bind h
  try dsimp only at h
  refine x_wk (x_le_s (x_le_s (x_le_s x_le_0))) (x_loop (fun a o h hK hG => b_Se_isFilmOf_35_49_L2 (r := r) (σ1 := σ1) E  a o h hK hG) _ _ _ b4h ?_)
  cases b4 with
  | inl b4r =>
    try dsimp only at h
    cases h
    exact ⟨fun q e => (by cases e; rfl), fun e he => (by cases he)⟩
  | inr b4e =>
    try dsimp only at h
    refine ⟨fun q e => (by cases e), fun e he => ?_⟩
    cases he
    refine x_iconst 53 rfl (v := 1) dX5_isFilmOf_52 (by decide) ?_
    cases h
    exact x_zret (Or.inr rfl) dX5_isFilmOf_53 rfl rfl rfl
theorem K_RX8_319 : x_KV RX8 319 M_Se_isFilmOf 1 := ⟨⟨(List.mem_append_right _ (List.mem_of_getElem? (i := 1108) (by decide +kernel))), (List.mem_append_right _ (List.mem_of_getElem? (i := 1111) (by decide +kernel))), (List.mem_append_right _ (List.mem_of_getElem? (i := 5) (by decide +kernel))), ⟨by decide +kernel, by decide +kernel⟩, by decide +kernel⟩, (List.mem_append_right _ (List.mem_of_getElem? (i := 1109) (by decide +kernel))), (List.mem_append_right _ (List.mem_of_getElem? (i := 1110) (by decide +kernel)))⟩
abbrev M_RH_fitsFilm : xM := (yX8_fitsFilm, cX8_fitsFilm, 3, some .boolean, [])
theorem dX8_fitsFilm_0 : decode cX8_fitsFilm 0 = .ok (.aload_n 0, 1) := by decide +kernel
theorem dX8_fitsFilm_1 : decode cX8_fitsFilm 1 = .ok (.invokevirtual 187, 3) := by decide +kernel
theorem dX8_fitsFilm_4 : decode cX8_fitsFilm 4 = .ok (.aload_n 0, 1) := by decide +kernel
theorem dX8_fitsFilm_5 : decode cX8_fitsFilm 5 = .ok (.getfield 51, 3) := by decide +kernel
theorem dX8_fitsFilm_8 : decode cX8_fitsFilm 8 = .ok (.getfield 196, 3) := by decide +kernel
theorem dX8_fitsFilm_11 : decode cX8_fitsFilm 11 = .ok (.iconst 4, 1) := by decide +kernel
theorem dX8_fitsFilm_12 : decode cX8_fitsFilm 12 = .ok (.iload_n 1, 1) := by decide +kernel
theorem dX8_fitsFilm_13 : decode cX8_fitsFilm 13 = .ok (.iastore, 1) := by decide +kernel
theorem dX8_fitsFilm_14 : decode cX8_fitsFilm 14 = .ok (.aload_n 0, 1) := by decide +kernel
theorem dX8_fitsFilm_15 : decode cX8_fitsFilm 15 = .ok (.getfield 51, 3) := by decide +kernel
theorem dX8_fitsFilm_18 : decode cX8_fitsFilm 18 = .ok (.iload_n 2, 1) := by decide +kernel
theorem dX8_fitsFilm_19 : decode cX8_fitsFilm 19 = .ok (.putfield 304, 3) := by decide +kernel
theorem dX8_fitsFilm_22 : decode cX8_fitsFilm 22 = .ok (.aload_n 0, 1) := by decide +kernel
theorem dX8_fitsFilm_23 : decode cX8_fitsFilm 23 = .ok (.getfield 51, 3) := by decide +kernel
theorem dX8_fitsFilm_26 : decode cX8_fitsFilm 26 = .ok (.aload_n 0, 1) := by decide +kernel
theorem dX8_fitsFilm_27 : decode cX8_fitsFilm 27 = .ok (.getfield 27, 3) := by decide +kernel
theorem dX8_fitsFilm_30 : decode cX8_fitsFilm 30 = .ok (.invokevirtual 190, 3) := by decide +kernel
theorem dX8_fitsFilm_33 : decode cX8_fitsFilm 33 = .ok (.aload_n 0, 1) := by decide +kernel
theorem dX8_fitsFilm_34 : decode cX8_fitsFilm 34 = .ok (.getfield 37, 3) := by decide +kernel
theorem dX8_fitsFilm_37 : decode cX8_fitsFilm 37 = .ok (.aload_n 0, 1) := by decide +kernel
theorem dX8_fitsFilm_38 : decode cX8_fitsFilm 38 = .ok (.getfield 51, 3) := by decide +kernel
theorem dX8_fitsFilm_41 : decode cX8_fitsFilm 41 = .ok (.invokevirtual 319, 3) := by decide +kernel
theorem dX8_fitsFilm_44 : decode cX8_fitsFilm 44 = .ok (.ireturn, 1) := by decide +kernel
def f_RH_fitsFilm_0 (v1 : Int32) (v2 : Int32) (σ : xS) : Option (Int32 × xS) :=
  (f_RH_takeSettings_0  σ).bind fun q1 =>
  let σ2 := x_pI q1.2 50 4 v1
  let σ3 := x_pI σ2 49 2 v2
  (f_Tr_walk_49_7  σ3).bind fun q4 =>
  (f_Se_isFilmOf_35_49  q4.2).bind fun q5 =>
  x_ok (q5.1 = 0 ∨ q5.1 = 1) <|
  some (q5.1, q5.2)
set_option maxHeartbeats 4000000 in
set_option maxRecDepth 100000 in
theorem c_RH_fitsFilm_0 {l : Launch} {s0 : State} {a0 : Array Value} {D : va_G} {cA : Nat → ClassId} {sp : Nat → Nat} (E : x_En CL l s0 a0 D cA sp) (v1 : Int32) (v2 : Int32) {σ : xS} {r : Int32} {σ1 : xS} (h : f_RH_fitsFilm_0 v1 v2 σ = some (r, σ1)) : zC l s0 D cA sp 6 M_RH_fitsFilm [.ref 0, .int v1, .int v2] σ (some (.int r)) σ1 := by
  unfold f_RH_fitsFilm_0 at h
  try dsimp only at h
  refine x_enter [some (.ref 0), some (.int v1), some (.int v2)] rfl (Nat.le_of_ble_eq_true rfl) (by decide +kernel) rfl ?_
  refine x_aload_n 1 rfl 0 dX8_fitsFilm_0 rfl rfl ?_
  obtain ⟨⟨q1r, q1s⟩, q1h, h⟩ := x_bind h
  try dsimp only at h
  refine z_callV E [] [] dX8_fitsFilm_1 K_RX8_187 ⟨Nat.le_of_ble_eq_true rfl, Nat.le_of_ble_eq_true rfl⟩ sh_0 (by decide) rfl (c_RH_takeSettings_0 E  q1h) rfl rfl (Nat.le_of_ble_eq_true rfl) 4 rfl [] rfl ?_
  refine x_aload_n 5 rfl 0 dX8_fitsFilm_4 rfl rfl ?_
  refine x_getR E dX8_fitsFilm_5 F_RX8_51 sh_0 rf_0_8 8 rfl ?_
  refine x_getR E dX8_fitsFilm_8 F_RX8_196 sh_49 rf_49_0 11 rfl ?_
  refine x_iconst 12 rfl (v := 4) dX8_fitsFilm_11 (by decide) ?_
  refine x_iload_n 13 rfl 1 dX8_fitsFilm_12 rfl rfl ?_
  refine x_iast E dX8_fitsFilm_13 sh_50 4 (by decide) (by decide) 14 rfl ?_
  refine x_aload_n 15 rfl 0 dX8_fitsFilm_14 rfl rfl ?_
  refine x_getR E dX8_fitsFilm_15 F_RX8_51 sh_0 rf_0_8 18 rfl ?_
  refine x_iload_n 19 rfl 2 dX8_fitsFilm_18 rfl rfl ?_
  refine x_putI E dX8_fitsFilm_19 F_RX8_304 sh_49 22 rfl ?_
  refine x_aload_n 23 rfl 0 dX8_fitsFilm_22 rfl rfl ?_
  refine x_getR E dX8_fitsFilm_23 F_RX8_51 sh_0 rf_0_8 26 rfl ?_
  refine x_aload_n 27 rfl 0 dX8_fitsFilm_26 rfl rfl ?_
  refine x_getR E dX8_fitsFilm_27 F_RX8_27 sh_0 rf_0_3 30 rfl ?_
  obtain ⟨⟨q4r, q4s⟩, q4h, h⟩ := x_bind h
  try dsimp only at h
  refine z_callV E [.ref 7] [] dX8_fitsFilm_30 K_RX8_190 ⟨Nat.le_of_ble_eq_true rfl, Nat.le_of_ble_eq_true rfl⟩ sh_49 (by decide) rfl (c_Tr_walk_49_7 E  q4h) rfl rfl (Nat.le_of_ble_eq_true rfl) 33 rfl [] rfl ?_
  refine x_aload_n 34 rfl 0 dX8_fitsFilm_33 rfl rfl ?_
  refine x_getR E dX8_fitsFilm_34 F_RX8_37 sh_0 rf_0_5 37 rfl ?_
  refine x_aload_n 38 rfl 0 dX8_fitsFilm_37 rfl rfl ?_
  refine x_getR E dX8_fitsFilm_38 F_RX8_51 sh_0 rf_0_8 41 rfl ?_
  obtain ⟨⟨q5r, q5s⟩, q5h, h⟩ := x_bind h
  try dsimp only at h
  refine z_callV E [.ref 49] [] dX8_fitsFilm_41 K_RX8_319 ⟨Nat.le_of_ble_eq_true rfl, Nat.le_of_ble_eq_true rfl⟩ sh_35 (by decide) rfl (c_Se_isFilmOf_35_49 E  q5h) rfl rfl (Nat.le_of_ble_eq_true rfl) 44 rfl [.int _] rfl ?_
  obtain ⟨hz, h⟩ := x_ift h
  cases h
  exact x_zret hz dX8_fitsFilm_44 rfl rfl rfl
