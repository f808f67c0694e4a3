/-! The reference's methods: functions and contracts. Written by wip/gen/emit.py. -/
abbrev M_Mo_thrown : xM := (yX9_thrown, cX9_thrown, 1, some .int, [])
theorem dX9_thrown_0 : decode cX9_thrown 0 = .ok (.aload_n 0, 1) := by decide +kernel
theorem dX9_thrown_1 : decode cX9_thrown 1 = .ok (.getfield 132, 3) := by decide +kernel
theorem dX9_thrown_4 : decode cX9_thrown 4 = .ok (.ireturn, 1) := by decide +kernel
def f_Mo_thrown_60  (σ : xS) : Option (Int32 × xS) :=
  some (σ.1 60 0, σ)
set_option maxHeartbeats 4000000 in
set_option maxRecDepth 100000 in
theorem c_Mo_thrown_60 {l : Launch} {s0 : State} {a0 : Array Value} {D : va_G} {cA : Nat → ClassId} {sp : Nat → Nat} (E : x_En CL l s0 a0 D cA sp)  {σ : xS} {r : Int32} {σ1 : xS} (h : f_Mo_thrown_60  σ = some (r, σ1)) : zC l s0 D cA sp 0 M_Mo_thrown [.ref 60] σ (some (.int r)) σ1 := by
  unfold f_Mo_thrown_60 at h
  try dsimp only at h
  refine x_enter [some (.ref 60)] rfl (Nat.le_of_ble_eq_true rfl) (by decide +kernel) rfl ?_
  refine x_aload_n 1 rfl 0 dX9_thrown_0 rfl rfl ?_
  refine x_getI E dX9_thrown_1 F_RX9_132 sh_60 4 rfl ?_
  cases h
  exact x_iret dX9_thrown_4 rfl rfl rfl
abbrev M_Mo_right : xM := (yX9_right, cX9_right, 3, some .boolean, [])
theorem dX9_right_0 : decode cX9_right 0 = .ok (.aload_n 0, 1) := by decide +kernel
theorem dX9_right_1 : decode cX9_right 1 = .ok (.getfield 132, 3) := by decide +kernel
theorem dX9_right_4 : decode cX9_right 4 = .ok (.ifCond .ne 12, 3) := by decide +kernel
theorem dX9_right_7 : decode cX9_right 7 = .ok (.iload_n 1, 1) := by decide +kernel
theorem dX9_right_8 : decode cX9_right 8 = .ok (.ifCond .ne 8, 3) := by decide +kernel
theorem dX9_right_11 : decode cX9_right 11 = .ok (.aload_n 0, 1) := by decide +kernel
theorem dX9_right_12 : decode cX9_right 12 = .ok (.iload_n 2, 1) := by decide +kernel
theorem dX9_right_13 : decode cX9_right 13 = .ok (.putfield 132, 3) := by decide +kernel
theorem dX9_right_16 : decode cX9_right 16 = .ok (.aload_n 0, 1) := by decide +kernel
theorem dX9_right_17 : decode cX9_right 17 = .ok (.getfield 132, 3) := by decide +kernel
theorem dX9_right_20 : decode cX9_right 20 = .ok (.ifCond .ne 7, 3) := by decide +kernel
theorem dX9_right_23 : decode cX9_right 23 = .ok (.iconst 1, 1) := by decide +kernel
theorem dX9_right_24 : decode cX9_right 24 = .ok (.goto 4, 3) := by decide +kernel
theorem dX9_right_27 : decode cX9_right 27 = .ok (.iconst 0, 1) := by decide +kernel
theorem dX9_right_28 : decode cX9_right 28 = .ok (.ireturn, 1) := by decide +kernel
def f_Mo_right_60 (v1 : Int32) (v2 : Int32) (σ : xS) : Option (Int32 × xS) :=
  if σ.1 60 0 = 0 then
    if v1 = 0 then
      let σ1 := x_pI σ 60 0 v2
      if σ1.1 60 0 = 0 then
        some ((1 : Int32), σ1)
      else
        some ((0 : Int32), σ1)
    else
      if σ.1 60 0 = 0 then
        some ((1 : Int32), σ)
      else
        some ((0 : Int32), σ)
  else
    if σ.1 60 0 = 0 then
      some ((1 : Int32), σ)
    else
      some ((0 : Int32), σ)
set_option maxHeartbeats 4000000 in
set_option maxRecDepth 100000 in
theorem c_Mo_right_60 {l : Launch} {s0 : State} {a0 : Array Value} {D : va_G} {cA : Nat → ClassId} {sp : Nat → Nat} (E : x_En CL l s0 a0 D cA sp) (v1 : Int32) (v2 : Int32) {σ : xS} {r : Int32} {σ1 : xS} (h : f_Mo_right_60 v1 v2 σ = some (r, σ1)) : zC l s0 D cA sp 0 M_Mo_right [.ref 60, .int v1, .int v2] σ (some (.int r)) σ1 := by
  unfold f_Mo_right_60 at h
  try dsimp only at h
  refine x_enter [some (.ref 60), some (.int v1), some (.int v2)] rfl (Nat.le_of_ble_eq_true rfl) (by decide +kernel) rfl ?_
  refine x_aload_n 1 rfl 0 dX9_right_0 rfl rfl ?_
  refine x_getI E dX9_right_1 F_RX9_132 sh_60 4 rfl ?_
  refine x_if_ne 7 rfl 16 dX9_right_4 (by decide) (fun hc => ?_) (fun hc => ?_)
  · replace h := x_ifF hc h
    refine x_aload_n 17 rfl 0 dX9_right_16 rfl rfl ?_
    refine x_getI E dX9_right_17 F_RX9_132 sh_60 20 rfl ?_
    refine x_if_ne 23 rfl 27 dX9_right_20 (by decide) (fun hc => ?_) (fun hc => ?_)
    · replace h := x_ifF hc h
      refine x_iconst 28 rfl (v := 0) dX9_right_27 (by decide) ?_
      cases h
      exact x_zret (Or.inl rfl) dX9_right_28 rfl rfl rfl
    · replace h := x_ifT hc h
      refine x_iconst 24 rfl (v := 1) dX9_right_23 (by decide) ?_
      refine x_goto 28 dX9_right_24 (by decide) ?_
      cases h
      exact x_zret (Or.inr rfl) dX9_right_28 rfl rfl rfl
  · replace h := x_ifT hc h
    refine x_iload_n 8 rfl 1 dX9_right_7 rfl rfl ?_
    refine x_if_ne 11 rfl 16 dX9_right_8 (by decide) (fun hc => ?_) (fun hc => ?_)
    · replace h := x_ifF hc h
      refine x_aload_n 17 rfl 0 dX9_right_16 rfl rfl ?_
      refine x_getI E dX9_right_17 F_RX9_132 sh_60 20 rfl ?_
      refine x_if_ne 23 rfl 27 dX9_right_20 (by decide) (fun hc => ?_) (fun hc => ?_)
      · replace h := x_ifF hc h
        refine x_iconst 28 rfl (v := 0) dX9_right_27 (by decide) ?_
        cases h
        exact x_zret (Or.inl rfl) dX9_right_28 rfl rfl rfl
      · replace h := x_ifT hc h
        refine x_iconst 24 rfl (v := 1) dX9_right_23 (by decide) ?_
        refine x_goto 28 dX9_right_24 (by decide) ?_
        cases h
        exact x_zret (Or.inr rfl) dX9_right_28 rfl rfl rfl
    · replace h := x_ifT hc h
      refine x_aload_n 12 rfl 0 dX9_right_11 rfl rfl ?_
      refine x_iload_n 13 rfl 2 dX9_right_12 rfl rfl ?_
      refine x_putI E dX9_right_13 F_RX9_132 sh_60 16 rfl ?_
      refine x_aload_n 17 rfl 0 dX9_right_16 rfl rfl ?_
      refine x_getI E dX9_right_17 F_RX9_132 sh_60 20 rfl ?_
      refine x_if_ne 23 rfl 27 dX9_right_20 (by decide) (fun hc => ?_) (fun hc => ?_)
      · replace h := x_ifF hc h
        refine x_iconst 28 rfl (v := 0) dX9_right_27 (by decide) ?_
        cases h
        exact x_zret (Or.inl rfl) dX9_right_28 rfl rfl rfl
      · replace h := x_ifT hc h
        refine x_iconst 24 rfl (v := 1) dX9_right_23 (by decide) ?_
        refine x_goto 28 dX9_right_24 (by decide) ?_
        cases h
        exact x_zret (Or.inr rfl) dX9_right_28 rfl rfl rfl
abbrev M_Mo_within : xM := (yX9_within, cX9_within, 3, some .boolean, [])
theorem dX9_within_0 : decode cX9_within 0 = .ok (.iload_n 0, 1) := by decide +kernel
theorem dX9_within_1 : decode cX9_within 1 = .ok (.iload_n 1, 1) := by decide +kernel
theorem dX9_within_2 : decode cX9_within 2 = .ok (.if_icmp .lt 12, 3) := by decide +kernel
theorem dX9_within_5 : decode cX9_within 5 = .ok (.iload_n 0, 1) := by decide +kernel
theorem dX9_within_6 : decode cX9_within 6 = .ok (.iload_n 2, 1) := by decide +kernel
theorem dX9_within_7 : decode cX9_within 7 = .ok (.if_icmp .gt 7, 3) := by decide +kernel
theorem dX9_within_10 : decode cX9_within 10 = .ok (.iconst 1, 1) := by decide +kernel
theorem dX9_within_11 : decode cX9_within 11 = .ok (.goto 4, 3) := by decide +kernel
theorem dX9_within_14 : decode cX9_within 14 = .ok (.iconst 0, 1) := by decide +kernel
theorem dX9_within_15 : decode cX9_within 15 = .ok (.ireturn, 1) := by decide +kernel
def f_Mo_within (v0 : Int32) (v1 : Int32) (v2 : Int32) (σ : xS) : Option (Int32 × xS) :=
  if v0 < v1 then
    some ((0 : Int32), σ)
  else
    if v2 < v0 then
      some ((0 : Int32), σ)
    else
      some ((1 : Int32), σ)
set_option maxHeartbeats 4000000 in
set_option maxRecDepth 100000 in
theorem c_Mo_within {l : Launch} {s0 : State} {a0 : Array Value} {D : va_G} {cA : Nat → ClassId} {sp : Nat → Nat} (E : x_En CL l s0 a0 D cA sp) (v0 : Int32) (v1 : Int32) (v2 : Int32) {σ : xS} {r : Int32} {σ1 : xS} (h : f_Mo_within v0 v1 v2 σ = some (r, σ1)) : zC l s0 D cA sp 0 M_Mo_within [.int v0, .int v1, .int v2] σ (some (.int r)) σ1 := by
  unfold f_Mo_within at h
  try dsimp only at h
  refine x_enter [some (.int v0), some (.int v1), some (.int v2)] rfl (Nat.le_of_ble_eq_true rfl) (by decide +kernel) rfl ?_
  refine x_iload_n 1 rfl 0 dX9_within_0 rfl rfl ?_
  refine x_iload_n 2 rfl 1 dX9_within_1 rfl rfl ?_
  refine x_icmp_lt 5 rfl 14 dX9_within_2 (by decide) (fun hc => ?_) (fun hc => ?_)
  · replace h := x_ifT hc h
    refine x_iconst 15 rfl (v := 0) dX9_within_14 (by decide) ?_
    cases h
    exact x_zret (Or.inl rfl) dX9_within_15 rfl rfl rfl
  · replace h := x_ifF hc h
    refine x_iload_n 6 rfl 0 dX9_within_5 rfl rfl ?_
    refine x_iload_n 7 rfl 2 dX9_within_6 rfl rfl ?_
    refine x_icmp_gt 10 rfl 14 dX9_within_7 (by decide) (fun hc => ?_) (fun hc => ?_)
    · replace h := x_ifT hc h
      refine x_iconst 15 rfl (v := 0) dX9_within_14 (by decide) ?_
      cases h
      exact x_zret (Or.inl rfl) dX9_within_15 rfl rfl rfl
    · replace h := x_ifF hc h
      refine x_iconst 11 rfl (v := 1) dX9_within_10 (by decide) ?_
      refine x_goto 15 dX9_within_11 (by decide) ?_
      cases h
      exact x_zret (Or.inr rfl) dX9_within_15 rfl rfl rfl
abbrev M_Mo_off : xM := (yX9_off, cX9_off, 2, some .int, [])
theorem dX9_off_0 : decode cX9_off 0 = .ok (.iload_n 0, 1) := by decide +kernel
theorem dX9_off_1 : decode cX9_off 1 = .ok (.iload_n 1, 1) := by decide +kernel
theorem dX9_off_2 : decode cX9_off 2 = .ok (.if_icmp .ge 9, 3) := by decide +kernel
theorem dX9_off_5 : decode cX9_off 5 = .ok (.iload_n 1, 1) := by decide +kernel
theorem dX9_off_6 : decode cX9_off 6 = .ok (.iload_n 0, 1) := by decide +kernel
theorem dX9_off_7 : decode cX9_off 7 = .ok (.isub, 1) := by decide +kernel
theorem dX9_off_8 : decode cX9_off 8 = .ok (.goto 6, 3) := by decide +kernel
theorem dX9_off_11 : decode cX9_off 11 = .ok (.iload_n 0, 1) := by decide +kernel
theorem dX9_off_12 : decode cX9_off 12 = .ok (.iload_n 1, 1) := by decide +kernel
theorem dX9_off_13 : decode cX9_off 13 = .ok (.isub, 1) := by decide +kernel
theorem dX9_off_14 : decode cX9_off 14 = .ok (.ireturn, 1) := by decide +kernel
def f_Mo_off (v0 : Int32) (v1 : Int32) (σ : xS) : Option (Int32 × xS) :=
  if v1 ≤ v0 then
    some ((v0 - v1), σ)
  else
    some ((v1 - v0), σ)
set_option maxHeartbeats 4000000 in
set_option maxRecDepth 100000 in
theorem c_Mo_off {l : Launch} {s0 : State} {a0 : Array Value} {D : va_G} {cA : Nat → ClassId} {sp : Nat → Nat} (E : x_En CL l s0 a0 D cA sp) (v0 : Int32) (v1 : Int32) {σ : xS} {r : Int32} {σ1 : xS} (h : f_Mo_off v0 v1 σ = some (r, σ1)) : zC l s0 D cA sp 0 M_Mo_off [.int v0, .int v1] σ (some (.int r)) σ1 := by
  unfold f_Mo_off at h
  try dsimp only at h
  refine x_enter [some (.int v0), some (.int v1)] rfl (Nat.le_of_ble_eq_true rfl) (by decide +kernel) rfl ?_
  refine x_iload_n 1 rfl 0 dX9_off_0 rfl rfl ?_
  refine x_iload_n 2 rfl 1 dX9_off_1 rfl rfl ?_
  refine x_icmp_ge 5 rfl 11 dX9_off_2 (by decide) (fun hc => ?_) (fun hc => ?_)
  · replace h := x_ifT hc h
    refine x_iload_n 12 rfl 0 dX9_off_11 rfl rfl ?_
    refine x_iload_n 13 rfl 1 dX9_off_12 rfl rfl ?_
    refine x_isub 14 rfl dX9_off_13 ?_
    cases h
    exact x_iret dX9_off_14 rfl rfl rfl
  · replace h := x_ifF hc h
    refine x_iload_n 6 rfl 1 dX9_off_5 rfl rfl ?_
    refine x_iload_n 7 rfl 0 dX9_off_6 rfl rfl ?_
    refine x_isub 8 rfl dX9_off_7 ?_
    refine x_goto 14 dX9_off_8 (by decide) ?_
    cases h
    exact x_iret dX9_off_14 rfl rfl rfl
abbrev M_Mo_bounded : xM := (yX9_bounded, cX9_bounded, 3, some .int, [])
theorem dX9_bounded_0 : decode cX9_bounded 0 = .ok (.iload_n 0, 1) := by decide +kernel
theorem dX9_bounded_1 : decode cX9_bounded 1 = .ok (.iload_n 1, 1) := by decide +kernel
theorem dX9_bounded_2 : decode cX9_bounded 2 = .ok (.if_icmp .ge 7, 3) := by decide +kernel
theorem dX9_bounded_5 : decode cX9_bounded 5 = .ok (.iload_n 1, 1) := by decide +kernel
theorem dX9_bounded_6 : decode cX9_bounded 6 = .ok (.goto 13, 3) := by decide +kernel
theorem dX9_bounded_9 : decode cX9_bounded 9 = .ok (.iload_n 0, 1) := by decide +kernel
theorem dX9_bounded_10 : decode cX9_bounded 10 = .ok (.iload_n 2, 1) := by decide +kernel
theorem dX9_bounded_11 : decode cX9_bounded 11 = .ok (.if_icmp .le 7, 3) := by decide +kernel
theorem dX9_bounded_14 : decode cX9_bounded 14 = .ok (.iload_n 2, 1) := by decide +kernel
theorem dX9_bounded_15 : decode cX9_bounded 15 = .ok (.goto 4, 3) := by decide +kernel
theorem dX9_bounded_18 : decode cX9_bounded 18 = .ok (.iload_n 0, 1) := by decide +kernel
theorem dX9_bounded_19 : decode cX9_bounded 19 = .ok (.ireturn, 1) := by decide +kernel
def f_Mo_bounded (v0 : Int32) (v1 : Int32) (v2 : Int32) (σ : xS) : Option (Int32 × xS) :=
  if v1 ≤ v0 then
    if v0 ≤ v2 then
      some (v0, σ)
    else
      some (v2, σ)
  else
    some (v1, σ)
set_option maxHeartbeats 4000000 in
set_option maxRecDepth 100000 in
theorem c_Mo_bounded {l : Launch} {s0 : State} {a0 : Array Value} {D : va_G} {cA : Nat → ClassId} {sp : Nat → Nat} (E : x_En CL l s0 a0 D cA sp) (v0 : Int32) (v1 : Int32) (v2 : Int32) {σ : xS} {r : Int32} {σ1 : xS} (h : f_Mo_bounded v0 v1 v2 σ = some (r, σ1)) : zC l s0 D cA sp 0 M_Mo_bounded [.int v0, .int v1, .int v2] σ (some (.int r)) σ1 := by
  unfold f_Mo_bounded at h
  try dsimp only at h
  refine x_enter [some (.int v0), some (.int v1), some (.int v2)] rfl (Nat.le_of_ble_eq_true rfl) (by decide +kernel) rfl ?_
  refine x_iload_n 1 rfl 0 dX9_bounded_0 rfl rfl ?_
  refine x_iload_n 2 rfl 1 dX9_bounded_1 rfl rfl ?_
  refine x_icmp_ge 5 rfl 9 dX9_bounded_2 (by decide) (fun hc => ?_) (fun hc => ?_)
  · replace h := x_ifT hc h
    refine x_iload_n 10 rfl 0 dX9_bounded_9 rfl rfl ?_
    refine x_iload_n 11 rfl 2 dX9_bounded_10 rfl rfl ?_
    refine x_icmp_le 14 rfl 18 dX9_bounded_11 (by decide) (fun hc => ?_) (fun hc => ?_)
    · replace h := x_ifT hc h
      refine x_iload_n 19 rfl 0 dX9_bounded_18 rfl rfl ?_
      cases h
      exact x_iret dX9_bounded_19 rfl rfl rfl
    · replace h := x_ifF hc h
      refine x_iload_n 15 rfl 2 dX9_bounded_14 rfl rfl ?_
      refine x_goto 19 dX9_bounded_15 (by decide) ?_
      cases h
      exact x_iret dX9_bounded_19 rfl rfl rfl
  · replace h := x_ifF hc h
    refine x_iload_n 6 rfl 1 dX9_bounded_5 rfl rfl ?_
    refine x_goto 19 dX9_bounded_6 (by decide) ?_
    cases h
    exact x_iret dX9_bounded_19 rfl rfl rfl
abbrev M_Mo_lays : xM := (yX9_lays, cX9_lays, 3, none, [])
theorem dX9_lays_0 : decode cX9_lays 0 = .ok (.bipush 24, 2) := by decide +kernel
theorem dX9_lays_2 : decode cX9_lays 2 = .ok (.istore_n 2, 1) := by decide +kernel
theorem dX9_lays_3 : decode cX9_lays 3 = .ok (.iload_n 2, 1) := by decide +kernel
theorem dX9_lays_4 : decode cX9_lays 4 = .ok (.ifCond .lt 35, 3) := by decide +kernel
theorem dX9_lays_7 : decode cX9_lays 7 = .ok (.aload_n 0, 1) := by decide +kernel
theorem dX9_lays_8 : decode cX9_lays 8 = .ok (.getfield 38, 3) := by decide +kernel
theorem dX9_lays_11 : decode cX9_lays 11 = .ok (.aload_n 0, 1) := by decide +kernel
theorem dX9_lays_12 : decode cX9_lays 12 = .ok (.getfield 135, 3) := by decide +kernel
theorem dX9_lays_15 : decode cX9_lays 15 = .ok (.iload_n 1, 1) := by decide +kernel
theorem dX9_lays_16 : decode cX9_lays 16 = .ok (.iload_n 2, 1) := by decide +kernel
theorem dX9_lays_17 : decode cX9_lays 17 = .ok (.ishr, 1) := by decide +kernel
theorem dX9_lays_18 : decode cX9_lays 18 = .ok (.sipush 255, 3) := by decide +kernel
theorem dX9_lays_21 : decode cX9_lays 21 = .ok (.iand, 1) := by decide +kernel
theorem dX9_lays_22 : decode cX9_lays 22 = .ok (.iastore, 1) := by decide +kernel
theorem dX9_lays_23 : decode cX9_lays 23 = .ok (.aload_n 0, 1) := by decide +kernel
theorem dX9_lays_24 : decode cX9_lays 24 = .ok (.dup, 1) := by decide +kernel
theorem dX9_lays_25 : decode cX9_lays 25 = .ok (.getfield 135, 3) := by decide +kernel
theorem dX9_lays_28 : decode cX9_lays 28 = .ok (.iconst 1, 1) := by decide +kernel
theorem dX9_lays_29 : decode cX9_lays 29 = .ok (.iadd, 1) := by decide +kernel
theorem dX9_lays_30 : decode cX9_lays 30 = .ok (.putfield 135, 3) := by decide +kernel
theorem dX9_lays_33 : decode cX9_lays 33 = .ok (.iinc 2 (-8), 3) := by decide +kernel
theorem dX9_lays_36 : decode cX9_lays 36 = .ok (.goto (-33), 3) := by decide +kernel
theorem dX9_lays_39 : decode cX9_lays 39 = .ok (.return_, 1) := by decide +kernel
def f_Mo_lays_60_L3 (v1 : Int32) (a : Int32 × xS) : Option ((Int32 × xS) ⊕ (Int32 × xS)) :=
  let v2 := a.1; let σ := a.2;
  if v2 < 0 then
    some (.inl (v2, σ))
  else
    if σ.1 60 15 < 0 ∨ 700 ≤ (σ.1 60 15).toNatClampNeg then none else
    let σ1 := x_pI σ 67 (σ.1 60 15).toNatClampNeg ((v1 >>> (v2 &&& 31)) &&& (255 : Int32))
    let σ2 := x_pI σ1 60 15 (σ1.1 60 15 + (1 : Int32))
    let w3 := v2 + (-8 : Int32)
    some (.inr (w3, σ2))
def f_Mo_lays_60 (v1 : Int32) (σ : xS) : Option (Unit × xS) :=
  (x_it (f_Mo_lays_60_L3 v1) 10000 ((24 : Int32), σ)).bind fun b4 =>
  some ((), b4.2)
set_option maxHeartbeats 4000000 in
set_option maxRecDepth 100000 in
theorem b_Mo_lays_60_L3 {l : Launch} {s0 : State} {a0 : Array Value} {D : va_G} {cA : Nat → ClassId} {sp : Nat → Nat} (E : x_En CL l s0 a0 D cA sp) (v1 : Int32) {r : Unit} {σ1 : xS} (a : Int32 × xS) (o : (Int32 × xS) ⊕ (Int32 × xS)) (h : f_Mo_lays_60_L3 v1 a = some o) (hK : ∀ b, o = .inl b → zW l s0 D cA sp (zQ s0 D cA sp none σ1) (x_rm 0 0 0) M_Mo_lays 0 0 39 [none, none, none] [] b.2) (hG : ∀ a', o = .inr a' → zW l s0 D cA sp (zQ s0 D cA sp none σ1) (x_rm 0 0 0) M_Mo_lays 0 0 3 [some (.ref 60), some (.int v1), some (.int a'.1)] [] a'.2) : zW l s0 D cA sp (zQ s0 D cA sp none σ1) (x_rm 0 0 0) M_Mo_lays 0 0 3 [some (.ref 60), some (.int v1), some (.int a.1)] [] a.2 := by
  obtain ⟨v2, σ⟩ := a
  unfold f_Mo_lays_60_L3 at h
  try dsimp only at h ⊢
  refine x_iload_n 4 rfl 2 dX9_lays_3 rfl rfl ?_
  refine x_if_lt 7 rfl 39 dX9_lays_4 (by decide) (fun hc => ?_) (fun hc => ?_)
  · replace h := x_ifT hc h
    cases h
    exact x_wk (x_le_n (x_le_n (x_le_n x_le_0))) (hK (_, _) rfl)
  · replace h := x_ifF hc h
    refine x_aload_n 8 rfl 0 dX9_lays_7 rfl rfl ?_
    refine x_getR E dX9_lays_8 F_RX9_38 sh_60 rf_60_14 11 rfl ?_
    refine x_aload_n 12 rfl 0 dX9_lays_11 rfl rfl ?_
    refine x_getI E dX9_lays_12 F_RX9_135 sh_60 15 rfl ?_
    refine x_iload_n 16 rfl 1 dX9_lays_15 rfl rfl ?_
    refine x_iload_n 17 rfl 2 dX9_lays_16 rfl rfl ?_
    refine x_ishr 18 rfl dX9_lays_17 ?_
    refine x_sipush 21 rfl (v := 255) dX9_lays_18 (by decide) ?_
    refine x_iand 22 rfl dX9_lays_21 ?_
    obtain ⟨hz, h⟩ := x_ifn h
    refine x_iast E dX9_lays_22 sh_67 _ rfl hz 23 rfl ?_
    refine x_aload_n 24 rfl 0 dX9_lays_23 rfl rfl ?_
    refine x_dup 25 rfl dX9_lays_24 rfl ?_
    refine x_getI E dX9_lays_25 F_RX9_135 sh_60 28 rfl ?_
    refine x_iconst 29 rfl (v := 1) dX9_lays_28 (by decide) ?_
    refine x_iadd 30 rfl dX9_lays_29 ?_
    refine x_putI E dX9_lays_30 F_RX9_135 sh_60 33 rfl ?_
    refine x_iinc 36 rfl (-8) dX9_lays_33 rfl (by decide) (by decide) [some (.ref 60), some (.int _), some (.int _)] rfl ?_
    refine x_goto 3 dX9_lays_36 (by decide) ?_
    cases h
    exact x_wk (x_le_s (x_le_s (x_le_s x_le_0))) (hG (_, _) rfl)
set_option maxHeartbeats 4000000 in
set_option maxRecDepth 100000 in
theorem c_Mo_lays_60 {l : Launch} {s0 : State} {a0 : Array Value} {D : va_G} {cA : Nat → ClassId} {sp : Nat → Nat} (E : x_En CL l s0 a0 D cA sp) (v1 : Int32) {σ : xS} {r : Unit} {σ1 : xS} (h : f_Mo_lays_60 v1 σ = some (r, σ1)) : zC l s0 D cA sp 0 M_Mo_lays [.ref 60, .int v1] σ none σ1 := by
  unfold f_Mo_lays_60 at h
  try dsimp only at h
  refine x_enter [some (.ref 60), some (.int v1), none] rfl (Nat.le_of_ble_eq_true rfl) (by decide +kernel) rfl ?_
  refine x_bipush 2 rfl (v := 24) dX9_lays_0 (by decide) ?_
  refine x_istore_n 3 rfl 2 dX9_lays_2 rfl (by decide) [some (.ref 60), some (.int _), some (.int _)] rfl ?_
  obtain ⟨b4, b4h, h⟩ := x_bind h
  try dsimp only at h
  refine x_wk (x_le_s (x_le_s (x_le_s x_le_0))) (x_loop (fun a o h hK hG => b_Mo_lays_60_L3 (r := r) (σ1 := σ1) E _ a o h hK hG) _ _ _ b4h ?_)
  cases h
  exact x_vret dX9_lays_39 rfl rfl rfl
theorem K_RX9_138 : x_KV RX9 138 M_Mo_lays 1 := ⟨⟨(List.mem_append_right _ (List.mem_of_getElem? (i := 1483) (by decide +kernel))), (List.mem_append_right _ (List.mem_of_getElem? (i := 1486) (by decide +kernel))), (List.mem_append_right _ (List.mem_of_getElem? (i := 9) (by decide +kernel))), ⟨by decide +kernel, by decide +kernel⟩, by decide +kernel⟩, (List.mem_append_right _ (List.mem_of_getElem? (i := 1485) (by decide +kernel))), (List.mem_append_left _ (List.mem_of_getElem? (i := 48) (by decide +kernel)))⟩
abbrev M_Mo_feed : xM := (yX9_feed, cX9_feed, 6, some .int, [])
theorem dX9_feed_0 : decode cX9_feed 0 = .ok (.aload_n 0, 1) := by decide +kernel
theorem dX9_feed_1 : decode cX9_feed 1 = .ok (.iconst 0, 1) := by decide +kernel
theorem dX9_feed_2 : decode cX9_feed 2 = .ok (.putfield 132, 3) := by decide +kernel
theorem dX9_feed_5 : decode cX9_feed 5 = .ok (.aload_n 0, 1) := by decide +kernel
theorem dX9_feed_6 : decode cX9_feed 6 = .ok (.getfield 135, 3) := by decide +kernel
theorem dX9_feed_9 : decode cX9_feed 9 = .ok (.bipush 20, 2) := by decide +kernel
theorem dX9_feed_11 : decode cX9_feed 11 = .ok (.iadd, 1) := by decide +kernel
theorem dX9_feed_12 : decode cX9_feed 12 = .ok (.sipush 700, 3) := by decide +kernel
theorem dX9_feed_15 : decode cX9_feed 15 = .ok (.if_icmp .le 5, 3) := by decide +kernel
theorem dX9_feed_18 : decode cX9_feed 18 = .ok (.iconst (-1), 1) := by decide +kernel
theorem dX9_feed_19 : decode cX9_feed 19 = .ok (.ireturn, 1) := by decide +kernel
theorem dX9_feed_20 : decode cX9_feed 20 = .ok (.aload_n 0, 1) := by decide +kernel
theorem dX9_feed_21 : decode cX9_feed 21 = .ok (.iload_n 1, 1) := by decide +kernel
theorem dX9_feed_22 : decode cX9_feed 22 = .ok (.invokevirtual 138, 3) := by decide +kernel
theorem dX9_feed_25 : decode cX9_feed 25 = .ok (.aload_n 0, 1) := by decide +kernel
theorem dX9_feed_26 : decode cX9_feed 26 = .ok (.iload_n 2, 1) := by decide +kernel
theorem dX9_feed_27 : decode cX9_feed 27 = .ok (.invokevirtual 138, 3) := by decide +kernel
theorem dX9_feed_30 : decode cX9_feed 30 = .ok (.aload_n 0, 1) := by decide +kernel
theorem dX9_feed_31 : decode cX9_feed 31 = .ok (.iload_n 3, 1) := by decide +kernel
theorem dX9_feed_32 : decode cX9_feed 32 = .ok (.invokevirtual 138, 3) := by decide +kernel
theorem dX9_feed_35 : decode cX9_feed 35 = .ok (.aload_n 0, 1) := by decide +kernel
theorem dX9_feed_36 : decode cX9_feed 36 = .ok (.iload 4, 2) := by decide +kernel
theorem dX9_feed_38 : decode cX9_feed 38 = .ok (.invokevirtual 138, 3) := by decide +kernel
theorem dX9_feed_41 : decode cX9_feed 41 = .ok (.aload_n 0, 1) := by decide +kernel
theorem dX9_feed_42 : decode cX9_feed 42 = .ok (.iload 5, 2) := by decide +kernel
theorem dX9_feed_44 : decode cX9_feed 44 = .ok (.invokevirtual 138, 3) := by decide +kernel
theorem dX9_feed_47 : decode cX9_feed 47 = .ok (.aload_n 0, 1) := by decide +kernel
theorem dX9_feed_48 : decode cX9_feed 48 = .ok (.getfield 135, 3) := by decide +kernel
theorem dX9_feed_51 : decode cX9_feed 51 = .ok (.ireturn, 1) := by decide +kernel
def f_Mo_feed_60 (v1 : Int32) (v2 : Int32) (v3 : Int32) (v4 : Int32) (v5 : Int32) (σ : xS) : Option (Int32 × xS) :=
  let σ1 := x_pI σ 60 0 (0 : Int32)
  if (σ1.1 60 15 + (20 : Int32)) ≤ (700 : Int32) then
    (f_Mo_lays_60 v1 σ1).bind fun q2 =>
    (f_Mo_lays_60 v2 q2.2).bind fun q3 =>
    (f_Mo_lays_60 v3 q3.2).bind fun q4 =>
    (f_Mo_lays_60 v4 q4.2).bind fun q5 =>
    (f_Mo_lays_60 v5 q5.2).bind fun q6 =>
    some (q6.2.1 60 15, q6.2)
  else
    some ((-1 : Int32), σ1)
set_option maxHeartbeats 4000000 in
set_option maxRecDepth 100000 in
theorem c_Mo_feed_60 {l : Launch} {s0 : State} {a0 : Array Value} {D : va_G} {cA : Nat → ClassId} {sp : Nat → Nat} (E : x_En CL l s0 a0 D cA sp) (v1 : Int32) (v2 : Int32) (v3 : Int32) (v4 : Int32) (v5 : Int32) {σ : xS} {r : Int32} {σ1 : xS} (h : f_Mo_feed_60 v1 v2 v3 v4 v5 σ = some (r, σ1)) : zC l s0 D cA sp 1 M_Mo_feed [.ref 60, .int v1, .int v2, .int v3, .int v4, .int v5] σ (some (.int r)) σ1 := by
  unfold f_Mo_feed_60 at h
  try dsimp only at h
  refine x_enter [some (.ref 60), some (.int v1), some (.int v2), some (.int v3), some (.int v4), some (.int v5)] rfl (Nat.le_of_ble_eq_true rfl) (by decide +kernel) rfl ?_
  refine x_aload_n 1 rfl 0 dX9_feed_0 rfl rfl ?_
  refine x_iconst 2 rfl (v := 0) dX9_feed_1 (by decide) ?_
  refine x_putI E dX9_feed_2 F_RX9_132 sh_60 5 rfl ?_
  refine x_aload_n 6 rfl 0 dX9_feed_5 rfl rfl ?_
  refine x_getI E dX9_feed_6 F_RX9_135 sh_60 9 rfl ?_
  refine x_bipush 11 rfl (v := 20) dX9_feed_9 (by decide) ?_
  refine x_iadd 12 rfl dX9_feed_11 ?_
  refine x_sipush 15 rfl (v := 700) dX9_feed_12 (by decide) ?_
  refine x_icmp_le 18 rfl 20 dX9_feed_15 (by decide) (fun hc => ?_) (fun hc => ?_)
  · replace h := x_ifT hc h
    refine x_aload_n 21 rfl 0 dX9_feed_20 rfl rfl ?_
    refine x_iload_n 22 rfl 1 dX9_feed_21 rfl rfl ?_
    obtain ⟨⟨q2r, q2s⟩, q2h, h⟩ := x_bind h
    try dsimp only at h
    refine z_callV E [.int _] [] dX9_feed_22 K_RX9_138 ⟨Nat.le_of_ble_eq_true rfl, Nat.le_of_ble_eq_true rfl⟩ sh_60 (by decide) rfl (c_Mo_lays_60 E _ q2h) rfl rfl (Nat.le_of_ble_eq_true rfl) 25 rfl [] rfl ?_
    refine x_aload_n 26 rfl 0 dX9_feed_25 rfl rfl ?_
    refine x_iload_n 27 rfl 2 dX9_feed_26 rfl rfl ?_
    obtain ⟨⟨q3r, q3s⟩, q3h, h⟩ := x_bind h
    try dsimp only at h
    refine z_callV E [.int _] [] dX9_feed_27 K_RX9_138 ⟨Nat.le_of_ble_eq_true rfl, Nat.le_of_ble_eq_true rfl⟩ sh_60 (by decide) rfl (c_Mo_lays_60 E _ q3h) rfl rfl (Nat.le_of_ble_eq_true rfl) 30 rfl [] rfl ?_
    refine x_aload_n 31 rfl 0 dX9_feed_30 rfl rfl ?_
    refine x_iload_n 32 rfl 3 dX9_feed_31 rfl rfl ?_
    obtain ⟨⟨q4r, q4s⟩, q4h, h⟩ := x_bind h
    try dsimp only at h
    refine z_callV E [.int _] [] dX9_feed_32 K_RX9_138 ⟨Nat.le_of_ble_eq_true rfl, Nat.le_of_ble_eq_true rfl⟩ sh_60 (by decide) rfl (c_Mo_lays_60 E _ q4h) rfl rfl (Nat.le_of_ble_eq_true rfl) 35 rfl [] rfl ?_
    refine x_aload_n 36 rfl 0 dX9_feed_35 rfl rfl ?_
    refine x_iload 38 rfl dX9_feed_36 rfl ?_
    obtain ⟨⟨q5r, q5s⟩, q5h, h⟩ := x_bind h
    try dsimp only at h
    refine z_callV E [.int _] [] dX9_feed_38 K_RX9_138 ⟨Nat.le_of_ble_eq_true rfl, Nat.le_of_ble_eq_true rfl⟩ sh_60 (by decide) rfl (c_Mo_lays_60 E _ q5h) rfl rfl (Nat.le_of_ble_eq_true rfl) 41 rfl [] rfl ?_
    refine x_aload_n 42 rfl 0 dX9_feed_41 rfl rfl ?_
    refine x_iload 44 rfl dX9_feed_42 rfl ?_
    obtain ⟨⟨q6r, q6s⟩, q6h, h⟩ := x_bind h
    try dsimp only at h
    refine z_callV E [.int _] [] dX9_feed_44 K_RX9_138 ⟨Nat.le_of_ble_eq_true rfl, Nat.le_of_ble_eq_true rfl⟩ sh_60 (by decide) rfl (c_Mo_lays_60 E _ q6h) rfl rfl (Nat.le_of_ble_eq_true rfl) 47 rfl [] rfl ?_
    refine x_aload_n 48 rfl 0 dX9_feed_47 rfl rfl ?_
    refine x_getI E dX9_feed_48 F_RX9_135 sh_60 51 rfl ?_
    cases h
    exact x_iret dX9_feed_51 rfl rfl rfl
  · replace h := x_ifF hc h
    refine x_iconst 19 rfl (v := -1) dX9_feed_18 (by decide) ?_
    cases h
    exact x_iret dX9_feed_19 rfl rfl rfl
abbrev M_Mo_byteAt : xM := (yX9_byteAt, cX9_byteAt, 2, some .int, [])
theorem dX9_byteAt_0 : decode cX9_byteAt 0 = .ok (.iload_n 1, 1) := by decide +kernel
theorem dX9_byteAt_1 : decode cX9_byteAt 1 = .ok (.aload_n 0, 1) := by decide +kernel
theorem dX9_byteAt_2 : decode cX9_byteAt 2 = .ok (.getfield 142, 3) := by decide +kernel
theorem dX9_byteAt_5 : decode cX9_byteAt 5 = .ok (.if_icmp .ge 12, 3) := by decide +kernel
theorem dX9_byteAt_8 : decode cX9_byteAt 8 = .ok (.aload_n 0, 1) := by decide +kernel
theorem dX9_byteAt_9 : decode cX9_byteAt 9 = .ok (.getfield 38, 3) := by decide +kernel
theorem dX9_byteAt_12 : decode cX9_byteAt 12 = .ok (.iload_n 1, 1) := by decide +kernel
theorem dX9_byteAt_13 : decode cX9_byteAt 13 = .ok (.iaload, 1) := by decide +kernel
theorem dX9_byteAt_14 : decode cX9_byteAt 14 = .ok (.goto 4, 3) := by decide +kernel
theorem dX9_byteAt_17 : decode cX9_byteAt 17 = .ok (.iconst 0, 1) := by decide +kernel
theorem dX9_byteAt_18 : decode cX9_byteAt 18 = .ok (.ireturn, 1) := by decide +kernel
def f_Mo_byteAt_60 (v1 : Int32) (σ : xS) : Option (Int32 × xS) :=
  if σ.1 60 19 ≤ v1 then
    some ((0 : Int32), σ)
  else
    if v1 < 0 ∨ 700 ≤ v1.toNatClampNeg then none else
    some (σ.1 67 v1.toNatClampNeg, σ)
set_option maxHeartbeats 4000000 in
set_option maxRecDepth 100000 in
theorem c_Mo_byteAt_60 {l : Launch} {s0 : State} {a0 : Array Value} {D : va_G} {cA : Nat → ClassId} {sp : Nat → Nat} (E : x_En CL l s0 a0 D cA sp) (v1 : Int32) {σ : xS} {r : Int32} {σ1 : xS} (h : f_Mo_byteAt_60 v1 σ = some (r, σ1)) : zC l s0 D cA sp 0 M_Mo_byteAt [.ref 60, .int v1] σ (some (.int r)) σ1 := by
  unfold f_Mo_byteAt_60 at h
  try dsimp only at h
  refine x_enter [some (.ref 60), some (.int v1)] rfl (Nat.le_of_ble_eq_true rfl) (by decide +kernel) rfl ?_
  refine x_iload_n 1 rfl 1 dX9_byteAt_0 rfl rfl ?_
  refine x_aload_n 2 rfl 0 dX9_byteAt_1 rfl rfl ?_
  refine x_getI E dX9_byteAt_2 F_RX9_142 sh_60 5 rfl ?_
  refine x_icmp_ge 8 rfl 17 dX9_byteAt_5 (by decide) (fun hc => ?_) (fun hc => ?_)
  · replace h := x_ifT hc h
    refine x_iconst 18 rfl (v := 0) dX9_byteAt_17 (by decide) ?_
    cases h
    exact x_iret dX9_byteAt_18 rfl rfl rfl
  · replace h := x_ifF hc h
    refine x_aload_n 9 rfl 0 dX9_byteAt_8 rfl rfl ?_
    refine x_getR E dX9_byteAt_9 F_RX9_38 sh_60 rf_60_14 12 rfl ?_
    refine x_iload_n 13 rfl 1 dX9_byteAt_12 rfl rfl ?_
    obtain ⟨hz, h⟩ := x_ifn h
    refine x_iald E dX9_byteAt_13 sh_67 _ rfl hz 14 rfl ?_
    refine x_goto 18 dX9_byteAt_14 (by decide) ?_
    cases h
    exact x_iret dX9_byteAt_18 rfl rfl rfl
abbrev M_Mo_isLetter : xM := (yX9_isLetter, cX9_isLetter, 1, some .boolean, [])
theorem dX9_isLetter_0 : decode cX9_isLetter 0 = .ok (.iload_n 0, 1) := by decide +kernel
theorem dX9_isLetter_1 : decode cX9_isLetter 1 = .ok (.bipush 97, 2) := by decide +kernel
theorem dX9_isLetter_3 : decode cX9_isLetter 3 = .ok (.if_icmp .lt 13, 3) := by decide +kernel
theorem dX9_isLetter_6 : decode cX9_isLetter 6 = .ok (.iload_n 0, 1) := by decide +kernel
theorem dX9_isLetter_7 : decode cX9_isLetter 7 = .ok (.bipush 122, 2) := by decide +kernel
theorem dX9_isLetter_9 : decode cX9_isLetter 9 = .ok (.if_icmp .gt 7, 3) := by decide +kernel
theorem dX9_isLetter_12 : decode cX9_isLetter 12 = .ok (.iconst 1, 1) := by decide +kernel
theorem dX9_isLetter_13 : decode cX9_isLetter 13 = .ok (.goto 4, 3) := by decide +kernel
theorem dX9_isLetter_16 : decode cX9_isLetter 16 = .ok (.iconst 0, 1) := by decide +kernel
theorem dX9_isLetter_17 : decode cX9_isLetter 17 = .ok (.ireturn, 1) := by decide +kernel
def f_Mo_isLetter (v0 : Int32) (σ : xS) : Option (Int32 × xS) :=
  if v0 < (97 : Int32) then
    some ((0 : Int32), σ)
  else
    if (122 : Int32) < v0 then
      some ((0 : Int32), σ)
    else
      some ((1 : Int32), σ)
set_option maxHeartbeats 4000000 in
set_option maxRecDepth 100000 in
theorem c_Mo_isLetter {l : Launch} {s0 : State} {a0 : Array Value} {D : va_G} {cA : Nat → ClassId} {sp : Nat → Nat} (E : x_En CL l s0 a0 D cA sp) (v0 : Int32) {σ : xS} {r : Int32} {σ1 : xS} (h : f_Mo_isLetter v0 σ = some (r, σ1)) : zC l s0 D cA sp 0 M_Mo_isLetter [.int v0] σ (some (.int r)) σ1 := by
  unfold f_Mo_isLetter at h
  try dsimp only at h
  refine x_enter [some (.int v0)] rfl (Nat.le_of_ble_eq_true rfl) (by decide +kernel) rfl ?_
  refine x_iload_n 1 rfl 0 dX9_isLetter_0 rfl rfl ?_
  refine x_bipush 3 rfl (v := 97) dX9_isLetter_1 (by decide) ?_
  refine x_icmp_lt 6 rfl 16 dX9_isLetter_3 (by decide) (fun hc => ?_) (fun hc => ?_)
  · replace h := x_ifT hc h
    refine x_iconst 17 rfl (v := 0) dX9_isLetter_16 (by decide) ?_
    cases h
    exact x_zret (Or.inl rfl) dX9_isLetter_17 rfl rfl rfl
  · replace h := x_ifF hc h
    refine x_iload_n 7 rfl 0 dX9_isLetter_6 rfl rfl ?_
    refine x_bipush 9 rfl (v := 122) dX9_isLetter_7 (by decide) ?_
    refine x_icmp_gt 12 rfl 16 dX9_isLetter_9 (by decide) (fun hc => ?_) (fun hc => ?_)
    · replace h := x_ifT hc h
      refine x_iconst 17 rfl (v := 0) dX9_isLetter_16 (by decide) ?_
      cases h
      exact x_zret (Or.inl rfl) dX9_isLetter_17 rfl rfl rfl
    · replace h := x_ifF hc h
      refine x_iconst 13 rfl (v := 1) dX9_isLetter_12 (by decide) ?_
      refine x_goto 17 dX9_isLetter_13 (by decide) ?_
      cases h
      exact x_zret (Or.inr rfl) dX9_isLetter_17 rfl rfl rfl
abbrev M_Mo_isDigit : xM := (yX9_isDigit, cX9_isDigit, 1, some .boolean, [])
theorem dX9_isDigit_0 : decode cX9_isDigit 0 = .ok (.iload_n 0, 1) := by decide +kernel
theorem dX9_isDigit_1 : decode cX9_isDigit 1 = .ok (.bipush 48, 2) := by decide +kernel
theorem dX9_isDigit_3 : decode cX9_isDigit 3 = .ok (.if_icmp .lt 13, 3) := by decide +kernel
theorem dX9_isDigit_6 : decode cX9_isDigit 6 = .ok (.iload_n 0, 1) := by decide +kernel
theorem dX9_isDigit_7 : decode cX9_isDigit 7 = .ok (.bipush 57, 2) := by decide +kernel
theorem dX9_isDigit_9 : decode cX9_isDigit 9 = .ok (.if_icmp .gt 7, 3) := by decide +kernel
theorem dX9_isDigit_12 : decode cX9_isDigit 12 = .ok (.iconst 1, 1) := by decide +kernel
theorem dX9_isDigit_13 : decode cX9_isDigit 13 = .ok (.goto 4, 3) := by decide +kernel
theorem dX9_isDigit_16 : decode cX9_isDigit 16 = .ok (.iconst 0, 1) := by decide +kernel
theorem dX9_isDigit_17 : decode cX9_isDigit 17 = .ok (.ireturn, 1) := by decide +kernel
def f_Mo_isDigit (v0 : Int32) (σ : xS) : Option (Int32 × xS) :=
  if v0 < (48 : Int32) then
    some ((0 : Int32), σ)
  else
    if (57 : Int32) < v0 then
      some ((0 : Int32), σ)
    else
      some ((1 : Int32), σ)
set_option maxHeartbeats 4000000 in
set_option maxRecDepth 100000 in
theorem c_Mo_isDigit {l : Launch} {s0 : State} {a0 : Array Value} {D : va_G} {cA : Nat → ClassId} {sp : Nat → Nat} (E : x_En CL l s0 a0 D cA sp) (v0 : Int32) {σ : xS} {r : Int32} {σ1 : xS} (h : f_Mo_isDigit v0 σ = some (r, σ1)) : zC l s0 D cA sp 0 M_Mo_isDigit [.int v0] σ (some (.int r)) σ1 := by
  unfold f_Mo_isDigit at h
  try dsimp only at h
  refine x_enter [some (.int v0)] rfl (Nat.le_of_ble_eq_true rfl) (by decide +kernel) rfl ?_
  refine x_iload_n 1 rfl 0 dX9_isDigit_0 rfl rfl ?_
  refine x_bipush 3 rfl (v := 48) dX9_isDigit_1 (by decide) ?_
  refine x_icmp_lt 6 rfl 16 dX9_isDigit_3 (by decide) (fun hc => ?_) (fun hc => ?_)
  · replace h := x_ifT hc h
    refine x_iconst 17 rfl (v := 0) dX9_isDigit_16 (by decide) ?_
    cases h
    exact x_zret (Or.inl rfl) dX9_isDigit_17 rfl rfl rfl
  · replace h := x_ifF hc h
    refine x_iload_n 7 rfl 0 dX9_isDigit_6 rfl rfl ?_
    refine x_bipush 9 rfl (v := 57) dX9_isDigit_7 (by decide) ?_
    refine x_icmp_gt 12 rfl 16 dX9_isDigit_9 (by decide) (fun hc => ?_) (fun hc => ?_)
    · replace h := x_ifT hc h
      refine x_iconst 17 rfl (v := 0) dX9_isDigit_16 (by decide) ?_
      cases h
      exact x_zret (Or.inl rfl) dX9_isDigit_17 rfl rfl rfl
    · replace h := x_ifF hc h
      refine x_iconst 13 rfl (v := 1) dX9_isDigit_12 (by decide) ?_
      refine x_goto 17 dX9_isDigit_13 (by decide) ?_
      cases h
      exact x_zret (Or.inr rfl) dX9_isDigit_17 rfl rfl rfl
theorem K_RX9_148 : x_KV RX9 148 M_Mo_byteAt 1 := ⟨⟨(List.mem_append_right _ (List.mem_of_getElem? (i := 1503) (by decide +kernel))), (List.mem_append_right _ (List.mem_of_getElem? (i := 1506) (by decide +kernel))), (List.mem_append_right _ (List.mem_of_getElem? (i := 9) (by decide +kernel))), ⟨by decide +kernel, by decide +kernel⟩, by decide +kernel⟩, (List.mem_append_right _ (List.mem_of_getElem? (i := 1505) (by decide +kernel))), (List.mem_append_left _ (List.mem_of_getElem? (i := 52) (by decide +kernel)))⟩
theorem K_RX9_168 : x_KS RX9 168 M_Mo_isLetter 1 := ⟨⟨(List.mem_append_right _ (List.mem_of_getElem? (i := 1507) (by decide +kernel))), (List.mem_append_right _ (List.mem_of_getElem? (i := 1509) (by decide +kernel))), (List.mem_append_right _ (List.mem_of_getElem? (i := 9) (by decide +kernel))), ⟨by decide +kernel, by decide +kernel⟩, by decide +kernel⟩, (List.mem_append_right _ (List.mem_of_getElem? (i := 1508) (by decide +kernel)))⟩
theorem K_RX9_172 : x_KS RX9 172 M_Mo_isDigit 1 := ⟨⟨(List.mem_append_right _ (List.mem_of_getElem? (i := 1510) (by decide +kernel))), (List.mem_append_right _ (List.mem_of_getElem? (i := 1512) (by decide +kernel))), (List.mem_append_right _ (List.mem_of_getElem? (i := 9) (by decide +kernel))), ⟨by decide +kernel, by decide +kernel⟩, by decide +kernel⟩, (List.mem_append_right _ (List.mem_of_getElem? (i := 1511) (by decide +kernel)))⟩
abbrev M_Mo_goes : xM := (yX9_goes, cX9_goes, 2, none, [])
theorem dX9_goes_0 : decode cX9_goes 0 = .ok (.aload_n 0, 1) := by decide +kernel
theorem dX9_goes_1 : decode cX9_goes 1 = .ok (.getfield 145, 3) := by decide +kernel
theorem dX9_goes_4 : decode cX9_goes 4 = .ok (.aload_n 0, 1) := by decide +kernel
theorem dX9_goes_5 : decode cX9_goes 5 = .ok (.getfield 142, 3) := by decide +kernel
theorem dX9_goes_8 : decode cX9_goes 8 = .ok (.if_icmp .ge 42, 3) := by decide +kernel
theorem dX9_goes_11 : decode cX9_goes 11 = .ok (.aload_n 0, 1) := by decide +kernel
theorem dX9_goes_12 : decode cX9_goes 12 = .ok (.aload_n 0, 1) := by decide +kernel
theorem dX9_goes_13 : decode cX9_goes 13 = .ok (.getfield 145, 3) := by decide +kernel
theorem dX9_goes_16 : decode cX9_goes 16 = .ok (.invokevirtual 148, 3) := by decide +kernel
theorem dX9_goes_19 : decode cX9_goes 19 = .ok (.bipush 32, 2) := by decide +kernel
theorem dX9_goes_21 : decode cX9_goes 21 = .ok (.if_icmp .eq 16, 3) := by decide +kernel
theorem dX9_goes_24 : decode cX9_goes 24 = .ok (.aload_n 0, 1) := by decide +kernel
theorem dX9_goes_25 : decode cX9_goes 25 = .ok (.aload_n 0, 1) := by decide +kernel
theorem dX9_goes_26 : decode cX9_goes 26 = .ok (.getfield 145, 3) := by decide +kernel
theorem dX9_goes_29 : decode cX9_goes 29 = .ok (.invokevirtual 148, 3) := by decide +kernel
theorem dX9_goes_32 : decode cX9_goes 32 = .ok (.bipush 10, 2) := by decide +kernel
theorem dX9_goes_34 : decode cX9_goes 34 = .ok (.if_icmp .ne 16, 3) := by decide +kernel
theorem dX9_goes_37 : decode cX9_goes 37 = .ok (.aload_n 0, 1) := by decide +kernel
theorem dX9_goes_38 : decode cX9_goes 38 = .ok (.dup, 1) := by decide +kernel
theorem dX9_goes_39 : decode cX9_goes 39 = .ok (.getfield 145, 3) := by decide +kernel
theorem dX9_goes_42 : decode cX9_goes 42 = .ok (.iconst 1, 1) := by decide +kernel
theorem dX9_goes_43 : decode cX9_goes 43 = .ok (.iadd, 1) := by decide +kernel
theorem dX9_goes_44 : decode cX9_goes 44 = .ok (.putfield 145, 3) := by decide +kernel
theorem dX9_goes_47 : decode cX9_goes 47 = .ok (.goto (-47), 3) := by decide +kernel
theorem dX9_goes_50 : decode cX9_goes 50 = .ok (.aload_n 0, 1) := by decide +kernel
theorem dX9_goes_51 : decode cX9_goes 51 = .ok (.aload_n 0, 1) := by decide +kernel
theorem dX9_goes_52 : decode cX9_goes 52 = .ok (.getfield 145, 3) := by decide +kernel
theorem dX9_goes_55 : decode cX9_goes 55 = .ok (.putfield 152, 3) := by decide +kernel
theorem dX9_goes_58 : decode cX9_goes 58 = .ok (.aload_n 0, 1) := by decide +kernel
theorem dX9_goes_59 : decode cX9_goes 59 = .ok (.lconst 0, 1) := by decide +kernel
theorem dX9_goes_60 : decode cX9_goes 60 = .ok (.putfield 155, 3) := by decide +kernel
theorem dX9_goes_63 : decode cX9_goes 63 = .ok (.aload_n 0, 1) := by decide +kernel
theorem dX9_goes_64 : decode cX9_goes 64 = .ok (.iconst 0, 1) := by decide +kernel
theorem dX9_goes_65 : decode cX9_goes 65 = .ok (.putfield 159, 3) := by decide +kernel
theorem dX9_goes_68 : decode cX9_goes 68 = .ok (.aload_n 0, 1) := by decide +kernel
theorem dX9_goes_69 : decode cX9_goes 69 = .ok (.aload_n 0, 1) := by decide +kernel
theorem dX9_goes_70 : decode cX9_goes 70 = .ok (.getfield 145, 3) := by decide +kernel
theorem dX9_goes_73 : decode cX9_goes 73 = .ok (.invokevirtual 148, 3) := by decide +kernel
theorem dX9_goes_76 : decode cX9_goes 76 = .ok (.istore_n 1, 1) := by decide +kernel
theorem dX9_goes_77 : decode cX9_goes 77 = .ok (.aload_n 0, 1) := by decide +kernel
theorem dX9_goes_78 : decode cX9_goes 78 = .ok (.iload_n 1, 1) := by decide +kernel
theorem dX9_goes_79 : decode cX9_goes 79 = .ok (.putfield 162, 3) := by decide +kernel
theorem dX9_goes_82 : decode cX9_goes 82 = .ok (.aload_n 0, 1) := by decide +kernel
theorem dX9_goes_83 : decode cX9_goes 83 = .ok (.getfield 145, 3) := by decide +kernel
theorem dX9_goes_86 : decode cX9_goes 86 = .ok (.aload_n 0, 1) := by decide +kernel
theorem dX9_goes_87 : decode cX9_goes 87 = .ok (.getfield 142, 3) := by decide +kernel
theorem dX9_goes_90 : decode cX9_goes 90 = .ok (.if_icmp .lt 11, 3) := by decide +kernel
theorem dX9_goes_93 : decode cX9_goes 93 = .ok (.aload_n 0, 1) := by decide +kernel
theorem dX9_goes_94 : decode cX9_goes 94 = .ok (.iconst 0, 1) := by decide +kernel
theorem dX9_goes_95 : decode cX9_goes 95 = .ok (.putfield 165, 3) := by decide +kernel
theorem dX9_goes_98 : decode cX9_goes 98 = .ok (.goto 233, 3) := by decide +kernel
theorem dX9_goes_101 : decode cX9_goes 101 = .ok (.iload_n 1, 1) := by decide +kernel
theorem dX9_goes_102 : decode cX9_goes 102 = .ok (.invokestatic 168, 3) := by decide +kernel
theorem dX9_goes_105 : decode cX9_goes 105 = .ok (.ifCond .eq 75, 3) := by decide +kernel
theorem dX9_goes_108 : decode cX9_goes 108 = .ok (.aload_n 0, 1) := by decide +kernel
theorem dX9_goes_109 : decode cX9_goes 109 = .ok (.aload_n 0, 1) := by decide +kernel
theorem dX9_goes_110 : decode cX9_goes 110 = .ok (.getfield 145, 3) := by decide +kernel
theorem dX9_goes_113 : decode cX9_goes 113 = .ok (.invokevirtual 148, 3) := by decide +kernel
theorem dX9_goes_116 : decode cX9_goes 116 = .ok (.invokestatic 168, 3) := by decide +kernel
theorem dX9_goes_119 : decode cX9_goes 119 = .ok (.ifCond .eq 53, 3) := by decide +kernel
theorem dX9_goes_122 : decode cX9_goes 122 = .ok (.aload_n 0, 1) := by decide +kernel
theorem dX9_goes_123 : decode cX9_goes 123 = .ok (.getfield 145, 3) := by decide +kernel
theorem dX9_goes_126 : decode cX9_goes 126 = .ok (.aload_n 0, 1) := by decide +kernel
theorem dX9_goes_127 : decode cX9_goes 127 = .ok (.getfield 152, 3) := by decide +kernel
theorem dX9_goes_130 : decode cX9_goes 130 = .ok (.isub, 1) := by decide +kernel
theorem dX9_goes_131 : decode cX9_goes 131 = .ok (.bipush 6, 2) := by decide +kernel
theorem dX9_goes_133 : decode cX9_goes 133 = .ok (.if_icmp .ge 26, 3) := by decide +kernel
theorem dX9_goes_136 : decode cX9_goes 136 = .ok (.aload_n 0, 1) := by decide +kernel
theorem dX9_goes_137 : decode cX9_goes 137 = .ok (.aload_n 0, 1) := by decide +kernel
theorem dX9_goes_138 : decode cX9_goes 138 = .ok (.getfield 155, 3) := by decide +kernel
theorem dX9_goes_141 : decode cX9_goes 141 = .ok (.iconst 5, 1) := by decide +kernel
theorem dX9_goes_142 : decode cX9_goes 142 = .ok (.lshl, 1) := by decide +kernel
theorem dX9_goes_143 : decode cX9_goes 143 = .ok (.aload_n 0, 1) := by decide +kernel
theorem dX9_goes_144 : decode cX9_goes 144 = .ok (.aload_n 0, 1) := by decide +kernel
theorem dX9_goes_145 : decode cX9_goes 145 = .ok (.getfield 145, 3) := by decide +kernel
theorem dX9_goes_148 : decode cX9_goes 148 = .ok (.invokevirtual 148, 3) := by decide +kernel
theorem dX9_goes_151 : decode cX9_goes 151 = .ok (.bipush 96, 2) := by decide +kernel
theorem dX9_goes_153 : decode cX9_goes 153 = .ok (.isub, 1) := by decide +kernel
theorem dX9_goes_154 : decode cX9_goes 154 = .ok (.i2l, 1) := by decide +kernel
theorem dX9_goes_155 : decode cX9_goes 155 = .ok (.lor, 1) := by decide +kernel
theorem dX9_goes_156 : decode cX9_goes 156 = .ok (.putfield 155, 3) := by decide +kernel
theorem dX9_goes_159 : decode cX9_goes 159 = .ok (.aload_n 0, 1) := by decide +kernel
theorem dX9_goes_160 : decode cX9_goes 160 = .ok (.dup, 1) := by decide +kernel
theorem dX9_goes_161 : decode cX9_goes 161 = .ok (.getfield 145, 3) := by decide +kernel
theorem dX9_goes_164 : decode cX9_goes 164 = .ok (.iconst 1, 1) := by decide +kernel
theorem dX9_goes_165 : decode cX9_goes 165 = .ok (.iadd, 1) := by decide +kernel
theorem dX9_goes_166 : decode cX9_goes 166 = .ok (.putfield 145, 3) := by decide +kernel
theorem dX9_goes_169 : decode cX9_goes 169 = .ok (.goto (-61), 3) := by decide +kernel
theorem dX9_goes_172 : decode cX9_goes 172 = .ok (.aload_n 0, 1) := by decide +kernel
theorem dX9_goes_173 : decode cX9_goes 173 = .ok (.iconst 1, 1) := by decide +kernel
theorem dX9_goes_174 : decode cX9_goes 174 = .ok (.putfield 165, 3) := by decide +kernel
theorem dX9_goes_177 : decode cX9_goes 177 = .ok (.goto 154, 3) := by decide +kernel
theorem dX9_goes_180 : decode cX9_goes 180 = .ok (.iload_n 1, 1) := by decide +kernel
theorem dX9_goes_181 : decode cX9_goes 181 = .ok (.invokestatic 172, 3) := by decide +kernel
theorem dX9_goes_184 : decode cX9_goes 184 = .ok (.ifCond .eq 74, 3) := by decide +kernel
theorem dX9_goes_187 : decode cX9_goes 187 = .ok (.aload_n 0, 1) := by decide +kernel
theorem dX9_goes_188 : decode cX9_goes 188 = .ok (.aload_n 0, 1) := by decide +kernel
theorem dX9_goes_189 : decode cX9_goes 189 = .ok (.getfield 145, 3) := by decide +kernel
theorem dX9_goes_192 : decode cX9_goes 192 = .ok (.invokevirtual 148, 3) := by decide +kernel
theorem dX9_goes_195 : decode cX9_goes 195 = .ok (.invokestatic 172, 3) := by decide +kernel
theorem dX9_goes_198 : decode cX9_goes 198 = .ok (.ifCond .eq 52, 3) := by decide +kernel
theorem dX9_goes_201 : decode cX9_goes 201 = .ok (.aload_n 0, 1) := by decide +kernel
theorem dX9_goes_202 : decode cX9_goes 202 = .ok (.getfield 145, 3) := by decide +kernel
theorem dX9_goes_205 : decode cX9_goes 205 = .ok (.aload_n 0, 1) := by decide +kernel
theorem dX9_goes_206 : decode cX9_goes 206 = .ok (.getfield 152, 3) := by decide +kernel
theorem dX9_goes_209 : decode cX9_goes 209 = .ok (.isub, 1) := by decide +kernel
theorem dX9_goes_210 : decode cX9_goes 210 = .ok (.iconst 4, 1) := by decide +kernel
theorem dX9_goes_211 : decode cX9_goes 211 = .ok (.if_icmp .ge 26, 3) := by decide +kernel
theorem dX9_goes_214 : decode cX9_goes 214 = .ok (.aload_n 0, 1) := by decide +kernel
theorem dX9_goes_215 : decode cX9_goes 215 = .ok (.bipush 10, 2) := by decide +kernel
theorem dX9_goes_217 : decode cX9_goes 217 = .ok (.aload_n 0, 1) := by decide +kernel
theorem dX9_goes_218 : decode cX9_goes 218 = .ok (.getfield 159, 3) := by decide +kernel
theorem dX9_goes_221 : decode cX9_goes 221 = .ok (.imul, 1) := by decide +kernel
theorem dX9_goes_222 : decode cX9_goes 222 = .ok (.aload_n 0, 1) := by decide +kernel
theorem dX9_goes_223 : decode cX9_goes 223 = .ok (.aload_n 0, 1) := by decide +kernel
theorem dX9_goes_224 : decode cX9_goes 224 = .ok (.getfield 145, 3) := by decide +kernel
theorem dX9_goes_227 : decode cX9_goes 227 = .ok (.invokevirtual 148, 3) := by decide +kernel
theorem dX9_goes_230 : decode cX9_goes 230 = .ok (.iadd, 1) := by decide +kernel
theorem dX9_goes_231 : decode cX9_goes 231 = .ok (.bipush 48, 2) := by decide +kernel
theorem dX9_goes_233 : decode cX9_goes 233 = .ok (.isub, 1) := by decide +kernel
theorem dX9_goes_234 : decode cX9_goes 234 = .ok (.putfield 159, 3) := by decide +kernel
theorem dX9_goes_237 : decode cX9_goes 237 = .ok (.aload_n 0, 1) := by decide +kernel
theorem dX9_goes_238 : decode cX9_goes 238 = .ok (.dup, 1) := by decide +kernel
theorem dX9_goes_239 : decode cX9_goes 239 = .ok (.getfield 145, 3) := by decide +kernel
theorem dX9_goes_242 : decode cX9_goes 242 = .ok (.iconst 1, 1) := by decide +kernel
theorem dX9_goes_243 : decode cX9_goes 243 = .ok (.iadd, 1) := by decide +kernel
theorem dX9_goes_244 : decode cX9_goes 244 = .ok (.putfield 145, 3) := by decide +kernel
theorem dX9_goes_247 : decode cX9_goes 247 = .ok (.goto (-60), 3) := by decide +kernel
theorem dX9_goes_250 : decode cX9_goes 250 = .ok (.aload_n 0, 1) := by decide +kernel
theorem dX9_goes_251 : decode cX9_goes 251 = .ok (.iconst 2, 1) := by decide +kernel
theorem dX9_goes_252 : decode cX9_goes 252 = .ok (.putfield 165, 3) := by decide +kernel
theorem dX9_goes_255 : decode cX9_goes 255 = .ok (.goto 76, 3) := by decide +kernel
theorem dX9_goes_258 : decode cX9_goes 258 = .ok (.aload_n 0, 1) := by decide +kernel
theorem dX9_goes_259 : decode cX9_goes 259 = .ok (.dup, 1) := by decide +kernel
theorem dX9_goes_260 : decode cX9_goes 260 = .ok (.getfield 145, 3) := by decide +kernel
theorem dX9_goes_263 : decode cX9_goes 263 = .ok (.iconst 1, 1) := by decide +kernel
theorem dX9_goes_264 : decode cX9_goes 264 = .ok (.iadd, 1) := by decide +kernel
theorem dX9_goes_265 : decode cX9_goes 265 = .ok (.putfield 145, 3) := by decide +kernel
theorem dX9_goes_268 : decode cX9_goes 268 = .ok (.aload_n 0, 1) := by decide +kernel
theorem dX9_goes_269 : decode cX9_goes 269 = .ok (.iload_n 1, 1) := by decide +kernel
theorem dX9_goes_270 : decode cX9_goes 270 = .ok (.bipush 59, 2) := by decide +kernel
theorem dX9_goes_272 : decode cX9_goes 272 = .ok (.if_icmp .eq 51, 3) := by decide +kernel
theorem dX9_goes_275 : decode cX9_goes 275 = .ok (.iload_n 1, 1) := by decide +kernel
theorem dX9_goes_276 : decode cX9_goes 276 = .ok (.bipush 40, 2) := by decide +kernel
theorem dX9_goes_278 : decode cX9_goes 278 = .ok (.if_icmp .eq 45, 3) := by decide +kernel
theorem dX9_goes_281 : decode cX9_goes 281 = .ok (.iload_n 1, 1) := by decide +kernel
theorem dX9_goes_282 : decode cX9_goes 282 = .ok (.bipush 41, 2) := by decide +kernel
theorem dX9_goes_284 : decode cX9_goes 284 = .ok (.if_icmp .eq 39, 3) := by decide +kernel
theorem dX9_goes_287 : decode cX9_goes 287 = .ok (.iload_n 1, 1) := by decide +kernel
theorem dX9_goes_288 : decode cX9_goes 288 = .ok (.bipush 43, 2) := by decide +kernel
theorem dX9_goes_290 : decode cX9_goes 290 = .ok (.if_icmp .eq 33, 3) := by decide +kernel
theorem dX9_goes_293 : decode cX9_goes 293 = .ok (.iload_n 1, 1) := by decide +kernel
theorem dX9_goes_294 : decode cX9_goes 294 = .ok (.bipush 45, 2) := by decide +kernel
theorem dX9_goes_296 : decode cX9_goes 296 = .ok (.if_icmp .eq 27, 3) := by decide +kernel
theorem dX9_goes_299 : decode cX9_goes 299 = .ok (.iload_n 1, 1) := by decide +kernel
theorem dX9_goes_300 : decode cX9_goes 300 = .ok (.bipush 42, 2) := by decide +kernel
theorem dX9_goes_302 : decode cX9_goes 302 = .ok (.if_icmp .eq 21, 3) := by decide +kernel
theorem dX9_goes_305 : decode cX9_goes 305 = .ok (.iload_n 1, 1) := by decide +kernel
theorem dX9_goes_306 : decode cX9_goes 306 = .ok (.bipush 47, 2) := by decide +kernel
theorem dX9_goes_308 : decode cX9_goes 308 = .ok (.if_icmp .eq 15, 3) := by decide +kernel
theorem dX9_goes_311 : decode cX9_goes 311 = .ok (.iload_n 1, 1) := by decide +kernel
theorem dX9_goes_312 : decode cX9_goes 312 = .ok (.bipush 60, 2) := by decide +kernel
theorem dX9_goes_314 : decode cX9_goes 314 = .ok (.if_icmp .eq 9, 3) := by decide +kernel
theorem dX9_goes_317 : decode cX9_goes 317 = .ok (.iload_n 1, 1) := by decide +kernel
theorem dX9_goes_318 : decode cX9_goes 318 = .ok (.bipush 61, 2) := by decide +kernel
theorem dX9_goes_320 : decode cX9_goes 320 = .ok (.if_icmp .ne 7, 3) := by decide +kernel
theorem dX9_goes_323 : decode cX9_goes 323 = .ok (.iconst 3, 1) := by decide +kernel
theorem dX9_goes_324 : decode cX9_goes 324 = .ok (.goto 4, 3) := by decide +kernel
theorem dX9_goes_327 : decode cX9_goes 327 = .ok (.iconst 4, 1) := by decide +kernel
theorem dX9_goes_328 : decode cX9_goes 328 = .ok (.putfield 165, 3) := by decide +kernel
theorem dX9_goes_331 : decode cX9_goes 331 = .ok (.aload_n 0, 1) := by decide +kernel
theorem dX9_goes_332 : decode cX9_goes 332 = .ok (.aload_n 0, 1) := by decide +kernel
theorem dX9_goes_333 : decode cX9_goes 333 = .ok (.getfield 145, 3) := by decide +kernel
theorem dX9_goes_336 : decode cX9_goes 336 = .ok (.aload_n 0, 1) := by decide +kernel
theorem dX9_goes_337 : decode cX9_goes 337 = .ok (.getfield 152, 3) := by decide +kernel
theorem dX9_goes_340 : decode cX9_goes 340 = .ok (.isub, 1) := by decide +kernel
theorem dX9_goes_341 : decode cX9_goes 341 = .ok (.putfield 175, 3) := by decide +kernel
theorem dX9_goes_344 : decode cX9_goes 344 = .ok (.return_, 1) := by decide +kernel
def f_Mo_goes_60_L0  (a : xS) : Option ((xS) ⊕ (xS)) :=
   let σ := a;
  if σ.1 60 19 ≤ σ.1 60 20 then
    some (.inl σ)
  else
    (f_Mo_byteAt_60 (σ.1 60 20) σ).bind fun q1 =>
    if q1.1 = (32 : Int32) then
      let σ2 := x_pI q1.2 60 20 (q1.2.1 60 20 + (1 : Int32))
      some (.inr σ2)
    else
      (f_Mo_byteAt_60 (q1.2.1 60 20) q1.2).bind fun q3 =>
      if q3.1 = (10 : Int32) then
        let σ4 := x_pI q3.2 60 20 (q3.2.1 60 20 + (1 : Int32))
        some (.inr σ4)
      else
        some (.inl q3.2)
def f_Mo_goes_60_L187  (a : xS) : Option ((xS) ⊕ (xS)) :=
   let σ := a;
  (f_Mo_byteAt_60 (σ.1 60 20) σ).bind fun q5 =>
  (f_Mo_isDigit q5.1 q5.2).bind fun q6 =>
  if q6.1 = 0 then
    some (.inl q6.2)
  else
    if (4 : Int32) ≤ (q6.2.1 60 20 - q6.2.1 60 22) then
      let σ7 := x_pI q6.2 60 20 (q6.2.1 60 20 + (1 : Int32))
      some (.inr σ7)
    else
      (f_Mo_byteAt_60 (q6.2.1 60 20) q6.2).bind fun q8 =>
      let σ9 := x_pI q8.2 60 24 ((((10 : Int32) * q6.2.1 60 24) + q8.1) - (48 : Int32))
      let σ10 := x_pI σ9 60 20 (σ9.1 60 20 + (1 : Int32))
      some (.inr σ10)
def f_Mo_goes_60_L108  (a : xS) : Option ((xS) ⊕ (xS)) :=
   let σ := a;
  (f_Mo_byteAt_60 (σ.1 60 20) σ).bind fun q11 =>
  (f_Mo_isLetter q11.1 q11.2).bind fun q12 =>
  if q12.1 = 0 then
    some (.inl q12.2)
  else
    if (6 : Int32) ≤ (q12.2.1 60 20 - q12.2.1 60 22) then
      let σ13 := x_pI q12.2 60 20 (q12.2.1 60 20 + (1 : Int32))
      some (.inr σ13)
    else
      (f_Mo_byteAt_60 (q12.2.1 60 20) q12.2).bind fun q14 =>
      let σ15 := x_pL q14.2 60 26 ((q12.2.2 60 26 <<< ((5 : Int32).toInt64 &&& 63)) ||| (q14.1 - (96 : Int32)).toInt64)
      let σ16 := x_pI σ15 60 20 (σ15.1 60 20 + (1 : Int32))
      some (.inr σ16)
def f_Mo_goes_60_J323  (σ : xS) : Option (Unit × xS) :=
  let σ17 := x_pI σ 60 21 (3 : Int32)
  let σ18 := x_pI σ17 60 23 (σ17.1 60 20 - σ17.1 60 22)
  some ((), σ18)
def f_Mo_goes_60_J50  (σ : xS) : Option (Unit × xS) :=
  let σ19 := x_pI σ 60 22 (σ.1 60 20)
  let σ20 := x_pL σ19 60 26 (0 : Int64)
  let σ21 := x_pI σ20 60 24 (0 : Int32)
  (f_Mo_byteAt_60 (σ21.1 60 20) σ21).bind fun q22 =>
  let w23 := q22.1
  let σ24 := x_pI q22.2 60 25 w23
  if σ24.1 60 20 < σ24.1 60 19 then
    (f_Mo_isLetter w23 σ24).bind fun q25 =>
    if q25.1 = 0 then
      (f_Mo_isDigit w23 q25.2).bind fun q26 =>
      if q26.1 = 0 then
        let σ27 := x_pI q26.2 60 20 (q26.2.1 60 20 + (1 : Int32))
        if w23 = (59 : Int32) then
          f_Mo_goes_60_J323  σ27
        else
          if w23 = (40 : Int32) then
            f_Mo_goes_60_J323  σ27
          else
            if w23 = (41 : Int32) then
              f_Mo_goes_60_J323  σ27
            else
              if w23 = (43 : Int32) then
                f_Mo_goes_60_J323  σ27
              else
                if w23 = (45 : Int32) then
                  f_Mo_goes_60_J323  σ27
                else
                  if w23 = (42 : Int32) then
                    f_Mo_goes_60_J323  σ27
                  else
                    if w23 = (47 : Int32) then
                      f_Mo_goes_60_J323  σ27
                    else
                      if w23 = (60 : Int32) then
                        f_Mo_goes_60_J323  σ27
                      else
                        if w23 = (61 : Int32) then
                          f_Mo_goes_60_J323  σ27
                        else
                          let σ28 := x_pI σ27 60 21 (4 : Int32)
                          let σ29 := x_pI σ28 60 23 (σ28.1 60 20 - σ28.1 60 22)
                          some ((), σ29)
      else
        (x_it (f_Mo_goes_60_L187 ) 10000 q26.2).bind fun b30 =>
        let σ31 := x_pI b30 60 21 (2 : Int32)
        let σ32 := x_pI σ31 60 23 (σ31.1 60 20 - σ31.1 60 22)
        some ((), σ32)
    else
      (x_it (f_Mo_goes_60_L108 ) 10000 q25.2).bind fun b33 =>
      let σ34 := x_pI b33 60 21 (1 : Int32)
      let σ35 := x_pI σ34 60 23 (σ34.1 60 20 - σ34.1 60 22)
      some ((), σ35)
  else
    let σ36 := x_pI σ24 60 21 (0 : Int32)
    let σ37 := x_pI σ36 60 23 (σ36.1 60 20 - σ36.1 60 22)
    some ((), σ37)
def f_Mo_goes_60  (σ : xS) : Option (Unit × xS) :=
  (x_it (f_Mo_goes_60_L0 ) 10000 σ).bind fun b38 =>
  f_Mo_goes_60_J50  b38
set_option maxHeartbeats 4000000 in
set_option maxRecDepth 100000 in
theorem b_Mo_goes_60_L0 {l : Launch} {s0 : State} {a0 : Array Value} {D : va_G} {cA : Nat → ClassId} {sp : Nat → Nat} (E : x_En CL l s0 a0 D cA sp)  {r : Unit} {σ1 : xS} (a : xS) (o : (xS) ⊕ (xS)) (h : f_Mo_goes_60_L0  a = some o) (hK : ∀ b, o = .inl b → zW l s0 D cA sp (zQ s0 D cA sp none σ1) (x_rm 1 0 0) M_Mo_goes 0 0 50 [some (.ref 60), none] [] b) (hG : ∀ a', o = .inr a' → zW l s0 D cA sp (zQ s0 D cA sp none σ1) (x_rm 1 0 0) M_Mo_goes 0 0 0 [some (.ref 60), none] [] a') : zW l s0 D cA sp (zQ s0 D cA sp none σ1) (x_rm 1 0 0) M_Mo_goes 0 0 0 [some (.ref 60), none] [] a := by
  obtain ⟨σ, rfl⟩ : ∃ z, z = a := ⟨_, rfl⟩
  unfold f_Mo_goes_60_L0 at h
  try dsimp only at h ⊢
  refine x_aload_n 1 rfl 0 dX9_goes_0 rfl rfl ?_
  refine x_getI E dX9_goes_1 F_RX9_145 sh_60 4 rfl ?_
  refine x_aload_n 5 rfl 0 dX9_goes_4 rfl rfl ?_
  refine x_getI E dX9_goes_5 F_RX9_142 sh_60 8 rfl ?_
  refine x_icmp_ge 11 rfl 50 dX9_goes_8 (by decide) (fun hc => ?_) (fun hc => ?_)
  · replace h := x_ifT hc h
    cases h
    exact x_wk (x_le_s (x_le_n x_le_0)) (hK _ rfl)
  · replace h := x_ifF hc h
    refine x_aload_n 12 rfl 0 dX9_goes_11 rfl rfl ?_
    refine x_aload_n 13 rfl 0 dX9_goes_12 rfl rfl ?_
    refine x_getI E dX9_goes_13 F_RX9_145 sh_60 16 rfl ?_
    obtain ⟨⟨q1r, q1s⟩, q1h, h⟩ := x_bind h
    try dsimp only at h
    refine z_callV E [.int _] [] dX9_goes_16 K_RX9_148 ⟨Nat.le_of_ble_eq_true rfl, Nat.le_of_ble_eq_true rfl⟩ sh_60 (by decide) rfl (c_Mo_byteAt_60 E _ q1h) rfl rfl (Nat.le_of_ble_eq_true rfl) 19 rfl [.int _] rfl ?_
    refine x_bipush 21 rfl (v := 32) dX9_goes_19 (by decide) ?_
    refine x_icmp_eq 24 rfl 37 dX9_goes_21 (by decide) (fun hc => ?_) (fun hc => ?_)
    · replace h := x_ifT hc h
      refine x_aload_n 38 rfl 0 dX9_goes_37 rfl rfl ?_
      refine x_dup 39 rfl dX9_goes_38 rfl ?_
      refine x_getI E dX9_goes_39 F_RX9_145 sh_60 42 rfl ?_
      refine x_iconst 43 rfl (v := 1) dX9_goes_42 (by decide) ?_
      refine x_iadd 44 rfl dX9_goes_43 ?_
      refine x_putI E dX9_goes_44 F_RX9_145 sh_60 47 rfl ?_
      refine x_goto 0 dX9_goes_47 (by decide) ?_
      cases h
      exact x_wk (x_le_s (x_le_n x_le_0)) (hG _ rfl)
    · replace h := x_ifF hc h
      refine x_aload_n 25 rfl 0 dX9_goes_24 rfl rfl ?_
      refine x_aload_n 26 rfl 0 dX9_goes_25 rfl rfl ?_
      refine x_getI E dX9_goes_26 F_RX9_145 sh_60 29 rfl ?_
      obtain ⟨⟨q3r, q3s⟩, q3h, h⟩ := x_bind h
      try dsimp only at h
      refine z_callV E [.int _] [] dX9_goes_29 K_RX9_148 ⟨Nat.le_of_ble_eq_true rfl, Nat.le_of_ble_eq_true rfl⟩ sh_60 (by decide) rfl (c_Mo_byteAt_60 E _ q3h) rfl rfl (Nat.le_of_ble_eq_true rfl) 32 rfl [.int _] rfl ?_
      refine x_bipush 34 rfl (v := 10) dX9_goes_32 (by decide) ?_
      refine x_icmp_ne 37 rfl 50 dX9_goes_34 (by decide) (fun hc => ?_) (fun hc => ?_)
      · replace h := x_ifF hc h
        cases h
        exact x_wk (x_le_s (x_le_n x_le_0)) (hK _ rfl)
      · replace h := x_ifT hc h
        refine x_aload_n 38 rfl 0 dX9_goes_37 rfl rfl ?_
        refine x_dup 39 rfl dX9_goes_38 rfl ?_
        refine x_getI E dX9_goes_39 F_RX9_145 sh_60 42 rfl ?_
        refine x_iconst 43 rfl (v := 1) dX9_goes_42 (by decide) ?_
        refine x_iadd 44 rfl dX9_goes_43 ?_
        refine x_putI E dX9_goes_44 F_RX9_145 sh_60 47 rfl ?_
        refine x_goto 0 dX9_goes_47 (by decide) ?_
        cases h
        exact x_wk (x_le_s (x_le_n x_le_0)) (hG _ rfl)
set_option maxHeartbeats 4000000 in
set_option maxRecDepth 100000 in
theorem b_Mo_goes_60_L187 {l : Launch} {s0 : State} {a0 : Array Value} {D : va_G} {cA : Nat → ClassId} {sp : Nat → Nat} (E : x_En CL l s0 a0 D cA sp)  {r : Unit} {σ1 : xS} (a : xS) (o : (xS) ⊕ (xS)) (h : f_Mo_goes_60_L187  a = some o) (hK : ∀ b, o = .inl b → zW l s0 D cA sp (zQ s0 D cA sp none σ1) (x_rm 1 0 0) M_Mo_goes 0 0 250 [some (.ref 60), none] [] b) (hG : ∀ a', o = .inr a' → zW l s0 D cA sp (zQ s0 D cA sp none σ1) (x_rm 1 0 0) M_Mo_goes 0 0 187 [some (.ref 60), none] [] a') : zW l s0 D cA sp (zQ s0 D cA sp none σ1) (x_rm 1 0 0) M_Mo_goes 0 0 187 [some (.ref 60), none] [] a := by
  obtain ⟨σ, rfl⟩ : ∃ z, z = a := ⟨_, rfl⟩
  unfold f_Mo_goes_60_L187 at h
  try dsimp only at h ⊢
  refine x_aload_n 188 rfl 0 dX9_goes_187 rfl rfl ?_
  refine x_aload_n 189 rfl 0 dX9_goes_188 rfl rfl ?_
  refine x_getI E dX9_goes_189 F_RX9_145 sh_60 192 rfl ?_
  obtain ⟨⟨q5r, q5s⟩, q5h, h⟩ := x_bind h
  try dsimp only at h
  refine z_callV E [.int _] [] dX9_goes_192 K_RX9_148 ⟨Nat.le_of_ble_eq_true rfl, Nat.le_of_ble_eq_true rfl⟩ sh_60 (by decide) rfl (c_Mo_byteAt_60 E _ q5h) rfl rfl (Nat.le_of_ble_eq_true rfl) 195 rfl [.int _] rfl ?_
  obtain ⟨⟨q6r, q6s⟩, q6h, h⟩ := x_bind h
  try dsimp only at h
  refine z_callS E [.int _] [] dX9_goes_195 K_RX9_172 ⟨Nat.le_of_ble_eq_true rfl, Nat.le_of_ble_eq_true rfl⟩ (c_Mo_isDigit E _ q6h) rfl rfl (Nat.le_of_ble_eq_true rfl) 198 rfl [.int _] rfl ?_
  refine x_if_eq 201 rfl 250 dX9_goes_198 (by decide) (fun hc => ?_) (fun hc => ?_)
  · replace h := x_ifT hc h
    cases h
    exact x_wk (x_le_s (x_le_n x_le_0)) (hK _ rfl)
  · replace h := x_ifF hc h
    refine x_aload_n 202 rfl 0 dX9_goes_201 rfl rfl ?_
    refine x_getI E dX9_goes_202 F_RX9_145 sh_60 205 rfl ?_
    refine x_aload_n 206 rfl 0 dX9_goes_205 rfl rfl ?_
    refine x_getI E dX9_goes_206 F_RX9_152 sh_60 209 rfl ?_
    refine x_isub 210 rfl dX9_goes_209 ?_
    refine x_iconst 211 rfl (v := 4) dX9_goes_210 (by decide) ?_
    refine x_icmp_ge 214 rfl 237 dX9_goes_211 (by decide) (fun hc => ?_) (fun hc => ?_)
    · replace h := x_ifT hc h
      refine x_aload_n 238 rfl 0 dX9_goes_237 rfl rfl ?_
      refine x_dup 239 rfl dX9_goes_238 rfl ?_
      refine x_getI E dX9_goes_239 F_RX9_145 sh_60 242 rfl ?_
      refine x_iconst 243 rfl (v := 1) dX9_goes_242 (by decide) ?_
      refine x_iadd 244 rfl dX9_goes_243 ?_
      refine x_putI E dX9_goes_244 F_RX9_145 sh_60 247 rfl ?_
      refine x_goto 187 dX9_goes_247 (by decide) ?_
      cases h
      exact x_wk (x_le_s (x_le_n x_le_0)) (hG _ rfl)
    · replace h := x_ifF hc h
      refine x_aload_n 215 rfl 0 dX9_goes_214 rfl rfl ?_
      refine x_bipush 217 rfl (v := 10) dX9_goes_215 (by decide) ?_
      refine x_aload_n 218 rfl 0 dX9_goes_217 rfl rfl ?_
      refine x_getI E dX9_goes_218 F_RX9_159 sh_60 221 rfl ?_
      refine x_imul 222 rfl dX9_goes_221 ?_
      refine x_aload_n 223 rfl 0 dX9_goes_222 rfl rfl ?_
      refine x_aload_n 224 rfl 0 dX9_goes_223 rfl rfl ?_
      refine x_getI E dX9_goes_224 F_RX9_145 sh_60 227 rfl ?_
      obtain ⟨⟨q8r, q8s⟩, q8h, h⟩ := x_bind h
      try dsimp only at h
      refine z_callV E [.int _] [.int _, .ref 60] dX9_goes_227 K_RX9_148 ⟨Nat.le_of_ble_eq_true rfl, Nat.le_of_ble_eq_true rfl⟩ sh_60 (by decide) rfl (c_Mo_byteAt_60 E _ q8h) rfl rfl (Nat.le_of_ble_eq_true rfl) 230 rfl [.int _, .int _, .ref 60] rfl ?_
      refine x_iadd 231 rfl dX9_goes_230 ?_
      refine x_bipush 233 rfl (v := 48) dX9_goes_231 (by decide) ?_
      refine x_isub 234 rfl dX9_goes_233 ?_
      refine x_putI E dX9_goes_234 F_RX9_159 sh_60 237 rfl ?_
      refine x_aload_n 238 rfl 0 dX9_goes_237 rfl rfl ?_
      refine x_dup 239 rfl dX9_goes_238 rfl ?_
      refine x_getI E dX9_goes_239 F_RX9_145 sh_60 242 rfl ?_
      refine x_iconst 243 rfl (v := 1) dX9_goes_242 (by decide) ?_
      refine x_iadd 244 rfl dX9_goes_243 ?_
      refine x_putI E dX9_goes_244 F_RX9_145 sh_60 247 rfl ?_
      refine x_goto 187 dX9_goes_247 (by decide) ?_
      cases h
      exact x_wk (x_le_s (x_le_n x_le_0)) (hG _ rfl)
set_option maxHeartbeats 4000000 in
set_option maxRecDepth 100000 in
theorem b_Mo_goes_60_L108 {l : Launch} {s0 : State} {a0 : Array Value} {D : va_G} {cA : Nat → ClassId} {sp : Nat → Nat} (E : x_En CL l s0 a0 D cA sp)  {r : Unit} {σ1 : xS} (a : xS) (o : (xS) ⊕ (xS)) (h : f_Mo_goes_60_L108  a = some o) (hK : ∀ b, o = .inl b → zW l s0 D cA sp (zQ s0 D cA sp none σ1) (x_rm 1 0 0) M_Mo_goes 0 0 172 [some (.ref 60), none] [] b) (hG : ∀ a', o = .inr a' → zW l s0 D cA sp (zQ s0 D cA sp none σ1) (x_rm 1 0 0) M_Mo_goes 0 0 108 [some (.ref 60), none] [] a') : zW l s0 D cA sp (zQ s0 D cA sp none σ1) (x_rm 1 0 0) M_Mo_goes 0 0 108 [some (.ref 60), none] [] a := by
  obtain ⟨σ, rfl⟩ : ∃ z, z = a := ⟨_, rfl⟩
  unfold f_Mo_goes_60_L108 at h
  try dsimp only at h ⊢
  refine x_aload_n 109 rfl 0 dX9_goes_108 rfl rfl ?_
  refine x_aload_n 110 rfl 0 dX9_goes_109 rfl rfl ?_
  refine x_getI E dX9_goes_110 F_RX9_145 sh_60 113 rfl ?_
  obtain ⟨⟨q11r, q11s⟩, q11h, h⟩ := x_bind h
  try dsimp only at h
  refine z_callV E [.int _] [] dX9_goes_113 K_RX9_148 ⟨Nat.le_of_ble_eq_true rfl, Nat.le_of_ble_eq_true rfl⟩ sh_60 (by decide) rfl (c_Mo_byteAt_60 E _ q11h) rfl rfl (Nat.le_of_ble_eq_true rfl) 116 rfl [.int _] rfl ?_
  obtain ⟨⟨q12r, q12s⟩, q12h, h⟩ := x_bind h
  try dsimp only at h
  refine z_callS E [.int _] [] dX9_goes_116 K_RX9_168 ⟨Nat.le_of_ble_eq_true rfl, Nat.le_of_ble_eq_true rfl⟩ (c_Mo_isLetter E _ q12h) rfl rfl (Nat.le_of_ble_eq_true rfl) 119 rfl [.int _] rfl ?_
  refine x_if_eq 122 rfl 172 dX9_goes_119 (by decide) (fun hc => ?_) (fun hc => ?_)
  · replace h := x_ifT hc h
    cases h
    exact x_wk (x_le_s (x_le_n x_le_0)) (hK _ rfl)
  · replace h := x_ifF hc h
    refine x_aload_n 123 rfl 0 dX9_goes_122 rfl rfl ?_
    refine x_getI E dX9_goes_123 F_RX9_145 sh_60 126 rfl ?_
    refine x_aload_n 127 rfl 0 dX9_goes_126 rfl rfl ?_
    refine x_getI E dX9_goes_127 F_RX9_152 sh_60 130 rfl ?_
    refine x_isub 131 rfl dX9_goes_130 ?_
    refine x_bipush 133 rfl (v := 6) dX9_goes_131 (by decide) ?_
    refine x_icmp_ge 136 rfl 159 dX9_goes_133 (by decide) (fun hc => ?_) (fun hc => ?_)
    · replace h := x_ifT hc h
      refine x_aload_n 160 rfl 0 dX9_goes_159 rfl rfl ?_
      refine x_dup 161 rfl dX9_goes_160 rfl ?_
      refine x_getI E dX9_goes_161 F_RX9_145 sh_60 164 rfl ?_
      refine x_iconst 165 rfl (v := 1) dX9_goes_164 (by decide) ?_
      refine x_iadd 166 rfl dX9_goes_165 ?_
      refine x_putI E dX9_goes_166 F_RX9_145 sh_60 169 rfl ?_
      refine x_goto 108 dX9_goes_169 (by decide) ?_
      cases h
      exact x_wk (x_le_s (x_le_n x_le_0)) (hG _ rfl)
    · replace h := x_ifF hc h
      refine x_aload_n 137 rfl 0 dX9_goes_136 rfl rfl ?_
      refine x_aload_n 138 rfl 0 dX9_goes_137 rfl rfl ?_
      refine x_getL E dX9_goes_138 F_RX9_155 sh_60 141 rfl ?_
      refine x_iconst 142 rfl (v := 5) dX9_goes_141 (by decide) ?_
      refine x_lshl 143 rfl dX9_goes_142 ?_
      refine x_aload_n 144 rfl 0 dX9_goes_143 rfl rfl ?_
      refine x_aload_n 145 rfl 0 dX9_goes_144 rfl rfl ?_
      refine x_getI E dX9_goes_145 F_RX9_145 sh_60 148 rfl ?_
      obtain ⟨⟨q14r, q14s⟩, q14h, h⟩ := x_bind h
      try dsimp only at h
      refine z_callV E [.int _] [.long _, .ref 60] dX9_goes_148 K_RX9_148 ⟨Nat.le_of_ble_eq_true rfl, Nat.le_of_ble_eq_true rfl⟩ sh_60 (by decide) rfl (c_Mo_byteAt_60 E _ q14h) rfl rfl (Nat.le_of_ble_eq_true rfl) 151 rfl [.int _, .long _, .ref 60] rfl ?_
      refine x_bipush 153 rfl (v := 96) dX9_goes_151 (by decide) ?_
      refine x_isub 154 rfl dX9_goes_153 ?_
      refine x_i2l 155 rfl dX9_goes_154 ?_
      refine x_lor 156 rfl dX9_goes_155 ?_
      refine x_putL E dX9_goes_156 F_RX9_155 sh_60 159 rfl ?_
      refine x_aload_n 160 rfl 0 dX9_goes_159 rfl rfl ?_
      refine x_dup 161 rfl dX9_goes_160 rfl ?_
      refine x_getI E dX9_goes_161 F_RX9_145 sh_60 164 rfl ?_
      refine x_iconst 165 rfl (v := 1) dX9_goes_164 (by decide) ?_
      refine x_iadd 166 rfl dX9_goes_165 ?_
      refine x_putI E dX9_goes_166 F_RX9_145 sh_60 169 rfl ?_
      refine x_goto 108 dX9_goes_169 (by decide) ?_
      cases h
      exact x_wk (x_le_s (x_le_n x_le_0)) (hG _ rfl)
set_option maxHeartbeats 4000000 in
set_option maxRecDepth 100000 in
theorem j_Mo_goes_60_J323 {l : Launch} {s0 : State} {a0 : Array Value} {D : va_G} {cA : Nat → ClassId} {sp : Nat → Nat} (E : x_En CL l s0 a0 D cA sp)  (σ : xS) {r : Unit} {σ1 : xS} (h : f_Mo_goes_60_J323  σ = some (r, σ1)) : zW l s0 D cA sp (zQ s0 D cA sp none σ1) (x_rm 1 0 0) M_Mo_goes 0 0 323 [some (.ref 60), none] [.ref 60] σ := by
  unfold f_Mo_goes_60_J323 at h
  try dsimp only at h
  refine x_iconst 324 rfl (v := 3) dX9_goes_323 (by decide) ?_
  refine x_goto 328 dX9_goes_324 (by decide) ?_
  refine x_putI E dX9_goes_328 F_RX9_165 sh_60 331 rfl ?_
  refine x_aload_n 332 rfl 0 dX9_goes_331 rfl rfl ?_
  refine x_aload_n 333 rfl 0 dX9_goes_332 rfl rfl ?_
  refine x_getI E dX9_goes_333 F_RX9_145 sh_60 336 rfl ?_
  refine x_aload_n 337 rfl 0 dX9_goes_336 rfl rfl ?_
  refine x_getI E dX9_goes_337 F_RX9_152 sh_60 340 rfl ?_
  refine x_isub 341 rfl dX9_goes_340 ?_
  refine x_putI E dX9_goes_341 F_RX9_175 sh_60 344 rfl ?_
  cases h
  exact x_vret dX9_goes_344 rfl rfl rfl
set_option maxHeartbeats 4000000 in
set_option maxRecDepth 100000 in
theorem j_Mo_goes_60_J50 {l : Launch} {s0 : State} {a0 : Array Value} {D : va_G} {cA : Nat → ClassId} {sp : Nat → Nat} (E : x_En CL l s0 a0 D cA sp)  (σ : xS) {r : Unit} {σ1 : xS} (h : f_Mo_goes_60_J50  σ = some (r, σ1)) : zW l s0 D cA sp (zQ s0 D cA sp none σ1) (x_rm 1 0 0) M_Mo_goes 0 0 50 [some (.ref 60), none] [] σ := by
  unfold f_Mo_goes_60_J50 at h
  try dsimp only at h
  refine x_aload_n 51 rfl 0 dX9_goes_50 rfl rfl ?_
  refine x_aload_n 52 rfl 0 dX9_goes_51 rfl rfl ?_
  refine x_getI E dX9_goes_52 F_RX9_145 sh_60 55 rfl ?_
  refine x_putI E dX9_goes_55 F_RX9_152 sh_60 58 rfl ?_
  refine x_aload_n 59 rfl 0 dX9_goes_58 rfl rfl ?_
  refine x_lconst 60 rfl (v := 0) dX9_goes_59 (by decide) ?_
  refine x_putL E dX9_goes_60 F_RX9_155 sh_60 63 rfl ?_
  refine x_aload_n 64 rfl 0 dX9_goes_63 rfl rfl ?_
  refine x_iconst 65 rfl (v := 0) dX9_goes_64 (by decide) ?_
  refine x_putI E dX9_goes_65 F_RX9_159 sh_60 68 rfl ?_
  refine x_aload_n 69 rfl 0 dX9_goes_68 rfl rfl ?_
  refine x_aload_n 70 rfl 0 dX9_goes_69 rfl rfl ?_
  refine x_getI E dX9_goes_70 F_RX9_145 sh_60 73 rfl ?_
  obtain ⟨⟨q22r, q22s⟩, q22h, h⟩ := x_bind h
  try dsimp only at h
  refine z_callV E [.int _] [] dX9_goes_73 K_RX9_148 ⟨Nat.le_of_ble_eq_true rfl, Nat.le_of_ble_eq_true rfl⟩ sh_60 (by decide) rfl (c_Mo_byteAt_60 E _ q22h) rfl rfl (Nat.le_of_ble_eq_true rfl) 76 rfl [.int _] rfl ?_
  refine x_istore_n 77 rfl 1 dX9_goes_76 rfl (by decide) [some (.ref 60), some (.int _)] rfl ?_
  refine x_aload_n 78 rfl 0 dX9_goes_77 rfl rfl ?_
  refine x_iload_n 79 rfl 1 dX9_goes_78 rfl rfl ?_
  refine x_putI E dX9_goes_79 F_RX9_162 sh_60 82 rfl ?_
  refine x_aload_n 83 rfl 0 dX9_goes_82 rfl rfl ?_
  refine x_getI E dX9_goes_83 F_RX9_145 sh_60 86 rfl ?_
  refine x_aload_n 87 rfl 0 dX9_goes_86 rfl rfl ?_
  refine x_getI E dX9_goes_87 F_RX9_142 sh_60 90 rfl ?_
  refine x_icmp_lt 93 rfl 101 dX9_goes_90 (by decide) (fun hc => ?_) (fun hc => ?_)
  · replace h := x_ifT hc h
    refine x_iload_n 102 rfl 1 dX9_goes_101 rfl rfl ?_
    obtain ⟨⟨q25r, q25s⟩, q25h, h⟩ := x_bind h
    try dsimp only at h
    refine z_callS E [.int _] [] dX9_goes_102 K_RX9_168 ⟨Nat.le_of_ble_eq_true rfl, Nat.le_of_ble_eq_true rfl⟩ (c_Mo_isLetter E _ q25h) rfl rfl (Nat.le_of_ble_eq_true rfl) 105 rfl [.int _] rfl ?_
    refine x_if_eq 108 rfl 180 dX9_goes_105 (by decide) (fun hc => ?_) (fun hc => ?_)
    · replace h := x_ifT hc h
      refine x_iload_n 181 rfl 1 dX9_goes_180 rfl rfl ?_
      obtain ⟨⟨q26r, q26s⟩, q26h, h⟩ := x_bind h
      try dsimp only at h
      refine z_callS E [.int _] [] dX9_goes_181 K_RX9_172 ⟨Nat.le_of_ble_eq_true rfl, Nat.le_of_ble_eq_true rfl⟩ (c_Mo_isDigit E _ q26h) rfl rfl (Nat.le_of_ble_eq_true rfl) 184 rfl [.int _] rfl ?_
      refine x_if_eq 187 rfl 258 dX9_goes_184 (by decide) (fun hc => ?_) (fun hc => ?_)
      · replace h := x_ifT hc h
        refine x_aload_n 259 rfl 0 dX9_goes_258 rfl rfl ?_
        refine x_dup 260 rfl dX9_goes_259 rfl ?_
        refine x_getI E dX9_goes_260 F_RX9_145 sh_60 263 rfl ?_
        refine x_iconst 264 rfl (v := 1) dX9_goes_263 (by decide) ?_
        refine x_iadd 265 rfl dX9_goes_264 ?_
        refine x_putI E dX9_goes_265 F_RX9_145 sh_60 268 rfl ?_
        refine x_aload_n 269 rfl 0 dX9_goes_268 rfl rfl ?_
        refine x_iload_n 270 rfl 1 dX9_goes_269 rfl rfl ?_
        refine x_bipush 272 rfl (v := 59) dX9_goes_270 (by decide) ?_
        refine x_icmp_eq 275 rfl 323 dX9_goes_272 (by decide) (fun hc => ?_) (fun hc => ?_)
        · replace h := x_ifT hc h
          exact x_wk (x_le_s (x_le_n x_le_0)) (j_Mo_goes_60_J323 E  _ h)
        · replace h := x_ifF hc h
          refine x_iload_n 276 rfl 1 dX9_goes_275 rfl rfl ?_
          refine x_bipush 278 rfl (v := 40) dX9_goes_276 (by decide) ?_
          refine x_icmp_eq 281 rfl 323 dX9_goes_278 (by decide) (fun hc => ?_) (fun hc => ?_)
          · replace h := x_ifT hc h
            exact x_wk (x_le_s (x_le_n x_le_0)) (j_Mo_goes_60_J323 E  _ h)
          · replace h := x_ifF hc h
            refine x_iload_n 282 rfl 1 dX9_goes_281 rfl rfl ?_
            refine x_bipush 284 rfl (v := 41) dX9_goes_282 (by decide) ?_
            refine x_icmp_eq 287 rfl 323 dX9_goes_284 (by decide) (fun hc => ?_) (fun hc => ?_)
            · replace h := x_ifT hc h
              exact x_wk (x_le_s (x_le_n x_le_0)) (j_Mo_goes_60_J323 E  _ h)
            · replace h := x_ifF hc h
              refine x_iload_n 288 rfl 1 dX9_goes_287 rfl rfl ?_
              refine x_bipush 290 rfl (v := 43) dX9_goes_288 (by decide) ?_
              refine x_icmp_eq 293 rfl 323 dX9_goes_290 (by decide) (fun hc => ?_) (fun hc => ?_)
              · replace h := x_ifT hc h
                exact x_wk (x_le_s (x_le_n x_le_0)) (j_Mo_goes_60_J323 E  _ h)
              · replace h := x_ifF hc h
                refine x_iload_n 294 rfl 1 dX9_goes_293 rfl rfl ?_
                refine x_bipush 296 rfl (v := 45) dX9_goes_294 (by decide) ?_
                refine x_icmp_eq 299 rfl 323 dX9_goes_296 (by decide) (fun hc => ?_) (fun hc => ?_)
                · replace h := x_ifT hc h
                  exact x_wk (x_le_s (x_le_n x_le_0)) (j_Mo_goes_60_J323 E  _ h)
                · replace h := x_ifF hc h
                  refine x_iload_n 300 rfl 1 dX9_goes_299 rfl rfl ?_
                  refine x_bipush 302 rfl (v := 42) dX9_goes_300 (by decide) ?_
                  refine x_icmp_eq 305 rfl 323 dX9_goes_302 (by decide) (fun hc => ?_) (fun hc => ?_)
                  · replace h := x_ifT hc h
                    exact x_wk (x_le_s (x_le_n x_le_0)) (j_Mo_goes_60_J323 E  _ h)
                  · replace h := x_ifF hc h
                    refine x_iload_n 306 rfl 1 dX9_goes_305 rfl rfl ?_
                    refine x_bipush 308 rfl (v := 47) dX9_goes_306 (by decide) ?_
                    refine x_icmp_eq 311 rfl 323 dX9_goes_308 (by decide) (fun hc => ?_) (fun hc => ?_)
                    · replace h := x_ifT hc h
                      exact x_wk (x_le_s (x_le_n x_le_0)) (j_Mo_goes_60_J323 E  _ h)
                    · replace h := x_ifF hc h
                      refine x_iload_n 312 rfl 1 dX9_goes_311 rfl rfl ?_
                      refine x_bipush 314 rfl (v := 60) dX9_goes_312 (by decide) ?_
                      refine x_icmp_eq 317 rfl 323 dX9_goes_314 (by decide) (fun hc => ?_) (fun hc => ?_)
                      · replace h := x_ifT hc h
                        exact x_wk (x_le_s (x_le_n x_le_0)) (j_Mo_goes_60_J323 E  _ h)
                      · replace h := x_ifF hc h
                        refine x_iload_n 318 rfl 1 dX9_goes_317 rfl rfl ?_
                        refine x_bipush 320 rfl (v := 61) dX9_goes_318 (by decide) ?_
                        refine x_icmp_ne 323 rfl 327 dX9_goes_320 (by decide) (fun hc => ?_) (fun hc => ?_)
                        · replace h := x_ifF hc h
                          refine x_iconst 328 rfl (v := 4) dX9_goes_327 (by decide) ?_
                          refine x_putI E dX9_goes_328 F_RX9_165 sh_60 331 rfl ?_
                          refine x_aload_n 332 rfl 0 dX9_goes_331 rfl rfl ?_
                          refine x_aload_n 333 rfl 0 dX9_goes_332 rfl rfl ?_
                          refine x_getI E dX9_goes_333 F_RX9_145 sh_60 336 rfl ?_
                          refine x_aload_n 337 rfl 0 dX9_goes_336 rfl rfl ?_
                          refine x_getI E dX9_goes_337 F_RX9_152 sh_60 340 rfl ?_
                          refine x_isub 341 rfl dX9_goes_340 ?_
                          refine x_putI E dX9_goes_341 F_RX9_175 sh_60 344 rfl ?_
                          cases h
                          exact x_vret dX9_goes_344 rfl rfl rfl
                        · replace h := x_ifT hc h
                          exact x_wk (x_le_s (x_le_n x_le_0)) (j_Mo_goes_60_J323 E  _ h)
      · replace h := x_ifF hc h
        obtain ⟨b30, b30h, h⟩ := x_bind h
        try dsimp only at h
        refine x_wk (x_le_s (x_le_n x_le_0)) (x_loop (fun a o h hK hG => b_Mo_goes_60_L187 (r := r) (σ1 := σ1) E  a o h hK hG) _ _ _ b30h ?_)
        refine x_aload_n 251 rfl 0 dX9_goes_250 rfl rfl ?_
        refine x_iconst 252 rfl (v := 2) dX9_goes_251 (by decide) ?_
        refine x_putI E dX9_goes_252 F_RX9_165 sh_60 255 rfl ?_
        refine x_goto 331 dX9_goes_255 (by decide) ?_
        refine x_aload_n 332 rfl 0 dX9_goes_331 rfl rfl ?_
        refine x_aload_n 333 rfl 0 dX9_goes_332 rfl rfl ?_
        refine x_getI E dX9_goes_333 F_RX9_145 sh_60 336 rfl ?_
        refine x_aload_n 337 rfl 0 dX9_goes_336 rfl rfl ?_
        refine x_getI E dX9_goes_337 F_RX9_152 sh_60 340 rfl ?_
        refine x_isub 341 rfl dX9_goes_340 ?_
        refine x_putI E dX9_goes_341 F_RX9_175 sh_60 344 rfl ?_
        cases h
        exact x_vret dX9_goes_344 rfl rfl rfl
    · replace h := x_ifF hc h
      obtain ⟨b33, b33h, h⟩ := x_bind h
      try dsimp only at h
      refine x_wk (x_le_s (x_le_n x_le_0)) (x_loop (fun a o h hK hG => b_Mo_goes_60_L108 (r := r) (σ1 := σ1) E  a o h hK hG) _ _ _ b33h ?_)
      refine x_aload_n 173 rfl 0 dX9_goes_172 rfl rfl ?_
      refine x_iconst 174 rfl (v := 1) dX9_goes_173 (by decide) ?_
      refine x_putI E dX9_goes_174 F_RX9_165 sh_60 177 rfl ?_
      refine x_goto 331 dX9_goes_177 (by decide) ?_
      refine x_aload_n 332 rfl 0 dX9_goes_331 rfl rfl ?_
      refine x_aload_n 333 rfl 0 dX9_goes_332 rfl rfl ?_
      refine x_getI E dX9_goes_333 F_RX9_145 sh_60 336 rfl ?_
      refine x_aload_n 337 rfl 0 dX9_goes_336 rfl rfl ?_
      refine x_getI E dX9_goes_337 F_RX9_152 sh_60 340 rfl ?_
      refine x_isub 341 rfl dX9_goes_340 ?_
      refine x_putI E dX9_goes_341 F_RX9_175 sh_60 344 rfl ?_
      cases h
      exact x_vret dX9_goes_344 rfl rfl rfl
  · replace h := x_ifF hc h
    refine x_aload_n 94 rfl 0 dX9_goes_93 rfl rfl ?_
    refine x_iconst 95 rfl (v := 0) dX9_goes_94 (by decide) ?_
    refine x_putI E dX9_goes_95 F_RX9_165 sh_60 98 rfl ?_
    refine x_goto 331 dX9_goes_98 (by decide) ?_
    refine x_aload_n 332 rfl 0 dX9_goes_331 rfl rfl ?_
    refine x_aload_n 333 rfl 0 dX9_goes_332 rfl rfl ?_
    refine x_getI E dX9_goes_333 F_RX9_145 sh_60 336 rfl ?_
    refine x_aload_n 337 rfl 0 dX9_goes_336 rfl rfl ?_
    refine x_getI E dX9_goes_337 F_RX9_152 sh_60 340 rfl ?_
    refine x_isub 341 rfl dX9_goes_340 ?_
    refine x_putI E dX9_goes_341 F_RX9_175 sh_60 344 rfl ?_
    cases h
    exact x_vret dX9_goes_344 rfl rfl rfl
set_option maxHeartbeats 4000000 in
set_option maxRecDepth 100000 in
theorem c_Mo_goes_60 {l : Launch} {s0 : State} {a0 : Array Value} {D : va_G} {cA : Nat → ClassId} {sp : Nat → Nat} (E : x_En CL l s0 a0 D cA sp)  {σ : xS} {r : Unit} {σ1 : xS} (h : f_Mo_goes_60  σ = some (r, σ1)) : zC l s0 D cA sp 1 M_Mo_goes [.ref 60] σ none σ1 := by
  unfold f_Mo_goes_60 at h
  try dsimp only at h
  refine x_enter [some (.ref 60), none] rfl (Nat.le_of_ble_eq_true rfl) (by decide +kernel) rfl ?_
  obtain ⟨b38, b38h, h⟩ := x_bind h
  try dsimp only at h
  refine x_wk (x_le_s (x_le_n x_le_0)) (x_loop (fun a o h hK hG => b_Mo_goes_60_L0 (r := r) (σ1 := σ1) E  a o h hK hG) _ _ _ b38h ?_)
  exact x_wk (x_le_s (x_le_n x_le_0)) (j_Mo_goes_60_J50 E  _ h)
abbrev M_Mo_spelled : xM := (yX9_spelled, cX9_spelled, 8, some .long, [])
theorem dX9_spelled_0 : decode cX9_spelled 0 = .ok (.iload_n 0, 1) := by decide +kernel
theorem dX9_spelled_1 : decode cX9_spelled 1 = .ok (.i2l, 1) := by decide +kernel
theorem dX9_spelled_2 : decode cX9_spelled 2 = .ok (.ldc2_w 178, 3) := by decide +kernel
theorem dX9_spelled_5 : decode cX9_spelled 5 = .ok (.lsub, 1) := by decide +kernel
theorem dX9_spelled_6 : decode cX9_spelled 6 = .ok (.iconst 5, 1) := by decide +kernel
theorem dX9_spelled_7 : decode cX9_spelled 7 = .ok (.lshl, 1) := by decide +kernel
theorem dX9_spelled_8 : decode cX9_spelled 8 = .ok (.iload_n 1, 1) := by decide +kernel
theorem dX9_spelled_9 : decode cX9_spelled 9 = .ok (.bipush 96, 2) := by decide +kernel
theorem dX9_spelled_11 : decode cX9_spelled 11 = .ok (.isub, 1) := by decide +kernel
theorem dX9_spelled_12 : decode cX9_spelled 12 = .ok (.i2l, 1) := by decide +kernel
theorem dX9_spelled_13 : decode cX9_spelled 13 = .ok (.lor, 1) := by decide +kernel
theorem dX9_spelled_14 : decode cX9_spelled 14 = .ok (.lstore 6, 2) := by decide +kernel
theorem dX9_spelled_16 : decode cX9_spelled 16 = .ok (.iload_n 2, 1) := by decide +kernel
theorem dX9_spelled_17 : decode cX9_spelled 17 = .ok (.ifCond .eq 15, 3) := by decide +kernel
theorem dX9_spelled_20 : decode cX9_spelled 20 = .ok (.lload 6, 2) := by decide +kernel
theorem dX9_spelled_22 : decode cX9_spelled 22 = .ok (.iconst 5, 1) := by decide +kernel
theorem dX9_spelled_23 : decode cX9_spelled 23 = .ok (.lshl, 1) := by decide +kernel
theorem dX9_spelled_24 : decode cX9_spelled 24 = .ok (.iload_n 2, 1) := by decide +kernel
theorem dX9_spelled_25 : decode cX9_spelled 25 = .ok (.bipush 96, 2) := by decide +kernel
theorem dX9_spelled_27 : decode cX9_spelled 27 = .ok (.isub, 1) := by decide +kernel
theorem dX9_spelled_28 : decode cX9_spelled 28 = .ok (.i2l, 1) := by decide +kernel
theorem dX9_spelled_29 : decode cX9_spelled 29 = .ok (.lor, 1) := by decide +kernel
theorem dX9_spelled_30 : decode cX9_spelled 30 = .ok (.lstore 6, 2) := by decide +kernel
theorem dX9_spelled_32 : decode cX9_spelled 32 = .ok (.iload_n 3, 1) := by decide +kernel
theorem dX9_spelled_33 : decode cX9_spelled 33 = .ok (.ifCond .eq 15, 3) := by decide +kernel
theorem dX9_spelled_36 : decode cX9_spelled 36 = .ok (.lload 6, 2) := by decide +kernel
theorem dX9_spelled_38 : decode cX9_spelled 38 = .ok (.iconst 5, 1) := by decide +kernel
theorem dX9_spelled_39 : decode cX9_spelled 39 = .ok (.lshl, 1) := by decide +kernel
theorem dX9_spelled_40 : decode cX9_spelled 40 = .ok (.iload_n 3, 1) := by decide +kernel
theorem dX9_spelled_41 : decode cX9_spelled 41 = .ok (.bipush 96, 2) := by decide +kernel
theorem dX9_spelled_43 : decode cX9_spelled 43 = .ok (.isub, 1) := by decide +kernel
theorem dX9_spelled_44 : decode cX9_spelled 44 = .ok (.i2l, 1) := by decide +kernel
theorem dX9_spelled_45 : decode cX9_spelled 45 = .ok (.lor, 1) := by decide +kernel
theorem dX9_spelled_46 : decode cX9_spelled 46 = .ok (.lstore 6, 2) := by decide +kernel
theorem dX9_spelled_48 : decode cX9_spelled 48 = .ok (.iload 4, 2) := by decide +kernel
theorem dX9_spelled_50 : decode cX9_spelled 50 = .ok (.ifCond .eq 16, 3) := by decide +kernel
theorem dX9_spelled_53 : decode cX9_spelled 53 = .ok (.lload 6, 2) := by decide +kernel
theorem dX9_spelled_55 : decode cX9_spelled 55 = .ok (.iconst 5, 1) := by decide +kernel
theorem dX9_spelled_56 : decode cX9_spelled 56 = .ok (.lshl, 1) := by decide +kernel
theorem dX9_spelled_57 : decode cX9_spelled 57 = .ok (.iload 4, 2) := by decide +kernel
theorem dX9_spelled_59 : decode cX9_spelled 59 = .ok (.bipush 96, 2) := by decide +kernel
theorem dX9_spelled_61 : decode cX9_spelled 61 = .ok (.isub, 1) := by decide +kernel
theorem dX9_spelled_62 : decode cX9_spelled 62 = .ok (.i2l, 1) := by decide +kernel
theorem dX9_spelled_63 : decode cX9_spelled 63 = .ok (.lor, 1) := by decide +kernel
theorem dX9_spelled_64 : decode cX9_spelled 64 = .ok (.lstore 6, 2) := by decide +kernel
theorem dX9_spelled_66 : decode cX9_spelled 66 = .ok (.iload 5, 2) := by decide +kernel
theorem dX9_spelled_68 : decode cX9_spelled 68 = .ok (.ifCond .eq 16, 3) := by decide +kernel
theorem dX9_spelled_71 : decode cX9_spelled 71 = .ok (.lload 6, 2) := by decide +kernel
theorem dX9_spelled_73 : decode cX9_spelled 73 = .ok (.iconst 5, 1) := by decide +kernel
theorem dX9_spelled_74 : decode cX9_spelled 74 = .ok (.lshl, 1) := by decide +kernel
theorem dX9_spelled_75 : decode cX9_spelled 75 = .ok (.iload 5, 2) := by decide +kernel
theorem dX9_spelled_77 : decode cX9_spelled 77 = .ok (.bipush 96, 2) := by decide +kernel
theorem dX9_spelled_79 : decode cX9_spelled 79 = .ok (.isub, 1) := by decide +kernel
theorem dX9_spelled_80 : decode cX9_spelled 80 = .ok (.i2l, 1) := by decide +kernel
theorem dX9_spelled_81 : decode cX9_spelled 81 = .ok (.lor, 1) := by decide +kernel
theorem dX9_spelled_82 : decode cX9_spelled 82 = .ok (.lstore 6, 2) := by decide +kernel
theorem dX9_spelled_84 : decode cX9_spelled 84 = .ok (.lload 6, 2) := by decide +kernel
theorem dX9_spelled_86 : decode cX9_spelled 86 = .ok (.lreturn, 1) := by decide +kernel
def f_Mo_spelled_J66 (v5 : Int32) (v6 : Int64) (σ : xS) : Option (Int64 × xS) :=
  if v5 = 0 then
    some (v6, σ)
  else
    let w1 := ((v6 <<< ((5 : Int32).toInt64 &&& 63)) ||| (v5 - (96 : Int32)).toInt64)
    some (w1, σ)
def f_Mo_spelled_J48 (v4 : Int32) (v5 : Int32) (v6 : Int64) (σ : xS) : Option (Int64 × xS) :=
  if v4 = 0 then
    f_Mo_spelled_J66 v5 v6 σ
  else
    let w2 := ((v6 <<< ((5 : Int32).toInt64 &&& 63)) ||| (v4 - (96 : Int32)).toInt64)
    f_Mo_spelled_J66 v5 w2 σ
def f_Mo_spelled_J32 (v3 : Int32) (v4 : Int32) (v5 : Int32) (v6 : Int64) (σ : xS) : Option (Int64 × xS) :=
  if v3 = 0 then
    f_Mo_spelled_J48 v4 v5 v6 σ
  else
    let w3 := ((v6 <<< ((5 : Int32).toInt64 &&& 63)) ||| (v3 - (96 : Int32)).toInt64)
    f_Mo_spelled_J48 v4 v5 w3 σ
def f_Mo_spelled (v0 : Int32) (v1 : Int32) (v2 : Int32) (v3 : Int32) (v4 : Int32) (v5 : Int32) (σ : xS) : Option (Int64 × xS) :=
  let w4 := (((v0.toInt64 - (96 : Int64)) <<< ((5 : Int32).toInt64 &&& 63)) ||| (v1 - (96 : Int32)).toInt64)
  if v2 = 0 then
    f_Mo_spelled_J32 v3 v4 v5 w4 σ
  else
    let w5 := ((w4 <<< ((5 : Int32).toInt64 &&& 63)) ||| (v2 - (96 : Int32)).toInt64)
    f_Mo_spelled_J32 v3 v4 v5 w5 σ
set_option maxHeartbeats 4000000 in
set_option maxRecDepth 100000 in
theorem j_Mo_spelled_J66 {l : Launch} {s0 : State} {a0 : Array Value} {D : va_G} {cA : Nat → ClassId} {sp : Nat → Nat} (E : x_En CL l s0 a0 D cA sp) (v5 : Int32) (v6 : Int64) (σ : xS) {r : Int64} {σ1 : xS} (h : f_Mo_spelled_J66 v5 v6 σ = some (r, σ1)) : zW l s0 D cA sp (zQ s0 D cA sp (some (.long r)) σ1) (x_rm 0 0 0) M_Mo_spelled 0 0 66 [none, none, none, none, none, some (.int v5), some (.long v6), none] [] σ := by
  unfold f_Mo_spelled_J66 at h
  try dsimp only at h
  refine x_iload 68 rfl dX9_spelled_66 rfl ?_
  refine x_if_eq 71 rfl 84 dX9_spelled_68 (by decide) (fun hc => ?_) (fun hc => ?_)
  · replace h := x_ifT hc h
    refine x_lload 86 rfl dX9_spelled_84 rfl ?_
    cases h
    exact x_lret dX9_spelled_86 rfl rfl rfl
  · replace h := x_ifF hc h
    refine x_lload 73 rfl dX9_spelled_71 rfl ?_
    refine x_iconst 74 rfl (v := 5) dX9_spelled_73 (by decide) ?_
    refine x_lshl 75 rfl dX9_spelled_74 ?_
    refine x_iload 77 rfl dX9_spelled_75 rfl ?_
    refine x_bipush 79 rfl (v := 96) dX9_spelled_77 (by decide) ?_
    refine x_isub 80 rfl dX9_spelled_79 ?_
    refine x_i2l 81 rfl dX9_spelled_80 ?_
    refine x_lor 82 rfl dX9_spelled_81 ?_
    refine x_lstore 84 rfl dX9_spelled_82 (by decide) [none, none, none, none, none, some (.int _), some (.long _), none] rfl ?_
    refine x_lload 86 rfl dX9_spelled_84 rfl ?_
    cases h
    exact x_lret dX9_spelled_86 rfl rfl rfl
set_option maxHeartbeats 4000000 in
set_option maxRecDepth 100000 in
theorem j_Mo_spelled_J48 {l : Launch} {s0 : State} {a0 : Array Value} {D : va_G} {cA : Nat → ClassId} {sp : Nat → Nat} (E : x_En CL l s0 a0 D cA sp) (v4 : Int32) (v5 : Int32) (v6 : Int64) (σ : xS) {r : Int64} {σ1 : xS} (h : f_Mo_spelled_J48 v4 v5 v6 σ = some (r, σ1)) : zW l s0 D cA sp (zQ s0 D cA sp (some (.long r)) σ1) (x_rm 0 0 0) M_Mo_spelled 0 0 48 [none, none, none, none, some (.int v4), some (.int v5), some (.long v6), none] [] σ := by
  unfold f_Mo_spelled_J48 at h
  try dsimp only at h
  refine x_iload 50 rfl dX9_spelled_48 rfl ?_
  refine x_if_eq 53 rfl 66 dX9_spelled_50 (by decide) (fun hc => ?_) (fun hc => ?_)
  · replace h := x_ifT hc h
    exact x_wk (x_le_n (x_le_n (x_le_n (x_le_n (x_le_n (x_le_s (x_le_s (x_le_n x_le_0)))))))) (j_Mo_spelled_J66 E _ _ _ h)
  · replace h := x_ifF hc h
    refine x_lload 55 rfl dX9_spelled_53 rfl ?_
    refine x_iconst 56 rfl (v := 5) dX9_spelled_55 (by decide) ?_
    refine x_lshl 57 rfl dX9_spelled_56 ?_
    refine x_iload 59 rfl dX9_spelled_57 rfl ?_
    refine x_bipush 61 rfl (v := 96) dX9_spelled_59 (by decide) ?_
    refine x_isub 62 rfl dX9_spelled_61 ?_
    refine x_i2l 63 rfl dX9_spelled_62 ?_
    refine x_lor 64 rfl dX9_spelled_63 ?_
    refine x_lstore 66 rfl dX9_spelled_64 (by decide) [none, none, none, none, some (.int _), some (.int _), some (.long _), none] rfl ?_
    exact x_wk (x_le_n (x_le_n (x_le_n (x_le_n (x_le_n (x_le_s (x_le_s (x_le_n x_le_0)))))))) (j_Mo_spelled_J66 E _ _ _ h)
set_option maxHeartbeats 4000000 in
set_option maxRecDepth 100000 in
theorem j_Mo_spelled_J32 {l : Launch} {s0 : State} {a0 : Array Value} {D : va_G} {cA : Nat → ClassId} {sp : Nat → Nat} (E : x_En CL l s0 a0 D cA sp) (v3 : Int32) (v4 : Int32) (v5 : Int32) (v6 : Int64) (σ : xS) {r : Int64} {σ1 : xS} (h : f_Mo_spelled_J32 v3 v4 v5 v6 σ = some (r, σ1)) : zW l s0 D cA sp (zQ s0 D cA sp (some (.long r)) σ1) (x_rm 0 0 0) M_Mo_spelled 0 0 32 [none, none, none, some (.int v3), some (.int v4), some (.int v5), some (.long v6), none] [] σ := by
  unfold f_Mo_spelled_J32 at h
  try dsimp only at h
  refine x_iload_n 33 rfl 3 dX9_spelled_32 rfl rfl ?_
  refine x_if_eq 36 rfl 48 dX9_spelled_33 (by decide) (fun hc => ?_) (fun hc => ?_)
  · replace h := x_ifT hc h
    exact x_wk (x_le_n (x_le_n (x_le_n (x_le_n (x_le_s (x_le_s (x_le_s (x_le_n x_le_0)))))))) (j_Mo_spelled_J48 E _ _ _ _ h)
  · replace h := x_ifF hc h
    refine x_lload 38 rfl dX9_spelled_36 rfl ?_
    refine x_iconst 39 rfl (v := 5) dX9_spelled_38 (by decide) ?_
    refine x_lshl 40 rfl dX9_spelled_39 ?_
    refine x_iload_n 41 rfl 3 dX9_spelled_40 rfl rfl ?_
    refine x_bipush 43 rfl (v := 96) dX9_spelled_41 (by decide) ?_
    refine x_isub 44 rfl dX9_spelled_43 ?_
    refine x_i2l 45 rfl dX9_spelled_44 ?_
    refine x_lor 46 rfl dX9_spelled_45 ?_
    refine x_lstore 48 rfl dX9_spelled_46 (by decide) [none, none, none, some (.int _), some (.int _), some (.int _), some (.long _), none] rfl ?_
    exact x_wk (x_le_n (x_le_n (x_le_n (x_le_n (x_le_s (x_le_s (x_le_s (x_le_n x_le_0)))))))) (j_Mo_spelled_J48 E _ _ _ _ h)
set_option maxHeartbeats 4000000 in
set_option maxRecDepth 100000 in
theorem c_Mo_spelled {l : Launch} {s0 : State} {a0 : Array Value} {D : va_G} {cA : Nat → ClassId} {sp : Nat → Nat} (E : x_En CL l s0 a0 D cA sp) (v0 : Int32) (v1 : Int32) (v2 : Int32) (v3 : Int32) (v4 : Int32) (v5 : Int32) {σ : xS} {r : Int64} {σ1 : xS} (h : f_Mo_spelled v0 v1 v2 v3 v4 v5 σ = some (r, σ1)) : zC l s0 D cA sp 0 M_Mo_spelled [.int v0, .int v1, .int v2, .int v3, .int v4, .int v5] σ (some (.long r)) σ1 := by
  unfold f_Mo_spelled at h
  try dsimp only at h
  refine x_enter [some (.int v0), some (.int v1), some (.int v2), some (.int v3), some (.int v4), some (.int v5), none, none] rfl (Nat.le_of_ble_eq_true rfl) (by decide +kernel) rfl ?_
  refine x_iload_n 1 rfl 0 dX9_spelled_0 rfl rfl ?_
  refine x_i2l 2 rfl dX9_spelled_1 ?_
  refine x_ldc2 5 rfl E (v := 96) dX9_spelled_2 (List.mem_append_right _ (List.mem_of_getElem? (i := 1523) (by decide +kernel))) ?_
  refine x_lsub 6 rfl dX9_spelled_5 ?_
  refine x_iconst 7 rfl (v := 5) dX9_spelled_6 (by decide) ?_
  refine x_lshl 8 rfl dX9_spelled_7 ?_
  refine x_iload_n 9 rfl 1 dX9_spelled_8 rfl rfl ?_
  refine x_bipush 11 rfl (v := 96) dX9_spelled_9 (by decide) ?_
  refine x_isub 12 rfl dX9_spelled_11 ?_
  refine x_i2l 13 rfl dX9_spelled_12 ?_
  refine x_lor 14 rfl dX9_spelled_13 ?_
  refine x_lstore 16 rfl dX9_spelled_14 (by decide) [some (.int _), some (.int _), some (.int _), some (.int _), some (.int _), some (.int _), some (.long _), none] rfl ?_
  refine x_iload_n 17 rfl 2 dX9_spelled_16 rfl rfl ?_
  refine x_if_eq 20 rfl 32 dX9_spelled_17 (by decide) (fun hc => ?_) (fun hc => ?_)
  · replace h := x_ifT hc h
    exact x_wk (x_le_n (x_le_n (x_le_n (x_le_s (x_le_s (x_le_s (x_le_s (x_le_n x_le_0)))))))) (j_Mo_spelled_J32 E _ _ _ _ _ h)
  · replace h := x_ifF hc h
    refine x_lload 22 rfl dX9_spelled_20 rfl ?_
    refine x_iconst 23 rfl (v := 5) dX9_spelled_22 (by decide) ?_
    refine x_lshl 24 rfl dX9_spelled_23 ?_
    refine x_iload_n 25 rfl 2 dX9_spelled_24 rfl rfl ?_
    refine x_bipush 27 rfl (v := 96) dX9_spelled_25 (by decide) ?_
    refine x_isub 28 rfl dX9_spelled_27 ?_
    refine x_i2l 29 rfl dX9_spelled_28 ?_
    refine x_lor 30 rfl dX9_spelled_29 ?_
    refine x_lstore 32 rfl dX9_spelled_30 (by decide) [some (.int _), some (.int _), some (.int _), some (.int _), some (.int _), some (.int _), some (.long _), none] rfl ?_
    exact x_wk (x_le_n (x_le_n (x_le_n (x_le_s (x_le_s (x_le_s (x_le_s (x_le_n x_le_0)))))))) (j_Mo_spelled_J32 E _ _ _ _ _ h)
