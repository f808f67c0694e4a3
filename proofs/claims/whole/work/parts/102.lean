/-! The reference's methods: functions and contracts. Written by wip/gen/emit.py. -/
abbrev M_Mo_waitsFor : xM := (yX9_waitsFor, cX9_waitsFor, 2, none, [])
theorem dX9_waitsFor_0 : decode cX9_waitsFor 0 = .ok (.aload_n 0, 1) := by decide +kernel
theorem dX9_waitsFor_1 : decode cX9_waitsFor 1 = .ok (.getfield 71, 3) := by decide +kernel
theorem dX9_waitsFor_4 : decode cX9_waitsFor 4 = .ok (.aload_n 0, 1) := by decide +kernel
theorem dX9_waitsFor_5 : decode cX9_waitsFor 5 = .ok (.getfield 208, 3) := by decide +kernel
theorem dX9_waitsFor_8 : decode cX9_waitsFor 8 = .ok (.iload_n 1, 1) := by decide +kernel
theorem dX9_waitsFor_9 : decode cX9_waitsFor 9 = .ok (.iastore, 1) := by decide +kernel
theorem dX9_waitsFor_10 : decode cX9_waitsFor 10 = .ok (.aload_n 0, 1) := by decide +kernel
theorem dX9_waitsFor_11 : decode cX9_waitsFor 11 = .ok (.dup, 1) := by decide +kernel
theorem dX9_waitsFor_12 : decode cX9_waitsFor 12 = .ok (.getfield 208, 3) := by decide +kernel
theorem dX9_waitsFor_15 : decode cX9_waitsFor 15 = .ok (.iconst 1, 1) := by decide +kernel
theorem dX9_waitsFor_16 : decode cX9_waitsFor 16 = .ok (.iadd, 1) := by decide +kernel
theorem dX9_waitsFor_17 : decode cX9_waitsFor 17 = .ok (.putfield 208, 3) := by decide +kernel
theorem dX9_waitsFor_20 : decode cX9_waitsFor 20 = .ok (.return_, 1) := by decide +kernel
def f_Mo_waitsFor_60 (v1 : Int32) (σ : xS) : Option (Unit × xS) :=
  if σ.1 60 41 < 0 ∨ 950 ≤ (σ.1 60 41).toNatClampNeg then none else
  let σ1 := x_pI σ 77 (σ.1 60 41).toNatClampNeg v1
  let σ2 := x_pI σ1 60 41 (σ1.1 60 41 + (1 : Int32))
  some ((), σ2)
set_option maxHeartbeats 4000000 in
set_option maxRecDepth 100000 in
theorem c_Mo_waitsFor_60 {l : Launch} {s0 : State} {a0 : Array Value} {D : va_G} {cA : Nat → ClassId} {sp : Nat → Nat} (E : x_En CL l s0 a0 D cA sp) (v1 : Int32) {σ : xS} {r : Unit} {σ1 : xS} (h : f_Mo_waitsFor_60 v1 σ = some (r, σ1)) : zC l s0 D cA sp 0 M_Mo_waitsFor [.ref 60, .int v1] σ none σ1 := by
  unfold f_Mo_waitsFor_60 at h
  try dsimp only at h
  refine x_enter [some (.ref 60), some (.int v1)] rfl (Nat.le_of_ble_eq_true rfl) (by decide +kernel) rfl ?_
  refine x_aload_n 1 rfl 0 dX9_waitsFor_0 rfl rfl ?_
  refine x_getR E dX9_waitsFor_1 F_RX9_71 sh_60 rf_60_51 4 rfl ?_
  refine x_aload_n 5 rfl 0 dX9_waitsFor_4 rfl rfl ?_
  refine x_getI E dX9_waitsFor_5 F_RX9_208 sh_60 8 rfl ?_
  refine x_iload_n 9 rfl 1 dX9_waitsFor_8 rfl rfl ?_
  obtain ⟨hz, h⟩ := x_ifn h
  refine x_iast E dX9_waitsFor_9 sh_77 _ rfl hz 10 rfl ?_
  refine x_aload_n 11 rfl 0 dX9_waitsFor_10 rfl rfl ?_
  refine x_dup 12 rfl dX9_waitsFor_11 rfl ?_
  refine x_getI E dX9_waitsFor_12 F_RX9_208 sh_60 15 rfl ?_
  refine x_iconst 16 rfl (v := 1) dX9_waitsFor_15 (by decide) ?_
  refine x_iadd 17 rfl dX9_waitsFor_16 ?_
  refine x_putI E dX9_waitsFor_17 F_RX9_208 sh_60 20 rfl ?_
  cases h
  exact x_vret dX9_waitsFor_20 rfl rfl rfl
theorem K_RX9_220 : x_KV RX9 220 M_Mo_knownWord 0 := ⟨⟨(List.mem_append_right _ (List.mem_of_getElem? (i := 1513) (by decide +kernel))), (List.mem_append_right _ (List.mem_of_getElem? (i := 1516) (by decide +kernel))), (List.mem_append_right _ (List.mem_of_getElem? (i := 9) (by decide +kernel))), ⟨by decide +kernel, by decide +kernel⟩, by decide +kernel⟩, (List.mem_append_right _ (List.mem_of_getElem? (i := 1515) (by decide +kernel))), (List.mem_append_left _ (List.mem_of_getElem? (i := 53) (by decide +kernel)))⟩
abbrev M_Mo_part : xM := (yX9_part, cX9_part, 2, none, [])
theorem dX9_part_0 : decode cX9_part 0 = .ok (.aload_n 0, 1) := by decide +kernel
theorem dX9_part_1 : decode cX9_part 1 = .ok (.invokevirtual 191, 3) := by decide +kernel
theorem dX9_part_4 : decode cX9_part 4 = .ok (.ifCond .ne 4, 3) := by decide +kernel
theorem dX9_part_7 : decode cX9_part 7 = .ok (.return_, 1) := by decide +kernel
theorem dX9_part_8 : decode cX9_part 8 = .ok (.aload_n 0, 1) := by decide +kernel
theorem dX9_part_9 : decode cX9_part 9 = .ok (.getfield 165, 3) := by decide +kernel
theorem dX9_part_12 : decode cX9_part 12 = .ok (.iconst 2, 1) := by decide +kernel
theorem dX9_part_13 : decode cX9_part 13 = .ok (.if_icmp .ne 32, 3) := by decide +kernel
theorem dX9_part_16 : decode cX9_part 16 = .ok (.aload_n 0, 1) := by decide +kernel
theorem dX9_part_17 : decode cX9_part 17 = .ok (.getfield 175, 3) := by decide +kernel
theorem dX9_part_20 : decode cX9_part 20 = .ok (.iconst 4, 1) := by decide +kernel
theorem dX9_part_21 : decode cX9_part 21 = .ok (.if_icmp .le 8, 3) := by decide +kernel
theorem dX9_part_24 : decode cX9_part 24 = .ok (.aload_n 0, 1) := by decide +kernel
theorem dX9_part_25 : decode cX9_part 25 = .ok (.iconst 2, 1) := by decide +kernel
theorem dX9_part_26 : decode cX9_part 26 = .ok (.invokevirtual 198, 3) := by decide +kernel
theorem dX9_part_29 : decode cX9_part 29 = .ok (.aload_n 0, 1) := by decide +kernel
theorem dX9_part_30 : decode cX9_part 30 = .ok (.iconst 1, 1) := by decide +kernel
theorem dX9_part_31 : decode cX9_part 31 = .ok (.invokevirtual 217, 3) := by decide +kernel
theorem dX9_part_34 : decode cX9_part 34 = .ok (.aload_n 0, 1) := by decide +kernel
theorem dX9_part_35 : decode cX9_part 35 = .ok (.aload_n 0, 1) := by decide +kernel
theorem dX9_part_36 : decode cX9_part 36 = .ok (.getfield 159, 3) := by decide +kernel
theorem dX9_part_39 : decode cX9_part 39 = .ok (.invokevirtual 217, 3) := by decide +kernel
theorem dX9_part_42 : decode cX9_part 42 = .ok (.goto 55, 3) := by decide +kernel
theorem dX9_part_45 : decode cX9_part 45 = .ok (.aload_n 0, 1) := by decide +kernel
theorem dX9_part_46 : decode cX9_part 46 = .ok (.getfield 165, 3) := by decide +kernel
theorem dX9_part_49 : decode cX9_part 49 = .ok (.iconst 1, 1) := by decide +kernel
theorem dX9_part_50 : decode cX9_part 50 = .ok (.if_icmp .ne 42, 3) := by decide +kernel
theorem dX9_part_53 : decode cX9_part 53 = .ok (.aload_n 0, 1) := by decide +kernel
theorem dX9_part_54 : decode cX9_part 54 = .ok (.invokevirtual 220, 3) := by decide +kernel
theorem dX9_part_57 : decode cX9_part 57 = .ok (.istore_n 1, 1) := by decide +kernel
theorem dX9_part_58 : decode cX9_part 58 = .ok (.iload_n 1, 1) := by decide +kernel
theorem dX9_part_59 : decode cX9_part 59 = .ok (.aload_n 0, 1) := by decide +kernel
theorem dX9_part_60 : decode cX9_part 60 = .ok (.getfield 224, 3) := by decide +kernel
theorem dX9_part_63 : decode cX9_part 63 = .ok (.if_icmp .lt 11, 3) := by decide +kernel
theorem dX9_part_66 : decode cX9_part 66 = .ok (.iload_n 1, 1) := by decide +kernel
theorem dX9_part_67 : decode cX9_part 67 = .ok (.aload_n 0, 1) := by decide +kernel
theorem dX9_part_68 : decode cX9_part 68 = .ok (.getfield 227, 3) := by decide +kernel
theorem dX9_part_71 : decode cX9_part 71 = .ok (.if_icmp .le 8, 3) := by decide +kernel
theorem dX9_part_74 : decode cX9_part 74 = .ok (.aload_n 0, 1) := by decide +kernel
theorem dX9_part_75 : decode cX9_part 75 = .ok (.iconst 3, 1) := by decide +kernel
theorem dX9_part_76 : decode cX9_part 76 = .ok (.invokevirtual 198, 3) := by decide +kernel
theorem dX9_part_79 : decode cX9_part 79 = .ok (.aload_n 0, 1) := by decide +kernel
theorem dX9_part_80 : decode cX9_part 80 = .ok (.iconst 2, 1) := by decide +kernel
theorem dX9_part_81 : decode cX9_part 81 = .ok (.invokevirtual 217, 3) := by decide +kernel
theorem dX9_part_84 : decode cX9_part 84 = .ok (.aload_n 0, 1) := by decide +kernel
theorem dX9_part_85 : decode cX9_part 85 = .ok (.iload_n 1, 1) := by decide +kernel
theorem dX9_part_86 : decode cX9_part 86 = .ok (.invokevirtual 217, 3) := by decide +kernel
theorem dX9_part_89 : decode cX9_part 89 = .ok (.goto 8, 3) := by decide +kernel
theorem dX9_part_92 : decode cX9_part 92 = .ok (.aload_n 0, 1) := by decide +kernel
theorem dX9_part_93 : decode cX9_part 93 = .ok (.iconst 1, 1) := by decide +kernel
theorem dX9_part_94 : decode cX9_part 94 = .ok (.invokevirtual 198, 3) := by decide +kernel
theorem dX9_part_97 : decode cX9_part 97 = .ok (.aload_n 0, 1) := by decide +kernel
theorem dX9_part_98 : decode cX9_part 98 = .ok (.invokevirtual 191, 3) := by decide +kernel
theorem dX9_part_101 : decode cX9_part 101 = .ok (.ifCond .eq 7, 3) := by decide +kernel
theorem dX9_part_104 : decode cX9_part 104 = .ok (.aload_n 0, 1) := by decide +kernel
theorem dX9_part_105 : decode cX9_part 105 = .ok (.invokevirtual 195, 3) := by decide +kernel
theorem dX9_part_108 : decode cX9_part 108 = .ok (.return_, 1) := by decide +kernel
def f_Mo_part_60_J79 (v1 : Int32) (σ : xS) : Option (Unit × xS) :=
  (f_Mo_puts_60 (2 : Int32) σ).bind fun q1 =>
  (f_Mo_puts_60 v1 q1.2).bind fun q2 =>
  (f_Mo_isGood_60  q2.2).bind fun q3 =>
  if q3.1 = 0 then
    some ((), q3.2)
  else
    (f_Mo_goes_60  q3.2).bind fun q4 =>
    some ((), q4.2)
def f_Mo_part_60_J74 (v1 : Int32) (σ : xS) : Option (Unit × xS) :=
  (f_Mo_wrong_60 (3 : Int32) σ).bind fun q5 =>
  f_Mo_part_60_J79 v1 q5.2
def f_Mo_part_60_J29  (σ : xS) : Option (Unit × xS) :=
  (f_Mo_puts_60 (1 : Int32) σ).bind fun q6 =>
  (f_Mo_puts_60 (q6.2.1 60 24) q6.2).bind fun q7 =>
  (f_Mo_isGood_60  q7.2).bind fun q8 =>
  if q8.1 = 0 then
    some ((), q8.2)
  else
    (f_Mo_goes_60  q8.2).bind fun q9 =>
    some ((), q9.2)
def f_Mo_part_60  (σ : xS) : Option (Unit × xS) :=
  (f_Mo_isGood_60  σ).bind fun q10 =>
  if q10.1 = 0 then
    some ((), q10.2)
  else
    if q10.2.1 60 21 = (2 : Int32) then
      if q10.2.1 60 23 ≤ (4 : Int32) then
        f_Mo_part_60_J29  q10.2
      else
        (f_Mo_wrong_60 (2 : Int32) q10.2).bind fun q16 =>
        f_Mo_part_60_J29  q16.2
    else
      if q10.2.1 60 21 = (1 : Int32) then
        (f_Mo_knownWord_60  q10.2).bind fun q14 =>
        let w15 := q14.1
        if w15 < q14.2.1 60 38 then
          f_Mo_part_60_J74 w15 q14.2
        else
          if w15 ≤ q14.2.1 60 39 then
            f_Mo_part_60_J79 w15 q14.2
          else
            f_Mo_part_60_J74 w15 q14.2
      else
        (f_Mo_wrong_60 (1 : Int32) q10.2).bind fun q11 =>
        (f_Mo_isGood_60  q11.2).bind fun q12 =>
        if q12.1 = 0 then
          some ((), q12.2)
        else
          (f_Mo_goes_60  q12.2).bind fun q13 =>
          some ((), q13.2)
set_option maxHeartbeats 4000000 in
set_option maxRecDepth 100000 in
theorem j_Mo_part_60_J79 {l : Launch} {s0 : State} {a0 : Array Value} {D : va_G} {cA : Nat → ClassId} {sp : Nat → Nat} (E : x_En CL l s0 a0 D cA sp) (v1 : Int32) (σ : xS) {r : Unit} {σ1 : xS} (h : f_Mo_part_60_J79 v1 σ = some (r, σ1)) : zW l s0 D cA sp (zQ s0 D cA sp none σ1) (x_rm 3 0 0) M_Mo_part 0 0 79 [some (.ref 60), some (.int v1)] [] σ := by
  unfold f_Mo_part_60_J79 at h
  try dsimp only at h
  refine x_aload_n 80 rfl 0 dX9_part_79 rfl rfl ?_
  refine x_iconst 81 rfl (v := 2) dX9_part_80 (by decide) ?_
  obtain ⟨⟨q1r, q1s⟩, q1h, h⟩ := x_bind h
  try dsimp only at h
  refine z_callV E [.int _] [] dX9_part_81 K_RX9_217 ⟨Nat.le_of_ble_eq_true rfl, Nat.le_of_ble_eq_true rfl⟩ sh_60 (by decide) rfl (c_Mo_puts_60 E _ q1h) rfl rfl (Nat.le_of_ble_eq_true rfl) 84 rfl [] rfl ?_
  refine x_aload_n 85 rfl 0 dX9_part_84 rfl rfl ?_
  refine x_iload_n 86 rfl 1 dX9_part_85 rfl rfl ?_
  obtain ⟨⟨q2r, q2s⟩, q2h, h⟩ := x_bind h
  try dsimp only at h
  refine z_callV E [.int _] [] dX9_part_86 K_RX9_217 ⟨Nat.le_of_ble_eq_true rfl, Nat.le_of_ble_eq_true rfl⟩ sh_60 (by decide) rfl (c_Mo_puts_60 E _ q2h) rfl rfl (Nat.le_of_ble_eq_true rfl) 89 rfl [] rfl ?_
  refine x_goto 97 dX9_part_89 (by decide) ?_
  refine x_aload_n 98 rfl 0 dX9_part_97 rfl rfl ?_
  obtain ⟨⟨q3r, q3s⟩, q3h, h⟩ := x_bind h
  try dsimp only at h
  refine z_callV E [] [] dX9_part_98 K_RX9_191 ⟨Nat.le_of_ble_eq_true rfl, Nat.le_of_ble_eq_true rfl⟩ sh_60 (by decide) rfl (c_Mo_isGood_60 E  q3h) rfl rfl (Nat.le_of_ble_eq_true rfl) 101 rfl [.int _] rfl ?_
  refine x_if_eq 104 rfl 108 dX9_part_101 (by decide) (fun hc => ?_) (fun hc => ?_)
  · replace h := x_ifT hc h
    cases h
    exact x_vret dX9_part_108 rfl rfl rfl
  · replace h := x_ifF hc h
    refine x_aload_n 105 rfl 0 dX9_part_104 rfl rfl ?_
    obtain ⟨⟨q4r, q4s⟩, q4h, h⟩ := x_bind h
    try dsimp only at h
    refine z_callV E [] [] dX9_part_105 K_RX9_195 ⟨Nat.le_of_ble_eq_true rfl, Nat.le_of_ble_eq_true rfl⟩ sh_60 (by decide) rfl (c_Mo_goes_60 E  q4h) rfl rfl (Nat.le_of_ble_eq_true rfl) 108 rfl [] rfl ?_
    cases h
    exact x_vret dX9_part_108 rfl rfl rfl
set_option maxHeartbeats 4000000 in
set_option maxRecDepth 100000 in
theorem j_Mo_part_60_J74 {l : Launch} {s0 : State} {a0 : Array Value} {D : va_G} {cA : Nat → ClassId} {sp : Nat → Nat} (E : x_En CL l s0 a0 D cA sp) (v1 : Int32) (σ : xS) {r : Unit} {σ1 : xS} (h : f_Mo_part_60_J74 v1 σ = some (r, σ1)) : zW l s0 D cA sp (zQ s0 D cA sp none σ1) (x_rm 3 0 0) M_Mo_part 0 0 74 [some (.ref 60), some (.int v1)] [] σ := by
  unfold f_Mo_part_60_J74 at h
  try dsimp only at h
  refine x_aload_n 75 rfl 0 dX9_part_74 rfl rfl ?_
  refine x_iconst 76 rfl (v := 3) dX9_part_75 (by decide) ?_
  obtain ⟨⟨q5r, q5s⟩, q5h, h⟩ := x_bind h
  try dsimp only at h
  refine z_callV E [.int _] [] dX9_part_76 K_RX9_198 ⟨Nat.le_of_ble_eq_true rfl, Nat.le_of_ble_eq_true rfl⟩ sh_60 (by decide) rfl (c_Mo_wrong_60 E _ q5h) rfl rfl (Nat.le_of_ble_eq_true rfl) 79 rfl [] rfl ?_
  exact x_wk (x_le_s (x_le_s x_le_0)) (j_Mo_part_60_J79 E _ _ h)
set_option maxHeartbeats 4000000 in
set_option maxRecDepth 100000 in
theorem j_Mo_part_60_J29 {l : Launch} {s0 : State} {a0 : Array Value} {D : va_G} {cA : Nat → ClassId} {sp : Nat → Nat} (E : x_En CL l s0 a0 D cA sp)  (σ : xS) {r : Unit} {σ1 : xS} (h : f_Mo_part_60_J29  σ = some (r, σ1)) : zW l s0 D cA sp (zQ s0 D cA sp none σ1) (x_rm 3 0 0) M_Mo_part 0 0 29 [some (.ref 60), none] [] σ := by
  unfold f_Mo_part_60_J29 at h
  try dsimp only at h
  refine x_aload_n 30 rfl 0 dX9_part_29 rfl rfl ?_
  refine x_iconst 31 rfl (v := 1) dX9_part_30 (by decide) ?_
  obtain ⟨⟨q6r, q6s⟩, q6h, h⟩ := x_bind h
  try dsimp only at h
  refine z_callV E [.int _] [] dX9_part_31 K_RX9_217 ⟨Nat.le_of_ble_eq_true rfl, Nat.le_of_ble_eq_true rfl⟩ sh_60 (by decide) rfl (c_Mo_puts_60 E _ q6h) rfl rfl (Nat.le_of_ble_eq_true rfl) 34 rfl [] rfl ?_
  refine x_aload_n 35 rfl 0 dX9_part_34 rfl rfl ?_
  refine x_aload_n 36 rfl 0 dX9_part_35 rfl rfl ?_
  refine x_getI E dX9_part_36 F_RX9_159 sh_60 39 rfl ?_
  obtain ⟨⟨q7r, q7s⟩, q7h, h⟩ := x_bind h
  try dsimp only at h
  refine z_callV E [.int _] [] dX9_part_39 K_RX9_217 ⟨Nat.le_of_ble_eq_true rfl, Nat.le_of_ble_eq_true rfl⟩ sh_60 (by decide) rfl (c_Mo_puts_60 E _ q7h) rfl rfl (Nat.le_of_ble_eq_true rfl) 42 rfl [] rfl ?_
  refine x_goto 97 dX9_part_42 (by decide) ?_
  refine x_aload_n 98 rfl 0 dX9_part_97 rfl rfl ?_
  obtain ⟨⟨q8r, q8s⟩, q8h, h⟩ := x_bind h
  try dsimp only at h
  refine z_callV E [] [] dX9_part_98 K_RX9_191 ⟨Nat.le_of_ble_eq_true rfl, Nat.le_of_ble_eq_true rfl⟩ sh_60 (by decide) rfl (c_Mo_isGood_60 E  q8h) rfl rfl (Nat.le_of_ble_eq_true rfl) 101 rfl [.int _] rfl ?_
  refine x_if_eq 104 rfl 108 dX9_part_101 (by decide) (fun hc => ?_) (fun hc => ?_)
  · replace h := x_ifT hc h
    cases h
    exact x_vret dX9_part_108 rfl rfl rfl
  · replace h := x_ifF hc h
    refine x_aload_n 105 rfl 0 dX9_part_104 rfl rfl ?_
    obtain ⟨⟨q9r, q9s⟩, q9h, h⟩ := x_bind h
    try dsimp only at h
    refine z_callV E [] [] dX9_part_105 K_RX9_195 ⟨Nat.le_of_ble_eq_true rfl, Nat.le_of_ble_eq_true rfl⟩ sh_60 (by decide) rfl (c_Mo_goes_60 E  q9h) rfl rfl (Nat.le_of_ble_eq_true rfl) 108 rfl [] rfl ?_
    cases h
    exact x_vret dX9_part_108 rfl rfl rfl
set_option maxHeartbeats 4000000 in
set_option maxRecDepth 100000 in
theorem c_Mo_part_60 {l : Launch} {s0 : State} {a0 : Array Value} {D : va_G} {cA : Nat → ClassId} {sp : Nat → Nat} (E : x_En CL l s0 a0 D cA sp)  {σ : xS} {r : Unit} {σ1 : xS} (h : f_Mo_part_60  σ = some (r, σ1)) : zC l s0 D cA sp 3 M_Mo_part [.ref 60] σ none σ1 := by
  unfold f_Mo_part_60 at h
  try dsimp only at h
  refine x_enter [some (.ref 60), none] rfl (Nat.le_of_ble_eq_true rfl) (by decide +kernel) rfl ?_
  refine x_aload_n 1 rfl 0 dX9_part_0 rfl rfl ?_
  obtain ⟨⟨q10r, q10s⟩, q10h, h⟩ := x_bind h
  try dsimp only at h
  refine z_callV E [] [] dX9_part_1 K_RX9_191 ⟨Nat.le_of_ble_eq_true rfl, Nat.le_of_ble_eq_true rfl⟩ sh_60 (by decide) rfl (c_Mo_isGood_60 E  q10h) rfl rfl (Nat.le_of_ble_eq_true rfl) 4 rfl [.int _] rfl ?_
  refine x_if_ne 7 rfl 8 dX9_part_4 (by decide) (fun hc => ?_) (fun hc => ?_)
  · replace h := x_ifF hc h
    refine x_aload_n 9 rfl 0 dX9_part_8 rfl rfl ?_
    refine x_getI E dX9_part_9 F_RX9_165 sh_60 12 rfl ?_
    refine x_iconst 13 rfl (v := 2) dX9_part_12 (by decide) ?_
    refine x_icmp_ne 16 rfl 45 dX9_part_13 (by decide) (fun hc => ?_) (fun hc => ?_)
    · replace h := x_ifF hc h
      refine x_aload_n 46 rfl 0 dX9_part_45 rfl rfl ?_
      refine x_getI E dX9_part_46 F_RX9_165 sh_60 49 rfl ?_
      refine x_iconst 50 rfl (v := 1) dX9_part_49 (by decide) ?_
      refine x_icmp_ne 53 rfl 92 dX9_part_50 (by decide) (fun hc => ?_) (fun hc => ?_)
      · replace h := x_ifF hc h
        refine x_aload_n 93 rfl 0 dX9_part_92 rfl rfl ?_
        refine x_iconst 94 rfl (v := 1) dX9_part_93 (by decide) ?_
        obtain ⟨⟨q11r, q11s⟩, q11h, h⟩ := x_bind h
        try dsimp only at h
        refine z_callV E [.int _] [] dX9_part_94 K_RX9_198 ⟨Nat.le_of_ble_eq_true rfl, Nat.le_of_ble_eq_true rfl⟩ sh_60 (by decide) rfl (c_Mo_wrong_60 E _ q11h) rfl rfl (Nat.le_of_ble_eq_true rfl) 97 rfl [] rfl ?_
        refine x_aload_n 98 rfl 0 dX9_part_97 rfl rfl ?_
        obtain ⟨⟨q12r, q12s⟩, q12h, h⟩ := x_bind h
        try dsimp only at h
        refine z_callV E [] [] dX9_part_98 K_RX9_191 ⟨Nat.le_of_ble_eq_true rfl, Nat.le_of_ble_eq_true rfl⟩ sh_60 (by decide) rfl (c_Mo_isGood_60 E  q12h) rfl rfl (Nat.le_of_ble_eq_true rfl) 101 rfl [.int _] rfl ?_
        refine x_if_eq 104 rfl 108 dX9_part_101 (by decide) (fun hc => ?_) (fun hc => ?_)
        · replace h := x_ifT hc h
          cases h
          exact x_vret dX9_part_108 rfl rfl rfl
        · replace h := x_ifF hc h
          refine x_aload_n 105 rfl 0 dX9_part_104 rfl rfl ?_
          obtain ⟨⟨q13r, q13s⟩, q13h, h⟩ := x_bind h
          try dsimp only at h
          refine z_callV E [] [] dX9_part_105 K_RX9_195 ⟨Nat.le_of_ble_eq_true rfl, Nat.le_of_ble_eq_true rfl⟩ sh_60 (by decide) rfl (c_Mo_goes_60 E  q13h) rfl rfl (Nat.le_of_ble_eq_true rfl) 108 rfl [] rfl ?_
          cases h
          exact x_vret dX9_part_108 rfl rfl rfl
      · replace h := x_ifT hc h
        refine x_aload_n 54 rfl 0 dX9_part_53 rfl rfl ?_
        obtain ⟨⟨q14r, q14s⟩, q14h, h⟩ := x_bind h
        try dsimp only at h
        refine z_callV E [] [] dX9_part_54 K_RX9_220 ⟨Nat.le_of_ble_eq_true rfl, Nat.le_of_ble_eq_true rfl⟩ sh_60 (by decide) rfl (c_Mo_knownWord_60 E  q14h) rfl rfl (Nat.le_of_ble_eq_true rfl) 57 rfl [.int _] rfl ?_
        refine x_istore_n 58 rfl 1 dX9_part_57 rfl (by decide) [some (.ref 60), some (.int _)] rfl ?_
        refine x_iload_n 59 rfl 1 dX9_part_58 rfl rfl ?_
        refine x_aload_n 60 rfl 0 dX9_part_59 rfl rfl ?_
        refine x_getI E dX9_part_60 F_RX9_224 sh_60 63 rfl ?_
        refine x_icmp_lt 66 rfl 74 dX9_part_63 (by decide) (fun hc => ?_) (fun hc => ?_)
        · replace h := x_ifT hc h
          exact x_wk (x_le_s (x_le_s x_le_0)) (j_Mo_part_60_J74 E _ _ h)
        · replace h := x_ifF hc h
          refine x_iload_n 67 rfl 1 dX9_part_66 rfl rfl ?_
          refine x_aload_n 68 rfl 0 dX9_part_67 rfl rfl ?_
          refine x_getI E dX9_part_68 F_RX9_227 sh_60 71 rfl ?_
          refine x_icmp_le 74 rfl 79 dX9_part_71 (by decide) (fun hc => ?_) (fun hc => ?_)
          · replace h := x_ifT hc h
            exact x_wk (x_le_s (x_le_s x_le_0)) (j_Mo_part_60_J79 E _ _ h)
          · replace h := x_ifF hc h
            exact x_wk (x_le_s (x_le_s x_le_0)) (j_Mo_part_60_J74 E _ _ h)
    · replace h := x_ifT hc h
      refine x_aload_n 17 rfl 0 dX9_part_16 rfl rfl ?_
      refine x_getI E dX9_part_17 F_RX9_175 sh_60 20 rfl ?_
      refine x_iconst 21 rfl (v := 4) dX9_part_20 (by decide) ?_
      refine x_icmp_le 24 rfl 29 dX9_part_21 (by decide) (fun hc => ?_) (fun hc => ?_)
      · replace h := x_ifT hc h
        exact x_wk (x_le_s (x_le_n x_le_0)) (j_Mo_part_60_J29 E  _ h)
      · replace h := x_ifF hc h
        refine x_aload_n 25 rfl 0 dX9_part_24 rfl rfl ?_
        refine x_iconst 26 rfl (v := 2) dX9_part_25 (by decide) ?_
        obtain ⟨⟨q16r, q16s⟩, q16h, h⟩ := x_bind h
        try dsimp only at h
        refine z_callV E [.int _] [] dX9_part_26 K_RX9_198 ⟨Nat.le_of_ble_eq_true rfl, Nat.le_of_ble_eq_true rfl⟩ sh_60 (by decide) rfl (c_Mo_wrong_60 E _ q16h) rfl rfl (Nat.le_of_ble_eq_true rfl) 29 rfl [] rfl ?_
        exact x_wk (x_le_s (x_le_n x_le_0)) (j_Mo_part_60_J29 E  _ h)
  · replace h := x_ifT hc h
    cases h
    exact x_vret dX9_part_7 rfl rfl rfl
theorem K_RX9_233 : x_KV RX9 233 M_Mo_isSign 1 := ⟨⟨(List.mem_append_right _ (List.mem_of_getElem? (i := 1540) (by decide +kernel))), (List.mem_append_right _ (List.mem_of_getElem? (i := 1543) (by decide +kernel))), (List.mem_append_right _ (List.mem_of_getElem? (i := 9) (by decide +kernel))), ⟨by decide +kernel, by decide +kernel⟩, by decide +kernel⟩, (List.mem_append_right _ (List.mem_of_getElem? (i := 1542) (by decide +kernel))), (List.mem_append_left _ (List.mem_of_getElem? (i := 58) (by decide +kernel)))⟩
abbrev M_Mo_deeper : xM := (yX9_deeper, cX9_deeper, 1, none, [])
theorem dX9_deeper_0 : decode cX9_deeper 0 = .ok (.aload_n 0, 1) := by decide +kernel
theorem dX9_deeper_1 : decode cX9_deeper 1 = .ok (.getfield 230, 3) := by decide +kernel
theorem dX9_deeper_4 : decode cX9_deeper 4 = .ok (.bipush 6, 2) := by decide +kernel
theorem dX9_deeper_6 : decode cX9_deeper 6 = .ok (.if_icmp .ge 24, 3) := by decide +kernel
theorem dX9_deeper_9 : decode cX9_deeper 9 = .ok (.aload_n 0, 1) := by decide +kernel
theorem dX9_deeper_10 : decode cX9_deeper 10 = .ok (.dup, 1) := by decide +kernel
theorem dX9_deeper_11 : decode cX9_deeper 11 = .ok (.getfield 230, 3) := by decide +kernel
theorem dX9_deeper_14 : decode cX9_deeper 14 = .ok (.iconst 1, 1) := by decide +kernel
theorem dX9_deeper_15 : decode cX9_deeper 15 = .ok (.iadd, 1) := by decide +kernel
theorem dX9_deeper_16 : decode cX9_deeper 16 = .ok (.putfield 230, 3) := by decide +kernel
theorem dX9_deeper_19 : decode cX9_deeper 19 = .ok (.aload_n 0, 1) := by decide +kernel
theorem dX9_deeper_20 : decode cX9_deeper 20 = .ok (.getfield 74, 3) := by decide +kernel
theorem dX9_deeper_23 : decode cX9_deeper 23 = .ok (.aload_n 0, 1) := by decide +kernel
theorem dX9_deeper_24 : decode cX9_deeper 24 = .ok (.getfield 230, 3) := by decide +kernel
theorem dX9_deeper_27 : decode cX9_deeper 27 = .ok (.iconst 0, 1) := by decide +kernel
theorem dX9_deeper_28 : decode cX9_deeper 28 = .ok (.bastore, 1) := by decide +kernel
theorem dX9_deeper_29 : decode cX9_deeper 29 = .ok (.return_, 1) := by decide +kernel
theorem dX9_deeper_30 : decode cX9_deeper 30 = .ok (.aload_n 0, 1) := by decide +kernel
theorem dX9_deeper_31 : decode cX9_deeper 31 = .ok (.aload_n 0, 1) := by decide +kernel
theorem dX9_deeper_32 : decode cX9_deeper 32 = .ok (.getfield 165, 3) := by decide +kernel
theorem dX9_deeper_35 : decode cX9_deeper 35 = .ok (.iconst 2, 1) := by decide +kernel
theorem dX9_deeper_36 : decode cX9_deeper 36 = .ok (.if_icmp .eq 20, 3) := by decide +kernel
theorem dX9_deeper_39 : decode cX9_deeper 39 = .ok (.aload_n 0, 1) := by decide +kernel
theorem dX9_deeper_40 : decode cX9_deeper 40 = .ok (.getfield 165, 3) := by decide +kernel
theorem dX9_deeper_43 : decode cX9_deeper 43 = .ok (.iconst 1, 1) := by decide +kernel
theorem dX9_deeper_44 : decode cX9_deeper 44 = .ok (.if_icmp .eq 12, 3) := by decide +kernel
theorem dX9_deeper_47 : decode cX9_deeper 47 = .ok (.aload_n 0, 1) := by decide +kernel
theorem dX9_deeper_48 : decode cX9_deeper 48 = .ok (.bipush 40, 2) := by decide +kernel
theorem dX9_deeper_50 : decode cX9_deeper 50 = .ok (.invokevirtual 233, 3) := by decide +kernel
theorem dX9_deeper_53 : decode cX9_deeper 53 = .ok (.ifCond .eq 7, 3) := by decide +kernel
theorem dX9_deeper_56 : decode cX9_deeper 56 = .ok (.iconst 2, 1) := by decide +kernel
theorem dX9_deeper_57 : decode cX9_deeper 57 = .ok (.goto 4, 3) := by decide +kernel
theorem dX9_deeper_60 : decode cX9_deeper 60 = .ok (.iconst 1, 1) := by decide +kernel
theorem dX9_deeper_61 : decode cX9_deeper 61 = .ok (.invokevirtual 198, 3) := by decide +kernel
theorem dX9_deeper_64 : decode cX9_deeper 64 = .ok (.return_, 1) := by decide +kernel
def f_Mo_deeper_60  (σ : xS) : Option (Unit × xS) :=
  if (6 : Int32) ≤ σ.1 60 42 then
    if σ.1 60 21 = (2 : Int32) then
      (f_Mo_wrong_60 (2 : Int32) σ).bind fun q1 =>
      some ((), q1.2)
    else
      if σ.1 60 21 = (1 : Int32) then
        (f_Mo_wrong_60 (2 : Int32) σ).bind fun q2 =>
        some ((), q2.2)
      else
        (f_Mo_isSign_60 (40 : Int32) σ).bind fun q3 =>
        if q3.1 = 0 then
          (f_Mo_wrong_60 (1 : Int32) q3.2).bind fun q4 =>
          some ((), q4.2)
        else
          (f_Mo_wrong_60 (2 : Int32) q3.2).bind fun q5 =>
          some ((), q5.2)
  else
    let σ6 := x_pI σ 60 42 (σ.1 60 42 + (1 : Int32))
    if σ6.1 60 42 < 0 ∨ 9 ≤ (σ6.1 60 42).toNatClampNeg then none else
    let σ7 := x_pI σ6 78 (σ6.1 60 42).toNatClampNeg (0 : Int32)
    some ((), σ7)
set_option maxHeartbeats 4000000 in
set_option maxRecDepth 100000 in
theorem c_Mo_deeper_60 {l : Launch} {s0 : State} {a0 : Array Value} {D : va_G} {cA : Nat → ClassId} {sp : Nat → Nat} (E : x_En CL l s0 a0 D cA sp)  {σ : xS} {r : Unit} {σ1 : xS} (h : f_Mo_deeper_60  σ = some (r, σ1)) : zC l s0 D cA sp 1 M_Mo_deeper [.ref 60] σ none σ1 := by
  unfold f_Mo_deeper_60 at h
  try dsimp only at h
  refine x_enter [some (.ref 60)] rfl (Nat.le_of_ble_eq_true rfl) (by decide +kernel) rfl ?_
  refine x_aload_n 1 rfl 0 dX9_deeper_0 rfl rfl ?_
  refine x_getI E dX9_deeper_1 F_RX9_230 sh_60 4 rfl ?_
  refine x_bipush 6 rfl (v := 6) dX9_deeper_4 (by decide) ?_
  refine x_icmp_ge 9 rfl 30 dX9_deeper_6 (by decide) (fun hc => ?_) (fun hc => ?_)
  · replace h := x_ifT hc h
    refine x_aload_n 31 rfl 0 dX9_deeper_30 rfl rfl ?_
    refine x_aload_n 32 rfl 0 dX9_deeper_31 rfl rfl ?_
    refine x_getI E dX9_deeper_32 F_RX9_165 sh_60 35 rfl ?_
    refine x_iconst 36 rfl (v := 2) dX9_deeper_35 (by decide) ?_
    refine x_icmp_eq 39 rfl 56 dX9_deeper_36 (by decide) (fun hc => ?_) (fun hc => ?_)
    · replace h := x_ifT hc h
      refine x_iconst 57 rfl (v := 2) dX9_deeper_56 (by decide) ?_
      refine x_goto 61 dX9_deeper_57 (by decide) ?_
      obtain ⟨⟨q1r, q1s⟩, q1h, h⟩ := x_bind h
      try dsimp only at h
      refine z_callV E [.int _] [] dX9_deeper_61 K_RX9_198 ⟨Nat.le_of_ble_eq_true rfl, Nat.le_of_ble_eq_true rfl⟩ sh_60 (by decide) rfl (c_Mo_wrong_60 E _ q1h) rfl rfl (Nat.le_of_ble_eq_true rfl) 64 rfl [] rfl ?_
      cases h
      exact x_vret dX9_deeper_64 rfl rfl rfl
    · replace h := x_ifF hc h
      refine x_aload_n 40 rfl 0 dX9_deeper_39 rfl rfl ?_
      refine x_getI E dX9_deeper_40 F_RX9_165 sh_60 43 rfl ?_
      refine x_iconst 44 rfl (v := 1) dX9_deeper_43 (by decide) ?_
      refine x_icmp_eq 47 rfl 56 dX9_deeper_44 (by decide) (fun hc => ?_) (fun hc => ?_)
      · replace h := x_ifT hc h
        refine x_iconst 57 rfl (v := 2) dX9_deeper_56 (by decide) ?_
        refine x_goto 61 dX9_deeper_57 (by decide) ?_
        obtain ⟨⟨q2r, q2s⟩, q2h, h⟩ := x_bind h
        try dsimp only at h
        refine z_callV E [.int _] [] dX9_deeper_61 K_RX9_198 ⟨Nat.le_of_ble_eq_true rfl, Nat.le_of_ble_eq_true rfl⟩ sh_60 (by decide) rfl (c_Mo_wrong_60 E _ q2h) rfl rfl (Nat.le_of_ble_eq_true rfl) 64 rfl [] rfl ?_
        cases h
        exact x_vret dX9_deeper_64 rfl rfl rfl
      · replace h := x_ifF hc h
        refine x_aload_n 48 rfl 0 dX9_deeper_47 rfl rfl ?_
        refine x_bipush 50 rfl (v := 40) dX9_deeper_48 (by decide) ?_
        obtain ⟨⟨q3r, q3s⟩, q3h, h⟩ := x_bind h
        try dsimp only at h
        refine z_callV E [.int _] [.ref 60] dX9_deeper_50 K_RX9_233 ⟨Nat.le_of_ble_eq_true rfl, Nat.le_of_ble_eq_true rfl⟩ sh_60 (by decide) rfl (c_Mo_isSign_60 E _ q3h) rfl rfl (Nat.le_of_ble_eq_true rfl) 53 rfl [.int _, .ref 60] rfl ?_
        refine x_if_eq 56 rfl 60 dX9_deeper_53 (by decide) (fun hc => ?_) (fun hc => ?_)
        · replace h := x_ifT hc h
          refine x_iconst 61 rfl (v := 1) dX9_deeper_60 (by decide) ?_
          obtain ⟨⟨q4r, q4s⟩, q4h, h⟩ := x_bind h
          try dsimp only at h
          refine z_callV E [.int _] [] dX9_deeper_61 K_RX9_198 ⟨Nat.le_of_ble_eq_true rfl, Nat.le_of_ble_eq_true rfl⟩ sh_60 (by decide) rfl (c_Mo_wrong_60 E _ q4h) rfl rfl (Nat.le_of_ble_eq_true rfl) 64 rfl [] rfl ?_
          cases h
          exact x_vret dX9_deeper_64 rfl rfl rfl
        · replace h := x_ifF hc h
          refine x_iconst 57 rfl (v := 2) dX9_deeper_56 (by decide) ?_
          refine x_goto 61 dX9_deeper_57 (by decide) ?_
          obtain ⟨⟨q5r, q5s⟩, q5h, h⟩ := x_bind h
          try dsimp only at h
          refine z_callV E [.int _] [] dX9_deeper_61 K_RX9_198 ⟨Nat.le_of_ble_eq_true rfl, Nat.le_of_ble_eq_true rfl⟩ sh_60 (by decide) rfl (c_Mo_wrong_60 E _ q5h) rfl rfl (Nat.le_of_ble_eq_true rfl) 64 rfl [] rfl ?_
          cases h
          exact x_vret dX9_deeper_64 rfl rfl rfl
  · replace h := x_ifF hc h
    refine x_aload_n 10 rfl 0 dX9_deeper_9 rfl rfl ?_
    refine x_dup 11 rfl dX9_deeper_10 rfl ?_
    refine x_getI E dX9_deeper_11 F_RX9_230 sh_60 14 rfl ?_
    refine x_iconst 15 rfl (v := 1) dX9_deeper_14 (by decide) ?_
    refine x_iadd 16 rfl dX9_deeper_15 ?_
    refine x_putI E dX9_deeper_16 F_RX9_230 sh_60 19 rfl ?_
    refine x_aload_n 20 rfl 0 dX9_deeper_19 rfl rfl ?_
    refine x_getR E dX9_deeper_20 F_RX9_74 sh_60 rf_60_52 23 rfl ?_
    refine x_aload_n 24 rfl 0 dX9_deeper_23 rfl rfl ?_
    refine x_getI E dX9_deeper_24 F_RX9_230 sh_60 27 rfl ?_
    refine x_iconst 28 rfl (v := 0) dX9_deeper_27 (by decide) ?_
    obtain ⟨hz, h⟩ := x_ifn h
    refine x_zast E (Or.inl rfl) dX9_deeper_28 sh_78 _ rfl hz 29 rfl ?_
    cases h
    exact x_vret dX9_deeper_29 rfl rfl rfl
theorem K_RX9_236 : x_KV RX9 236 M_Mo_waitsFor 1 := ⟨⟨(List.mem_append_right _ (List.mem_of_getElem? (i := 1580) (by decide +kernel))), (List.mem_append_right _ (List.mem_of_getElem? (i := 1583) (by decide +kernel))), (List.mem_append_right _ (List.mem_of_getElem? (i := 9) (by decide +kernel))), ⟨by decide +kernel, by decide +kernel⟩, by decide +kernel⟩, (List.mem_append_right _ (List.mem_of_getElem? (i := 1582) (by decide +kernel))), (List.mem_append_left _ (List.mem_of_getElem? (i := 68) (by decide +kernel)))⟩
theorem K_RX9_239 : x_KV RX9 239 M_Mo_deeper 0 := ⟨⟨(List.mem_append_right _ (List.mem_of_getElem? (i := 1572) (by decide +kernel))), (List.mem_append_right _ (List.mem_of_getElem? (i := 1575) (by decide +kernel))), (List.mem_append_right _ (List.mem_of_getElem? (i := 9) (by decide +kernel))), ⟨by decide +kernel, by decide +kernel⟩, by decide +kernel⟩, (List.mem_append_right _ (List.mem_of_getElem? (i := 1574) (by decide +kernel))), (List.mem_append_left _ (List.mem_of_getElem? (i := 66) (by decide +kernel)))⟩
theorem K_RX9_242 : x_KV RX9 242 M_Mo_part 0 := ⟨⟨(List.mem_append_right _ (List.mem_of_getElem? (i := 1584) (by decide +kernel))), (List.mem_append_right _ (List.mem_of_getElem? (i := 1587) (by decide +kernel))), (List.mem_append_right _ (List.mem_of_getElem? (i := 9) (by decide +kernel))), ⟨by decide +kernel, by decide +kernel⟩, by decide +kernel⟩, (List.mem_append_right _ (List.mem_of_getElem? (i := 1586) (by decide +kernel))), (List.mem_append_left _ (List.mem_of_getElem? (i := 69) (by decide +kernel)))⟩
abbrev M_Mo_operand : xM := (yX9_operand, cX9_operand, 5, none, [])
theorem dX9_operand_0 : decode cX9_operand 0 = .ok (.iload_n 1, 1) := by decide +kernel
theorem dX9_operand_1 : decode cX9_operand 1 = .ok (.istore_n 2, 1) := by decide +kernel
theorem dX9_operand_2 : decode cX9_operand 2 = .ok (.iconst 1, 1) := by decide +kernel
theorem dX9_operand_3 : decode cX9_operand 3 = .ok (.istore_n 3, 1) := by decide +kernel
theorem dX9_operand_4 : decode cX9_operand 4 = .ok (.iload_n 3, 1) := by decide +kernel
theorem dX9_operand_5 : decode cX9_operand 5 = .ok (.ifCond .eq 115, 3) := by decide +kernel
theorem dX9_operand_8 : decode cX9_operand 8 = .ok (.aload_n 0, 1) := by decide +kernel
theorem dX9_operand_9 : decode cX9_operand 9 = .ok (.invokevirtual 191, 3) := by decide +kernel
theorem dX9_operand_12 : decode cX9_operand 12 = .ok (.ifCond .eq 108, 3) := by decide +kernel
theorem dX9_operand_15 : decode cX9_operand 15 = .ok (.iconst 0, 1) := by decide +kernel
theorem dX9_operand_16 : decode cX9_operand 16 = .ok (.istore 4, 2) := by decide +kernel
theorem dX9_operand_18 : decode cX9_operand 18 = .ok (.aload_n 0, 1) := by decide +kernel
theorem dX9_operand_19 : decode cX9_operand 19 = .ok (.invokevirtual 191, 3) := by decide +kernel
theorem dX9_operand_22 : decode cX9_operand 22 = .ok (.ifCond .eq 53, 3) := by decide +kernel
theorem dX9_operand_25 : decode cX9_operand 25 = .ok (.iload_n 2, 1) := by decide +kernel
theorem dX9_operand_26 : decode cX9_operand 26 = .ok (.ifCond .eq 49, 3) := by decide +kernel
theorem dX9_operand_29 : decode cX9_operand 29 = .ok (.aload_n 0, 1) := by decide +kernel
theorem dX9_operand_30 : decode cX9_operand 30 = .ok (.invokevirtual 220, 3) := by decide +kernel
theorem dX9_operand_33 : decode cX9_operand 33 = .ok (.bipush 21, 2) := by decide +kernel
theorem dX9_operand_35 : decode cX9_operand 35 = .ok (.if_icmp .ne 40, 3) := by decide +kernel
theorem dX9_operand_38 : decode cX9_operand 38 = .ok (.iload 4, 2) := by decide +kernel
theorem dX9_operand_40 : decode cX9_operand 40 = .ok (.bipush 6, 2) := by decide +kernel
theorem dX9_operand_42 : decode cX9_operand 42 = .ok (.if_icmp .ne 8, 3) := by decide +kernel
theorem dX9_operand_45 : decode cX9_operand 45 = .ok (.aload_n 0, 1) := by decide +kernel
theorem dX9_operand_46 : decode cX9_operand 46 = .ok (.iconst 2, 1) := by decide +kernel
theorem dX9_operand_47 : decode cX9_operand 47 = .ok (.invokevirtual 198, 3) := by decide +kernel
theorem dX9_operand_50 : decode cX9_operand 50 = .ok (.iinc 4 1, 3) := by decide +kernel
theorem dX9_operand_53 : decode cX9_operand 53 = .ok (.aload_n 0, 1) := by decide +kernel
theorem dX9_operand_54 : decode cX9_operand 54 = .ok (.invokevirtual 191, 3) := by decide +kernel
theorem dX9_operand_57 : decode cX9_operand 57 = .ok (.ifCond .ne 6, 3) := by decide +kernel
theorem dX9_operand_60 : decode cX9_operand 60 = .ok (.goto (-42), 3) := by decide +kernel
theorem dX9_operand_63 : decode cX9_operand 63 = .ok (.aload_n 0, 1) := by decide +kernel
theorem dX9_operand_64 : decode cX9_operand 64 = .ok (.iconst 3, 1) := by decide +kernel
theorem dX9_operand_65 : decode cX9_operand 65 = .ok (.invokevirtual 236, 3) := by decide +kernel
theorem dX9_operand_68 : decode cX9_operand 68 = .ok (.aload_n 0, 1) := by decide +kernel
theorem dX9_operand_69 : decode cX9_operand 69 = .ok (.invokevirtual 195, 3) := by decide +kernel
theorem dX9_operand_72 : decode cX9_operand 72 = .ok (.goto (-54), 3) := by decide +kernel
theorem dX9_operand_75 : decode cX9_operand 75 = .ok (.aload_n 0, 1) := by decide +kernel
theorem dX9_operand_76 : decode cX9_operand 76 = .ok (.invokevirtual 191, 3) := by decide +kernel
theorem dX9_operand_79 : decode cX9_operand 79 = .ok (.ifCond .eq 16, 3) := by decide +kernel
theorem dX9_operand_82 : decode cX9_operand 82 = .ok (.aload_n 0, 1) := by decide +kernel
theorem dX9_operand_83 : decode cX9_operand 83 = .ok (.bipush 40, 2) := by decide +kernel
theorem dX9_operand_85 : decode cX9_operand 85 = .ok (.invokevirtual 233, 3) := by decide +kernel
theorem dX9_operand_88 : decode cX9_operand 88 = .ok (.ifCond .eq 7, 3) := by decide +kernel
theorem dX9_operand_91 : decode cX9_operand 91 = .ok (.iconst 1, 1) := by decide +kernel
theorem dX9_operand_92 : decode cX9_operand 92 = .ok (.goto 4, 3) := by decide +kernel
theorem dX9_operand_95 : decode cX9_operand 95 = .ok (.iconst 0, 1) := by decide +kernel
theorem dX9_operand_96 : decode cX9_operand 96 = .ok (.istore_n 3, 1) := by decide +kernel
theorem dX9_operand_97 : decode cX9_operand 97 = .ok (.iload_n 3, 1) := by decide +kernel
theorem dX9_operand_98 : decode cX9_operand 98 = .ok (.ifCond .eq 19, 3) := by decide +kernel
theorem dX9_operand_101 : decode cX9_operand 101 = .ok (.aload_n 0, 1) := by decide +kernel
theorem dX9_operand_102 : decode cX9_operand 102 = .ok (.bipush 14, 2) := by decide +kernel
theorem dX9_operand_104 : decode cX9_operand 104 = .ok (.invokevirtual 236, 3) := by decide +kernel
theorem dX9_operand_107 : decode cX9_operand 107 = .ok (.aload_n 0, 1) := by decide +kernel
theorem dX9_operand_108 : decode cX9_operand 108 = .ok (.invokevirtual 195, 3) := by decide +kernel
theorem dX9_operand_111 : decode cX9_operand 111 = .ok (.aload_n 0, 1) := by decide +kernel
theorem dX9_operand_112 : decode cX9_operand 112 = .ok (.invokevirtual 239, 3) := by decide +kernel
theorem dX9_operand_115 : decode cX9_operand 115 = .ok (.iconst 1, 1) := by decide +kernel
theorem dX9_operand_116 : decode cX9_operand 116 = .ok (.istore_n 2, 1) := by decide +kernel
theorem dX9_operand_117 : decode cX9_operand 117 = .ok (.goto (-113), 3) := by decide +kernel
theorem dX9_operand_120 : decode cX9_operand 120 = .ok (.aload_n 0, 1) := by decide +kernel
theorem dX9_operand_121 : decode cX9_operand 121 = .ok (.invokevirtual 242, 3) := by decide +kernel
theorem dX9_operand_124 : decode cX9_operand 124 = .ok (.return_, 1) := by decide +kernel
def f_Mo_operand_60_J50 (v2 : Int32) (v4 : Int32) (σ : xS) : Option ((Int32 × xS) ⊕ (Int32 × xS)) :=
  let w1 := v4 + (1 : Int32)
  (f_Mo_isGood_60  σ).bind fun q2 =>
  if q2.1 = 0 then
    some (.inr (w1, q2.2))
  else
    (f_Mo_waitsFor_60 (3 : Int32) q2.2).bind fun q3 =>
    (f_Mo_goes_60  q3.2).bind fun q4 =>
    some (.inr (w1, q4.2))
def f_Mo_operand_60_L18 (v2 : Int32) (a : Int32 × xS) : Option ((Int32 × xS) ⊕ (Int32 × xS)) :=
  let v4 := a.1; let σ := a.2;
  (f_Mo_isGood_60  σ).bind fun q5 =>
  if q5.1 = 0 then
    some (.inl (v4, q5.2))
  else
    if v2 = 0 then
      some (.inl (v4, q5.2))
    else
      (f_Mo_knownWord_60  q5.2).bind fun q6 =>
      if q6.1 = (21 : Int32) then
        if v4 = (6 : Int32) then
          (f_Mo_wrong_60 (2 : Int32) q6.2).bind fun q7 =>
          f_Mo_operand_60_J50 v2 v4 q7.2
        else
          f_Mo_operand_60_J50 v2 v4 q6.2
      else
        some (.inl (v4, q6.2))
def f_Mo_operand_60_J96 (v2 : Int32) (y0 : Int32) (σ : xS) : Option ((Int32 × Int32 × xS) ⊕ (Int32 × Int32 × xS)) :=
  if y0 = 0 then
    some (.inr (v2, y0, σ))
  else
    (f_Mo_waitsFor_60 (14 : Int32) σ).bind fun q8 =>
    (f_Mo_goes_60  q8.2).bind fun q9 =>
    (f_Mo_deeper_60  q9.2).bind fun q10 =>
    some (.inr ((1 : Int32), y0, q10.2))
def f_Mo_operand_60_J95 (v2 : Int32) (σ : xS) : Option ((Int32 × Int32 × xS) ⊕ (Int32 × Int32 × xS)) :=
  f_Mo_operand_60_J96 v2 (0 : Int32) σ
def f_Mo_operand_60_J75 (v2 : Int32) (σ : xS) : Option ((Int32 × Int32 × xS) ⊕ (Int32 × Int32 × xS)) :=
  (f_Mo_isGood_60  σ).bind fun q11 =>
  if q11.1 = 0 then
    f_Mo_operand_60_J95 v2 q11.2
  else
    (f_Mo_isSign_60 (40 : Int32) q11.2).bind fun q12 =>
    if q12.1 = 0 then
      f_Mo_operand_60_J95 v2 q12.2
    else
      f_Mo_operand_60_J96 v2 (1 : Int32) q12.2
def f_Mo_operand_60_L4  (a : Int32 × Int32 × xS) : Option ((Int32 × Int32 × xS) ⊕ (Int32 × Int32 × xS)) :=
  let v2 := a.1; let v3 := a.2.1; let σ := a.2.2;
  if v3 = 0 then
    some (.inl (v2, v3, σ))
  else
    (f_Mo_isGood_60  σ).bind fun q13 =>
    if q13.1 = 0 then
      some (.inl (v2, v3, q13.2))
    else
      (x_it (f_Mo_operand_60_L18 v2) 10000 ((0 : Int32), q13.2)).bind fun b14 =>
      f_Mo_operand_60_J75 v2 b14.2
def f_Mo_operand_60 (v1 : Int32) (σ : xS) : Option (Unit × xS) :=
  (x_it (f_Mo_operand_60_L4 ) 10000 (v1, (1 : Int32), σ)).bind fun b15 =>
  (f_Mo_part_60  b15.2.2).bind fun q16 =>
  some ((), q16.2)
set_option maxHeartbeats 4000000 in
set_option maxRecDepth 100000 in
theorem j_Mo_operand_60_J50 {l : Launch} {s0 : State} {a0 : Array Value} {D : va_G} {cA : Nat → ClassId} {sp : Nat → Nat} (E : x_En CL l s0 a0 D cA sp) (v2 : Int32) (v4 : Int32)  (σ : xS) {r : Unit} {σ1 : xS} (o : (Int32 × xS) ⊕ (Int32 × xS)) (h : f_Mo_operand_60_J50 v2 v4 σ = some o) (hK : ∀ b, o = .inl b → zW l s0 D cA sp (zQ s0 D cA sp none σ1) (x_rm 4 0 0) M_Mo_operand 0 0 75 [some (.ref 60), none, some (.int v2), none, none] [] b.2) (hG : ∀ a', o = .inr a' → zW l s0 D cA sp (zQ s0 D cA sp none σ1) (x_rm 4 0 0) M_Mo_operand 0 0 18 [some (.ref 60), none, some (.int v2), none, some (.int a'.1)] [] a'.2) : zW l s0 D cA sp (zQ s0 D cA sp none σ1) (x_rm 4 0 0) M_Mo_operand 0 0 50 [some (.ref 60), none, some (.int v2), none, some (.int v4)] [] σ := by
  unfold f_Mo_operand_60_J50 at h
  try dsimp only at h
  refine x_iinc 53 rfl (1) dX9_operand_50 rfl (by decide) (by decide) [some (.ref 60), none, some (.int _), none, some (.int _)] rfl ?_
  refine x_aload_n 54 rfl 0 dX9_operand_53 rfl rfl ?_
  obtain ⟨⟨q2r, q2s⟩, q2h, h⟩ := x_bind h
  try dsimp only at h
  refine z_callV E [] [] dX9_operand_54 K_RX9_191 ⟨Nat.le_of_ble_eq_true rfl, Nat.le_of_ble_eq_true rfl⟩ sh_60 (by decide) rfl (c_Mo_isGood_60 E  q2h) rfl rfl (Nat.le_of_ble_eq_true rfl) 57 rfl [.int _] rfl ?_
  refine x_if_ne 60 rfl 63 dX9_operand_57 (by decide) (fun hc => ?_) (fun hc => ?_)
  · replace h := x_ifF hc h
    refine x_aload_n 64 rfl 0 dX9_operand_63 rfl rfl ?_
    refine x_iconst 65 rfl (v := 3) dX9_operand_64 (by decide) ?_
    obtain ⟨⟨q3r, q3s⟩, q3h, h⟩ := x_bind h
    try dsimp only at h
    refine z_callV E [.int _] [] dX9_operand_65 K_RX9_236 ⟨Nat.le_of_ble_eq_true rfl, Nat.le_of_ble_eq_true rfl⟩ sh_60 (by decide) rfl (c_Mo_waitsFor_60 E _ q3h) rfl rfl (Nat.le_of_ble_eq_true rfl) 68 rfl [] rfl ?_
    refine x_aload_n 69 rfl 0 dX9_operand_68 rfl rfl ?_
    obtain ⟨⟨q4r, q4s⟩, q4h, h⟩ := x_bind h
    try dsimp only at h
    refine z_callV E [] [] dX9_operand_69 K_RX9_195 ⟨Nat.le_of_ble_eq_true rfl, Nat.le_of_ble_eq_true rfl⟩ sh_60 (by decide) rfl (c_Mo_goes_60 E  q4h) rfl rfl (Nat.le_of_ble_eq_true rfl) 72 rfl [] rfl ?_
    refine x_goto 18 dX9_operand_72 (by decide) ?_
    cases h
    exact x_wk (x_le_s (x_le_n (x_le_s (x_le_n (x_le_s x_le_0))))) (hG (_, _) rfl)
  · replace h := x_ifT hc h
    refine x_goto 18 dX9_operand_60 (by decide) ?_
    cases h
    exact x_wk (x_le_s (x_le_n (x_le_s (x_le_n (x_le_s x_le_0))))) (hG (_, _) rfl)
set_option maxHeartbeats 4000000 in
set_option maxRecDepth 100000 in
theorem b_Mo_operand_60_L18 {l : Launch} {s0 : State} {a0 : Array Value} {D : va_G} {cA : Nat → ClassId} {sp : Nat → Nat} (E : x_En CL l s0 a0 D cA sp) (v2 : Int32) {r : Unit} {σ1 : xS} (a : Int32 × xS) (o : (Int32 × xS) ⊕ (Int32 × xS)) (h : f_Mo_operand_60_L18 v2 a = some o) (hK : ∀ b, o = .inl b → zW l s0 D cA sp (zQ s0 D cA sp none σ1) (x_rm 4 0 0) M_Mo_operand 0 0 75 [some (.ref 60), none, some (.int v2), none, none] [] b.2) (hG : ∀ a', o = .inr a' → zW l s0 D cA sp (zQ s0 D cA sp none σ1) (x_rm 4 0 0) M_Mo_operand 0 0 18 [some (.ref 60), none, some (.int v2), none, some (.int a'.1)] [] a'.2) : zW l s0 D cA sp (zQ s0 D cA sp none σ1) (x_rm 4 0 0) M_Mo_operand 0 0 18 [some (.ref 60), none, some (.int v2), none, some (.int a.1)] [] a.2 := by
  obtain ⟨v4, σ⟩ := a
  unfold f_Mo_operand_60_L18 at h
  try dsimp only at h ⊢
  refine x_aload_n 19 rfl 0 dX9_operand_18 rfl rfl ?_
  obtain ⟨⟨q5r, q5s⟩, q5h, h⟩ := x_bind h
  try dsimp only at h
  refine z_callV E [] [] dX9_operand_19 K_RX9_191 ⟨Nat.le_of_ble_eq_true rfl, Nat.le_of_ble_eq_true rfl⟩ sh_60 (by decide) rfl (c_Mo_isGood_60 E  q5h) rfl rfl (Nat.le_of_ble_eq_true rfl) 22 rfl [.int _] rfl ?_
  refine x_if_eq 25 rfl 75 dX9_operand_22 (by decide) (fun hc => ?_) (fun hc => ?_)
  · replace h := x_ifT hc h
    cases h
    exact x_wk (x_le_s (x_le_n (x_le_s (x_le_n (x_le_n x_le_0))))) (hK (_, _) rfl)
  · replace h := x_ifF hc h
    refine x_iload_n 26 rfl 2 dX9_operand_25 rfl rfl ?_
    refine x_if_eq 29 rfl 75 dX9_operand_26 (by decide) (fun hc => ?_) (fun hc => ?_)
    · replace h := x_ifT hc h
      cases h
      exact x_wk (x_le_s (x_le_n (x_le_s (x_le_n (x_le_n x_le_0))))) (hK (_, _) rfl)
    · replace h := x_ifF hc h
      refine x_aload_n 30 rfl 0 dX9_operand_29 rfl rfl ?_
      obtain ⟨⟨q6r, q6s⟩, q6h, h⟩ := x_bind h
      try dsimp only at h
      refine z_callV E [] [] dX9_operand_30 K_RX9_220 ⟨Nat.le_of_ble_eq_true rfl, Nat.le_of_ble_eq_true rfl⟩ sh_60 (by decide) rfl (c_Mo_knownWord_60 E  q6h) rfl rfl (Nat.le_of_ble_eq_true rfl) 33 rfl [.int _] rfl ?_
      refine x_bipush 35 rfl (v := 21) dX9_operand_33 (by decide) ?_
      refine x_icmp_ne 38 rfl 75 dX9_operand_35 (by decide) (fun hc => ?_) (fun hc => ?_)
      · replace h := x_ifF hc h
        cases h
        exact x_wk (x_le_s (x_le_n (x_le_s (x_le_n (x_le_n x_le_0))))) (hK (_, _) rfl)
      · replace h := x_ifT hc h
        refine x_iload 40 rfl dX9_operand_38 rfl ?_
        refine x_bipush 42 rfl (v := 6) dX9_operand_40 (by decide) ?_
        refine x_icmp_ne 45 rfl 50 dX9_operand_42 (by decide) (fun hc => ?_) (fun hc => ?_)
        · replace h := x_ifF hc h
          exact x_wk (x_le_s (x_le_n (x_le_s (x_le_n (x_le_s x_le_0))))) (j_Mo_operand_60_J50 (r := r) (σ1 := σ1) E _ _  _ _ h hK hG)
        · replace h := x_ifT hc h
          refine x_aload_n 46 rfl 0 dX9_operand_45 rfl rfl ?_
          refine x_iconst 47 rfl (v := 2) dX9_operand_46 (by decide) ?_
          obtain ⟨⟨q7r, q7s⟩, q7h, h⟩ := x_bind h
          try dsimp only at h
          refine z_callV E [.int _] [] dX9_operand_47 K_RX9_198 ⟨Nat.le_of_ble_eq_true rfl, Nat.le_of_ble_eq_true rfl⟩ sh_60 (by decide) rfl (c_Mo_wrong_60 E _ q7h) rfl rfl (Nat.le_of_ble_eq_true rfl) 50 rfl [] rfl ?_
          exact x_wk (x_le_s (x_le_n (x_le_s (x_le_n (x_le_s x_le_0))))) (j_Mo_operand_60_J50 (r := r) (σ1 := σ1) E _ _  _ _ h hK hG)
set_option maxHeartbeats 4000000 in
set_option maxRecDepth 100000 in
theorem j_Mo_operand_60_J96 {l : Launch} {s0 : State} {a0 : Array Value} {D : va_G} {cA : Nat → ClassId} {sp : Nat → Nat} (E : x_En CL l s0 a0 D cA sp) (v2 : Int32) (y0 : Int32)  (σ : xS) {r : Unit} {σ1 : xS} (o : (Int32 × Int32 × xS) ⊕ (Int32 × Int32 × xS)) (h : f_Mo_operand_60_J96 v2 y0 σ = some o) (hK : ∀ b, o = .inl b → zW l s0 D cA sp (zQ s0 D cA sp none σ1) (x_rm 4 0 0) M_Mo_operand 0 0 120 [some (.ref 60), none, none, none, none] [] b.2.2) (hG : ∀ a', o = .inr a' → zW l s0 D cA sp (zQ s0 D cA sp none σ1) (x_rm 4 0 0) M_Mo_operand 0 0 4 [some (.ref 60), none, some (.int a'.1), some (.int a'.2.1), none] [] a'.2.2) : zW l s0 D cA sp (zQ s0 D cA sp none σ1) (x_rm 4 0 0) M_Mo_operand 0 0 96 [some (.ref 60), none, some (.int v2), none, none] [.int y0] σ := by
  unfold f_Mo_operand_60_J96 at h
  try dsimp only at h
  refine x_istore_n 97 rfl 3 dX9_operand_96 rfl (by decide) [some (.ref 60), none, some (.int _), some (.int _), none] rfl ?_
  refine x_iload_n 98 rfl 3 dX9_operand_97 rfl rfl ?_
  refine x_if_eq 101 rfl 117 dX9_operand_98 (by decide) (fun hc => ?_) (fun hc => ?_)
  · replace h := x_ifT hc h
    refine x_goto 4 dX9_operand_117 (by decide) ?_
    cases h
    exact x_wk (x_le_s (x_le_n (x_le_s (x_le_s (x_le_n x_le_0))))) (hG (_, _, _) rfl)
  · replace h := x_ifF hc h
    refine x_aload_n 102 rfl 0 dX9_operand_101 rfl rfl ?_
    refine x_bipush 104 rfl (v := 14) dX9_operand_102 (by decide) ?_
    obtain ⟨⟨q8r, q8s⟩, q8h, h⟩ := x_bind h
    try dsimp only at h
    refine z_callV E [.int _] [] dX9_operand_104 K_RX9_236 ⟨Nat.le_of_ble_eq_true rfl, Nat.le_of_ble_eq_true rfl⟩ sh_60 (by decide) rfl (c_Mo_waitsFor_60 E _ q8h) rfl rfl (Nat.le_of_ble_eq_true rfl) 107 rfl [] rfl ?_
    refine x_aload_n 108 rfl 0 dX9_operand_107 rfl rfl ?_
    obtain ⟨⟨q9r, q9s⟩, q9h, h⟩ := x_bind h
    try dsimp only at h
    refine z_callV E [] [] dX9_operand_108 K_RX9_195 ⟨Nat.le_of_ble_eq_true rfl, Nat.le_of_ble_eq_true rfl⟩ sh_60 (by decide) rfl (c_Mo_goes_60 E  q9h) rfl rfl (Nat.le_of_ble_eq_true rfl) 111 rfl [] rfl ?_
    refine x_aload_n 112 rfl 0 dX9_operand_111 rfl rfl ?_
    obtain ⟨⟨q10r, q10s⟩, q10h, h⟩ := x_bind h
    try dsimp only at h
    refine z_callV E [] [] dX9_operand_112 K_RX9_239 ⟨Nat.le_of_ble_eq_true rfl, Nat.le_of_ble_eq_true rfl⟩ sh_60 (by decide) rfl (c_Mo_deeper_60 E  q10h) rfl rfl (Nat.le_of_ble_eq_true rfl) 115 rfl [] rfl ?_
    refine x_iconst 116 rfl (v := 1) dX9_operand_115 (by decide) ?_
    refine x_istore_n 117 rfl 2 dX9_operand_116 rfl (by decide) [some (.ref 60), none, some (.int _), some (.int _), none] rfl ?_
    refine x_goto 4 dX9_operand_117 (by decide) ?_
    cases h
    exact x_wk (x_le_s (x_le_n (x_le_s (x_le_s (x_le_n x_le_0))))) (hG (_, _, _) rfl)
set_option maxHeartbeats 4000000 in
set_option maxRecDepth 100000 in
theorem j_Mo_operand_60_J95 {l : Launch} {s0 : State} {a0 : Array Value} {D : va_G} {cA : Nat → ClassId} {sp : Nat → Nat} (E : x_En CL l s0 a0 D cA sp) (v2 : Int32)  (σ : xS) {r : Unit} {σ1 : xS} (o : (Int32 × Int32 × xS) ⊕ (Int32 × Int32 × xS)) (h : f_Mo_operand_60_J95 v2 σ = some o) (hK : ∀ b, o = .inl b → zW l s0 D cA sp (zQ s0 D cA sp none σ1) (x_rm 4 0 0) M_Mo_operand 0 0 120 [some (.ref 60), none, none, none, none] [] b.2.2) (hG : ∀ a', o = .inr a' → zW l s0 D cA sp (zQ s0 D cA sp none σ1) (x_rm 4 0 0) M_Mo_operand 0 0 4 [some (.ref 60), none, some (.int a'.1), some (.int a'.2.1), none] [] a'.2.2) : zW l s0 D cA sp (zQ s0 D cA sp none σ1) (x_rm 4 0 0) M_Mo_operand 0 0 95 [some (.ref 60), none, some (.int v2), none, none] [] σ := by
  unfold f_Mo_operand_60_J95 at h
  try dsimp only at h
  refine x_iconst 96 rfl (v := 0) dX9_operand_95 (by decide) ?_
  exact x_wk (x_le_s (x_le_n (x_le_s (x_le_n (x_le_n x_le_0))))) (j_Mo_operand_60_J96 (r := r) (σ1 := σ1) E _ _  _ _ h hK hG)
set_option maxHeartbeats 4000000 in
set_option maxRecDepth 100000 in
theorem j_Mo_operand_60_J75 {l : Launch} {s0 : State} {a0 : Array Value} {D : va_G} {cA : Nat → ClassId} {sp : Nat → Nat} (E : x_En CL l s0 a0 D cA sp) (v2 : Int32)  (σ : xS) {r : Unit} {σ1 : xS} (o : (Int32 × Int32 × xS) ⊕ (Int32 × Int32 × xS)) (h : f_Mo_operand_60_J75 v2 σ = some o) (hK : ∀ b, o = .inl b → zW l s0 D cA sp (zQ s0 D cA sp none σ1) (x_rm 4 0 0) M_Mo_operand 0 0 120 [some (.ref 60), none, none, none, none] [] b.2.2) (hG : ∀ a', o = .inr a' → zW l s0 D cA sp (zQ s0 D cA sp none σ1) (x_rm 4 0 0) M_Mo_operand 0 0 4 [some (.ref 60), none, some (.int a'.1), some (.int a'.2.1), none] [] a'.2.2) : zW l s0 D cA sp (zQ s0 D cA sp none σ1) (x_rm 4 0 0) M_Mo_operand 0 0 75 [some (.ref 60), none, some (.int v2), none, none] [] σ := by
  unfold f_Mo_operand_60_J75 at h
  try dsimp only at h
  refine x_aload_n 76 rfl 0 dX9_operand_75 rfl rfl ?_
  obtain ⟨⟨q11r, q11s⟩, q11h, h⟩ := x_bind h
  try dsimp only at h
  refine z_callV E [] [] dX9_operand_76 K_RX9_191 ⟨Nat.le_of_ble_eq_true rfl, Nat.le_of_ble_eq_true rfl⟩ sh_60 (by decide) rfl (c_Mo_isGood_60 E  q11h) rfl rfl (Nat.le_of_ble_eq_true rfl) 79 rfl [.int _] rfl ?_
  refine x_if_eq 82 rfl 95 dX9_operand_79 (by decide) (fun hc => ?_) (fun hc => ?_)
  · replace h := x_ifT hc h
    exact x_wk (x_le_s (x_le_n (x_le_s (x_le_n (x_le_n x_le_0))))) (j_Mo_operand_60_J95 (r := r) (σ1 := σ1) E _  _ _ h hK hG)
  · replace h := x_ifF hc h
    refine x_aload_n 83 rfl 0 dX9_operand_82 rfl rfl ?_
    refine x_bipush 85 rfl (v := 40) dX9_operand_83 (by decide) ?_
    obtain ⟨⟨q12r, q12s⟩, q12h, h⟩ := x_bind h
    try dsimp only at h
    refine z_callV E [.int _] [] dX9_operand_85 K_RX9_233 ⟨Nat.le_of_ble_eq_true rfl, Nat.le_of_ble_eq_true rfl⟩ sh_60 (by decide) rfl (c_Mo_isSign_60 E _ q12h) rfl rfl (Nat.le_of_ble_eq_true rfl) 88 rfl [.int _] rfl ?_
    refine x_if_eq 91 rfl 95 dX9_operand_88 (by decide) (fun hc => ?_) (fun hc => ?_)
    · replace h := x_ifT hc h
      exact x_wk (x_le_s (x_le_n (x_le_s (x_le_n (x_le_n x_le_0))))) (j_Mo_operand_60_J95 (r := r) (σ1 := σ1) E _  _ _ h hK hG)
    · replace h := x_ifF hc h
      refine x_iconst 92 rfl (v := 1) dX9_operand_91 (by decide) ?_
      refine x_goto 96 dX9_operand_92 (by decide) ?_
      exact x_wk (x_le_s (x_le_n (x_le_s (x_le_n (x_le_n x_le_0))))) (j_Mo_operand_60_J96 (r := r) (σ1 := σ1) E _ _  _ _ h hK hG)
set_option maxHeartbeats 4000000 in
set_option maxRecDepth 100000 in
theorem b_Mo_operand_60_L4 {l : Launch} {s0 : State} {a0 : Array Value} {D : va_G} {cA : Nat → ClassId} {sp : Nat → Nat} (E : x_En CL l s0 a0 D cA sp)  {r : Unit} {σ1 : xS} (a : Int32 × Int32 × xS) (o : (Int32 × Int32 × xS) ⊕ (Int32 × Int32 × xS)) (h : f_Mo_operand_60_L4  a = some o) (hK : ∀ b, o = .inl b → zW l s0 D cA sp (zQ s0 D cA sp none σ1) (x_rm 4 0 0) M_Mo_operand 0 0 120 [some (.ref 60), none, none, none, none] [] b.2.2) (hG : ∀ a', o = .inr a' → zW l s0 D cA sp (zQ s0 D cA sp none σ1) (x_rm 4 0 0) M_Mo_operand 0 0 4 [some (.ref 60), none, some (.int a'.1), some (.int a'.2.1), none] [] a'.2.2) : zW l s0 D cA sp (zQ s0 D cA sp none σ1) (x_rm 4 0 0) M_Mo_operand 0 0 4 [some (.ref 60), none, some (.int a.1), some (.int a.2.1), none] [] a.2.2 := by
  obtain ⟨v2, v3, σ⟩ := a
  unfold f_Mo_operand_60_L4 at h
  try dsimp only at h ⊢
  refine x_iload_n 5 rfl 3 dX9_operand_4 rfl rfl ?_
  refine x_if_eq 8 rfl 120 dX9_operand_5 (by decide) (fun hc => ?_) (fun hc => ?_)
  · replace h := x_ifT hc h
    cases h
    exact x_wk (x_le_s (x_le_n (x_le_n (x_le_n (x_le_n x_le_0))))) (hK (_, _, _) rfl)
  · replace h := x_ifF hc h
    refine x_aload_n 9 rfl 0 dX9_operand_8 rfl rfl ?_
    obtain ⟨⟨q13r, q13s⟩, q13h, h⟩ := x_bind h
    try dsimp only at h
    refine z_callV E [] [] dX9_operand_9 K_RX9_191 ⟨Nat.le_of_ble_eq_true rfl, Nat.le_of_ble_eq_true rfl⟩ sh_60 (by decide) rfl (c_Mo_isGood_60 E  q13h) rfl rfl (Nat.le_of_ble_eq_true rfl) 12 rfl [.int _] rfl ?_
    refine x_if_eq 15 rfl 120 dX9_operand_12 (by decide) (fun hc => ?_) (fun hc => ?_)
    · replace h := x_ifT hc h
      cases h
      exact x_wk (x_le_s (x_le_n (x_le_n (x_le_n (x_le_n x_le_0))))) (hK (_, _, _) rfl)
    · replace h := x_ifF hc h
      refine x_iconst 16 rfl (v := 0) dX9_operand_15 (by decide) ?_
      refine x_istore 18 rfl dX9_operand_16 (by decide) [some (.ref 60), none, some (.int _), some (.int _), some (.int _)] rfl ?_
      obtain ⟨b14, b14h, h⟩ := x_bind h
      try dsimp only at h
      refine x_wk (x_le_s (x_le_n (x_le_s (x_le_n (x_le_s x_le_0))))) (x_loop (fun a o h hK hG => b_Mo_operand_60_L18 (r := r) (σ1 := σ1) E _ a o h hK hG) _ _ _ b14h ?_)
      exact x_wk (x_le_s (x_le_n (x_le_s (x_le_n (x_le_n x_le_0))))) (j_Mo_operand_60_J75 (r := r) (σ1 := σ1) E _  _ _ h hK hG)
set_option maxHeartbeats 4000000 in
set_option maxRecDepth 100000 in
theorem c_Mo_operand_60 {l : Launch} {s0 : State} {a0 : Array Value} {D : va_G} {cA : Nat → ClassId} {sp : Nat → Nat} (E : x_En CL l s0 a0 D cA sp) (v1 : Int32) {σ : xS} {r : Unit} {σ1 : xS} (h : f_Mo_operand_60 v1 σ = some (r, σ1)) : zC l s0 D cA sp 4 M_Mo_operand [.ref 60, .int v1] σ none σ1 := by
  unfold f_Mo_operand_60 at h
  try dsimp only at h
  refine x_enter [some (.ref 60), some (.int v1), none, none, none] rfl (Nat.le_of_ble_eq_true rfl) (by decide +kernel) rfl ?_
  refine x_iload_n 1 rfl 1 dX9_operand_0 rfl rfl ?_
  refine x_istore_n 2 rfl 2 dX9_operand_1 rfl (by decide) [some (.ref 60), some (.int _), some (.int _), none, none] rfl ?_
  refine x_iconst 3 rfl (v := 1) dX9_operand_2 (by decide) ?_
  refine x_istore_n 4 rfl 3 dX9_operand_3 rfl (by decide) [some (.ref 60), some (.int _), some (.int _), some (.int _), none] rfl ?_
  obtain ⟨b15, b15h, h⟩ := x_bind h
  try dsimp only at h
  refine x_wk (x_le_s (x_le_n (x_le_s (x_le_s (x_le_n x_le_0))))) (x_loop (fun a o h hK hG => b_Mo_operand_60_L4 (r := r) (σ1 := σ1) E  a o h hK hG) _ _ _ b15h ?_)
  refine x_aload_n 121 rfl 0 dX9_operand_120 rfl rfl ?_
  obtain ⟨⟨q16r, q16s⟩, q16h, h⟩ := x_bind h
  try dsimp only at h
  refine z_callV E [] [] dX9_operand_121 K_RX9_242 ⟨Nat.le_of_ble_eq_true rfl, Nat.le_of_ble_eq_true rfl⟩ sh_60 (by decide) rfl (c_Mo_part_60 E  q16h) rfl rfl (Nat.le_of_ble_eq_true rfl) 124 rfl [] rfl ?_
  cases h
  exact x_vret dX9_operand_124 rfl rfl rfl
abbrev M_Mo_isOpened : xM := (yX9_isOpened, cX9_isOpened, 2, some .boolean, [])
theorem dX9_isOpened_0 : decode cX9_isOpened 0 = .ok (.aload_n 0, 1) := by decide +kernel
theorem dX9_isOpened_1 : decode cX9_isOpened 1 = .ok (.getfield 208, 3) := by decide +kernel
theorem dX9_isOpened_4 : decode cX9_isOpened 4 = .ok (.iconst 1, 1) := by decide +kernel
theorem dX9_isOpened_5 : decode cX9_isOpened 5 = .ok (.isub, 1) := by decide +kernel
theorem dX9_isOpened_6 : decode cX9_isOpened 6 = .ok (.istore_n 1, 1) := by decide +kernel
theorem dX9_isOpened_7 : decode cX9_isOpened 7 = .ok (.iload_n 1, 1) := by decide +kernel
theorem dX9_isOpened_8 : decode cX9_isOpened 8 = .ok (.ifCond .lt 21, 3) := by decide +kernel
theorem dX9_isOpened_11 : decode cX9_isOpened 11 = .ok (.aload_n 0, 1) := by decide +kernel
theorem dX9_isOpened_12 : decode cX9_isOpened 12 = .ok (.getfield 71, 3) := by decide +kernel
theorem dX9_isOpened_15 : decode cX9_isOpened 15 = .ok (.iload_n 1, 1) := by decide +kernel
theorem dX9_isOpened_16 : decode cX9_isOpened 16 = .ok (.iaload, 1) := by decide +kernel
theorem dX9_isOpened_17 : decode cX9_isOpened 17 = .ok (.invokestatic 211, 3) := by decide +kernel
theorem dX9_isOpened_20 : decode cX9_isOpened 20 = .ok (.ifCond .ne 9, 3) := by decide +kernel
theorem dX9_isOpened_23 : decode cX9_isOpened 23 = .ok (.iinc 1 (-1), 3) := by decide +kernel
theorem dX9_isOpened_26 : decode cX9_isOpened 26 = .ok (.goto (-19), 3) := by decide +kernel
theorem dX9_isOpened_29 : decode cX9_isOpened 29 = .ok (.iload_n 1, 1) := by decide +kernel
theorem dX9_isOpened_30 : decode cX9_isOpened 30 = .ok (.ifCond .lt 7, 3) := by decide +kernel
theorem dX9_isOpened_33 : decode cX9_isOpened 33 = .ok (.iconst 1, 1) := by decide +kernel
theorem dX9_isOpened_34 : decode cX9_isOpened 34 = .ok (.goto 4, 3) := by decide +kernel
theorem dX9_isOpened_37 : decode cX9_isOpened 37 = .ok (.iconst 0, 1) := by decide +kernel
theorem dX9_isOpened_38 : decode cX9_isOpened 38 = .ok (.ireturn, 1) := by decide +kernel
def f_Mo_isOpened_60_L7  (a : Int32 × xS) : Option ((Int32 × xS) ⊕ (Int32 × xS)) :=
  let v1 := a.1; let σ := a.2;
  if v1 < 0 then
    some (.inl (v1, σ))
  else
    if v1 < 0 ∨ 950 ≤ v1.toNatClampNeg then none else
    (f_Mo_isOpen (σ.1 77 v1.toNatClampNeg) σ).bind fun q1 =>
    if q1.1 = 0 then
      let w2 := v1 + (-1 : Int32)
      some (.inr (w2, q1.2))
    else
      some (.inl (v1, q1.2))
def f_Mo_isOpened_60  (σ : xS) : Option (Int32 × xS) :=
  let w3 := (σ.1 60 41 - (1 : Int32))
  (x_it (f_Mo_isOpened_60_L7 ) 10000 (w3, σ)).bind fun b4 =>
  if b4.1 < 0 then
    some ((0 : Int32), b4.2)
  else
    some ((1 : Int32), b4.2)
set_option maxHeartbeats 4000000 in
set_option maxRecDepth 100000 in
theorem b_Mo_isOpened_60_L7 {l : Launch} {s0 : State} {a0 : Array Value} {D : va_G} {cA : Nat → ClassId} {sp : Nat → Nat} (E : x_En CL l s0 a0 D cA sp)  {r : Int32} {σ1 : xS} (a : Int32 × xS) (o : (Int32 × xS) ⊕ (Int32 × xS)) (h : f_Mo_isOpened_60_L7  a = some o) (hK : ∀ b, o = .inl b → zW l s0 D cA sp (zQ s0 D cA sp (some (.int r)) σ1) (x_rm 1 0 0) M_Mo_isOpened 0 0 29 [none, some (.int b.1)] [] b.2) (hG : ∀ a', o = .inr a' → zW l s0 D cA sp (zQ s0 D cA sp (some (.int r)) σ1) (x_rm 1 0 0) M_Mo_isOpened 0 0 7 [some (.ref 60), some (.int a'.1)] [] a'.2) : zW l s0 D cA sp (zQ s0 D cA sp (some (.int r)) σ1) (x_rm 1 0 0) M_Mo_isOpened 0 0 7 [some (.ref 60), some (.int a.1)] [] a.2 := by
  obtain ⟨v1, σ⟩ := a
  unfold f_Mo_isOpened_60_L7 at h
  try dsimp only at h ⊢
  refine x_iload_n 8 rfl 1 dX9_isOpened_7 rfl rfl ?_
  refine x_if_lt 11 rfl 29 dX9_isOpened_8 (by decide) (fun hc => ?_) (fun hc => ?_)
  · replace h := x_ifT hc h
    cases h
    exact x_wk (x_le_n (x_le_s x_le_0)) (hK (_, _) rfl)
  · replace h := x_ifF hc h
    refine x_aload_n 12 rfl 0 dX9_isOpened_11 rfl rfl ?_
    refine x_getR E dX9_isOpened_12 F_RX9_71 sh_60 rf_60_51 15 rfl ?_
    refine x_iload_n 16 rfl 1 dX9_isOpened_15 rfl rfl ?_
    obtain ⟨hz, h⟩ := x_ifn h
    refine x_iald E dX9_isOpened_16 sh_77 _ rfl hz 17 rfl ?_
    obtain ⟨⟨q1r, q1s⟩, q1h, h⟩ := x_bind h
    try dsimp only at h
    refine z_callS E [.int _] [] dX9_isOpened_17 K_RX9_211 ⟨Nat.le_of_ble_eq_true rfl, Nat.le_of_ble_eq_true rfl⟩ (c_Mo_isOpen E _ q1h) rfl rfl (Nat.le_of_ble_eq_true rfl) 20 rfl [.int _] rfl ?_
    refine x_if_ne 23 rfl 29 dX9_isOpened_20 (by decide) (fun hc => ?_) (fun hc => ?_)
    · replace h := x_ifF hc h
      cases h
      exact x_wk (x_le_n (x_le_s x_le_0)) (hK (_, _) rfl)
    · replace h := x_ifT hc h
      refine x_iinc 26 rfl (-1) dX9_isOpened_23 rfl (by decide) (by decide) [some (.ref 60), some (.int _)] rfl ?_
      refine x_goto 7 dX9_isOpened_26 (by decide) ?_
      cases h
      exact x_wk (x_le_s (x_le_s x_le_0)) (hG (_, _) rfl)
set_option maxHeartbeats 4000000 in
set_option maxRecDepth 100000 in
theorem c_Mo_isOpened_60 {l : Launch} {s0 : State} {a0 : Array Value} {D : va_G} {cA : Nat → ClassId} {sp : Nat → Nat} (E : x_En CL l s0 a0 D cA sp)  {σ : xS} {r : Int32} {σ1 : xS} (h : f_Mo_isOpened_60  σ = some (r, σ1)) : zC l s0 D cA sp 1 M_Mo_isOpened [.ref 60] σ (some (.int r)) σ1 := by
  unfold f_Mo_isOpened_60 at h
  try dsimp only at h
  refine x_enter [some (.ref 60), none] rfl (Nat.le_of_ble_eq_true rfl) (by decide +kernel) rfl ?_
  refine x_aload_n 1 rfl 0 dX9_isOpened_0 rfl rfl ?_
  refine x_getI E dX9_isOpened_1 F_RX9_208 sh_60 4 rfl ?_
  refine x_iconst 5 rfl (v := 1) dX9_isOpened_4 (by decide) ?_
  refine x_isub 6 rfl dX9_isOpened_5 ?_
  refine x_istore_n 7 rfl 1 dX9_isOpened_6 rfl (by decide) [some (.ref 60), some (.int _)] rfl ?_
  obtain ⟨b4, b4h, h⟩ := x_bind h
  try dsimp only at h
  refine x_wk (x_le_s (x_le_s x_le_0)) (x_loop (fun a o h hK hG => b_Mo_isOpened_60_L7 (r := r) (σ1 := σ1) E  a o h hK hG) _ _ _ b4h ?_)
  refine x_iload_n 30 rfl 1 dX9_isOpened_29 rfl rfl ?_
  refine x_if_lt 33 rfl 37 dX9_isOpened_30 (by decide) (fun hc => ?_) (fun hc => ?_)
  · replace h := x_ifT hc h
    refine x_iconst 38 rfl (v := 0) dX9_isOpened_37 (by decide) ?_
    cases h
    exact x_zret (Or.inl rfl) dX9_isOpened_38 rfl rfl rfl
  · replace h := x_ifF hc h
    refine x_iconst 34 rfl (v := 1) dX9_isOpened_33 (by decide) ?_
    refine x_goto 38 dX9_isOpened_34 (by decide) ?_
    cases h
    exact x_zret (Or.inr rfl) dX9_isOpened_38 rfl rfl rfl
theorem K_RX9_245 : x_KV RX9 245 M_Mo_drops 1 := ⟨⟨(List.mem_append_right _ (List.mem_of_getElem? (i := 1592) (by decide +kernel))), (List.mem_append_right _ (List.mem_of_getElem? (i := 1595) (by decide +kernel))), (List.mem_append_right _ (List.mem_of_getElem? (i := 9) (by decide +kernel))), ⟨by decide +kernel, by decide +kernel⟩, by decide +kernel⟩, (List.mem_append_right _ (List.mem_of_getElem? (i := 1594) (by decide +kernel))), (List.mem_append_left _ (List.mem_of_getElem? (i := 71) (by decide +kernel)))⟩
abbrev M_Mo_closes : xM := (yX9_closes, cX9_closes, 1, none, [])
theorem dX9_closes_0 : decode cX9_closes 0 = .ok (.aload_n 0, 1) := by decide +kernel
theorem dX9_closes_1 : decode cX9_closes 1 = .ok (.iconst 0, 1) := by decide +kernel
theorem dX9_closes_2 : decode cX9_closes 2 = .ok (.invokevirtual 245, 3) := by decide +kernel
theorem dX9_closes_5 : decode cX9_closes 5 = .ok (.aload_n 0, 1) := by decide +kernel
theorem dX9_closes_6 : decode cX9_closes 6 = .ok (.dup, 1) := by decide +kernel
theorem dX9_closes_7 : decode cX9_closes 7 = .ok (.getfield 208, 3) := by decide +kernel
theorem dX9_closes_10 : decode cX9_closes 10 = .ok (.iconst 1, 1) := by decide +kernel
theorem dX9_closes_11 : decode cX9_closes 11 = .ok (.isub, 1) := by decide +kernel
theorem dX9_closes_12 : decode cX9_closes 12 = .ok (.putfield 208, 3) := by decide +kernel
theorem dX9_closes_15 : decode cX9_closes 15 = .ok (.aload_n 0, 1) := by decide +kernel
theorem dX9_closes_16 : decode cX9_closes 16 = .ok (.dup, 1) := by decide +kernel
theorem dX9_closes_17 : decode cX9_closes 17 = .ok (.getfield 230, 3) := by decide +kernel
theorem dX9_closes_20 : decode cX9_closes 20 = .ok (.iconst 1, 1) := by decide +kernel
theorem dX9_closes_21 : decode cX9_closes 21 = .ok (.isub, 1) := by decide +kernel
theorem dX9_closes_22 : decode cX9_closes 22 = .ok (.putfield 230, 3) := by decide +kernel
theorem dX9_closes_25 : decode cX9_closes 25 = .ok (.aload_n 0, 1) := by decide +kernel
theorem dX9_closes_26 : decode cX9_closes 26 = .ok (.invokevirtual 195, 3) := by decide +kernel
theorem dX9_closes_29 : decode cX9_closes 29 = .ok (.return_, 1) := by decide +kernel
def f_Mo_closes_60  (σ : xS) : Option (Unit × xS) :=
  (f_Mo_drops_60 (0 : Int32) σ).bind fun q1 =>
  let σ2 := x_pI q1.2 60 41 (q1.2.1 60 41 - (1 : Int32))
  let σ3 := x_pI σ2 60 42 (σ2.1 60 42 - (1 : Int32))
  (f_Mo_goes_60  σ3).bind fun q4 =>
  some ((), q4.2)
set_option maxHeartbeats 4000000 in
set_option maxRecDepth 100000 in
theorem c_Mo_closes_60 {l : Launch} {s0 : State} {a0 : Array Value} {D : va_G} {cA : Nat → ClassId} {sp : Nat → Nat} (E : x_En CL l s0 a0 D cA sp)  {σ : xS} {r : Unit} {σ1 : xS} (h : f_Mo_closes_60  σ = some (r, σ1)) : zC l s0 D cA sp 2 M_Mo_closes [.ref 60] σ none σ1 := by
  unfold f_Mo_closes_60 at h
  try dsimp only at h
  refine x_enter [some (.ref 60)] rfl (Nat.le_of_ble_eq_true rfl) (by decide +kernel) rfl ?_
  refine x_aload_n 1 rfl 0 dX9_closes_0 rfl rfl ?_
  refine x_iconst 2 rfl (v := 0) dX9_closes_1 (by decide) ?_
  obtain ⟨⟨q1r, q1s⟩, q1h, h⟩ := x_bind h
  try dsimp only at h
  refine z_callV E [.int _] [] dX9_closes_2 K_RX9_245 ⟨Nat.le_of_ble_eq_true rfl, Nat.le_of_ble_eq_true rfl⟩ sh_60 (by decide) rfl (c_Mo_drops_60 E _ q1h) rfl rfl (Nat.le_of_ble_eq_true rfl) 5 rfl [] rfl ?_
  refine x_aload_n 6 rfl 0 dX9_closes_5 rfl rfl ?_
  refine x_dup 7 rfl dX9_closes_6 rfl ?_
  refine x_getI E dX9_closes_7 F_RX9_208 sh_60 10 rfl ?_
  refine x_iconst 11 rfl (v := 1) dX9_closes_10 (by decide) ?_
  refine x_isub 12 rfl dX9_closes_11 ?_
  refine x_putI E dX9_closes_12 F_RX9_208 sh_60 15 rfl ?_
  refine x_aload_n 16 rfl 0 dX9_closes_15 rfl rfl ?_
  refine x_dup 17 rfl dX9_closes_16 rfl ?_
  refine x_getI E dX9_closes_17 F_RX9_230 sh_60 20 rfl ?_
  refine x_iconst 21 rfl (v := 1) dX9_closes_20 (by decide) ?_
  refine x_isub 22 rfl dX9_closes_21 ?_
  refine x_putI E dX9_closes_22 F_RX9_230 sh_60 25 rfl ?_
  refine x_aload_n 26 rfl 0 dX9_closes_25 rfl rfl ?_
  obtain ⟨⟨q4r, q4s⟩, q4h, h⟩ := x_bind h
  try dsimp only at h
  refine z_callV E [] [] dX9_closes_26 K_RX9_195 ⟨Nat.le_of_ble_eq_true rfl, Nat.le_of_ble_eq_true rfl⟩ sh_60 (by decide) rfl (c_Mo_goes_60 E  q4h) rfl rfl (Nat.le_of_ble_eq_true rfl) 29 rfl [] rfl ?_
  cases h
  exact x_vret dX9_closes_29 rfl rfl rfl
