/-! The class's methods: functions and contracts. Written by wip/gen/emit.py. -/
abbrev M_Tr_turned : xM := (yX6_turned, cX6_turned, 3, some .int, [])
theorem dX6_turned_0 : decode cX6_turned 0 = .ok (.iconst 0, 1) := by decide +kernel
theorem dX6_turned_1 : decode cX6_turned 1 = .ok (.istore_n 1, 1) := by decide +kernel
theorem dX6_turned_2 : decode cX6_turned 2 = .ok (.iconst 1, 1) := by decide +kernel
theorem dX6_turned_3 : decode cX6_turned 3 = .ok (.istore_n 2, 1) := by decide +kernel
theorem dX6_turned_4 : decode cX6_turned 4 = .ok (.iload_n 2, 1) := by decide +kernel
theorem dX6_turned_5 : decode cX6_turned 5 = .ok (.aload_n 0, 1) := by decide +kernel
theorem dX6_turned_6 : decode cX6_turned 6 = .ok (.getfield 28, 3) := by decide +kernel
theorem dX6_turned_9 : decode cX6_turned 9 = .ok (.if_icmp .gt 30, 3) := by decide +kernel
theorem dX6_turned_12 : decode cX6_turned 12 = .ok (.iload_n 1, 1) := by decide +kernel
theorem dX6_turned_13 : decode cX6_turned 13 = .ok (.aload_n 0, 1) := by decide +kernel
theorem dX6_turned_14 : decode cX6_turned 14 = .ok (.getfield 38, 3) := by decide +kernel
theorem dX6_turned_17 : decode cX6_turned 17 = .ok (.iload_n 2, 1) := by decide +kernel
theorem dX6_turned_18 : decode cX6_turned 18 = .ok (.iaload, 1) := by decide +kernel
theorem dX6_turned_19 : decode cX6_turned 19 = .ok (.aload_n 0, 1) := by decide +kernel
theorem dX6_turned_20 : decode cX6_turned 20 = .ok (.getfield 38, 3) := by decide +kernel
theorem dX6_turned_23 : decode cX6_turned 23 = .ok (.iload_n 2, 1) := by decide +kernel
theorem dX6_turned_24 : decode cX6_turned 24 = .ok (.iconst 1, 1) := by decide +kernel
theorem dX6_turned_25 : decode cX6_turned 25 = .ok (.isub, 1) := by decide +kernel
theorem dX6_turned_26 : decode cX6_turned 26 = .ok (.iaload, 1) := by decide +kernel
theorem dX6_turned_27 : decode cX6_turned 27 = .ok (.isub, 1) := by decide +kernel
theorem dX6_turned_28 : decode cX6_turned 28 = .ok (.invokestatic 116, 3) := by decide +kernel
theorem dX6_turned_31 : decode cX6_turned 31 = .ok (.iadd, 1) := by decide +kernel
theorem dX6_turned_32 : decode cX6_turned 32 = .ok (.istore_n 1, 1) := by decide +kernel
theorem dX6_turned_33 : decode cX6_turned 33 = .ok (.iinc 2 1, 3) := by decide +kernel
theorem dX6_turned_36 : decode cX6_turned 36 = .ok (.goto (-32), 3) := by decide +kernel
theorem dX6_turned_39 : decode cX6_turned 39 = .ok (.iload_n 1, 1) := by decide +kernel
theorem dX6_turned_40 : decode cX6_turned 40 = .ok (.ireturn, 1) := by decide +kernel
def f_Tr_turned_49_L4  (a : Int32 × Int32 × xS) : Option ((Int32 × Int32 × xS) ⊕ (Int32 × Int32 × xS)) :=
  let v1 := a.1; let v2 := a.2.1; let σ := a.2.2;
  if σ.1 49 5 < v2 then
    some (.inl (v1, v2, σ))
  else
    if v2 < 0 ∨ 601 ≤ v2.toNatClampNeg then none else
    if (v2 - (1 : Int32)) < 0 ∨ 601 ≤ (v2 - (1 : Int32)).toNatClampNeg then none else
    let w1 := (v1 + (if 0 ≤ (σ.1 53 v2.toNatClampNeg - σ.1 53 (v2 - (1 : Int32)).toNatClampNeg) then (σ.1 53 v2.toNatClampNeg - σ.1 53 (v2 - (1 : Int32)).toNatClampNeg) else 0 - (σ.1 53 v2.toNatClampNeg - σ.1 53 (v2 - (1 : Int32)).toNatClampNeg)))
    let w2 := v2 + (1 : Int32)
    some (.inr (w1, w2, σ))
def f_Tr_turned_49  (σ : xS) : Option (Int32 × xS) :=
  (x_it (f_Tr_turned_49_L4 ) 10000 ((0 : Int32), (1 : Int32), σ)).bind fun b3 =>
  some (b3.1, b3.2.2)
set_option maxHeartbeats 4000000 in
set_option maxRecDepth 100000 in
theorem b_Tr_turned_49_L4 {l : Launch} {s0 : State} {a0 : Array Value} {D : va_G} {cA : Nat → ClassId} {sp : Nat → Nat} (E : x_En CL l s0 a0 D cA sp)  {r : Int32} {σ1 : xS} (a : Int32 × Int32 × xS) (o : (Int32 × Int32 × xS) ⊕ (Int32 × Int32 × xS)) (h : f_Tr_turned_49_L4  a = some o) (hK : ∀ b, o = .inl b → zW l s0 D cA sp (zQ s0 D cA sp (some (.int r)) σ1) (x_rm 0 0 0) M_Tr_turned 0 0 39 [none, some (.int b.1), none] [] b.2.2) (hG : ∀ a', o = .inr a' → zW l s0 D cA sp (zQ s0 D cA sp (some (.int r)) σ1) (x_rm 0 0 0) M_Tr_turned 0 0 4 [some (.ref 49), some (.int a'.1), some (.int a'.2.1)] [] a'.2.2) : zW l s0 D cA sp (zQ s0 D cA sp (some (.int r)) σ1) (x_rm 0 0 0) M_Tr_turned 0 0 4 [some (.ref 49), some (.int a.1), some (.int a.2.1)] [] a.2.2 := by
  obtain ⟨v1, v2, σ⟩ := a
  unfold f_Tr_turned_49_L4 at h
  try dsimp only at h ⊢
  refine x_iload_n 5 rfl 2 dX6_turned_4 rfl rfl ?_
  refine x_aload_n 6 rfl 0 dX6_turned_5 rfl rfl ?_
  refine x_getI E dX6_turned_6 F_RX6_28 sh_49 9 rfl ?_
  refine x_icmp_gt 12 rfl 39 dX6_turned_9 (by decide) (fun hc => ?_) (fun hc => ?_)
  · replace h := x_ifT hc h
    cases h
    exact x_wk (x_le_n (x_le_s (x_le_n x_le_0))) (hK (_, _, _) rfl)
  · replace h := x_ifF hc h
    refine x_iload_n 13 rfl 1 dX6_turned_12 rfl rfl ?_
    refine x_aload_n 14 rfl 0 dX6_turned_13 rfl rfl ?_
    refine x_getR E dX6_turned_14 F_RX6_38 sh_49 rf_49_8 17 rfl ?_
    refine x_iload_n 18 rfl 2 dX6_turned_17 rfl rfl ?_
    obtain ⟨hz, h⟩ := x_ifn h
    refine x_iald E dX6_turned_18 sh_53 _ rfl hz 19 rfl ?_
    refine x_aload_n 20 rfl 0 dX6_turned_19 rfl rfl ?_
    refine x_getR E dX6_turned_20 F_RX6_38 sh_49 rf_49_8 23 rfl ?_
    refine x_iload_n 24 rfl 2 dX6_turned_23 rfl rfl ?_
    refine x_iconst 25 rfl (v := 1) dX6_turned_24 (by decide) ?_
    refine x_isub 26 rfl dX6_turned_25 ?_
    obtain ⟨hz, h⟩ := x_ifn h
    refine x_iald E dX6_turned_26 sh_53 _ rfl hz 27 rfl ?_
    refine x_isub 28 rfl dX6_turned_27 ?_
    refine x_mabs E dX6_turned_28 K_RX6_116 (Nat.le_of_ble_eq_true rfl) (Nat.le_of_ble_eq_true rfl) 31 rfl ?_
    refine x_iadd 32 rfl dX6_turned_31 ?_
    refine x_istore_n 33 rfl 1 dX6_turned_32 rfl (by decide) [some (.ref 49), some (.int _), some (.int _)] rfl ?_
    refine x_iinc 36 rfl (1) dX6_turned_33 rfl (by decide) (by decide) [some (.ref 49), some (.int _), some (.int _)] rfl ?_
    refine x_goto 4 dX6_turned_36 (by decide) ?_
    cases h
    exact x_wk (x_le_s (x_le_s (x_le_s x_le_0))) (hG (_, _, _) rfl)
set_option maxHeartbeats 4000000 in
set_option maxRecDepth 100000 in
theorem c_Tr_turned_49 {l : Launch} {s0 : State} {a0 : Array Value} {D : va_G} {cA : Nat → ClassId} {sp : Nat → Nat} (E : x_En CL l s0 a0 D cA sp)  {σ : xS} {r : Int32} {σ1 : xS} (h : f_Tr_turned_49  σ = some (r, σ1)) : zC l s0 D cA sp 0 M_Tr_turned [.ref 49] σ (some (.int r)) σ1 := by
  unfold f_Tr_turned_49 at h
  try dsimp only at h
  refine x_enter [some (.ref 49), none, none] rfl (Nat.le_of_ble_eq_true rfl) (by decide +kernel) rfl ?_
  refine x_iconst 1 rfl (v := 0) dX6_turned_0 (by decide) ?_
  refine x_istore_n 2 rfl 1 dX6_turned_1 rfl (by decide) [some (.ref 49), some (.int _), none] rfl ?_
  refine x_iconst 3 rfl (v := 1) dX6_turned_2 (by decide) ?_
  refine x_istore_n 4 rfl 2 dX6_turned_3 rfl (by decide) [some (.ref 49), some (.int _), some (.int _)] rfl ?_
  obtain ⟨b3, b3h, h⟩ := x_bind h
  try dsimp only at h
  refine x_wk (x_le_s (x_le_s (x_le_s x_le_0))) (x_loop (fun a o h hK hG => b_Tr_turned_49_L4 (r := r) (σ1 := σ1) E  a o h hK hG) _ _ _ b3h ?_)
  refine x_iload_n 40 rfl 1 dX6_turned_39 rfl rfl ?_
  cases h
  exact x_iret dX6_turned_40 rfl rfl rfl
theorem KX_RX8_200 : x_KN2 RX8 130 200 134 (x_Xn 2) "nothing such of all TENTHS" := ⟨by decide +kernel, (List.mem_append_right _ (List.mem_of_getElem? (i := 881) (by decide +kernel))), (List.mem_append_right _ (List.mem_of_getElem? (i := 22) (by decide +kernel))), (List.mem_append_right _ (List.mem_of_getElem? (i := 955) (by decide +kernel))), (List.mem_of_getElem? (i := 556) (by decide +kernel)), AX_134, AO_130_134⟩
theorem K_RX8_202 : x_KV RX8 202 M_Tr_mostOff 0 := ⟨⟨(List.mem_append_right _ (List.mem_of_getElem? (i := 956) (by decide +kernel))), (List.mem_append_right _ (List.mem_of_getElem? (i := 959) (by decide +kernel))), (List.mem_append_right _ (List.mem_of_getElem? (i := 6) (by decide +kernel))), ⟨by decide +kernel, by decide +kernel⟩, by decide +kernel⟩, (List.mem_append_right _ (List.mem_of_getElem? (i := 957) (by decide +kernel))), (List.mem_append_right _ (List.mem_of_getElem? (i := 958) (by decide +kernel)))⟩
theorem K_RX8_206 : x_KV RX8 206 M_Tr_longestSoft 0 := ⟨⟨(List.mem_append_right _ (List.mem_of_getElem? (i := 960) (by decide +kernel))), (List.mem_append_right _ (List.mem_of_getElem? (i := 963) (by decide +kernel))), (List.mem_append_right _ (List.mem_of_getElem? (i := 6) (by decide +kernel))), ⟨by decide +kernel, by decide +kernel⟩, by decide +kernel⟩, (List.mem_append_right _ (List.mem_of_getElem? (i := 961) (by decide +kernel))), (List.mem_append_right _ (List.mem_of_getElem? (i := 962) (by decide +kernel)))⟩
theorem K_RX8_209 : x_KV RX8 209 M_Tr_firstSoft 0 := ⟨⟨(List.mem_append_right _ (List.mem_of_getElem? (i := 964) (by decide +kernel))), (List.mem_append_right _ (List.mem_of_getElem? (i := 967) (by decide +kernel))), (List.mem_append_right _ (List.mem_of_getElem? (i := 6) (by decide +kernel))), ⟨by decide +kernel, by decide +kernel⟩, by decide +kernel⟩, (List.mem_append_right _ (List.mem_of_getElem? (i := 965) (by decide +kernel))), (List.mem_append_right _ (List.mem_of_getElem? (i := 966) (by decide +kernel)))⟩
theorem K_RX8_212 : x_KV RX8 212 M_Tr_swings 0 := ⟨⟨(List.mem_append_right _ (List.mem_of_getElem? (i := 968) (by decide +kernel))), (List.mem_append_right _ (List.mem_of_getElem? (i := 971) (by decide +kernel))), (List.mem_append_right _ (List.mem_of_getElem? (i := 6) (by decide +kernel))), ⟨by decide +kernel, by decide +kernel⟩, by decide +kernel⟩, (List.mem_append_right _ (List.mem_of_getElem? (i := 969) (by decide +kernel))), (List.mem_append_right _ (List.mem_of_getElem? (i := 970) (by decide +kernel)))⟩
theorem K_RX8_215 : x_KV RX8 215 M_Tr_shown 1 := ⟨⟨(List.mem_append_right _ (List.mem_of_getElem? (i := 972) (by decide +kernel))), (List.mem_append_right _ (List.mem_of_getElem? (i := 975) (by decide +kernel))), (List.mem_append_right _ (List.mem_of_getElem? (i := 6) (by decide +kernel))), ⟨by decide +kernel, by decide +kernel⟩, by decide +kernel⟩, (List.mem_append_right _ (List.mem_of_getElem? (i := 973) (by decide +kernel))), (List.mem_append_right _ (List.mem_of_getElem? (i := 974) (by decide +kernel)))⟩
theorem K_RX8_219 : x_KV RX8 219 M_Tr_turned 0 := ⟨⟨(List.mem_append_right _ (List.mem_of_getElem? (i := 977) (by decide +kernel))), (List.mem_append_right _ (List.mem_of_getElem? (i := 980) (by decide +kernel))), (List.mem_append_right _ (List.mem_of_getElem? (i := 6) (by decide +kernel))), ⟨by decide +kernel, by decide +kernel⟩, by decide +kernel⟩, (List.mem_append_right _ (List.mem_of_getElem? (i := 978) (by decide +kernel))), (List.mem_append_right _ (List.mem_of_getElem? (i := 979) (by decide +kernel)))⟩
abbrev M_RH_all : xM := (yX8_all, cX8_all, 2, some .int, [])
theorem dX8_all_0 : decode cX8_all 0 = .ok (.iload_n 1, 1) := by decide +kernel
theorem dX8_all_1 : decode cX8_all 1 = .ok (.ifCond .lt 9, 3) := by decide +kernel
theorem dX8_all_4 : decode cX8_all 4 = .ok (.iload_n 1, 1) := by decide +kernel
theorem dX8_all_5 : decode cX8_all 5 = .ok (.bipush 6, 2) := by decide +kernel
theorem dX8_all_7 : decode cX8_all 7 = .ok (.if_icmp .le 13, 3) := by decide +kernel
theorem dX8_all_10 : decode cX8_all 10 = .ok (.new 130, 3) := by decide +kernel
theorem dX8_all_13 : decode cX8_all 13 = .ok (.dup, 1) := by decide +kernel
theorem dX8_all_14 : decode cX8_all 14 = .ok (.ldc 200, 2) := by decide +kernel
theorem dX8_all_16 : decode cX8_all 16 = .ok (.invokespecial 134, 3) := by decide +kernel
theorem dX8_all_19 : decode cX8_all 19 = .ok (.athrow, 1) := by decide +kernel
theorem dX8_all_20 : decode cX8_all 20 = .ok (.aload_n 0, 1) := by decide +kernel
theorem dX8_all_21 : decode cX8_all 21 = .ok (.invokevirtual 164, 3) := by decide +kernel
theorem dX8_all_24 : decode cX8_all 24 = .ok (.iload_n 1, 1) := by decide +kernel
theorem dX8_all_25 : decode cX8_all 25 = .ok (.tableswitch 100 0 5 #[39, 56, 64, 72, 80, 88], 39) := by decide +kernel
theorem dX8_all_64 : decode cX8_all 64 = .ok (.aload_n 0, 1) := by decide +kernel
theorem dX8_all_65 : decode cX8_all 65 = .ok (.getfield 51, 3) := by decide +kernel
theorem dX8_all_68 : decode cX8_all 68 = .ok (.aload_n 0, 1) := by decide +kernel
theorem dX8_all_69 : decode cX8_all 69 = .ok (.getfield 37, 3) := by decide +kernel
theorem dX8_all_72 : decode cX8_all 72 = .ok (.getfield 118, 3) := by decide +kernel
theorem dX8_all_75 : decode cX8_all 75 = .ok (.iconst 0, 1) := by decide +kernel
theorem dX8_all_76 : decode cX8_all 76 = .ok (.iaload, 1) := by decide +kernel
theorem dX8_all_77 : decode cX8_all 77 = .ok (.invokevirtual 197, 3) := by decide +kernel
theorem dX8_all_80 : decode cX8_all 80 = .ok (.ireturn, 1) := by decide +kernel
theorem dX8_all_81 : decode cX8_all 81 = .ok (.aload_n 0, 1) := by decide +kernel
theorem dX8_all_82 : decode cX8_all 82 = .ok (.getfield 51, 3) := by decide +kernel
theorem dX8_all_85 : decode cX8_all 85 = .ok (.invokevirtual 202, 3) := by decide +kernel
theorem dX8_all_88 : decode cX8_all 88 = .ok (.ireturn, 1) := by decide +kernel
theorem dX8_all_89 : decode cX8_all 89 = .ok (.aload_n 0, 1) := by decide +kernel
theorem dX8_all_90 : decode cX8_all 90 = .ok (.getfield 51, 3) := by decide +kernel
theorem dX8_all_93 : decode cX8_all 93 = .ok (.invokevirtual 206, 3) := by decide +kernel
theorem dX8_all_96 : decode cX8_all 96 = .ok (.ireturn, 1) := by decide +kernel
theorem dX8_all_97 : decode cX8_all 97 = .ok (.aload_n 0, 1) := by decide +kernel
theorem dX8_all_98 : decode cX8_all 98 = .ok (.getfield 51, 3) := by decide +kernel
theorem dX8_all_101 : decode cX8_all 101 = .ok (.invokevirtual 209, 3) := by decide +kernel
theorem dX8_all_104 : decode cX8_all 104 = .ok (.ireturn, 1) := by decide +kernel
theorem dX8_all_105 : decode cX8_all 105 = .ok (.aload_n 0, 1) := by decide +kernel
theorem dX8_all_106 : decode cX8_all 106 = .ok (.getfield 51, 3) := by decide +kernel
theorem dX8_all_109 : decode cX8_all 109 = .ok (.invokevirtual 212, 3) := by decide +kernel
theorem dX8_all_112 : decode cX8_all 112 = .ok (.ireturn, 1) := by decide +kernel
theorem dX8_all_113 : decode cX8_all 113 = .ok (.aload_n 0, 1) := by decide +kernel
theorem dX8_all_114 : decode cX8_all 114 = .ok (.getfield 51, 3) := by decide +kernel
theorem dX8_all_117 : decode cX8_all 117 = .ok (.aload_n 0, 1) := by decide +kernel
theorem dX8_all_118 : decode cX8_all 118 = .ok (.getfield 27, 3) := by decide +kernel
theorem dX8_all_121 : decode cX8_all 121 = .ok (.invokevirtual 215, 3) := by decide +kernel
theorem dX8_all_124 : decode cX8_all 124 = .ok (.ireturn, 1) := by decide +kernel
theorem dX8_all_125 : decode cX8_all 125 = .ok (.aload_n 0, 1) := by decide +kernel
theorem dX8_all_126 : decode cX8_all 126 = .ok (.getfield 51, 3) := by decide +kernel
theorem dX8_all_129 : decode cX8_all 129 = .ok (.invokevirtual 219, 3) := by decide +kernel
theorem dX8_all_132 : decode cX8_all 132 = .ok (.ireturn, 1) := by decide +kernel
def f_RH_all_0 (v1 : Int32) (σ : xS) : Option ((Int32 ⊕ Nat) × xS) :=
  if v1 < 0 then
    some (.inr 2, σ)
  else
    if v1 ≤ (6 : Int32) then
      (f_RH_walkAsSet_0  σ).bind fun q1 =>
      if v1 = (0 : Int32) then
        (f_Tr_sharpBy_49 (q1.2.1 36 0) q1.2).bind fun q2 =>
        some (.inl q2.1, q2.2)
      else if v1 = (1 : Int32) then
        (f_Tr_mostOff_49  q1.2).bind fun q3 =>
        some (.inl q3.1, q3.2)
      else if v1 = (2 : Int32) then
        (f_Tr_longestSoft_49  q1.2).bind fun q4 =>
        some (.inl q4.1, q4.2)
      else if v1 = (3 : Int32) then
        (f_Tr_firstSoft_49  q1.2).bind fun q5 =>
        some (.inl q5.1, q5.2)
      else if v1 = (4 : Int32) then
        (f_Tr_swings_49  q1.2).bind fun q6 =>
        some (.inl q6.1, q6.2)
      else if v1 = (5 : Int32) then
        (f_Tr_shown_49_7  q1.2).bind fun q7 =>
        some (.inl q7.1, q7.2)
      else 
        (f_Tr_turned_49  q1.2).bind fun q8 =>
        some (.inl q8.1, q8.2)
    else
      some (.inr 2, σ)
set_option maxHeartbeats 4000000 in
set_option maxRecDepth 100000 in
theorem c_RH_all_0 {l : Launch} {s0 : State} {a0 : Array Value} {D : va_G} {cA : Nat → ClassId} {sp : Nat → Nat} (E : x_En CL l s0 a0 D cA sp) (v1 : Int32) {σ : xS} {r : Int32 ⊕ Nat} {σ1 : xS} (h : f_RH_all_0 v1 σ = some (r, σ1)) : oC l s0 D cA sp 7 M_RH_all [.ref 0, .int v1] σ (x_oi r) σ1 := by
  unfold f_RH_all_0 at h
  try dsimp only at h
  refine x_enterO [some (.ref 0), some (.int v1)] rfl (Nat.le_of_ble_eq_true rfl) (by decide +kernel) rfl ?_
  refine x_iload_n 1 rfl 1 dX8_all_0 rfl rfl ?_
  refine x_if_lt 4 rfl 10 dX8_all_1 (by decide) (fun hc => ?_) (fun hc => ?_)
  · replace h := x_ifT hc h
    cases h
    exact x_throwN E KU_ (k := 2) KX_RX8_200 rfl dX8_all_10 dX8_all_13 dX8_all_14 dX8_all_16 dX8_all_19 (Nat.le_of_ble_eq_true rfl)
  · replace h := x_ifF hc h
    refine x_iload_n 5 rfl 1 dX8_all_4 rfl rfl ?_
    refine x_bipush 7 rfl (v := 6) dX8_all_5 (by decide) ?_
    refine x_icmp_le 10 rfl 20 dX8_all_7 (by decide) (fun hc => ?_) (fun hc => ?_)
    · replace h := x_ifT hc h
      refine x_aload_n 21 rfl 0 dX8_all_20 rfl rfl ?_
      obtain ⟨⟨q1r, q1s⟩, q1h, h⟩ := x_bind h
      try dsimp only at h
      refine z_callV E [] [] dX8_all_21 K_RX8_164 ⟨Nat.le_of_ble_eq_true rfl, Nat.le_of_ble_eq_true rfl⟩ sh_0 (by decide) rfl (c_RH_walkAsSet_0 E  q1h) rfl rfl (Nat.le_of_ble_eq_true rfl) 24 rfl [] rfl ?_
      refine x_iload_n 25 rfl 1 dX8_all_24 rfl rfl ?_
      refine x_case (0) (fun hc0 => ?_) (fun hc0 => ?_)
      · replace h := x_ifT hc0 h
        refine x_tabIn (off := 39) 64 dX8_all_25 (by rw [hc0]; decide) (by rw [hc0]; decide) (by rw [hc0]; rfl) (by decide) ?_
        refine x_aload_n 65 rfl 0 dX8_all_64 rfl rfl ?_
        refine x_getR E dX8_all_65 F_RX8_51 sh_0 rf_0_8 68 rfl ?_
        refine x_aload_n 69 rfl 0 dX8_all_68 rfl rfl ?_
        refine x_getR E dX8_all_69 F_RX8_37 sh_0 rf_0_5 72 rfl ?_
        refine x_getR E dX8_all_72 F_RX8_118 sh_35 rf_35_0 75 rfl ?_
        refine x_iconst 76 rfl (v := 0) dX8_all_75 (by decide) ?_
        refine x_iald E dX8_all_76 sh_36 0 (by decide) (by decide) 77 rfl ?_
        obtain ⟨⟨q2r, q2s⟩, q2h, h⟩ := x_bind h
        try dsimp only at h
        refine z_callV E [.int _] [] dX8_all_77 K_RX8_197 ⟨Nat.le_of_ble_eq_true rfl, Nat.le_of_ble_eq_true rfl⟩ sh_49 (by decide) rfl (c_Tr_sharpBy_49 E _ q2h) rfl rfl (Nat.le_of_ble_eq_true rfl) 80 rfl [.int _] rfl ?_
        cases h
        exact x_Oret (x_iret dX8_all_80 rfl rfl rfl)
      replace h := x_ifF hc0 h
      refine x_case (1) (fun hc1 => ?_) (fun hc1 => ?_)
      · replace h := x_ifT hc1 h
        refine x_tabIn (off := 56) 81 dX8_all_25 (by rw [hc1]; decide) (by rw [hc1]; decide) (by rw [hc1]; rfl) (by decide) ?_
        refine x_aload_n 82 rfl 0 dX8_all_81 rfl rfl ?_
        refine x_getR E dX8_all_82 F_RX8_51 sh_0 rf_0_8 85 rfl ?_
        obtain ⟨⟨q3r, q3s⟩, q3h, h⟩ := x_bind h
        try dsimp only at h
        refine z_callV E [] [] dX8_all_85 K_RX8_202 ⟨Nat.le_of_ble_eq_true rfl, Nat.le_of_ble_eq_true rfl⟩ sh_49 (by decide) rfl (c_Tr_mostOff_49 E  q3h) rfl rfl (Nat.le_of_ble_eq_true rfl) 88 rfl [.int _] rfl ?_
        cases h
        exact x_Oret (x_iret dX8_all_88 rfl rfl rfl)
      replace h := x_ifF hc1 h
      refine x_case (2) (fun hc2 => ?_) (fun hc2 => ?_)
      · replace h := x_ifT hc2 h
        refine x_tabIn (off := 64) 89 dX8_all_25 (by rw [hc2]; decide) (by rw [hc2]; decide) (by rw [hc2]; rfl) (by decide) ?_
        refine x_aload_n 90 rfl 0 dX8_all_89 rfl rfl ?_
        refine x_getR E dX8_all_90 F_RX8_51 sh_0 rf_0_8 93 rfl ?_
        obtain ⟨⟨q4r, q4s⟩, q4h, h⟩ := x_bind h
        try dsimp only at h
        refine z_callV E [] [] dX8_all_93 K_RX8_206 ⟨Nat.le_of_ble_eq_true rfl, Nat.le_of_ble_eq_true rfl⟩ sh_49 (by decide) rfl (c_Tr_longestSoft_49 E  q4h) rfl rfl (Nat.le_of_ble_eq_true rfl) 96 rfl [.int _] rfl ?_
        cases h
        exact x_Oret (x_iret dX8_all_96 rfl rfl rfl)
      replace h := x_ifF hc2 h
      refine x_case (3) (fun hc3 => ?_) (fun hc3 => ?_)
      · replace h := x_ifT hc3 h
        refine x_tabIn (off := 72) 97 dX8_all_25 (by rw [hc3]; decide) (by rw [hc3]; decide) (by rw [hc3]; rfl) (by decide) ?_
        refine x_aload_n 98 rfl 0 dX8_all_97 rfl rfl ?_
        refine x_getR E dX8_all_98 F_RX8_51 sh_0 rf_0_8 101 rfl ?_
        obtain ⟨⟨q5r, q5s⟩, q5h, h⟩ := x_bind h
        try dsimp only at h
        refine z_callV E [] [] dX8_all_101 K_RX8_209 ⟨Nat.le_of_ble_eq_true rfl, Nat.le_of_ble_eq_true rfl⟩ sh_49 (by decide) rfl (c_Tr_firstSoft_49 E  q5h) rfl rfl (Nat.le_of_ble_eq_true rfl) 104 rfl [.int _] rfl ?_
        cases h
        exact x_Oret (x_iret dX8_all_104 rfl rfl rfl)
      replace h := x_ifF hc3 h
      refine x_case (4) (fun hc4 => ?_) (fun hc4 => ?_)
      · replace h := x_ifT hc4 h
        refine x_tabIn (off := 80) 105 dX8_all_25 (by rw [hc4]; decide) (by rw [hc4]; decide) (by rw [hc4]; rfl) (by decide) ?_
        refine x_aload_n 106 rfl 0 dX8_all_105 rfl rfl ?_
        refine x_getR E dX8_all_106 F_RX8_51 sh_0 rf_0_8 109 rfl ?_
        obtain ⟨⟨q6r, q6s⟩, q6h, h⟩ := x_bind h
        try dsimp only at h
        refine z_callV E [] [] dX8_all_109 K_RX8_212 ⟨Nat.le_of_ble_eq_true rfl, Nat.le_of_ble_eq_true rfl⟩ sh_49 (by decide) rfl (c_Tr_swings_49 E  q6h) rfl rfl (Nat.le_of_ble_eq_true rfl) 112 rfl [.int _] rfl ?_
        cases h
        exact x_Oret (x_iret dX8_all_112 rfl rfl rfl)
      replace h := x_ifF hc4 h
      refine x_case (5) (fun hc5 => ?_) (fun hc5 => ?_)
      · replace h := x_ifT hc5 h
        refine x_tabIn (off := 88) 113 dX8_all_25 (by rw [hc5]; decide) (by rw [hc5]; decide) (by rw [hc5]; rfl) (by decide) ?_
        refine x_aload_n 114 rfl 0 dX8_all_113 rfl rfl ?_
        refine x_getR E dX8_all_114 F_RX8_51 sh_0 rf_0_8 117 rfl ?_
        refine x_aload_n 118 rfl 0 dX8_all_117 rfl rfl ?_
        refine x_getR E dX8_all_118 F_RX8_27 sh_0 rf_0_3 121 rfl ?_
        obtain ⟨⟨q7r, q7s⟩, q7h, h⟩ := x_bind h
        try dsimp only at h
        refine z_callV E [.ref 7] [] dX8_all_121 K_RX8_215 ⟨Nat.le_of_ble_eq_true rfl, Nat.le_of_ble_eq_true rfl⟩ sh_49 (by decide) rfl (c_Tr_shown_49_7 E  q7h) rfl rfl (Nat.le_of_ble_eq_true rfl) 124 rfl [.int _] rfl ?_
        cases h
        exact x_Oret (x_iret dX8_all_124 rfl rfl rfl)
      replace h := x_ifF hc5 h
      refine x_tabOut 125 dX8_all_25 (by have g0 := x_toNe hc0 (k := 0) (by decide); have g1 := x_toNe hc1 (k := 1) (by decide); have g2 := x_toNe hc2 (k := 2) (by decide); have g3 := x_toNe hc3 (k := 3) (by decide); have g4 := x_toNe hc4 (k := 4) (by decide); have g5 := x_toNe hc5 (k := 5) (by decide); omega) (by decide) ?_
      refine x_aload_n 126 rfl 0 dX8_all_125 rfl rfl ?_
      refine x_getR E dX8_all_126 F_RX8_51 sh_0 rf_0_8 129 rfl ?_
      obtain ⟨⟨q8r, q8s⟩, q8h, h⟩ := x_bind h
      try dsimp only at h
      refine z_callV E [] [] dX8_all_129 K_RX8_219 ⟨Nat.le_of_ble_eq_true rfl, Nat.le_of_ble_eq_true rfl⟩ sh_49 (by decide) rfl (c_Tr_turned_49 E  q8h) rfl rfl (Nat.le_of_ble_eq_true rfl) 132 rfl [.int _] rfl ?_
      cases h
      exact x_Oret (x_iret dX8_all_132 rfl rfl rfl)
    · replace h := x_ifF hc h
      cases h
      exact x_throwN E KU_ (k := 2) KX_RX8_200 rfl dX8_all_10 dX8_all_13 dX8_all_14 dX8_all_16 dX8_all_19 (Nat.le_of_ble_eq_true rfl)
abbrev M_Se_dropEarliest : xM := (yX5_dropEarliest, cX5_dropEarliest, 2, none, [])
theorem dX5_dropEarliest_0 : decode cX5_dropEarliest 0 = .ok (.iconst 1, 1) := by decide +kernel
theorem dX5_dropEarliest_1 : decode cX5_dropEarliest 1 = .ok (.istore_n 1, 1) := by decide +kernel
theorem dX5_dropEarliest_2 : decode cX5_dropEarliest 2 = .ok (.iload_n 1, 1) := by decide +kernel
theorem dX5_dropEarliest_3 : decode cX5_dropEarliest 3 = .ok (.bipush 40, 2) := by decide +kernel
theorem dX5_dropEarliest_5 : decode cX5_dropEarliest 5 = .ok (.if_icmp .ge 37, 3) := by decide +kernel
theorem dX5_dropEarliest_8 : decode cX5_dropEarliest 8 = .ok (.aload_n 0, 1) := by decide +kernel
theorem dX5_dropEarliest_9 : decode cX5_dropEarliest 9 = .ok (.getfield 15, 3) := by decide +kernel
theorem dX5_dropEarliest_12 : decode cX5_dropEarliest 12 = .ok (.iload_n 1, 1) := by decide +kernel
theorem dX5_dropEarliest_13 : decode cX5_dropEarliest 13 = .ok (.iconst 1, 1) := by decide +kernel
theorem dX5_dropEarliest_14 : decode cX5_dropEarliest 14 = .ok (.isub, 1) := by decide +kernel
theorem dX5_dropEarliest_15 : decode cX5_dropEarliest 15 = .ok (.aload_n 0, 1) := by decide +kernel
theorem dX5_dropEarliest_16 : decode cX5_dropEarliest 16 = .ok (.getfield 15, 3) := by decide +kernel
theorem dX5_dropEarliest_19 : decode cX5_dropEarliest 19 = .ok (.iload_n 1, 1) := by decide +kernel
theorem dX5_dropEarliest_20 : decode cX5_dropEarliest 20 = .ok (.iaload, 1) := by decide +kernel
theorem dX5_dropEarliest_21 : decode cX5_dropEarliest 21 = .ok (.iastore, 1) := by decide +kernel
theorem dX5_dropEarliest_22 : decode cX5_dropEarliest 22 = .ok (.aload_n 0, 1) := by decide +kernel
theorem dX5_dropEarliest_23 : decode cX5_dropEarliest 23 = .ok (.getfield 18, 3) := by decide +kernel
theorem dX5_dropEarliest_26 : decode cX5_dropEarliest 26 = .ok (.iload_n 1, 1) := by decide +kernel
theorem dX5_dropEarliest_27 : decode cX5_dropEarliest 27 = .ok (.iconst 1, 1) := by decide +kernel
theorem dX5_dropEarliest_28 : decode cX5_dropEarliest 28 = .ok (.isub, 1) := by decide +kernel
theorem dX5_dropEarliest_29 : decode cX5_dropEarliest 29 = .ok (.aload_n 0, 1) := by decide +kernel
theorem dX5_dropEarliest_30 : decode cX5_dropEarliest 30 = .ok (.getfield 18, 3) := by decide +kernel
theorem dX5_dropEarliest_33 : decode cX5_dropEarliest 33 = .ok (.iload_n 1, 1) := by decide +kernel
theorem dX5_dropEarliest_34 : decode cX5_dropEarliest 34 = .ok (.iaload, 1) := by decide +kernel
theorem dX5_dropEarliest_35 : decode cX5_dropEarliest 35 = .ok (.iastore, 1) := by decide +kernel
theorem dX5_dropEarliest_36 : decode cX5_dropEarliest 36 = .ok (.iinc 1 1, 3) := by decide +kernel
theorem dX5_dropEarliest_39 : decode cX5_dropEarliest 39 = .ok (.goto (-37), 3) := by decide +kernel
theorem dX5_dropEarliest_42 : decode cX5_dropEarliest 42 = .ok (.aload_n 0, 1) := by decide +kernel
theorem dX5_dropEarliest_43 : decode cX5_dropEarliest 43 = .ok (.bipush 39, 2) := by decide +kernel
theorem dX5_dropEarliest_45 : decode cX5_dropEarliest 45 = .ok (.putfield 21, 3) := by decide +kernel
theorem dX5_dropEarliest_48 : decode cX5_dropEarliest 48 = .ok (.return_, 1) := by decide +kernel
def f_Se_dropEarliest_35_L2  (a : Int32 × xS) : Option ((Int32 × xS) ⊕ (Int32 × xS)) :=
  let v1 := a.1; let σ := a.2;
  if (40 : Int32) ≤ v1 then
    some (.inl (v1, σ))
  else
    if v1 < 0 ∨ 40 ≤ v1.toNatClampNeg then none else
    if (v1 - (1 : Int32)) < 0 ∨ 40 ≤ (v1 - (1 : Int32)).toNatClampNeg then none else
    let σ1 := x_pI σ 37 (v1 - (1 : Int32)).toNatClampNeg (σ.1 37 v1.toNatClampNeg)
    if v1 < 0 ∨ 40 ≤ v1.toNatClampNeg then none else
    if (v1 - (1 : Int32)) < 0 ∨ 40 ≤ (v1 - (1 : Int32)).toNatClampNeg then none else
    let σ2 := x_pI σ1 38 (v1 - (1 : Int32)).toNatClampNeg (σ1.1 38 v1.toNatClampNeg)
    let w3 := v1 + (1 : Int32)
    some (.inr (w3, σ2))
def f_Se_dropEarliest_35  (σ : xS) : Option (Unit × xS) :=
  (x_it (f_Se_dropEarliest_35_L2 ) 10000 ((1 : Int32), σ)).bind fun b4 =>
  let σ5 := x_pI b4.2 35 3 (39 : Int32)
  some ((), σ5)
set_option maxHeartbeats 4000000 in
set_option maxRecDepth 100000 in
theorem b_Se_dropEarliest_35_L2 {l : Launch} {s0 : State} {a0 : Array Value} {D : va_G} {cA : Nat → ClassId} {sp : Nat → Nat} (E : x_En CL l s0 a0 D cA sp)  {r : Unit} {σ1 : xS} (a : Int32 × xS) (o : (Int32 × xS) ⊕ (Int32 × xS)) (h : f_Se_dropEarliest_35_L2  a = some o) (hK : ∀ b, o = .inl b → zW l s0 D cA sp (zQ s0 D cA sp none σ1) (x_rm 0 0 0) M_Se_dropEarliest 0 0 42 [some (.ref 35), none] [] b.2) (hG : ∀ a', o = .inr a' → zW l s0 D cA sp (zQ s0 D cA sp none σ1) (x_rm 0 0 0) M_Se_dropEarliest 0 0 2 [some (.ref 35), some (.int a'.1)] [] a'.2) : zW l s0 D cA sp (zQ s0 D cA sp none σ1) (x_rm 0 0 0) M_Se_dropEarliest 0 0 2 [some (.ref 35), some (.int a.1)] [] a.2 := by
  obtain ⟨v1, σ⟩ := a
  unfold f_Se_dropEarliest_35_L2 at h
  try dsimp only at h ⊢
  refine x_iload_n 3 rfl 1 dX5_dropEarliest_2 rfl rfl ?_
  refine x_bipush 5 rfl (v := 40) dX5_dropEarliest_3 (by decide) ?_
  refine x_icmp_ge 8 rfl 42 dX5_dropEarliest_5 (by decide) (fun hc => ?_) (fun hc => ?_)
  · replace h := x_ifT hc h
    cases h
    exact x_wk (x_le_s (x_le_n x_le_0)) (hK (_, _) rfl)
  · replace h := x_ifF hc h
    refine x_aload_n 9 rfl 0 dX5_dropEarliest_8 rfl rfl ?_
    refine x_getR E dX5_dropEarliest_9 F_RX5_15 sh_35 rf_35_1 12 rfl ?_
    refine x_iload_n 13 rfl 1 dX5_dropEarliest_12 rfl rfl ?_
    refine x_iconst 14 rfl (v := 1) dX5_dropEarliest_13 (by decide) ?_
    refine x_isub 15 rfl dX5_dropEarliest_14 ?_
    refine x_aload_n 16 rfl 0 dX5_dropEarliest_15 rfl rfl ?_
    refine x_getR E dX5_dropEarliest_16 F_RX5_15 sh_35 rf_35_1 19 rfl ?_
    refine x_iload_n 20 rfl 1 dX5_dropEarliest_19 rfl rfl ?_
    obtain ⟨hz, h⟩ := x_ifn h
    refine x_iald E dX5_dropEarliest_20 sh_37 _ rfl hz 21 rfl ?_
    obtain ⟨hz, h⟩ := x_ifn h
    refine x_iast E dX5_dropEarliest_21 sh_37 _ rfl hz 22 rfl ?_
    refine x_aload_n 23 rfl 0 dX5_dropEarliest_22 rfl rfl ?_
    refine x_getR E dX5_dropEarliest_23 F_RX5_18 sh_35 rf_35_2 26 rfl ?_
    refine x_iload_n 27 rfl 1 dX5_dropEarliest_26 rfl rfl ?_
    refine x_iconst 28 rfl (v := 1) dX5_dropEarliest_27 (by decide) ?_
    refine x_isub 29 rfl dX5_dropEarliest_28 ?_
    refine x_aload_n 30 rfl 0 dX5_dropEarliest_29 rfl rfl ?_
    refine x_getR E dX5_dropEarliest_30 F_RX5_18 sh_35 rf_35_2 33 rfl ?_
    refine x_iload_n 34 rfl 1 dX5_dropEarliest_33 rfl rfl ?_
    obtain ⟨hz, h⟩ := x_ifn h
    refine x_iald E dX5_dropEarliest_34 sh_38 _ rfl hz 35 rfl ?_
    obtain ⟨hz, h⟩ := x_ifn h
    refine x_iast E dX5_dropEarliest_35 sh_38 _ rfl hz 36 rfl ?_
    refine x_iinc 39 rfl (1) dX5_dropEarliest_36 rfl (by decide) (by decide) [some (.ref 35), some (.int _)] rfl ?_
    refine x_goto 2 dX5_dropEarliest_39 (by decide) ?_
    cases h
    exact x_wk (x_le_s (x_le_s x_le_0)) (hG (_, _) rfl)
set_option maxHeartbeats 4000000 in
set_option maxRecDepth 100000 in
theorem c_Se_dropEarliest_35 {l : Launch} {s0 : State} {a0 : Array Value} {D : va_G} {cA : Nat → ClassId} {sp : Nat → Nat} (E : x_En CL l s0 a0 D cA sp)  {σ : xS} {r : Unit} {σ1 : xS} (h : f_Se_dropEarliest_35  σ = some (r, σ1)) : zC l s0 D cA sp 0 M_Se_dropEarliest [.ref 35] σ none σ1 := by
  unfold f_Se_dropEarliest_35 at h
  try dsimp only at h
  refine x_enter [some (.ref 35), none] rfl (Nat.le_of_ble_eq_true rfl) (by decide +kernel) rfl ?_
  refine x_iconst 1 rfl (v := 1) dX5_dropEarliest_0 (by decide) ?_
  refine x_istore_n 2 rfl 1 dX5_dropEarliest_1 rfl (by decide) [some (.ref 35), some (.int _)] rfl ?_
  obtain ⟨b4, b4h, h⟩ := x_bind h
  try dsimp only at h
  refine x_wk (x_le_s (x_le_s x_le_0)) (x_loop (fun a o h hK hG => b_Se_dropEarliest_35_L2 (r := r) (σ1 := σ1) E  a o h hK hG) _ _ _ b4h ?_)
  refine x_aload_n 43 rfl 0 dX5_dropEarliest_42 rfl rfl ?_
  refine x_bipush 45 rfl (v := 39) dX5_dropEarliest_43 (by decide) ?_
  refine x_putI E dX5_dropEarliest_45 F_RX5_21 sh_35 48 rfl ?_
  cases h
  exact x_vret dX5_dropEarliest_48 rfl rfl rfl
theorem K_RX5_49 : x_KV RX5 49 M_Se_dropEarliest 0 := ⟨⟨(List.mem_append_right _ (List.mem_of_getElem? (i := 375) (by decide +kernel))), (List.mem_append_right _ (List.mem_of_getElem? (i := 378) (by decide +kernel))), (List.mem_append_right _ (List.mem_of_getElem? (i := 5) (by decide +kernel))), ⟨by decide +kernel, by decide +kernel⟩, by decide +kernel⟩, (List.mem_append_right _ (List.mem_of_getElem? (i := 377) (by decide +kernel))), (List.mem_append_left _ (List.mem_of_getElem? (i := 4) (by decide +kernel)))⟩
abbrev M_Se_act : xM := (yX5_act, cX5_act, 4, some .int, [])
theorem dX5_act_0 : decode cX5_act 0 = .ok (.iload_n 1, 1) := by decide +kernel
theorem dX5_act_1 : decode cX5_act 1 = .ok (.ifCond .lt 9, 3) := by decide +kernel
theorem dX5_act_4 : decode cX5_act 4 = .ok (.iload_n 1, 1) := by decide +kernel
theorem dX5_act_5 : decode cX5_act 5 = .ok (.bipush 12, 2) := by decide +kernel
theorem dX5_act_7 : decode cX5_act 7 = .ok (.if_icmp .lt 5, 3) := by decide +kernel
theorem dX5_act_10 : decode cX5_act 10 = .ok (.iconst (-1), 1) := by decide +kernel
theorem dX5_act_11 : decode cX5_act 11 = .ok (.ireturn, 1) := by decide +kernel
theorem dX5_act_12 : decode cX5_act 12 = .ok (.aload_n 0, 1) := by decide +kernel
theorem dX5_act_13 : decode cX5_act 13 = .ok (.getfield 21, 3) := by decide +kernel
theorem dX5_act_16 : decode cX5_act 16 = .ok (.bipush 40, 2) := by decide +kernel
theorem dX5_act_18 : decode cX5_act 18 = .ok (.if_icmp .lt 7, 3) := by decide +kernel
theorem dX5_act_21 : decode cX5_act 21 = .ok (.aload_n 0, 1) := by decide +kernel
theorem dX5_act_22 : decode cX5_act 22 = .ok (.invokevirtual 49, 3) := by decide +kernel
theorem dX5_act_25 : decode cX5_act 25 = .ok (.aload_n 0, 1) := by decide +kernel
theorem dX5_act_26 : decode cX5_act 26 = .ok (.getfield 9, 3) := by decide +kernel
theorem dX5_act_29 : decode cX5_act 29 = .ok (.iload_n 1, 1) := by decide +kernel
theorem dX5_act_30 : decode cX5_act 30 = .ok (.iaload, 1) := by decide +kernel
theorem dX5_act_31 : decode cX5_act 31 = .ok (.istore_n 3, 1) := by decide +kernel
theorem dX5_act_32 : decode cX5_act 32 = .ok (.aload_n 0, 1) := by decide +kernel
theorem dX5_act_33 : decode cX5_act 33 = .ok (.getfield 15, 3) := by decide +kernel
theorem dX5_act_36 : decode cX5_act 36 = .ok (.aload_n 0, 1) := by decide +kernel
theorem dX5_act_37 : decode cX5_act 37 = .ok (.getfield 21, 3) := by decide +kernel
theorem dX5_act_40 : decode cX5_act 40 = .ok (.iload_n 1, 1) := by decide +kernel
theorem dX5_act_41 : decode cX5_act 41 = .ok (.iastore, 1) := by decide +kernel
theorem dX5_act_42 : decode cX5_act 42 = .ok (.aload_n 0, 1) := by decide +kernel
theorem dX5_act_43 : decode cX5_act 43 = .ok (.getfield 18, 3) := by decide +kernel
theorem dX5_act_46 : decode cX5_act 46 = .ok (.aload_n 0, 1) := by decide +kernel
theorem dX5_act_47 : decode cX5_act 47 = .ok (.getfield 21, 3) := by decide +kernel
theorem dX5_act_50 : decode cX5_act 50 = .ok (.iload_n 3, 1) := by decide +kernel
theorem dX5_act_51 : decode cX5_act 51 = .ok (.iastore, 1) := by decide +kernel
theorem dX5_act_52 : decode cX5_act 52 = .ok (.aload_n 0, 1) := by decide +kernel
theorem dX5_act_53 : decode cX5_act 53 = .ok (.dup, 1) := by decide +kernel
theorem dX5_act_54 : decode cX5_act 54 = .ok (.getfield 21, 3) := by decide +kernel
theorem dX5_act_57 : decode cX5_act 57 = .ok (.iconst 1, 1) := by decide +kernel
theorem dX5_act_58 : decode cX5_act 58 = .ok (.iadd, 1) := by decide +kernel
theorem dX5_act_59 : decode cX5_act 59 = .ok (.putfield 21, 3) := by decide +kernel
theorem dX5_act_62 : decode cX5_act 62 = .ok (.aload_n 0, 1) := by decide +kernel
theorem dX5_act_63 : decode cX5_act 63 = .ok (.getfield 9, 3) := by decide +kernel
theorem dX5_act_66 : decode cX5_act 66 = .ok (.iload_n 1, 1) := by decide +kernel
theorem dX5_act_67 : decode cX5_act 67 = .ok (.iload_n 2, 1) := by decide +kernel
theorem dX5_act_68 : decode cX5_act 68 = .ok (.iastore, 1) := by decide +kernel
theorem dX5_act_69 : decode cX5_act 69 = .ok (.iload_n 3, 1) := by decide +kernel
theorem dX5_act_70 : decode cX5_act 70 = .ok (.ireturn, 1) := by decide +kernel
def f_Se_act_35_J25 (v1 : Int32) (v2 : Int32) (σ : xS) : Option (Int32 × xS) :=
  if v1 < 0 ∨ 12 ≤ v1.toNatClampNeg then none else
  let w1 := σ.1 36 v1.toNatClampNeg
  if σ.1 35 3 < 0 ∨ 40 ≤ (σ.1 35 3).toNatClampNeg then none else
  let σ2 := x_pI σ 37 (σ.1 35 3).toNatClampNeg v1
  if σ2.1 35 3 < 0 ∨ 40 ≤ (σ2.1 35 3).toNatClampNeg then none else
  let σ3 := x_pI σ2 38 (σ2.1 35 3).toNatClampNeg w1
  let σ4 := x_pI σ3 35 3 (σ3.1 35 3 + (1 : Int32))
  if v1 < 0 ∨ 12 ≤ v1.toNatClampNeg then none else
  let σ5 := x_pI σ4 36 v1.toNatClampNeg v2
  some (w1, σ5)
def f_Se_act_35 (v1 : Int32) (v2 : Int32) (σ : xS) : Option (Int32 × xS) :=
  if v1 < 0 then
    some ((-1 : Int32), σ)
  else
    if v1 < (12 : Int32) then
      if σ.1 35 3 < (40 : Int32) then
        f_Se_act_35_J25 v1 v2 σ
      else
        (f_Se_dropEarliest_35  σ).bind fun q6 =>
        f_Se_act_35_J25 v1 v2 q6.2
    else
      some ((-1 : Int32), σ)
set_option maxHeartbeats 4000000 in
set_option maxRecDepth 100000 in
theorem j_Se_act_35_J25 {l : Launch} {s0 : State} {a0 : Array Value} {D : va_G} {cA : Nat → ClassId} {sp : Nat → Nat} (E : x_En CL l s0 a0 D cA sp) (v1 : Int32) (v2 : Int32) (σ : xS) {r : Int32} {σ1 : xS} (h : f_Se_act_35_J25 v1 v2 σ = some (r, σ1)) : zW l s0 D cA sp (zQ s0 D cA sp (some (.int r)) σ1) (x_rm 1 0 0) M_Se_act 0 0 25 [some (.ref 35), some (.int v1), some (.int v2), none] [] σ := by
  unfold f_Se_act_35_J25 at h
  try dsimp only at h
  refine x_aload_n 26 rfl 0 dX5_act_25 rfl rfl ?_
  refine x_getR E dX5_act_26 F_RX5_9 sh_35 rf_35_0 29 rfl ?_
  refine x_iload_n 30 rfl 1 dX5_act_29 rfl rfl ?_
  obtain ⟨hz, h⟩ := x_ifn h
  refine x_iald E dX5_act_30 sh_36 _ rfl hz 31 rfl ?_
  refine x_istore_n 32 rfl 3 dX5_act_31 rfl (by decide) [some (.ref 35), some (.int _), some (.int _), some (.int _)] rfl ?_
  refine x_aload_n 33 rfl 0 dX5_act_32 rfl rfl ?_
  refine x_getR E dX5_act_33 F_RX5_15 sh_35 rf_35_1 36 rfl ?_
  refine x_aload_n 37 rfl 0 dX5_act_36 rfl rfl ?_
  refine x_getI E dX5_act_37 F_RX5_21 sh_35 40 rfl ?_
  refine x_iload_n 41 rfl 1 dX5_act_40 rfl rfl ?_
  obtain ⟨hz, h⟩ := x_ifn h
  refine x_iast E dX5_act_41 sh_37 _ rfl hz 42 rfl ?_
  refine x_aload_n 43 rfl 0 dX5_act_42 rfl rfl ?_
  refine x_getR E dX5_act_43 F_RX5_18 sh_35 rf_35_2 46 rfl ?_
  refine x_aload_n 47 rfl 0 dX5_act_46 rfl rfl ?_
  refine x_getI E dX5_act_47 F_RX5_21 sh_35 50 rfl ?_
  refine x_iload_n 51 rfl 3 dX5_act_50 rfl rfl ?_
  obtain ⟨hz, h⟩ := x_ifn h
  refine x_iast E dX5_act_51 sh_38 _ rfl hz 52 rfl ?_
  refine x_aload_n 53 rfl 0 dX5_act_52 rfl rfl ?_
  refine x_dup 54 rfl dX5_act_53 rfl ?_
  refine x_getI E dX5_act_54 F_RX5_21 sh_35 57 rfl ?_
  refine x_iconst 58 rfl (v := 1) dX5_act_57 (by decide) ?_
  refine x_iadd 59 rfl dX5_act_58 ?_
  refine x_putI E dX5_act_59 F_RX5_21 sh_35 62 rfl ?_
  refine x_aload_n 63 rfl 0 dX5_act_62 rfl rfl ?_
  refine x_getR E dX5_act_63 F_RX5_9 sh_35 rf_35_0 66 rfl ?_
  refine x_iload_n 67 rfl 1 dX5_act_66 rfl rfl ?_
  refine x_iload_n 68 rfl 2 dX5_act_67 rfl rfl ?_
  obtain ⟨hz, h⟩ := x_ifn h
  refine x_iast E dX5_act_68 sh_36 _ rfl hz 69 rfl ?_
  refine x_iload_n 70 rfl 3 dX5_act_69 rfl rfl ?_
  cases h
  exact x_iret dX5_act_70 rfl rfl rfl
set_option maxHeartbeats 4000000 in
set_option maxRecDepth 100000 in
theorem c_Se_act_35 {l : Launch} {s0 : State} {a0 : Array Value} {D : va_G} {cA : Nat → ClassId} {sp : Nat → Nat} (E : x_En CL l s0 a0 D cA sp) (v1 : Int32) (v2 : Int32) {σ : xS} {r : Int32} {σ1 : xS} (h : f_Se_act_35 v1 v2 σ = some (r, σ1)) : zC l s0 D cA sp 1 M_Se_act [.ref 35, .int v1, .int v2] σ (some (.int r)) σ1 := by
  unfold f_Se_act_35 at h
  try dsimp only at h
  refine x_enter [some (.ref 35), some (.int v1), some (.int v2), none] rfl (Nat.le_of_ble_eq_true rfl) (by decide +kernel) rfl ?_
  refine x_iload_n 1 rfl 1 dX5_act_0 rfl rfl ?_
  refine x_if_lt 4 rfl 10 dX5_act_1 (by decide) (fun hc => ?_) (fun hc => ?_)
  · replace h := x_ifT hc h
    refine x_iconst 11 rfl (v := -1) dX5_act_10 (by decide) ?_
    cases h
    exact x_iret dX5_act_11 rfl rfl rfl
  · replace h := x_ifF hc h
    refine x_iload_n 5 rfl 1 dX5_act_4 rfl rfl ?_
    refine x_bipush 7 rfl (v := 12) dX5_act_5 (by decide) ?_
    refine x_icmp_lt 10 rfl 12 dX5_act_7 (by decide) (fun hc => ?_) (fun hc => ?_)
    · replace h := x_ifT hc h
      refine x_aload_n 13 rfl 0 dX5_act_12 rfl rfl ?_
      refine x_getI E dX5_act_13 F_RX5_21 sh_35 16 rfl ?_
      refine x_bipush 18 rfl (v := 40) dX5_act_16 (by decide) ?_
      refine x_icmp_lt 21 rfl 25 dX5_act_18 (by decide) (fun hc => ?_) (fun hc => ?_)
      · replace h := x_ifT hc h
        exact x_wk (x_le_s (x_le_s (x_le_s (x_le_n x_le_0)))) (j_Se_act_35_J25 E _ _ _ h)
      · replace h := x_ifF hc h
        refine x_aload_n 22 rfl 0 dX5_act_21 rfl rfl ?_
        obtain ⟨⟨q6r, q6s⟩, q6h, h⟩ := x_bind h
        try dsimp only at h
        refine z_callV E [] [] dX5_act_22 K_RX5_49 ⟨Nat.le_of_ble_eq_true rfl, Nat.le_of_ble_eq_true rfl⟩ sh_35 (by decide) rfl (c_Se_dropEarliest_35 E  q6h) rfl rfl (Nat.le_of_ble_eq_true rfl) 25 rfl [] rfl ?_
        exact x_wk (x_le_s (x_le_s (x_le_s (x_le_n x_le_0)))) (j_Se_act_35_J25 E _ _ _ h)
    · replace h := x_ifF hc h
      refine x_iconst 11 rfl (v := -1) dX5_act_10 (by decide) ?_
      cases h
      exact x_iret dX5_act_11 rfl rfl rfl
theorem K_RX8_230 : x_KV RX8 230 M_Se_act 2 := ⟨⟨(List.mem_append_right _ (List.mem_of_getElem? (i := 371) (by decide +kernel))), (List.mem_append_right _ (List.mem_of_getElem? (i := 374) (by decide +kernel))), (List.mem_append_right _ (List.mem_of_getElem? (i := 5) (by decide +kernel))), ⟨by decide +kernel, by decide +kernel⟩, by decide +kernel⟩, (List.mem_append_right _ (List.mem_of_getElem? (i := 372) (by decide +kernel))), (List.mem_append_right _ (List.mem_of_getElem? (i := 373) (by decide +kernel)))⟩
abbrev M_RH_set : xM := (yX8_set, cX8_set, 5, some .int, [])
theorem dX8_set_0 : decode cX8_set 0 = .ok (.iload_n 3, 1) := by decide +kernel
theorem dX8_set_1 : decode cX8_set 1 = .ok (.ifCond .ne 16, 3) := by decide +kernel
theorem dX8_set_4 : decode cX8_set 4 = .ok (.aload_n 0, 1) := by decide +kernel
theorem dX8_set_5 : decode cX8_set 5 = .ok (.getfield 68, 3) := by decide +kernel
theorem dX8_set_8 : decode cX8_set 8 = .ok (.iconst 1, 1) := by decide +kernel
theorem dX8_set_9 : decode cX8_set 9 = .ok (.dup2, 1) := by decide +kernel
theorem dX8_set_10 : decode cX8_set 10 = .ok (.iaload, 1) := by decide +kernel
theorem dX8_set_11 : decode cX8_set 11 = .ok (.iconst 1, 1) := by decide +kernel
theorem dX8_set_12 : decode cX8_set 12 = .ok (.iadd, 1) := by decide +kernel
theorem dX8_set_13 : decode cX8_set 13 = .ok (.iastore, 1) := by decide +kernel
theorem dX8_set_14 : decode cX8_set 14 = .ok (.iload 4, 2) := by decide +kernel
theorem dX8_set_16 : decode cX8_set 16 = .ok (.ireturn, 1) := by decide +kernel
theorem dX8_set_17 : decode cX8_set 17 = .ok (.aload_n 0, 1) := by decide +kernel
theorem dX8_set_18 : decode cX8_set 18 = .ok (.iconst 0, 1) := by decide +kernel
theorem dX8_set_19 : decode cX8_set 19 = .ok (.putfield 55, 3) := by decide +kernel
theorem dX8_set_22 : decode cX8_set 22 = .ok (.aload_n 0, 1) := by decide +kernel
theorem dX8_set_23 : decode cX8_set 23 = .ok (.getfield 37, 3) := by decide +kernel
theorem dX8_set_26 : decode cX8_set 26 = .ok (.iload_n 1, 1) := by decide +kernel
theorem dX8_set_27 : decode cX8_set 27 = .ok (.iload_n 2, 1) := by decide +kernel
theorem dX8_set_28 : decode cX8_set 28 = .ok (.invokevirtual 230, 3) := by decide +kernel
theorem dX8_set_31 : decode cX8_set 31 = .ok (.ireturn, 1) := by decide +kernel
def f_RH_set_0 (v1 : Int32) (v2 : Int32) (v3 : Int32) (v4 : Int32) (σ : xS) : Option (Int32 × xS) :=
  if v3 = 0 then
    let σ3 := x_pI σ 59 1 (σ.1 59 1 + (1 : Int32))
    some (v4, σ3)
  else
    let σ1 := x_pI σ 0 9 (0 : Int32)
    (f_Se_act_35 v1 v2 σ1).bind fun q2 =>
    some (q2.1, q2.2)
set_option maxHeartbeats 4000000 in
set_option maxRecDepth 100000 in
theorem c_RH_set_0 {l : Launch} {s0 : State} {a0 : Array Value} {D : va_G} {cA : Nat → ClassId} {sp : Nat → Nat} (E : x_En CL l s0 a0 D cA sp) (v1 : Int32) (v2 : Int32) (v3 : Int32) (v4 : Int32) {σ : xS} {r : Int32} {σ1 : xS} (h : f_RH_set_0 v1 v2 v3 v4 σ = some (r, σ1)) : zC l s0 D cA sp 2 M_RH_set [.ref 0, .int v1, .int v2, .int v3, .int v4] σ (some (.int r)) σ1 := by
  unfold f_RH_set_0 at h
  try dsimp only at h
  refine x_enter [some (.ref 0), some (.int v1), some (.int v2), some (.int v3), some (.int v4)] rfl (Nat.le_of_ble_eq_true rfl) (by decide +kernel) rfl ?_
  refine x_iload_n 1 rfl 3 dX8_set_0 rfl rfl ?_
  refine x_if_ne 4 rfl 17 dX8_set_1 (by decide) (fun hc => ?_) (fun hc => ?_)
  · replace h := x_ifF hc h
    refine x_aload_n 18 rfl 0 dX8_set_17 rfl rfl ?_
    refine x_iconst 19 rfl (v := 0) dX8_set_18 (by decide) ?_
    refine x_putZ E (Or.inl rfl) dX8_set_19 F_RX8_55 sh_0 22 rfl ?_
    refine x_aload_n 23 rfl 0 dX8_set_22 rfl rfl ?_
    refine x_getR E dX8_set_23 F_RX8_37 sh_0 rf_0_5 26 rfl ?_
    refine x_iload_n 27 rfl 1 dX8_set_26 rfl rfl ?_
    refine x_iload_n 28 rfl 2 dX8_set_27 rfl rfl ?_
    obtain ⟨⟨q2r, q2s⟩, q2h, h⟩ := x_bind h
    try dsimp only at h
    refine z_callV E [.int _, .int _] [] dX8_set_28 K_RX8_230 ⟨Nat.le_of_ble_eq_true rfl, Nat.le_of_ble_eq_true rfl⟩ sh_35 (by decide) rfl (c_Se_act_35 E _ _ q2h) rfl rfl (Nat.le_of_ble_eq_true rfl) 31 rfl [.int _] rfl ?_
    cases h
    exact x_iret dX8_set_31 rfl rfl rfl
  · replace h := x_ifT hc h
    refine x_aload_n 5 rfl 0 dX8_set_4 rfl rfl ?_
    refine x_getR E dX8_set_5 F_RX8_68 sh_0 rf_0_12 8 rfl ?_
    refine x_iconst 9 rfl (v := 1) dX8_set_8 (by decide) ?_
    refine x_dup2 10 rfl dX8_set_9 rfl rfl ?_
    refine x_iald E dX8_set_10 sh_59 1 (by decide) (by decide) 11 rfl ?_
    refine x_iconst 12 rfl (v := 1) dX8_set_11 (by decide) ?_
    refine x_iadd 13 rfl dX8_set_12 ?_
    refine x_iast E dX8_set_13 sh_59 1 (by decide) (by decide) 14 rfl ?_
    refine x_iload 16 rfl dX8_set_14 rfl ?_
    cases h
    exact x_iret dX8_set_16 rfl rfl rfl
theorem K_RX8_222 : x_KV RX8 222 M_RH_set 4 := ⟨⟨(List.mem_append_right _ (List.mem_of_getElem? (i := 367) (by decide +kernel))), (List.mem_append_right _ (List.mem_of_getElem? (i := 370) (by decide +kernel))), (List.mem_append_right _ (List.mem_of_getElem? (i := 1) (by decide +kernel))), ⟨by decide +kernel, by decide +kernel⟩, by decide +kernel⟩, (List.mem_append_right _ (List.mem_of_getElem? (i := 369) (by decide +kernel))), (List.mem_append_left _ (List.mem_of_getElem? (i := 3) (by decide +kernel)))⟩
abbrev M_RH_hole : xM := (yX8_hole, cX8_hole, 2, some .int, [])
theorem dX8_hole_0 : decode cX8_hole 0 = .ok (.aload_n 0, 1) := by decide +kernel
theorem dX8_hole_1 : decode cX8_hole 1 = .ok (.iconst 0, 1) := by decide +kernel
theorem dX8_hole_2 : decode cX8_hole 2 = .ok (.iload_n 1, 1) := by decide +kernel
theorem dX8_hole_3 : decode cX8_hole 3 = .ok (.iload_n 1, 1) := by decide +kernel
theorem dX8_hole_4 : decode cX8_hole 4 = .ok (.iconst 1, 1) := by decide +kernel
theorem dX8_hole_5 : decode cX8_hole 5 = .ok (.if_icmp .lt 13, 3) := by decide +kernel
theorem dX8_hole_8 : decode cX8_hole 8 = .ok (.iload_n 1, 1) := by decide +kernel
theorem dX8_hole_9 : decode cX8_hole 9 = .ok (.bipush 60, 2) := by decide +kernel
theorem dX8_hole_11 : decode cX8_hole 11 = .ok (.if_icmp .gt 7, 3) := by decide +kernel
theorem dX8_hole_14 : decode cX8_hole 14 = .ok (.iconst 1, 1) := by decide +kernel
theorem dX8_hole_15 : decode cX8_hole 15 = .ok (.goto 4, 3) := by decide +kernel
theorem dX8_hole_18 : decode cX8_hole 18 = .ok (.iconst 0, 1) := by decide +kernel
theorem dX8_hole_19 : decode cX8_hole 19 = .ok (.iconst (-1), 1) := by decide +kernel
theorem dX8_hole_20 : decode cX8_hole 20 = .ok (.invokevirtual 222, 3) := by decide +kernel
theorem dX8_hole_23 : decode cX8_hole 23 = .ok (.ireturn, 1) := by decide +kernel
def f_RH_hole_0 (v1 : Int32) (σ : xS) : Option (Int32 × xS) :=
  if v1 < (1 : Int32) then
    (f_RH_set_0 (0 : Int32) v1 (0 : Int32) (-1 : Int32) σ).bind fun q1 =>
    some (q1.1, q1.2)
  else
    if (60 : Int32) < v1 then
      (f_RH_set_0 (0 : Int32) v1 (0 : Int32) (-1 : Int32) σ).bind fun q2 =>
      some (q2.1, q2.2)
    else
      (f_RH_set_0 (0 : Int32) v1 (1 : Int32) (-1 : Int32) σ).bind fun q3 =>
      some (q3.1, q3.2)
set_option maxHeartbeats 4000000 in
set_option maxRecDepth 100000 in
theorem c_RH_hole_0 {l : Launch} {s0 : State} {a0 : Array Value} {D : va_G} {cA : Nat → ClassId} {sp : Nat → Nat} (E : x_En CL l s0 a0 D cA sp) (v1 : Int32) {σ : xS} {r : Int32} {σ1 : xS} (h : f_RH_hole_0 v1 σ = some (r, σ1)) : zC l s0 D cA sp 3 M_RH_hole [.ref 0, .int v1] σ (some (.int r)) σ1 := by
  unfold f_RH_hole_0 at h
  try dsimp only at h
  refine x_enter [some (.ref 0), some (.int v1)] rfl (Nat.le_of_ble_eq_true rfl) (by decide +kernel) rfl ?_
  refine x_aload_n 1 rfl 0 dX8_hole_0 rfl rfl ?_
  refine x_iconst 2 rfl (v := 0) dX8_hole_1 (by decide) ?_
  refine x_iload_n 3 rfl 1 dX8_hole_2 rfl rfl ?_
  refine x_iload_n 4 rfl 1 dX8_hole_3 rfl rfl ?_
  refine x_iconst 5 rfl (v := 1) dX8_hole_4 (by decide) ?_
  refine x_icmp_lt 8 rfl 18 dX8_hole_5 (by decide) (fun hc => ?_) (fun hc => ?_)
  · replace h := x_ifT hc h
    refine x_iconst 19 rfl (v := 0) dX8_hole_18 (by decide) ?_
    refine x_iconst 20 rfl (v := -1) dX8_hole_19 (by decide) ?_
    obtain ⟨⟨q1r, q1s⟩, q1h, h⟩ := x_bind h
    try dsimp only at h
    refine z_callV E [.int _, .int _, .int _, .int _] [] dX8_hole_20 K_RX8_222 ⟨Nat.le_of_ble_eq_true rfl, Nat.le_of_ble_eq_true rfl⟩ sh_0 (by decide) rfl (c_RH_set_0 E _ _ _ _ q1h) rfl rfl (Nat.le_of_ble_eq_true rfl) 23 rfl [.int _] rfl ?_
    cases h
    exact x_iret dX8_hole_23 rfl rfl rfl
  · replace h := x_ifF hc h
    refine x_iload_n 9 rfl 1 dX8_hole_8 rfl rfl ?_
    refine x_bipush 11 rfl (v := 60) dX8_hole_9 (by decide) ?_
    refine x_icmp_gt 14 rfl 18 dX8_hole_11 (by decide) (fun hc => ?_) (fun hc => ?_)
    · replace h := x_ifT hc h
      refine x_iconst 19 rfl (v := 0) dX8_hole_18 (by decide) ?_
      refine x_iconst 20 rfl (v := -1) dX8_hole_19 (by decide) ?_
      obtain ⟨⟨q2r, q2s⟩, q2h, h⟩ := x_bind h
      try dsimp only at h
      refine z_callV E [.int _, .int _, .int _, .int _] [] dX8_hole_20 K_RX8_222 ⟨Nat.le_of_ble_eq_true rfl, Nat.le_of_ble_eq_true rfl⟩ sh_0 (by decide) rfl (c_RH_set_0 E _ _ _ _ q2h) rfl rfl (Nat.le_of_ble_eq_true rfl) 23 rfl [.int _] rfl ?_
      cases h
      exact x_iret dX8_hole_23 rfl rfl rfl
    · replace h := x_ifF hc h
      refine x_iconst 15 rfl (v := 1) dX8_hole_14 (by decide) ?_
      refine x_goto 19 dX8_hole_15 (by decide) ?_
      refine x_iconst 20 rfl (v := -1) dX8_hole_19 (by decide) ?_
      obtain ⟨⟨q3r, q3s⟩, q3h, h⟩ := x_bind h
      try dsimp only at h
      refine z_callV E [.int _, .int _, .int _, .int _] [] dX8_hole_20 K_RX8_222 ⟨Nat.le_of_ble_eq_true rfl, Nat.le_of_ble_eq_true rfl⟩ sh_0 (by decide) rfl (c_RH_set_0 E _ _ _ _ q3h) rfl rfl (Nat.le_of_ble_eq_true rfl) 23 rfl [.int _] rfl ?_
      cases h
      exact x_iret dX8_hole_23 rfl rfl rfl
abbrev M_RH_lag : xM := (yX8_lag, cX8_lag, 2, some .int, [])
theorem dX8_lag_0 : decode cX8_lag 0 = .ok (.aload_n 0, 1) := by decide +kernel
theorem dX8_lag_1 : decode cX8_lag 1 = .ok (.iconst 1, 1) := by decide +kernel
theorem dX8_lag_2 : decode cX8_lag 2 = .ok (.iload_n 1, 1) := by decide +kernel
theorem dX8_lag_3 : decode cX8_lag 3 = .ok (.iload_n 1, 1) := by decide +kernel
theorem dX8_lag_4 : decode cX8_lag 4 = .ok (.ifCond .lt 13, 3) := by decide +kernel
theorem dX8_lag_7 : decode cX8_lag 7 = .ok (.iload_n 1, 1) := by decide +kernel
theorem dX8_lag_8 : decode cX8_lag 8 = .ok (.bipush 24, 2) := by decide +kernel
theorem dX8_lag_10 : decode cX8_lag 10 = .ok (.if_icmp .gt 7, 3) := by decide +kernel
theorem dX8_lag_13 : decode cX8_lag 13 = .ok (.iconst 1, 1) := by decide +kernel
theorem dX8_lag_14 : decode cX8_lag 14 = .ok (.goto 4, 3) := by decide +kernel
theorem dX8_lag_17 : decode cX8_lag 17 = .ok (.iconst 0, 1) := by decide +kernel
theorem dX8_lag_18 : decode cX8_lag 18 = .ok (.iconst (-1), 1) := by decide +kernel
theorem dX8_lag_19 : decode cX8_lag 19 = .ok (.invokevirtual 222, 3) := by decide +kernel
theorem dX8_lag_22 : decode cX8_lag 22 = .ok (.ireturn, 1) := by decide +kernel
def f_RH_lag_0 (v1 : Int32) (σ : xS) : Option (Int32 × xS) :=
  if v1 < 0 then
    (f_RH_set_0 (1 : Int32) v1 (0 : Int32) (-1 : Int32) σ).bind fun q1 =>
    some (q1.1, q1.2)
  else
    if (24 : Int32) < v1 then
      (f_RH_set_0 (1 : Int32) v1 (0 : Int32) (-1 : Int32) σ).bind fun q2 =>
      some (q2.1, q2.2)
    else
      (f_RH_set_0 (1 : Int32) v1 (1 : Int32) (-1 : Int32) σ).bind fun q3 =>
      some (q3.1, q3.2)
set_option maxHeartbeats 4000000 in
set_option maxRecDepth 100000 in
theorem c_RH_lag_0 {l : Launch} {s0 : State} {a0 : Array Value} {D : va_G} {cA : Nat → ClassId} {sp : Nat → Nat} (E : x_En CL l s0 a0 D cA sp) (v1 : Int32) {σ : xS} {r : Int32} {σ1 : xS} (h : f_RH_lag_0 v1 σ = some (r, σ1)) : zC l s0 D cA sp 3 M_RH_lag [.ref 0, .int v1] σ (some (.int r)) σ1 := by
  unfold f_RH_lag_0 at h
  try dsimp only at h
  refine x_enter [some (.ref 0), some (.int v1)] rfl (Nat.le_of_ble_eq_true rfl) (by decide +kernel) rfl ?_
  refine x_aload_n 1 rfl 0 dX8_lag_0 rfl rfl ?_
  refine x_iconst 2 rfl (v := 1) dX8_lag_1 (by decide) ?_
  refine x_iload_n 3 rfl 1 dX8_lag_2 rfl rfl ?_
  refine x_iload_n 4 rfl 1 dX8_lag_3 rfl rfl ?_
  refine x_if_lt 7 rfl 17 dX8_lag_4 (by decide) (fun hc => ?_) (fun hc => ?_)
  · replace h := x_ifT hc h
    refine x_iconst 18 rfl (v := 0) dX8_lag_17 (by decide) ?_
    refine x_iconst 19 rfl (v := -1) dX8_lag_18 (by decide) ?_
    obtain ⟨⟨q1r, q1s⟩, q1h, h⟩ := x_bind h
    try dsimp only at h
    refine z_callV E [.int _, .int _, .int _, .int _] [] dX8_lag_19 K_RX8_222 ⟨Nat.le_of_ble_eq_true rfl, Nat.le_of_ble_eq_true rfl⟩ sh_0 (by decide) rfl (c_RH_set_0 E _ _ _ _ q1h) rfl rfl (Nat.le_of_ble_eq_true rfl) 22 rfl [.int _] rfl ?_
    cases h
    exact x_iret dX8_lag_22 rfl rfl rfl
  · replace h := x_ifF hc h
    refine x_iload_n 8 rfl 1 dX8_lag_7 rfl rfl ?_
    refine x_bipush 10 rfl (v := 24) dX8_lag_8 (by decide) ?_
    refine x_icmp_gt 13 rfl 17 dX8_lag_10 (by decide) (fun hc => ?_) (fun hc => ?_)
    · replace h := x_ifT hc h
      refine x_iconst 18 rfl (v := 0) dX8_lag_17 (by decide) ?_
      refine x_iconst 19 rfl (v := -1) dX8_lag_18 (by decide) ?_
      obtain ⟨⟨q2r, q2s⟩, q2h, h⟩ := x_bind h
      try dsimp only at h
      refine z_callV E [.int _, .int _, .int _, .int _] [] dX8_lag_19 K_RX8_222 ⟨Nat.le_of_ble_eq_true rfl, Nat.le_of_ble_eq_true rfl⟩ sh_0 (by decide) rfl (c_RH_set_0 E _ _ _ _ q2h) rfl rfl (Nat.le_of_ble_eq_true rfl) 22 rfl [.int _] rfl ?_
      cases h
      exact x_iret dX8_lag_22 rfl rfl rfl
    · replace h := x_ifF hc h
      refine x_iconst 14 rfl (v := 1) dX8_lag_13 (by decide) ?_
      refine x_goto 18 dX8_lag_14 (by decide) ?_
      refine x_iconst 19 rfl (v := -1) dX8_lag_18 (by decide) ?_
      obtain ⟨⟨q3r, q3s⟩, q3h, h⟩ := x_bind h
      try dsimp only at h
      refine z_callV E [.int _, .int _, .int _, .int _] [] dX8_lag_19 K_RX8_222 ⟨Nat.le_of_ble_eq_true rfl, Nat.le_of_ble_eq_true rfl⟩ sh_0 (by decide) rfl (c_RH_set_0 E _ _ _ _ q3h) rfl rfl (Nat.le_of_ble_eq_true rfl) 22 rfl [.int _] rfl ?_
      cases h
      exact x_iret dX8_lag_22 rfl rfl rfl
abbrev M_RH_wrist : xM := (yX8_wrist, cX8_wrist, 2, some .int, [])
theorem dX8_wrist_0 : decode cX8_wrist 0 = .ok (.aload_n 0, 1) := by decide +kernel
theorem dX8_wrist_1 : decode cX8_wrist 1 = .ok (.iconst 2, 1) := by decide +kernel
theorem dX8_wrist_2 : decode cX8_wrist 2 = .ok (.iload_n 1, 1) := by decide +kernel
theorem dX8_wrist_3 : decode cX8_wrist 3 = .ok (.iload_n 1, 1) := by decide +kernel
theorem dX8_wrist_4 : decode cX8_wrist 4 = .ok (.iconst 1, 1) := by decide +kernel
theorem dX8_wrist_5 : decode cX8_wrist 5 = .ok (.if_icmp .lt 13, 3) := by decide +kernel
theorem dX8_wrist_8 : decode cX8_wrist 8 = .ok (.iload_n 1, 1) := by decide +kernel
theorem dX8_wrist_9 : decode cX8_wrist 9 = .ok (.bipush 90, 2) := by decide +kernel
theorem dX8_wrist_11 : decode cX8_wrist 11 = .ok (.if_icmp .gt 7, 3) := by decide +kernel
theorem dX8_wrist_14 : decode cX8_wrist 14 = .ok (.iconst 1, 1) := by decide +kernel
theorem dX8_wrist_15 : decode cX8_wrist 15 = .ok (.goto 4, 3) := by decide +kernel
theorem dX8_wrist_18 : decode cX8_wrist 18 = .ok (.iconst 0, 1) := by decide +kernel
theorem dX8_wrist_19 : decode cX8_wrist 19 = .ok (.iconst (-1), 1) := by decide +kernel
theorem dX8_wrist_20 : decode cX8_wrist 20 = .ok (.invokevirtual 222, 3) := by decide +kernel
theorem dX8_wrist_23 : decode cX8_wrist 23 = .ok (.ireturn, 1) := by decide +kernel
def f_RH_wrist_0 (v1 : Int32) (σ : xS) : Option (Int32 × xS) :=
  if v1 < (1 : Int32) then
    (f_RH_set_0 (2 : Int32) v1 (0 : Int32) (-1 : Int32) σ).bind fun q1 =>
    some (q1.1, q1.2)
  else
    if (90 : Int32) < v1 then
      (f_RH_set_0 (2 : Int32) v1 (0 : Int32) (-1 : Int32) σ).bind fun q2 =>
      some (q2.1, q2.2)
    else
      (f_RH_set_0 (2 : Int32) v1 (1 : Int32) (-1 : Int32) σ).bind fun q3 =>
      some (q3.1, q3.2)
set_option maxHeartbeats 4000000 in
set_option maxRecDepth 100000 in
theorem c_RH_wrist_0 {l : Launch} {s0 : State} {a0 : Array Value} {D : va_G} {cA : Nat → ClassId} {sp : Nat → Nat} (E : x_En CL l s0 a0 D cA sp) (v1 : Int32) {σ : xS} {r : Int32} {σ1 : xS} (h : f_RH_wrist_0 v1 σ = some (r, σ1)) : zC l s0 D cA sp 3 M_RH_wrist [.ref 0, .int v1] σ (some (.int r)) σ1 := by
  unfold f_RH_wrist_0 at h
  try dsimp only at h
  refine x_enter [some (.ref 0), some (.int v1)] rfl (Nat.le_of_ble_eq_true rfl) (by decide +kernel) rfl ?_
  refine x_aload_n 1 rfl 0 dX8_wrist_0 rfl rfl ?_
  refine x_iconst 2 rfl (v := 2) dX8_wrist_1 (by decide) ?_
  refine x_iload_n 3 rfl 1 dX8_wrist_2 rfl rfl ?_
  refine x_iload_n 4 rfl 1 dX8_wrist_3 rfl rfl ?_
  refine x_iconst 5 rfl (v := 1) dX8_wrist_4 (by decide) ?_
  refine x_icmp_lt 8 rfl 18 dX8_wrist_5 (by decide) (fun hc => ?_) (fun hc => ?_)
  · replace h := x_ifT hc h
    refine x_iconst 19 rfl (v := 0) dX8_wrist_18 (by decide) ?_
    refine x_iconst 20 rfl (v := -1) dX8_wrist_19 (by decide) ?_
    obtain ⟨⟨q1r, q1s⟩, q1h, h⟩ := x_bind h
    try dsimp only at h
    refine z_callV E [.int _, .int _, .int _, .int _] [] dX8_wrist_20 K_RX8_222 ⟨Nat.le_of_ble_eq_true rfl, Nat.le_of_ble_eq_true rfl⟩ sh_0 (by decide) rfl (c_RH_set_0 E _ _ _ _ q1h) rfl rfl (Nat.le_of_ble_eq_true rfl) 23 rfl [.int _] rfl ?_
    cases h
    exact x_iret dX8_wrist_23 rfl rfl rfl
  · replace h := x_ifF hc h
    refine x_iload_n 9 rfl 1 dX8_wrist_8 rfl rfl ?_
    refine x_bipush 11 rfl (v := 90) dX8_wrist_9 (by decide) ?_
    refine x_icmp_gt 14 rfl 18 dX8_wrist_11 (by decide) (fun hc => ?_) (fun hc => ?_)
    · replace h := x_ifT hc h
      refine x_iconst 19 rfl (v := 0) dX8_wrist_18 (by decide) ?_
      refine x_iconst 20 rfl (v := -1) dX8_wrist_19 (by decide) ?_
      obtain ⟨⟨q2r, q2s⟩, q2h, h⟩ := x_bind h
      try dsimp only at h
      refine z_callV E [.int _, .int _, .int _, .int _] [] dX8_wrist_20 K_RX8_222 ⟨Nat.le_of_ble_eq_true rfl, Nat.le_of_ble_eq_true rfl⟩ sh_0 (by decide) rfl (c_RH_set_0 E _ _ _ _ q2h) rfl rfl (Nat.le_of_ble_eq_true rfl) 23 rfl [.int _] rfl ?_
      cases h
      exact x_iret dX8_wrist_23 rfl rfl rfl
    · replace h := x_ifF hc h
      refine x_iconst 15 rfl (v := 1) dX8_wrist_14 (by decide) ?_
      refine x_goto 19 dX8_wrist_15 (by decide) ?_
      refine x_iconst 20 rfl (v := -1) dX8_wrist_19 (by decide) ?_
      obtain ⟨⟨q3r, q3s⟩, q3h, h⟩ := x_bind h
      try dsimp only at h
      refine z_callV E [.int _, .int _, .int _, .int _] [] dX8_wrist_20 K_RX8_222 ⟨Nat.le_of_ble_eq_true rfl, Nat.le_of_ble_eq_true rfl⟩ sh_0 (by decide) rfl (c_RH_set_0 E _ _ _ _ q3h) rfl rfl (Nat.le_of_ble_eq_true rfl) 23 rfl [.int _] rfl ?_
      cases h
      exact x_iret dX8_wrist_23 rfl rfl rfl
abbrev M_RH_eye : xM := (yX8_eye, cX8_eye, 2, some .int, [])
theorem dX8_eye_0 : decode cX8_eye 0 = .ok (.aload_n 0, 1) := by decide +kernel
theorem dX8_eye_1 : decode cX8_eye 1 = .ok (.iconst 3, 1) := by decide +kernel
theorem dX8_eye_2 : decode cX8_eye 2 = .ok (.iload_n 1, 1) := by decide +kernel
theorem dX8_eye_3 : decode cX8_eye 3 = .ok (.iload_n 1, 1) := by decide +kernel
theorem dX8_eye_4 : decode cX8_eye 4 = .ok (.bipush (-30), 2) := by decide +kernel
theorem dX8_eye_6 : decode cX8_eye 6 = .ok (.if_icmp .lt 13, 3) := by decide +kernel
theorem dX8_eye_9 : decode cX8_eye 9 = .ok (.iload_n 1, 1) := by decide +kernel
theorem dX8_eye_10 : decode cX8_eye 10 = .ok (.bipush 30, 2) := by decide +kernel
theorem dX8_eye_12 : decode cX8_eye 12 = .ok (.if_icmp .gt 7, 3) := by decide +kernel
theorem dX8_eye_15 : decode cX8_eye 15 = .ok (.iconst 1, 1) := by decide +kernel
theorem dX8_eye_16 : decode cX8_eye 16 = .ok (.goto 4, 3) := by decide +kernel
theorem dX8_eye_19 : decode cX8_eye 19 = .ok (.iconst 0, 1) := by decide +kernel
theorem dX8_eye_20 : decode cX8_eye 20 = .ok (.bipush (-99), 2) := by decide +kernel
theorem dX8_eye_22 : decode cX8_eye 22 = .ok (.invokevirtual 222, 3) := by decide +kernel
theorem dX8_eye_25 : decode cX8_eye 25 = .ok (.ireturn, 1) := by decide +kernel
def f_RH_eye_0 (v1 : Int32) (σ : xS) : Option (Int32 × xS) :=
  if v1 < (-30 : Int32) then
    (f_RH_set_0 (3 : Int32) v1 (0 : Int32) (-99 : Int32) σ).bind fun q1 =>
    some (q1.1, q1.2)
  else
    if (30 : Int32) < v1 then
      (f_RH_set_0 (3 : Int32) v1 (0 : Int32) (-99 : Int32) σ).bind fun q2 =>
      some (q2.1, q2.2)
    else
      (f_RH_set_0 (3 : Int32) v1 (1 : Int32) (-99 : Int32) σ).bind fun q3 =>
      some (q3.1, q3.2)
set_option maxHeartbeats 4000000 in
set_option maxRecDepth 100000 in
theorem c_RH_eye_0 {l : Launch} {s0 : State} {a0 : Array Value} {D : va_G} {cA : Nat → ClassId} {sp : Nat → Nat} (E : x_En CL l s0 a0 D cA sp) (v1 : Int32) {σ : xS} {r : Int32} {σ1 : xS} (h : f_RH_eye_0 v1 σ = some (r, σ1)) : zC l s0 D cA sp 3 M_RH_eye [.ref 0, .int v1] σ (some (.int r)) σ1 := by
  unfold f_RH_eye_0 at h
  try dsimp only at h
  refine x_enter [some (.ref 0), some (.int v1)] rfl (Nat.le_of_ble_eq_true rfl) (by decide +kernel) rfl ?_
  refine x_aload_n 1 rfl 0 dX8_eye_0 rfl rfl ?_
  refine x_iconst 2 rfl (v := 3) dX8_eye_1 (by decide) ?_
  refine x_iload_n 3 rfl 1 dX8_eye_2 rfl rfl ?_
  refine x_iload_n 4 rfl 1 dX8_eye_3 rfl rfl ?_
  refine x_bipush 6 rfl (v := -30) dX8_eye_4 (by decide) ?_
  refine x_icmp_lt 9 rfl 19 dX8_eye_6 (by decide) (fun hc => ?_) (fun hc => ?_)
  · replace h := x_ifT hc h
    refine x_iconst 20 rfl (v := 0) dX8_eye_19 (by decide) ?_
    refine x_bipush 22 rfl (v := -99) dX8_eye_20 (by decide) ?_
    obtain ⟨⟨q1r, q1s⟩, q1h, h⟩ := x_bind h
    try dsimp only at h
    refine z_callV E [.int _, .int _, .int _, .int _] [] dX8_eye_22 K_RX8_222 ⟨Nat.le_of_ble_eq_true rfl, Nat.le_of_ble_eq_true rfl⟩ sh_0 (by decide) rfl (c_RH_set_0 E _ _ _ _ q1h) rfl rfl (Nat.le_of_ble_eq_true rfl) 25 rfl [.int _] rfl ?_
    cases h
    exact x_iret dX8_eye_25 rfl rfl rfl
  · replace h := x_ifF hc h
    refine x_iload_n 10 rfl 1 dX8_eye_9 rfl rfl ?_
    refine x_bipush 12 rfl (v := 30) dX8_eye_10 (by decide) ?_
    refine x_icmp_gt 15 rfl 19 dX8_eye_12 (by decide) (fun hc => ?_) (fun hc => ?_)
    · replace h := x_ifT hc h
      refine x_iconst 20 rfl (v := 0) dX8_eye_19 (by decide) ?_
      refine x_bipush 22 rfl (v := -99) dX8_eye_20 (by decide) ?_
      obtain ⟨⟨q2r, q2s⟩, q2h, h⟩ := x_bind h
      try dsimp only at h
      refine z_callV E [.int _, .int _, .int _, .int _] [] dX8_eye_22 K_RX8_222 ⟨Nat.le_of_ble_eq_true rfl, Nat.le_of_ble_eq_true rfl⟩ sh_0 (by decide) rfl (c_RH_set_0 E _ _ _ _ q2h) rfl rfl (Nat.le_of_ble_eq_true rfl) 25 rfl [.int _] rfl ?_
      cases h
      exact x_iret dX8_eye_25 rfl rfl rfl
    · replace h := x_ifF hc h
      refine x_iconst 16 rfl (v := 1) dX8_eye_15 (by decide) ?_
      refine x_goto 20 dX8_eye_16 (by decide) ?_
      refine x_bipush 22 rfl (v := -99) dX8_eye_20 (by decide) ?_
      obtain ⟨⟨q3r, q3s⟩, q3h, h⟩ := x_bind h
      try dsimp only at h
      refine z_callV E [.int _, .int _, .int _, .int _] [] dX8_eye_22 K_RX8_222 ⟨Nat.le_of_ble_eq_true rfl, Nat.le_of_ble_eq_true rfl⟩ sh_0 (by decide) rfl (c_RH_set_0 E _ _ _ _ q3h) rfl rfl (Nat.le_of_ble_eq_true rfl) 25 rfl [.int _] rfl ?_
      cases h
      exact x_iret dX8_eye_25 rfl rfl rfl
abbrev M_RH_hand : xM := (yX8_hand, cX8_hand, 3, some .boolean, [])
theorem dX8_hand_0 : decode cX8_hand 0 = .ok (.iload_n 1, 1) := by decide +kernel
theorem dX8_hand_1 : decode cX8_hand 1 = .ok (.iconst (-1), 1) := by decide +kernel
theorem dX8_hand_2 : decode cX8_hand 2 = .ok (.if_icmp .eq 18, 3) := by decide +kernel
theorem dX8_hand_5 : decode cX8_hand 5 = .ok (.iload_n 1, 1) := by decide +kernel
theorem dX8_hand_6 : decode cX8_hand 6 = .ok (.ifCond .lt 18, 3) := by decide +kernel
theorem dX8_hand_9 : decode cX8_hand 9 = .ok (.iload_n 1, 1) := by decide +kernel
theorem dX8_hand_10 : decode cX8_hand 10 = .ok (.aload_n 0, 1) := by decide +kernel
theorem dX8_hand_11 : decode cX8_hand 11 = .ok (.getfield 27, 3) := by decide +kernel
theorem dX8_hand_14 : decode cX8_hand 14 = .ok (.getfield 115, 3) := by decide +kernel
theorem dX8_hand_17 : decode cX8_hand 17 = .ok (.if_icmp .ge 7, 3) := by decide +kernel
theorem dX8_hand_20 : decode cX8_hand 20 = .ok (.iconst 1, 1) := by decide +kernel
theorem dX8_hand_21 : decode cX8_hand 21 = .ok (.goto 4, 3) := by decide +kernel
theorem dX8_hand_24 : decode cX8_hand 24 = .ok (.iconst 0, 1) := by decide +kernel
theorem dX8_hand_25 : decode cX8_hand 25 = .ok (.istore_n 2, 1) := by decide +kernel
theorem dX8_hand_26 : decode cX8_hand 26 = .ok (.aload_n 0, 1) := by decide +kernel
theorem dX8_hand_27 : decode cX8_hand 27 = .ok (.iconst 4, 1) := by decide +kernel
theorem dX8_hand_28 : decode cX8_hand 28 = .ok (.iload_n 1, 1) := by decide +kernel
theorem dX8_hand_29 : decode cX8_hand 29 = .ok (.iload_n 2, 1) := by decide +kernel
theorem dX8_hand_30 : decode cX8_hand 30 = .ok (.iconst (-1), 1) := by decide +kernel
theorem dX8_hand_31 : decode cX8_hand 31 = .ok (.invokevirtual 222, 3) := by decide +kernel
theorem dX8_hand_34 : decode cX8_hand 34 = .ok (.pop, 1) := by decide +kernel
theorem dX8_hand_35 : decode cX8_hand 35 = .ok (.iload_n 2, 1) := by decide +kernel
theorem dX8_hand_36 : decode cX8_hand 36 = .ok (.ireturn, 1) := by decide +kernel
def f_RH_hand_0_J24 (v1 : Int32) (σ : xS) : Option (Int32 × xS) :=
  (f_RH_set_0 (4 : Int32) v1 (0 : Int32) (-1 : Int32) σ).bind fun q1 =>
  some ((0 : Int32), q1.2)
def f_RH_hand_0_J20 (v1 : Int32) (σ : xS) : Option (Int32 × xS) :=
  (f_RH_set_0 (4 : Int32) v1 (1 : Int32) (-1 : Int32) σ).bind fun q2 =>
  some ((1 : Int32), q2.2)
def f_RH_hand_0 (v1 : Int32) (σ : xS) : Option (Int32 × xS) :=
  if v1 = (-1 : Int32) then
    f_RH_hand_0_J20 v1 σ
  else
    if v1 < 0 then
      f_RH_hand_0_J24 v1 σ
    else
      if σ.1 7 9 ≤ v1 then
        f_RH_hand_0_J24 v1 σ
      else
        f_RH_hand_0_J20 v1 σ
set_option maxHeartbeats 4000000 in
set_option maxRecDepth 100000 in
theorem j_RH_hand_0_J24 {l : Launch} {s0 : State} {a0 : Array Value} {D : va_G} {cA : Nat → ClassId} {sp : Nat → Nat} (E : x_En CL l s0 a0 D cA sp) (v1 : Int32) (σ : xS) {r : Int32} {σ1 : xS} (h : f_RH_hand_0_J24 v1 σ = some (r, σ1)) : zW l s0 D cA sp (zQ s0 D cA sp (some (.int r)) σ1) (x_rm 3 0 0) M_RH_hand 0 0 24 [some (.ref 0), some (.int v1), none] [] σ := by
  unfold f_RH_hand_0_J24 at h
  try dsimp only at h
  refine x_iconst 25 rfl (v := 0) dX8_hand_24 (by decide) ?_
  refine x_istore_n 26 rfl 2 dX8_hand_25 rfl (by decide) [some (.ref 0), some (.int _), some (.int _)] rfl ?_
  refine x_aload_n 27 rfl 0 dX8_hand_26 rfl rfl ?_
  refine x_iconst 28 rfl (v := 4) dX8_hand_27 (by decide) ?_
  refine x_iload_n 29 rfl 1 dX8_hand_28 rfl rfl ?_
  refine x_iload_n 30 rfl 2 dX8_hand_29 rfl rfl ?_
  refine x_iconst 31 rfl (v := -1) dX8_hand_30 (by decide) ?_
  obtain ⟨⟨q1r, q1s⟩, q1h, h⟩ := x_bind h
  try dsimp only at h
  refine z_callV E [.int _, .int _, .int _, .int _] [] dX8_hand_31 K_RX8_222 ⟨Nat.le_of_ble_eq_true rfl, Nat.le_of_ble_eq_true rfl⟩ sh_0 (by decide) rfl (c_RH_set_0 E _ _ _ _ q1h) rfl rfl (Nat.le_of_ble_eq_true rfl) 34 rfl [.int _] rfl ?_
  refine x_pop 35 rfl dX8_hand_34 rfl ?_
  refine x_iload_n 36 rfl 2 dX8_hand_35 rfl rfl ?_
  cases h
  exact x_zret (Or.inl rfl) dX8_hand_36 rfl rfl rfl
set_option maxHeartbeats 4000000 in
set_option maxRecDepth 100000 in
theorem j_RH_hand_0_J20 {l : Launch} {s0 : State} {a0 : Array Value} {D : va_G} {cA : Nat → ClassId} {sp : Nat → Nat} (E : x_En CL l s0 a0 D cA sp) (v1 : Int32) (σ : xS) {r : Int32} {σ1 : xS} (h : f_RH_hand_0_J20 v1 σ = some (r, σ1)) : zW l s0 D cA sp (zQ s0 D cA sp (some (.int r)) σ1) (x_rm 3 0 0) M_RH_hand 0 0 20 [some (.ref 0), some (.int v1), none] [] σ := by
  unfold f_RH_hand_0_J20 at h
  try dsimp only at h
  refine x_iconst 21 rfl (v := 1) dX8_hand_20 (by decide) ?_
  refine x_goto 25 dX8_hand_21 (by decide) ?_
  refine x_istore_n 26 rfl 2 dX8_hand_25 rfl (by decide) [some (.ref 0), some (.int _), some (.int _)] rfl ?_
  refine x_aload_n 27 rfl 0 dX8_hand_26 rfl rfl ?_
  refine x_iconst 28 rfl (v := 4) dX8_hand_27 (by decide) ?_
  refine x_iload_n 29 rfl 1 dX8_hand_28 rfl rfl ?_
  refine x_iload_n 30 rfl 2 dX8_hand_29 rfl rfl ?_
  refine x_iconst 31 rfl (v := -1) dX8_hand_30 (by decide) ?_
  obtain ⟨⟨q2r, q2s⟩, q2h, h⟩ := x_bind h
  try dsimp only at h
  refine z_callV E [.int _, .int _, .int _, .int _] [] dX8_hand_31 K_RX8_222 ⟨Nat.le_of_ble_eq_true rfl, Nat.le_of_ble_eq_true rfl⟩ sh_0 (by decide) rfl (c_RH_set_0 E _ _ _ _ q2h) rfl rfl (Nat.le_of_ble_eq_true rfl) 34 rfl [.int _] rfl ?_
  refine x_pop 35 rfl dX8_hand_34 rfl ?_
  refine x_iload_n 36 rfl 2 dX8_hand_35 rfl rfl ?_
  cases h
  exact x_zret (Or.inr rfl) dX8_hand_36 rfl rfl rfl
set_option maxHeartbeats 4000000 in
set_option maxRecDepth 100000 in
theorem c_RH_hand_0 {l : Launch} {s0 : State} {a0 : Array Value} {D : va_G} {cA : Nat → ClassId} {sp : Nat → Nat} (E : x_En CL l s0 a0 D cA sp) (v1 : Int32) {σ : xS} {r : Int32} {σ1 : xS} (h : f_RH_hand_0 v1 σ = some (r, σ1)) : zC l s0 D cA sp 3 M_RH_hand [.ref 0, .int v1] σ (some (.int r)) σ1 := by
  unfold f_RH_hand_0 at h
  try dsimp only at h
  refine x_enter [some (.ref 0), some (.int v1), none] rfl (Nat.le_of_ble_eq_true rfl) (by decide +kernel) rfl ?_
  refine x_iload_n 1 rfl 1 dX8_hand_0 rfl rfl ?_
  refine x_iconst 2 rfl (v := -1) dX8_hand_1 (by decide) ?_
  refine x_icmp_eq 5 rfl 20 dX8_hand_2 (by decide) (fun hc => ?_) (fun hc => ?_)
  · replace h := x_ifT hc h
    exact x_wk (x_le_s (x_le_s (x_le_n x_le_0))) (j_RH_hand_0_J20 E _ _ h)
  · replace h := x_ifF hc h
    refine x_iload_n 6 rfl 1 dX8_hand_5 rfl rfl ?_
    refine x_if_lt 9 rfl 24 dX8_hand_6 (by decide) (fun hc => ?_) (fun hc => ?_)
    · replace h := x_ifT hc h
      exact x_wk (x_le_s (x_le_s (x_le_n x_le_0))) (j_RH_hand_0_J24 E _ _ h)
    · replace h := x_ifF hc h
      refine x_iload_n 10 rfl 1 dX8_hand_9 rfl rfl ?_
      refine x_aload_n 11 rfl 0 dX8_hand_10 rfl rfl ?_
      refine x_getR E dX8_hand_11 F_RX8_27 sh_0 rf_0_3 14 rfl ?_
      refine x_getI E dX8_hand_14 F_RX8_115 sh_7 17 rfl ?_
      refine x_icmp_ge 20 rfl 24 dX8_hand_17 (by decide) (fun hc => ?_) (fun hc => ?_)
      · replace h := x_ifT hc h
        exact x_wk (x_le_s (x_le_s (x_le_n x_le_0))) (j_RH_hand_0_J24 E _ _ h)
      · replace h := x_ifF hc h
        exact x_wk (x_le_s (x_le_s (x_le_n x_le_0))) (j_RH_hand_0_J20 E _ _ h)
abbrev M_RH_behind : xM := (yX8_behind, cX8_behind, 2, some .int, [])
theorem dX8_behind_0 : decode cX8_behind 0 = .ok (.aload_n 0, 1) := by decide +kernel
theorem dX8_behind_1 : decode cX8_behind 1 = .ok (.iconst 5, 1) := by decide +kernel
theorem dX8_behind_2 : decode cX8_behind 2 = .ok (.iload_n 1, 1) := by decide +kernel
theorem dX8_behind_3 : decode cX8_behind 3 = .ok (.iload_n 1, 1) := by decide +kernel
theorem dX8_behind_4 : decode cX8_behind 4 = .ok (.ifCond .lt 14, 3) := by decide +kernel
theorem dX8_behind_7 : decode cX8_behind 7 = .ok (.iload_n 1, 1) := by decide +kernel
theorem dX8_behind_8 : decode cX8_behind 8 = .ok (.sipush 200, 3) := by decide +kernel
theorem dX8_behind_11 : decode cX8_behind 11 = .ok (.if_icmp .gt 7, 3) := by decide +kernel
theorem dX8_behind_14 : decode cX8_behind 14 = .ok (.iconst 1, 1) := by decide +kernel
theorem dX8_behind_15 : decode cX8_behind 15 = .ok (.goto 4, 3) := by decide +kernel
theorem dX8_behind_18 : decode cX8_behind 18 = .ok (.iconst 0, 1) := by decide +kernel
theorem dX8_behind_19 : decode cX8_behind 19 = .ok (.iconst (-1), 1) := by decide +kernel
theorem dX8_behind_20 : decode cX8_behind 20 = .ok (.invokevirtual 222, 3) := by decide +kernel
theorem dX8_behind_23 : decode cX8_behind 23 = .ok (.ireturn, 1) := by decide +kernel
def f_RH_behind_0 (v1 : Int32) (σ : xS) : Option (Int32 × xS) :=
  if v1 < 0 then
    (f_RH_set_0 (5 : Int32) v1 (0 : Int32) (-1 : Int32) σ).bind fun q1 =>
    some (q1.1, q1.2)
  else
    if (200 : Int32) < v1 then
      (f_RH_set_0 (5 : Int32) v1 (0 : Int32) (-1 : Int32) σ).bind fun q2 =>
      some (q2.1, q2.2)
    else
      (f_RH_set_0 (5 : Int32) v1 (1 : Int32) (-1 : Int32) σ).bind fun q3 =>
      some (q3.1, q3.2)
set_option maxHeartbeats 4000000 in
set_option maxRecDepth 100000 in
theorem c_RH_behind_0 {l : Launch} {s0 : State} {a0 : Array Value} {D : va_G} {cA : Nat → ClassId} {sp : Nat → Nat} (E : x_En CL l s0 a0 D cA sp) (v1 : Int32) {σ : xS} {r : Int32} {σ1 : xS} (h : f_RH_behind_0 v1 σ = some (r, σ1)) : zC l s0 D cA sp 3 M_RH_behind [.ref 0, .int v1] σ (some (.int r)) σ1 := by
  unfold f_RH_behind_0 at h
  try dsimp only at h
  refine x_enter [some (.ref 0), some (.int v1)] rfl (Nat.le_of_ble_eq_true rfl) (by decide +kernel) rfl ?_
  refine x_aload_n 1 rfl 0 dX8_behind_0 rfl rfl ?_
  refine x_iconst 2 rfl (v := 5) dX8_behind_1 (by decide) ?_
  refine x_iload_n 3 rfl 1 dX8_behind_2 rfl rfl ?_
  refine x_iload_n 4 rfl 1 dX8_behind_3 rfl rfl ?_
  refine x_if_lt 7 rfl 18 dX8_behind_4 (by decide) (fun hc => ?_) (fun hc => ?_)
  · replace h := x_ifT hc h
    refine x_iconst 19 rfl (v := 0) dX8_behind_18 (by decide) ?_
    refine x_iconst 20 rfl (v := -1) dX8_behind_19 (by decide) ?_
    obtain ⟨⟨q1r, q1s⟩, q1h, h⟩ := x_bind h
    try dsimp only at h
    refine z_callV E [.int _, .int _, .int _, .int _] [] dX8_behind_20 K_RX8_222 ⟨Nat.le_of_ble_eq_true rfl, Nat.le_of_ble_eq_true rfl⟩ sh_0 (by decide) rfl (c_RH_set_0 E _ _ _ _ q1h) rfl rfl (Nat.le_of_ble_eq_true rfl) 23 rfl [.int _] rfl ?_
    cases h
    exact x_iret dX8_behind_23 rfl rfl rfl
  · replace h := x_ifF hc h
    refine x_iload_n 8 rfl 1 dX8_behind_7 rfl rfl ?_
    refine x_sipush 11 rfl (v := 200) dX8_behind_8 (by decide) ?_
    refine x_icmp_gt 14 rfl 18 dX8_behind_11 (by decide) (fun hc => ?_) (fun hc => ?_)
    · replace h := x_ifT hc h
      refine x_iconst 19 rfl (v := 0) dX8_behind_18 (by decide) ?_
      refine x_iconst 20 rfl (v := -1) dX8_behind_19 (by decide) ?_
      obtain ⟨⟨q2r, q2s⟩, q2h, h⟩ := x_bind h
      try dsimp only at h
      refine z_callV E [.int _, .int _, .int _, .int _] [] dX8_behind_20 K_RX8_222 ⟨Nat.le_of_ble_eq_true rfl, Nat.le_of_ble_eq_true rfl⟩ sh_0 (by decide) rfl (c_RH_set_0 E _ _ _ _ q2h) rfl rfl (Nat.le_of_ble_eq_true rfl) 23 rfl [.int _] rfl ?_
      cases h
      exact x_iret dX8_behind_23 rfl rfl rfl
    · replace h := x_ifF hc h
      refine x_iconst 15 rfl (v := 1) dX8_behind_14 (by decide) ?_
      refine x_goto 19 dX8_behind_15 (by decide) ?_
      refine x_iconst 20 rfl (v := -1) dX8_behind_19 (by decide) ?_
      obtain ⟨⟨q3r, q3s⟩, q3h, h⟩ := x_bind h
      try dsimp only at h
      refine z_callV E [.int _, .int _, .int _, .int _] [] dX8_behind_20 K_RX8_222 ⟨Nat.le_of_ble_eq_true rfl, Nat.le_of_ble_eq_true rfl⟩ sh_0 (by decide) rfl (c_RH_set_0 E _ _ _ _ q3h) rfl rfl (Nat.le_of_ble_eq_true rfl) 23 rfl [.int _] rfl ?_
      cases h
      exact x_iret dX8_behind_23 rfl rfl rfl
def f_RH_isNearMark_36_L4 (v1 : Int32) (v2 : Int32) (v3 : Int32) (a : Int32 × xS) : Option (((Int32 × xS) ⊕ (Int32 × xS)) ⊕ (Int32 × xS)) :=
  let v4 := a.1; let σ := a.2;
  if ((6 : Int32) + v1) ≤ v4 then
    some (.inl (.inr (v4, σ)))
  else
    if (Int32.ofNat 12) ≤ v4 then
      some (.inl (.inr (v4, σ)))
    else
      if v4 < 0 ∨ 12 ≤ v4.toNatClampNeg then none else
      if v3 < (if 0 ≤ (σ.1 36 v4.toNatClampNeg - v2) then (σ.1 36 v4.toNatClampNeg - v2) else 0 - (σ.1 36 v4.toNatClampNeg - v2)) then
        let w1 := v4 + (1 : Int32)
        some (.inr (w1, σ))
      else
        some (.inl (.inl ((1 : Int32), σ)))
def f_RH_isNearMark_36 (v1 : Int32) (v2 : Int32) (v3 : Int32) (σ : xS) : Option (Int32 × xS) :=
  (x_it (f_RH_isNearMark_36_L4 v1 v2 v3) 10000 ((6 : Int32), σ)).bind fun b2 =>
  match b2 with
  | .inl b2r => some b2r
  | .inr b2e =>
    some ((0 : Int32), b2e.2)
set_option maxHeartbeats 4000000 in
set_option maxRecDepth 100000 in
theorem b_RH_isNearMark_36_L4 {l : Launch} {s0 : State} {a0 : Array Value} {D : va_G} {cA : Nat → ClassId} {sp : Nat → Nat} (E : x_En CL l s0 a0 D cA sp) (v1 : Int32) (v2 : Int32) (v3 : Int32) {r : Int32} {σ1 : xS} (a : Int32 × xS) (o : ((Int32 × xS) ⊕ (Int32 × xS)) ⊕ (Int32 × xS)) (h : f_RH_isNearMark_36_L4 v1 v2 v3 a = some o) (hK : ∀ b, o = .inl b → (∀ q, b = .inl q → q = (r, σ1)) ∧ ∀ e, b = .inr e → zW l s0 D cA sp (zQ s0 D cA sp (some (.int r)) σ1) (x_rm 0 0 0) M_RH_isNearMark 0 0 41 [none, none, none, none, none] [] e.2) (hG : ∀ a', o = .inr a' → zW l s0 D cA sp (zQ s0 D cA sp (some (.int r)) σ1) (x_rm 0 0 0) M_RH_isNearMark 0 0 4 [some (.ref 36), some (.int v1), some (.int v2), some (.int v3), some (.int a'.1)] [] a'.2) : zW l s0 D cA sp (zQ s0 D cA sp (some (.int r)) σ1) (x_rm 0 0 0) M_RH_isNearMark 0 0 4 [some (.ref 36), some (.int v1), some (.int v2), some (.int v3), some (.int a.1)] [] a.2 := by
  obtain ⟨v4, σ⟩ := a
  unfold f_RH_isNearMark_36_L4 at h
  try dsimp only at h ⊢
  refine x_iload 6 rfl dX8_isNearMark_4 rfl ?_
  refine x_bipush 8 rfl (v := 6) dX8_isNearMark_6 (by decide) ?_
  refine x_iload_n 9 rfl 1 dX8_isNearMark_8 rfl rfl ?_
  refine x_iadd 10 rfl dX8_isNearMark_9 ?_
  refine x_icmp_ge 13 rfl 41 dX8_isNearMark_10 (by decide) (fun hc => ?_) (fun hc => ?_)
  · replace h := x_ifT hc h
    cases h
    exact x_wk (x_le_n (x_le_n (x_le_n (x_le_n (x_le_n x_le_0))))) ((hK (.inr (_, _)) rfl).2 (_, _) rfl)
  · replace h := x_ifF hc h
    refine x_iload 15 rfl dX8_isNearMark_13 rfl ?_
    refine x_aload_n 16 rfl 0 dX8_isNearMark_15 rfl rfl ?_
    refine x_alen E dX8_isNearMark_16 sh_36 17 rfl ?_
    refine x_icmp_ge 20 rfl 41 dX8_isNearMark_17 (by decide) (fun hc => ?_) (fun hc => ?_)
    · replace h := x_ifT hc h
      cases h
      exact x_wk (x_le_n (x_le_n (x_le_n (x_le_n (x_le_n x_le_0))))) ((hK (.inr (_, _)) rfl).2 (_, _) rfl)
    · replace h := x_ifF hc h
      refine x_aload_n 21 rfl 0 dX8_isNearMark_20 rfl rfl ?_
      refine x_iload 23 rfl dX8_isNearMark_21 rfl ?_
      obtain ⟨hz, h⟩ := x_ifn h
      refine x_iald E dX8_isNearMark_23 sh_36 _ rfl hz 24 rfl ?_
      refine x_iload_n 25 rfl 2 dX8_isNearMark_24 rfl rfl ?_
      refine x_isub 26 rfl dX8_isNearMark_25 ?_
      refine x_mabs E dX8_isNearMark_26 K_RX8_256 (Nat.le_of_ble_eq_true rfl) (Nat.le_of_ble_eq_true rfl) 29 rfl ?_
      refine x_iload_n 30 rfl 3 dX8_isNearMark_29 rfl rfl ?_
      refine x_icmp_gt 33 rfl 35 dX8_isNearMark_30 (by decide) (fun hc => ?_) (fun hc => ?_)
      · replace h := x_ifT hc h
        refine x_iinc 38 rfl (1) dX8_isNearMark_35 rfl (by decide) (by decide) [some (.ref 36), some (.int _), some (.int _), some (.int _), some (.int _)] rfl ?_
        refine x_goto 4 dX8_isNearMark_38 (by decide) ?_
        cases h
        exact x_wk (x_le_s (x_le_s (x_le_s (x_le_s (x_le_s x_le_0))))) (hG (_, _) rfl)
      · replace h := x_ifF hc h
        refine x_iconst 34 rfl (v := 1) dX8_isNearMark_33 (by decide) ?_
        cases h
        cases (hK (.inl (_, _)) rfl).1 (_, _) rfl
        exact x_zret (Or.inr rfl) dX8_isNearMark_34 rfl rfl rfl
set_option maxHeartbeats 4000000 in
set_option maxRecDepth 100000 in
theorem c_RH_isNearMark_36 {l : Launch} {s0 : State} {a0 : Array Value} {D : va_G} {cA : Nat → ClassId} {sp : Nat → Nat} (E : x_En CL l s0 a0 D cA sp) (v1 : Int32) (v2 : Int32) (v3 : Int32) {σ : xS} {r : Int32} {σ1 : xS} (h : f_RH_isNearMark_36 v1 v2 v3 σ = some (r, σ1)) : zC l s0 D cA sp 0 M_RH_isNearMark [.ref 36, .int v1, .int v2, .int v3] σ (some (.int r)) σ1 := by
  unfold f_RH_isNearMark_36 at h
  try dsimp only at h
  refine x_enter [some (.ref 36), some (.int v1), some (.int v2), some (.int v3), none] rfl (Nat.le_of_ble_eq_true rfl) (by decide +kernel) rfl ?_
  refine x_bipush 2 rfl (v := 6) dX8_isNearMark_0 (by decide) ?_
  refine x_istore 4 rfl dX8_isNearMark_2 (by decide) [some (.ref 36), some (.int _), some (.int _), some (.int _), some (.int _)] rfl ?_
  obtain ⟨b2, b2h, h⟩ := x_bind h
  try dsimp only at h
  refine x_wk (x_le_s (x_le_s (x_le_s (x_le_s (x_le_s x_le_0))))) (x_loop (fun a o h hK hG => b_RH_isNearMark_36_L4 (r := r) (σ1 := σ1) E _ _ _ a o h hK hG) _ _ _ b2h ?_)
  cases b2 with
  | inl b2r =>
    try dsimp only at h
    cases h
    exact ⟨fun q e => (by cases e; rfl), fun e he => (by cases he)⟩
  | inr b2e =>
    try dsimp only at h
    refine ⟨fun q e => (by cases e), fun e he => ?_⟩
    cases he
    refine x_iconst 42 rfl (v := 0) dX8_isNearMark_41 (by decide) ?_
    cases h
    exact x_zret (Or.inl rfl) dX8_isNearMark_42 rfl rfl rfl
theorem K_RX8_226 : x_KS RX8 226 M_RH_isNearMark 4 := ⟨⟨(List.mem_append_right _ (List.mem_of_getElem? (i := 988) (by decide +kernel))), (List.mem_append_right _ (List.mem_of_getElem? (i := 485) (by decide +kernel))), (List.mem_append_right _ (List.mem_of_getElem? (i := 1) (by decide +kernel))), ⟨by decide +kernel, by decide +kernel⟩, by decide +kernel⟩, (List.mem_append_right _ (List.mem_of_getElem? (i := 484) (by decide +kernel)))⟩
abbrev M_RH_chalk : xM := (yX8_chalk, cX8_chalk, 4, some .int, [])
theorem dX8_chalk_0 : decode cX8_chalk 0 = .ok (.aload_n 0, 1) := by decide +kernel
theorem dX8_chalk_1 : decode cX8_chalk 1 = .ok (.iload_n 1, 1) := by decide +kernel
theorem dX8_chalk_2 : decode cX8_chalk 2 = .ok (.invokevirtual 135, 3) := by decide +kernel
theorem dX8_chalk_5 : decode cX8_chalk 5 = .ok (.ifCond .ne 13, 3) := by decide +kernel
theorem dX8_chalk_8 : decode cX8_chalk 8 = .ok (.new 130, 3) := by decide +kernel
theorem dX8_chalk_11 : decode cX8_chalk 11 = .ok (.dup, 1) := by decide +kernel
theorem dX8_chalk_12 : decode cX8_chalk 12 = .ok (.ldc 139, 2) := by decide +kernel
theorem dX8_chalk_14 : decode cX8_chalk 14 = .ok (.invokespecial 134, 3) := by decide +kernel
theorem dX8_chalk_17 : decode cX8_chalk 17 = .ok (.athrow, 1) := by decide +kernel
theorem dX8_chalk_18 : decode cX8_chalk 18 = .ok (.iload_n 2, 1) := by decide +kernel
theorem dX8_chalk_19 : decode cX8_chalk 19 = .ok (.invokestatic 154, 3) := by decide +kernel
theorem dX8_chalk_22 : decode cX8_chalk 22 = .ok (.ifCond .eq 29, 3) := by decide +kernel
theorem dX8_chalk_25 : decode cX8_chalk 25 = .ok (.aload_n 0, 1) := by decide +kernel
theorem dX8_chalk_26 : decode cX8_chalk 26 = .ok (.getfield 37, 3) := by decide +kernel
theorem dX8_chalk_29 : decode cX8_chalk 29 = .ok (.getfield 118, 3) := by decide +kernel
theorem dX8_chalk_32 : decode cX8_chalk 32 = .ok (.aload_n 0, 1) := by decide +kernel
theorem dX8_chalk_33 : decode cX8_chalk 33 = .ok (.getfield 27, 3) := by decide +kernel
theorem dX8_chalk_36 : decode cX8_chalk 36 = .ok (.getfield 112, 3) := by decide +kernel
theorem dX8_chalk_39 : decode cX8_chalk 39 = .ok (.iload_n 2, 1) := by decide +kernel
theorem dX8_chalk_40 : decode cX8_chalk 40 = .ok (.iconst 0, 1) := by decide +kernel
theorem dX8_chalk_41 : decode cX8_chalk 41 = .ok (.invokestatic 226, 3) := by decide +kernel
theorem dX8_chalk_44 : decode cX8_chalk 44 = .ok (.ifCond .ne 7, 3) := by decide +kernel
theorem dX8_chalk_47 : decode cX8_chalk 47 = .ok (.iconst 1, 1) := by decide +kernel
theorem dX8_chalk_48 : decode cX8_chalk 48 = .ok (.goto 4, 3) := by decide +kernel
theorem dX8_chalk_51 : decode cX8_chalk 51 = .ok (.iconst 0, 1) := by decide +kernel
theorem dX8_chalk_52 : decode cX8_chalk 52 = .ok (.istore_n 3, 1) := by decide +kernel
theorem dX8_chalk_53 : decode cX8_chalk 53 = .ok (.aload_n 0, 1) := by decide +kernel
theorem dX8_chalk_54 : decode cX8_chalk 54 = .ok (.bipush 6, 2) := by decide +kernel
theorem dX8_chalk_56 : decode cX8_chalk 56 = .ok (.iload_n 1, 1) := by decide +kernel
theorem dX8_chalk_57 : decode cX8_chalk 57 = .ok (.iadd, 1) := by decide +kernel
theorem dX8_chalk_58 : decode cX8_chalk 58 = .ok (.iload_n 2, 1) := by decide +kernel
theorem dX8_chalk_59 : decode cX8_chalk 59 = .ok (.iload_n 3, 1) := by decide +kernel
theorem dX8_chalk_60 : decode cX8_chalk 60 = .ok (.iconst (-1), 1) := by decide +kernel
theorem dX8_chalk_61 : decode cX8_chalk 61 = .ok (.invokevirtual 222, 3) := by decide +kernel
theorem dX8_chalk_64 : decode cX8_chalk 64 = .ok (.ireturn, 1) := by decide +kernel
def f_RH_chalk_0_J51 (v1 : Int32) (v2 : Int32) (σ : xS) : Option ((Int32 ⊕ Nat) × xS) :=
  (f_RH_set_0 ((6 : Int32) + v1) v2 (0 : Int32) (-1 : Int32) σ).bind fun q1 =>
  some (.inl q1.1, q1.2)
def f_RH_chalk_0 (v1 : Int32) (v2 : Int32) (σ : xS) : Option ((Int32 ⊕ Nat) × xS) :=
  (f_RH_isMark_0 v1 σ).bind fun q2 =>
  if q2.1 = 0 then
    some (.inr 2, q2.2)
  else
    (f_RH_isInches v2 q2.2).bind fun q3 =>
    if q3.1 = 0 then
      f_RH_chalk_0_J51 v1 v2 q3.2
    else
      (f_RH_isNearMark_36 (q3.2.1 7 8) v2 (0 : Int32) q3.2).bind fun q4 =>
      if q4.1 = 0 then
        (f_RH_set_0 ((6 : Int32) + v1) v2 (1 : Int32) (-1 : Int32) q4.2).bind fun q5 =>
        some (.inl q5.1, q5.2)
      else
        f_RH_chalk_0_J51 v1 v2 q4.2
set_option maxHeartbeats 4000000 in
set_option maxRecDepth 100000 in
theorem j_RH_chalk_0_J51 {l : Launch} {s0 : State} {a0 : Array Value} {D : va_G} {cA : Nat → ClassId} {sp : Nat → Nat} (E : x_En CL l s0 a0 D cA sp) (v1 : Int32) (v2 : Int32) (σ : xS) {r : Int32 ⊕ Nat} {σ1 : xS} (h : f_RH_chalk_0_J51 v1 v2 σ = some (r, σ1)) : zW l s0 D cA sp (oQ s0 D cA sp (x_oi r) σ1) (x_rm 3 1 6) M_RH_chalk 1 6 51 [some (.ref 0), some (.int v1), some (.int v2), none] [] σ := by
  unfold f_RH_chalk_0_J51 at h
  try dsimp only at h
  refine x_iconst 52 rfl (v := 0) dX8_chalk_51 (by decide) ?_
  refine x_istore_n 53 rfl 3 dX8_chalk_52 rfl (by decide) [some (.ref 0), some (.int _), some (.int _), some (.int _)] rfl ?_
  refine x_aload_n 54 rfl 0 dX8_chalk_53 rfl rfl ?_
  refine x_bipush 56 rfl (v := 6) dX8_chalk_54 (by decide) ?_
  refine x_iload_n 57 rfl 1 dX8_chalk_56 rfl rfl ?_
  refine x_iadd 58 rfl dX8_chalk_57 ?_
  refine x_iload_n 59 rfl 2 dX8_chalk_58 rfl rfl ?_
  refine x_iload_n 60 rfl 3 dX8_chalk_59 rfl rfl ?_
  refine x_iconst 61 rfl (v := -1) dX8_chalk_60 (by decide) ?_
  obtain ⟨⟨q1r, q1s⟩, q1h, h⟩ := x_bind h
  try dsimp only at h
  refine z_callV E [.int _, .int _, .int _, .int _] [] dX8_chalk_61 K_RX8_222 ⟨Nat.le_of_ble_eq_true rfl, Nat.le_of_ble_eq_true rfl⟩ sh_0 (by decide) rfl (c_RH_set_0 E _ _ _ _ q1h) rfl rfl (Nat.le_of_ble_eq_true rfl) 64 rfl [.int _] rfl ?_
  cases h
  exact x_Oret (x_iret dX8_chalk_64 rfl rfl rfl)
set_option maxHeartbeats 4000000 in
set_option maxRecDepth 100000 in
theorem c_RH_chalk_0 {l : Launch} {s0 : State} {a0 : Array Value} {D : va_G} {cA : Nat → ClassId} {sp : Nat → Nat} (E : x_En CL l s0 a0 D cA sp) (v1 : Int32) (v2 : Int32) {σ : xS} {r : Int32 ⊕ Nat} {σ1 : xS} (h : f_RH_chalk_0 v1 v2 σ = some (r, σ1)) : oC l s0 D cA sp 3 M_RH_chalk [.ref 0, .int v1, .int v2] σ (x_oi r) σ1 := by
  unfold f_RH_chalk_0 at h
  try dsimp only at h
  refine x_enterO [some (.ref 0), some (.int v1), some (.int v2), none] rfl (Nat.le_of_ble_eq_true rfl) (by decide +kernel) rfl ?_
  refine x_aload_n 1 rfl 0 dX8_chalk_0 rfl rfl ?_
  refine x_iload_n 2 rfl 1 dX8_chalk_1 rfl rfl ?_
  obtain ⟨⟨q2r, q2s⟩, q2h, h⟩ := x_bind h
  try dsimp only at h
  refine z_callV E [.int _] [] dX8_chalk_2 K_RX8_135 ⟨Nat.le_of_ble_eq_true rfl, Nat.le_of_ble_eq_true rfl⟩ sh_0 (by decide) rfl (c_RH_isMark_0 E _ q2h) rfl rfl (Nat.le_of_ble_eq_true rfl) 5 rfl [.int _] rfl ?_
  refine x_if_ne 8 rfl 18 dX8_chalk_5 (by decide) (fun hc => ?_) (fun hc => ?_)
  · replace h := x_ifF hc h
    refine x_iload_n 19 rfl 2 dX8_chalk_18 rfl rfl ?_
    obtain ⟨⟨q3r, q3s⟩, q3h, h⟩ := x_bind h
    try dsimp only at h
    refine z_callS E [.int _] [] dX8_chalk_19 K_RX8_154 ⟨Nat.le_of_ble_eq_true rfl, Nat.le_of_ble_eq_true rfl⟩ (c_RH_isInches E _ q3h) rfl rfl (Nat.le_of_ble_eq_true rfl) 22 rfl [.int _] rfl ?_
    refine x_if_eq 25 rfl 51 dX8_chalk_22 (by decide) (fun hc => ?_) (fun hc => ?_)
    · replace h := x_ifT hc h
      exact x_wk (x_le_s (x_le_s (x_le_s (x_le_n x_le_0)))) (j_RH_chalk_0_J51 E _ _ _ h)
    · replace h := x_ifF hc h
      refine x_aload_n 26 rfl 0 dX8_chalk_25 rfl rfl ?_
      refine x_getR E dX8_chalk_26 F_RX8_37 sh_0 rf_0_5 29 rfl ?_
      refine x_getR E dX8_chalk_29 F_RX8_118 sh_35 rf_35_0 32 rfl ?_
      refine x_aload_n 33 rfl 0 dX8_chalk_32 rfl rfl ?_
      refine x_getR E dX8_chalk_33 F_RX8_27 sh_0 rf_0_3 36 rfl ?_
      refine x_getI E dX8_chalk_36 F_RX8_112 sh_7 39 rfl ?_
      refine x_iload_n 40 rfl 2 dX8_chalk_39 rfl rfl ?_
      refine x_iconst 41 rfl (v := 0) dX8_chalk_40 (by decide) ?_
      obtain ⟨⟨q4r, q4s⟩, q4h, h⟩ := x_bind h
      try dsimp only at h
      refine z_callS E [.ref 36, .int _, .int _, .int _] [] dX8_chalk_41 K_RX8_226 ⟨Nat.le_of_ble_eq_true rfl, Nat.le_of_ble_eq_true rfl⟩ (c_RH_isNearMark_36 E _ _ _ q4h) rfl rfl (Nat.le_of_ble_eq_true rfl) 44 rfl [.int _] rfl ?_
      refine x_if_ne 47 rfl 51 dX8_chalk_44 (by decide) (fun hc => ?_) (fun hc => ?_)
      · replace h := x_ifF hc h
        exact x_wk (x_le_s (x_le_s (x_le_s (x_le_n x_le_0)))) (j_RH_chalk_0_J51 E _ _ _ h)
      · replace h := x_ifT hc h
        refine x_iconst 48 rfl (v := 1) dX8_chalk_47 (by decide) ?_
        refine x_goto 52 dX8_chalk_48 (by decide) ?_
        refine x_istore_n 53 rfl 3 dX8_chalk_52 rfl (by decide) [some (.ref 0), some (.int _), some (.int _), some (.int _)] rfl ?_
        refine x_aload_n 54 rfl 0 dX8_chalk_53 rfl rfl ?_
        refine x_bipush 56 rfl (v := 6) dX8_chalk_54 (by decide) ?_
        refine x_iload_n 57 rfl 1 dX8_chalk_56 rfl rfl ?_
        refine x_iadd 58 rfl dX8_chalk_57 ?_
        refine x_iload_n 59 rfl 2 dX8_chalk_58 rfl rfl ?_
        refine x_iload_n 60 rfl 3 dX8_chalk_59 rfl rfl ?_
        refine x_iconst 61 rfl (v := -1) dX8_chalk_60 (by decide) ?_
        obtain ⟨⟨q5r, q5s⟩, q5h, h⟩ := x_bind h
        try dsimp only at h
        refine z_callV E [.int _, .int _, .int _, .int _] [] dX8_chalk_61 K_RX8_222 ⟨Nat.le_of_ble_eq_true rfl, Nat.le_of_ble_eq_true rfl⟩ sh_0 (by decide) rfl (c_RH_set_0 E _ _ _ _ q5h) rfl rfl (Nat.le_of_ble_eq_true rfl) 64 rfl [.int _] rfl ?_
        cases h
        exact x_Oret (x_iret dX8_chalk_64 rfl rfl rfl)
  · replace h := x_ifT hc h
    cases h
    exact x_throwN E KU_ (k := 2) KX_RX8_139 rfl dX8_chalk_8 dX8_chalk_11 dX8_chalk_12 dX8_chalk_14 dX8_chalk_17 (Nat.le_of_ble_eq_true rfl)
abbrev M_Se_takeBack : xM := (yX5_takeBack, cX5_takeBack, 2, some .int, [])
theorem dX5_takeBack_0 : decode cX5_takeBack 0 = .ok (.aload_n 0, 1) := by decide +kernel
theorem dX5_takeBack_1 : decode cX5_takeBack 1 = .ok (.getfield 21, 3) := by decide +kernel
theorem dX5_takeBack_4 : decode cX5_takeBack 4 = .ok (.iconst 1, 1) := by decide +kernel
theorem dX5_takeBack_5 : decode cX5_takeBack 5 = .ok (.if_icmp .lt 12, 3) := by decide +kernel
theorem dX5_takeBack_8 : decode cX5_takeBack 8 = .ok (.aload_n 0, 1) := by decide +kernel
theorem dX5_takeBack_9 : decode cX5_takeBack 9 = .ok (.getfield 21, 3) := by decide +kernel
theorem dX5_takeBack_12 : decode cX5_takeBack 12 = .ok (.bipush 40, 2) := by decide +kernel
theorem dX5_takeBack_14 : decode cX5_takeBack 14 = .ok (.if_icmp .le 5, 3) := by decide +kernel
theorem dX5_takeBack_17 : decode cX5_takeBack 17 = .ok (.iconst (-1), 1) := by decide +kernel
theorem dX5_takeBack_18 : decode cX5_takeBack 18 = .ok (.ireturn, 1) := by decide +kernel
theorem dX5_takeBack_19 : decode cX5_takeBack 19 = .ok (.aload_n 0, 1) := by decide +kernel
theorem dX5_takeBack_20 : decode cX5_takeBack 20 = .ok (.dup, 1) := by decide +kernel
theorem dX5_takeBack_21 : decode cX5_takeBack 21 = .ok (.getfield 21, 3) := by decide +kernel
theorem dX5_takeBack_24 : decode cX5_takeBack 24 = .ok (.iconst 1, 1) := by decide +kernel
theorem dX5_takeBack_25 : decode cX5_takeBack 25 = .ok (.isub, 1) := by decide +kernel
theorem dX5_takeBack_26 : decode cX5_takeBack 26 = .ok (.putfield 21, 3) := by decide +kernel
theorem dX5_takeBack_29 : decode cX5_takeBack 29 = .ok (.aload_n 0, 1) := by decide +kernel
theorem dX5_takeBack_30 : decode cX5_takeBack 30 = .ok (.getfield 15, 3) := by decide +kernel
theorem dX5_takeBack_33 : decode cX5_takeBack 33 = .ok (.aload_n 0, 1) := by decide +kernel
theorem dX5_takeBack_34 : decode cX5_takeBack 34 = .ok (.getfield 21, 3) := by decide +kernel
theorem dX5_takeBack_37 : decode cX5_takeBack 37 = .ok (.iaload, 1) := by decide +kernel
theorem dX5_takeBack_38 : decode cX5_takeBack 38 = .ok (.istore_n 1, 1) := by decide +kernel
theorem dX5_takeBack_39 : decode cX5_takeBack 39 = .ok (.iload_n 1, 1) := by decide +kernel
theorem dX5_takeBack_40 : decode cX5_takeBack 40 = .ok (.ifCond .lt 24, 3) := by decide +kernel
theorem dX5_takeBack_43 : decode cX5_takeBack 43 = .ok (.iload_n 1, 1) := by decide +kernel
theorem dX5_takeBack_44 : decode cX5_takeBack 44 = .ok (.bipush 12, 2) := by decide +kernel
theorem dX5_takeBack_46 : decode cX5_takeBack 46 = .ok (.if_icmp .ge 18, 3) := by decide +kernel
theorem dX5_takeBack_49 : decode cX5_takeBack 49 = .ok (.aload_n 0, 1) := by decide +kernel
theorem dX5_takeBack_50 : decode cX5_takeBack 50 = .ok (.getfield 9, 3) := by decide +kernel
theorem dX5_takeBack_53 : decode cX5_takeBack 53 = .ok (.iload_n 1, 1) := by decide +kernel
theorem dX5_takeBack_54 : decode cX5_takeBack 54 = .ok (.aload_n 0, 1) := by decide +kernel
theorem dX5_takeBack_55 : decode cX5_takeBack 55 = .ok (.getfield 18, 3) := by decide +kernel
theorem dX5_takeBack_58 : decode cX5_takeBack 58 = .ok (.aload_n 0, 1) := by decide +kernel
theorem dX5_takeBack_59 : decode cX5_takeBack 59 = .ok (.getfield 21, 3) := by decide +kernel
theorem dX5_takeBack_62 : decode cX5_takeBack 62 = .ok (.iaload, 1) := by decide +kernel
theorem dX5_takeBack_63 : decode cX5_takeBack 63 = .ok (.iastore, 1) := by decide +kernel
theorem dX5_takeBack_64 : decode cX5_takeBack 64 = .ok (.aload_n 0, 1) := by decide +kernel
theorem dX5_takeBack_65 : decode cX5_takeBack 65 = .ok (.getfield 21, 3) := by decide +kernel
theorem dX5_takeBack_68 : decode cX5_takeBack 68 = .ok (.ireturn, 1) := by decide +kernel
def f_Se_takeBack_35  (σ : xS) : Option (Int32 × xS) :=
  if σ.1 35 3 < (1 : Int32) then
    some ((-1 : Int32), σ)
  else
    if σ.1 35 3 ≤ (40 : Int32) then
      let σ1 := x_pI σ 35 3 (σ.1 35 3 - (1 : Int32))
      if σ1.1 35 3 < 0 ∨ 40 ≤ (σ1.1 35 3).toNatClampNeg then none else
      let w2 := σ1.1 37 (σ1.1 35 3).toNatClampNeg
      if w2 < 0 then
        some (σ1.1 35 3, σ1)
      else
        if (12 : Int32) ≤ w2 then
          some (σ1.1 35 3, σ1)
        else
          if σ1.1 35 3 < 0 ∨ 40 ≤ (σ1.1 35 3).toNatClampNeg then none else
          if w2 < 0 ∨ 12 ≤ w2.toNatClampNeg then none else
          let σ3 := x_pI σ1 36 w2.toNatClampNeg (σ1.1 38 (σ1.1 35 3).toNatClampNeg)
          some (σ3.1 35 3, σ3)
    else
      some ((-1 : Int32), σ)
set_option maxHeartbeats 4000000 in
set_option maxRecDepth 100000 in
theorem c_Se_takeBack_35 {l : Launch} {s0 : State} {a0 : Array Value} {D : va_G} {cA : Nat → ClassId} {sp : Nat → Nat} (E : x_En CL l s0 a0 D cA sp)  {σ : xS} {r : Int32} {σ1 : xS} (h : f_Se_takeBack_35  σ = some (r, σ1)) : zC l s0 D cA sp 0 M_Se_takeBack [.ref 35] σ (some (.int r)) σ1 := by
  unfold f_Se_takeBack_35 at h
  try dsimp only at h
  refine x_enter [some (.ref 35), none] rfl (Nat.le_of_ble_eq_true rfl) (by decide +kernel) rfl ?_
  refine x_aload_n 1 rfl 0 dX5_takeBack_0 rfl rfl ?_
  refine x_getI E dX5_takeBack_1 F_RX5_21 sh_35 4 rfl ?_
  refine x_iconst 5 rfl (v := 1) dX5_takeBack_4 (by decide) ?_
  refine x_icmp_lt 8 rfl 17 dX5_takeBack_5 (by decide) (fun hc => ?_) (fun hc => ?_)
  · replace h := x_ifT hc h
    refine x_iconst 18 rfl (v := -1) dX5_takeBack_17 (by decide) ?_
    cases h
    exact x_iret dX5_takeBack_18 rfl rfl rfl
  · replace h := x_ifF hc h
    refine x_aload_n 9 rfl 0 dX5_takeBack_8 rfl rfl ?_
    refine x_getI E dX5_takeBack_9 F_RX5_21 sh_35 12 rfl ?_
    refine x_bipush 14 rfl (v := 40) dX5_takeBack_12 (by decide) ?_
    refine x_icmp_le 17 rfl 19 dX5_takeBack_14 (by decide) (fun hc => ?_) (fun hc => ?_)
    · replace h := x_ifT hc h
      refine x_aload_n 20 rfl 0 dX5_takeBack_19 rfl rfl ?_
      refine x_dup 21 rfl dX5_takeBack_20 rfl ?_
      refine x_getI E dX5_takeBack_21 F_RX5_21 sh_35 24 rfl ?_
      refine x_iconst 25 rfl (v := 1) dX5_takeBack_24 (by decide) ?_
      refine x_isub 26 rfl dX5_takeBack_25 ?_
      refine x_putI E dX5_takeBack_26 F_RX5_21 sh_35 29 rfl ?_
      refine x_aload_n 30 rfl 0 dX5_takeBack_29 rfl rfl ?_
      refine x_getR E dX5_takeBack_30 F_RX5_15 sh_35 rf_35_1 33 rfl ?_
      refine x_aload_n 34 rfl 0 dX5_takeBack_33 rfl rfl ?_
      refine x_getI E dX5_takeBack_34 F_RX5_21 sh_35 37 rfl ?_
      obtain ⟨hz, h⟩ := x_ifn h
      refine x_iald E dX5_takeBack_37 sh_37 _ rfl hz 38 rfl ?_
      refine x_istore_n 39 rfl 1 dX5_takeBack_38 rfl (by decide) [some (.ref 35), some (.int _)] rfl ?_
      refine x_iload_n 40 rfl 1 dX5_takeBack_39 rfl rfl ?_
      refine x_if_lt 43 rfl 64 dX5_takeBack_40 (by decide) (fun hc => ?_) (fun hc => ?_)
      · replace h := x_ifT hc h
        refine x_aload_n 65 rfl 0 dX5_takeBack_64 rfl rfl ?_
        refine x_getI E dX5_takeBack_65 F_RX5_21 sh_35 68 rfl ?_
        cases h
        exact x_iret dX5_takeBack_68 rfl rfl rfl
      · replace h := x_ifF hc h
        refine x_iload_n 44 rfl 1 dX5_takeBack_43 rfl rfl ?_
        refine x_bipush 46 rfl (v := 12) dX5_takeBack_44 (by decide) ?_
        refine x_icmp_ge 49 rfl 64 dX5_takeBack_46 (by decide) (fun hc => ?_) (fun hc => ?_)
        · replace h := x_ifT hc h
          refine x_aload_n 65 rfl 0 dX5_takeBack_64 rfl rfl ?_
          refine x_getI E dX5_takeBack_65 F_RX5_21 sh_35 68 rfl ?_
          cases h
          exact x_iret dX5_takeBack_68 rfl rfl rfl
        · replace h := x_ifF hc h
          refine x_aload_n 50 rfl 0 dX5_takeBack_49 rfl rfl ?_
          refine x_getR E dX5_takeBack_50 F_RX5_9 sh_35 rf_35_0 53 rfl ?_
          refine x_iload_n 54 rfl 1 dX5_takeBack_53 rfl rfl ?_
          refine x_aload_n 55 rfl 0 dX5_takeBack_54 rfl rfl ?_
          refine x_getR E dX5_takeBack_55 F_RX5_18 sh_35 rf_35_2 58 rfl ?_
          refine x_aload_n 59 rfl 0 dX5_takeBack_58 rfl rfl ?_
          refine x_getI E dX5_takeBack_59 F_RX5_21 sh_35 62 rfl ?_
          obtain ⟨hz, h⟩ := x_ifn h
          refine x_iald E dX5_takeBack_62 sh_38 _ rfl hz 63 rfl ?_
          obtain ⟨hz, h⟩ := x_ifn h
          refine x_iast E dX5_takeBack_63 sh_36 _ rfl hz 64 rfl ?_
          refine x_aload_n 65 rfl 0 dX5_takeBack_64 rfl rfl ?_
          refine x_getI E dX5_takeBack_65 F_RX5_21 sh_35 68 rfl ?_
          cases h
          exact x_iret dX5_takeBack_68 rfl rfl rfl
    · replace h := x_ifF hc h
      refine x_iconst 18 rfl (v := -1) dX5_takeBack_17 (by decide) ?_
      cases h
      exact x_iret dX5_takeBack_18 rfl rfl rfl
theorem K_RX8_233 : x_KV RX8 233 M_Se_takeBack 0 := ⟨⟨(List.mem_append_right _ (List.mem_of_getElem? (i := 403) (by decide +kernel))), (List.mem_append_right _ (List.mem_of_getElem? (i := 406) (by decide +kernel))), (List.mem_append_right _ (List.mem_of_getElem? (i := 5) (by decide +kernel))), ⟨by decide +kernel, by decide +kernel⟩, by decide +kernel⟩, (List.mem_append_right _ (List.mem_of_getElem? (i := 404) (by decide +kernel))), (List.mem_append_right _ (List.mem_of_getElem? (i := 405) (by decide +kernel)))⟩
abbrev M_RH_undo : xM := (yX8_undo, cX8_undo, 1, some .int, [])
theorem dX8_undo_0 : decode cX8_undo 0 = .ok (.aload_n 0, 1) := by decide +kernel
theorem dX8_undo_1 : decode cX8_undo 1 = .ok (.getfield 37, 3) := by decide +kernel
theorem dX8_undo_4 : decode cX8_undo 4 = .ok (.getfield 121, 3) := by decide +kernel
theorem dX8_undo_7 : decode cX8_undo 7 = .ok (.ifCond .ne 5, 3) := by decide +kernel
theorem dX8_undo_10 : decode cX8_undo 10 = .ok (.iconst (-1), 1) := by decide +kernel
theorem dX8_undo_11 : decode cX8_undo 11 = .ok (.ireturn, 1) := by decide +kernel
theorem dX8_undo_12 : decode cX8_undo 12 = .ok (.aload_n 0, 1) := by decide +kernel
theorem dX8_undo_13 : decode cX8_undo 13 = .ok (.iconst 0, 1) := by decide +kernel
theorem dX8_undo_14 : decode cX8_undo 14 = .ok (.putfield 55, 3) := by decide +kernel
theorem dX8_undo_17 : decode cX8_undo 17 = .ok (.aload_n 0, 1) := by decide +kernel
theorem dX8_undo_18 : decode cX8_undo 18 = .ok (.getfield 37, 3) := by decide +kernel
theorem dX8_undo_21 : decode cX8_undo 21 = .ok (.invokevirtual 233, 3) := by decide +kernel
theorem dX8_undo_24 : decode cX8_undo 24 = .ok (.ireturn, 1) := by decide +kernel
def f_RH_undo_0  (σ : xS) : Option (Int32 × xS) :=
  if σ.1 35 3 = 0 then
    some ((-1 : Int32), σ)
  else
    let σ1 := x_pI σ 0 9 (0 : Int32)
    (f_Se_takeBack_35  σ1).bind fun q2 =>
    some (q2.1, q2.2)
set_option maxHeartbeats 4000000 in
set_option maxRecDepth 100000 in
theorem c_RH_undo_0 {l : Launch} {s0 : State} {a0 : Array Value} {D : va_G} {cA : Nat → ClassId} {sp : Nat → Nat} (E : x_En CL l s0 a0 D cA sp)  {σ : xS} {r : Int32} {σ1 : xS} (h : f_RH_undo_0  σ = some (r, σ1)) : zC l s0 D cA sp 1 M_RH_undo [.ref 0] σ (some (.int r)) σ1 := by
  unfold f_RH_undo_0 at h
  try dsimp only at h
  refine x_enter [some (.ref 0)] rfl (Nat.le_of_ble_eq_true rfl) (by decide +kernel) rfl ?_
  refine x_aload_n 1 rfl 0 dX8_undo_0 rfl rfl ?_
  refine x_getR E dX8_undo_1 F_RX8_37 sh_0 rf_0_5 4 rfl ?_
  refine x_getI E dX8_undo_4 F_RX8_121 sh_35 7 rfl ?_
  refine x_if_ne 10 rfl 12 dX8_undo_7 (by decide) (fun hc => ?_) (fun hc => ?_)
  · replace h := x_ifF hc h
    refine x_aload_n 13 rfl 0 dX8_undo_12 rfl rfl ?_
    refine x_iconst 14 rfl (v := 0) dX8_undo_13 (by decide) ?_
    refine x_putZ E (Or.inl rfl) dX8_undo_14 F_RX8_55 sh_0 17 rfl ?_
    refine x_aload_n 18 rfl 0 dX8_undo_17 rfl rfl ?_
    refine x_getR E dX8_undo_18 F_RX8_37 sh_0 rf_0_5 21 rfl ?_
    obtain ⟨⟨q2r, q2s⟩, q2h, h⟩ := x_bind h
    try dsimp only at h
    refine z_callV E [] [] dX8_undo_21 K_RX8_233 ⟨Nat.le_of_ble_eq_true rfl, Nat.le_of_ble_eq_true rfl⟩ sh_35 (by decide) rfl (c_Se_takeBack_35 E  q2h) rfl rfl (Nat.le_of_ble_eq_true rfl) 24 rfl [.int _] rfl ?_
    cases h
    exact x_iret dX8_undo_24 rfl rfl rfl
  · replace h := x_ifT hc h
    refine x_iconst 11 rfl (v := -1) dX8_undo_10 (by decide) ?_
    cases h
    exact x_iret dX8_undo_11 rfl rfl rfl
