/-! The class's methods: functions and contracts. Written by wip/gen/emit.py. -/
theorem KX_RX8_236 : x_KN2 RX8 130 236 134 (x_Xn 2) "nothing such of the HANDS" := ⟨by decide +kernel, (List.mem_append_right _ (List.mem_of_getElem? (i := 881) (by decide +kernel))), (List.mem_append_right _ (List.mem_of_getElem? (i := 22) (by decide +kernel))), (List.mem_append_right _ (List.mem_of_getElem? (i := 996) (by decide +kernel))), (List.mem_of_getElem? (i := 586) (by decide +kernel)), AX_134, AO_130_134⟩
theorem K_RX8_238 : x_KV RX8 238 M_Tr_look 1 := ⟨⟨(List.mem_append_right _ (List.mem_of_getElem? (i := 518) (by decide +kernel))), (List.mem_append_right _ (List.mem_of_getElem? (i := 471) (by decide +kernel))), (List.mem_append_right _ (List.mem_of_getElem? (i := 6) (by decide +kernel))), ⟨by decide +kernel, by decide +kernel⟩, by decide +kernel⟩, (List.mem_append_right _ (List.mem_of_getElem? (i := 469) (by decide +kernel))), (List.mem_append_right _ (List.mem_of_getElem? (i := 470) (by decide +kernel)))⟩
theorem K_RX8_241 : x_KV RX8 241 M_Tr_follow 1 := ⟨⟨(List.mem_append_right _ (List.mem_of_getElem? (i := 519) (by decide +kernel))), (List.mem_append_right _ (List.mem_of_getElem? (i := 495) (by decide +kernel))), (List.mem_append_right _ (List.mem_of_getElem? (i := 6) (by decide +kernel))), ⟨by decide +kernel, by decide +kernel⟩, by decide +kernel⟩, (List.mem_append_right _ (List.mem_of_getElem? (i := 493) (by decide +kernel))), (List.mem_append_right _ (List.mem_of_getElem? (i := 494) (by decide +kernel)))⟩
abbrev M_RH_best : xM := (yX8_best, cX8_best, 9, some .int, [])
theorem dX8_best_0 : decode cX8_best 0 = .ok (.iload_n 1, 1) := by decide +kernel
theorem dX8_best_1 : decode cX8_best 1 = .ok (.ifCond .lt 8, 3) := by decide +kernel
theorem dX8_best_4 : decode cX8_best 4 = .ok (.iload_n 1, 1) := by decide +kernel
theorem dX8_best_5 : decode cX8_best 5 = .ok (.iconst 3, 1) := by decide +kernel
theorem dX8_best_6 : decode cX8_best 6 = .ok (.if_icmp .le 13, 3) := by decide +kernel
theorem dX8_best_9 : decode cX8_best 9 = .ok (.new 130, 3) := by decide +kernel
theorem dX8_best_12 : decode cX8_best 12 = .ok (.dup, 1) := by decide +kernel
theorem dX8_best_13 : decode cX8_best 13 = .ok (.ldc 236, 2) := by decide +kernel
theorem dX8_best_15 : decode cX8_best 15 = .ok (.invokespecial 134, 3) := by decide +kernel
theorem dX8_best_18 : decode cX8_best 18 = .ok (.athrow, 1) := by decide +kernel
theorem dX8_best_19 : decode cX8_best 19 = .ok (.iconst (-1), 1) := by decide +kernel
theorem dX8_best_20 : decode cX8_best 20 = .ok (.istore_n 2, 1) := by decide +kernel
theorem dX8_best_21 : decode cX8_best 21 = .ok (.iconst (-1), 1) := by decide +kernel
theorem dX8_best_22 : decode cX8_best 22 = .ok (.istore_n 3, 1) := by decide +kernel
theorem dX8_best_23 : decode cX8_best 23 = .ok (.iconst (-1), 1) := by decide +kernel
theorem dX8_best_24 : decode cX8_best 24 = .ok (.istore 4, 2) := by decide +kernel
theorem dX8_best_26 : decode cX8_best 26 = .ok (.iconst (-1), 1) := by decide +kernel
theorem dX8_best_27 : decode cX8_best 27 = .ok (.istore 5, 2) := by decide +kernel
theorem dX8_best_29 : decode cX8_best 29 = .ok (.aload_n 0, 1) := by decide +kernel
theorem dX8_best_30 : decode cX8_best 30 = .ok (.invokevirtual 187, 3) := by decide +kernel
theorem dX8_best_33 : decode cX8_best 33 = .ok (.aload_n 0, 1) := by decide +kernel
theorem dX8_best_34 : decode cX8_best 34 = .ok (.getfield 51, 3) := by decide +kernel
theorem dX8_best_37 : decode cX8_best 37 = .ok (.aload_n 0, 1) := by decide +kernel
theorem dX8_best_38 : decode cX8_best 38 = .ok (.getfield 27, 3) := by decide +kernel
theorem dX8_best_41 : decode cX8_best 41 = .ok (.invokevirtual 238, 3) := by decide +kernel
theorem dX8_best_44 : decode cX8_best 44 = .ok (.iconst 0, 1) := by decide +kernel
theorem dX8_best_45 : decode cX8_best 45 = .ok (.istore 6, 2) := by decide +kernel
theorem dX8_best_47 : decode cX8_best 47 = .ok (.iload 6, 2) := by decide +kernel
theorem dX8_best_49 : decode cX8_best 49 = .ok (.aload_n 0, 1) := by decide +kernel
theorem dX8_best_50 : decode cX8_best 50 = .ok (.getfield 27, 3) := by decide +kernel
theorem dX8_best_53 : decode cX8_best 53 = .ok (.getfield 115, 3) := by decide +kernel
theorem dX8_best_56 : decode cX8_best 56 = .ok (.if_icmp .ge 91, 3) := by decide +kernel
theorem dX8_best_59 : decode cX8_best 59 = .ok (.aload_n 0, 1) := by decide +kernel
theorem dX8_best_60 : decode cX8_best 60 = .ok (.getfield 51, 3) := by decide +kernel
theorem dX8_best_63 : decode cX8_best 63 = .ok (.getfield 196, 3) := by decide +kernel
theorem dX8_best_66 : decode cX8_best 66 = .ok (.iconst 4, 1) := by decide +kernel
theorem dX8_best_67 : decode cX8_best 67 = .ok (.iload 6, 2) := by decide +kernel
theorem dX8_best_69 : decode cX8_best 69 = .ok (.iastore, 1) := by decide +kernel
theorem dX8_best_70 : decode cX8_best 70 = .ok (.aload_n 0, 1) := by decide +kernel
theorem dX8_best_71 : decode cX8_best 71 = .ok (.getfield 51, 3) := by decide +kernel
theorem dX8_best_74 : decode cX8_best 74 = .ok (.aload_n 0, 1) := by decide +kernel
theorem dX8_best_75 : decode cX8_best 75 = .ok (.getfield 27, 3) := by decide +kernel
theorem dX8_best_78 : decode cX8_best 78 = .ok (.invokevirtual 241, 3) := by decide +kernel
theorem dX8_best_81 : decode cX8_best 81 = .ok (.aload_n 0, 1) := by decide +kernel
theorem dX8_best_82 : decode cX8_best 82 = .ok (.getfield 51, 3) := by decide +kernel
theorem dX8_best_85 : decode cX8_best 85 = .ok (.aload_n 0, 1) := by decide +kernel
theorem dX8_best_86 : decode cX8_best 86 = .ok (.getfield 51, 3) := by decide +kernel
theorem dX8_best_89 : decode cX8_best 89 = .ok (.getfield 196, 3) := by decide +kernel
theorem dX8_best_92 : decode cX8_best 92 = .ok (.iconst 0, 1) := by decide +kernel
theorem dX8_best_93 : decode cX8_best 93 = .ok (.iaload, 1) := by decide +kernel
theorem dX8_best_94 : decode cX8_best 94 = .ok (.invokevirtual 197, 3) := by decide +kernel
theorem dX8_best_97 : decode cX8_best 97 = .ok (.istore 7, 2) := by decide +kernel
theorem dX8_best_99 : decode cX8_best 99 = .ok (.iload 7, 2) := by decide +kernel
theorem dX8_best_101 : decode cX8_best 101 = .ok (.iload_n 3, 1) := by decide +kernel
theorem dX8_best_102 : decode cX8_best 102 = .ok (.if_icmp .le 9, 3) := by decide +kernel
theorem dX8_best_105 : decode cX8_best 105 = .ok (.iload 7, 2) := by decide +kernel
theorem dX8_best_107 : decode cX8_best 107 = .ok (.istore_n 3, 1) := by decide +kernel
theorem dX8_best_108 : decode cX8_best 108 = .ok (.iload 6, 2) := by decide +kernel
theorem dX8_best_110 : decode cX8_best 110 = .ok (.istore_n 2, 1) := by decide +kernel
theorem dX8_best_111 : decode cX8_best 111 = .ok (.aload_n 0, 1) := by decide +kernel
theorem dX8_best_112 : decode cX8_best 112 = .ok (.getfield 51, 3) := by decide +kernel
theorem dX8_best_115 : decode cX8_best 115 = .ok (.invokevirtual 202, 3) := by decide +kernel
theorem dX8_best_118 : decode cX8_best 118 = .ok (.istore 8, 2) := by decide +kernel
theorem dX8_best_120 : decode cX8_best 120 = .ok (.iload 4, 2) := by decide +kernel
theorem dX8_best_122 : decode cX8_best 122 = .ok (.iconst (-1), 1) := by decide +kernel
theorem dX8_best_123 : decode cX8_best 123 = .ok (.if_icmp .eq 10, 3) := by decide +kernel
theorem dX8_best_126 : decode cX8_best 126 = .ok (.iload 8, 2) := by decide +kernel
theorem dX8_best_128 : decode cX8_best 128 = .ok (.iload 5, 2) := by decide +kernel
theorem dX8_best_130 : decode cX8_best 130 = .ok (.if_icmp .ge 11, 3) := by decide +kernel
theorem dX8_best_133 : decode cX8_best 133 = .ok (.iload 8, 2) := by decide +kernel
theorem dX8_best_135 : decode cX8_best 135 = .ok (.istore 5, 2) := by decide +kernel
theorem dX8_best_137 : decode cX8_best 137 = .ok (.iload 6, 2) := by decide +kernel
theorem dX8_best_139 : decode cX8_best 139 = .ok (.istore 4, 2) := by decide +kernel
theorem dX8_best_141 : decode cX8_best 141 = .ok (.iinc 6 1, 3) := by decide +kernel
theorem dX8_best_144 : decode cX8_best 144 = .ok (.goto (-97), 3) := by decide +kernel
theorem dX8_best_147 : decode cX8_best 147 = .ok (.iload_n 1, 1) := by decide +kernel
theorem dX8_best_148 : decode cX8_best 148 = .ok (.tableswitch 35 0 2 #[28, 30, 32], 28) := by decide +kernel
theorem dX8_best_176 : decode cX8_best 176 = .ok (.iload_n 2, 1) := by decide +kernel
theorem dX8_best_177 : decode cX8_best 177 = .ok (.ireturn, 1) := by decide +kernel
theorem dX8_best_178 : decode cX8_best 178 = .ok (.iload_n 3, 1) := by decide +kernel
theorem dX8_best_179 : decode cX8_best 179 = .ok (.ireturn, 1) := by decide +kernel
theorem dX8_best_180 : decode cX8_best 180 = .ok (.iload 4, 2) := by decide +kernel
theorem dX8_best_182 : decode cX8_best 182 = .ok (.ireturn, 1) := by decide +kernel
theorem dX8_best_183 : decode cX8_best 183 = .ok (.iload 5, 2) := by decide +kernel
theorem dX8_best_185 : decode cX8_best 185 = .ok (.ireturn, 1) := by decide +kernel
def f_RH_best_0_J111 (v1 : Int32) (v2 : Int32) (v3 : Int32) (v4 : Int32) (v5 : Int32) (v6 : Int32) (σ : xS) : Option ((Int32 × Int32 × Int32 × Int32 × Int32 × xS) ⊕ (Int32 × Int32 × Int32 × Int32 × Int32 × xS)) :=
  (f_Tr_mostOff_49  σ).bind fun q1 =>
  let w2 := q1.1
  if v4 = (-1 : Int32) then
    let w3 := v6 + (1 : Int32)
    some (.inr (v2, v3, v6, w2, w3, q1.2))
  else
    if v5 ≤ w2 then
      let w4 := v6 + (1 : Int32)
      some (.inr (v2, v3, v4, v5, w4, q1.2))
    else
      let w5 := v6 + (1 : Int32)
      some (.inr (v2, v3, v6, w2, w5, q1.2))
def f_RH_best_0_L47 (v1 : Int32) (a : Int32 × Int32 × Int32 × Int32 × Int32 × xS) : Option ((Int32 × Int32 × Int32 × Int32 × Int32 × xS) ⊕ (Int32 × Int32 × Int32 × Int32 × Int32 × xS)) :=
  let v2 := a.1; let v3 := a.2.1; let v4 := a.2.2.1; let v5 := a.2.2.2.1; let v6 := a.2.2.2.2.1; let σ := a.2.2.2.2.2;
  if σ.1 7 9 ≤ v6 then
    some (.inl (v2, v3, v4, v5, v6, σ))
  else
    let σ6 := x_pI σ 50 4 v6
    (f_Tr_follow_49_7  σ6).bind fun q7 =>
    (f_Tr_sharpBy_49 (q7.2.1 50 0) q7.2).bind fun q8 =>
    let w9 := q8.1
    if w9 ≤ v3 then
      f_RH_best_0_J111 v1 v2 v3 v4 v5 v6 q8.2
    else
      f_RH_best_0_J111 v1 v6 w9 v4 v5 v6 q8.2
def f_RH_best_0 (v1 : Int32) (σ : xS) : Option ((Int32 ⊕ Nat) × xS) :=
  if v1 < 0 then
    some (.inr 2, σ)
  else
    if v1 ≤ (3 : Int32) then
      (f_RH_takeSettings_0  σ).bind fun q10 =>
      (f_Tr_look_49_7  q10.2).bind fun q11 =>
      (x_it (f_RH_best_0_L47 v1) 10000 ((-1 : Int32), (-1 : Int32), (-1 : Int32), (-1 : Int32), (0 : Int32), q11.2)).bind fun b12 =>
      if v1 = (0 : Int32) then
        some (.inl b12.1, b12.2.2.2.2.2)
      else if v1 = (1 : Int32) then
        some (.inl b12.2.1, b12.2.2.2.2.2)
      else if v1 = (2 : Int32) then
        some (.inl b12.2.2.1, b12.2.2.2.2.2)
      else 
        some (.inl b12.2.2.2.1, b12.2.2.2.2.2)
    else
      some (.inr 2, σ)
set_option maxHeartbeats 4000000 in
set_option maxRecDepth 100000 in
theorem j_RH_best_0_J111 {l : Launch} {s0 : State} {a0 : Array Value} {D : va_G} {cA : Nat → ClassId} {sp : Nat → Nat} (E : x_En CL l s0 a0 D cA sp) (v1 : Int32) (v2 : Int32) (v3 : Int32) (v4 : Int32) (v5 : Int32) (v6 : Int32)  (σ : xS) {r : Int32 ⊕ Nat} {σ1 : xS} (o : (Int32 × Int32 × Int32 × Int32 × Int32 × xS) ⊕ (Int32 × Int32 × Int32 × Int32 × Int32 × xS)) (h : f_RH_best_0_J111 v1 v2 v3 v4 v5 v6 σ = some o) (hK : ∀ b, o = .inl b → zW l s0 D cA sp (oQ s0 D cA sp (x_oi r) σ1) (x_rm 5 1 6) M_RH_best 1 6 147 [none, some (.int v1), some (.int b.1), some (.int b.2.1), some (.int b.2.2.1), some (.int b.2.2.2.1), none, none, none] [] b.2.2.2.2.2) (hG : ∀ a', o = .inr a' → zW l s0 D cA sp (oQ s0 D cA sp (x_oi r) σ1) (x_rm 5 1 6) M_RH_best 1 6 47 [some (.ref 0), some (.int v1), some (.int a'.1), some (.int a'.2.1), some (.int a'.2.2.1), some (.int a'.2.2.2.1), some (.int a'.2.2.2.2.1), none, none] [] a'.2.2.2.2.2) : zW l s0 D cA sp (oQ s0 D cA sp (x_oi r) σ1) (x_rm 5 1 6) M_RH_best 1 6 111 [some (.ref 0), some (.int v1), some (.int v2), some (.int v3), some (.int v4), some (.int v5), some (.int v6), none, none] [] σ := by
  unfold f_RH_best_0_J111 at h
  try dsimp only at h
  refine x_aload_n 112 rfl 0 dX8_best_111 rfl rfl ?_
  refine x_getR E dX8_best_112 F_RX8_51 sh_0 rf_0_8 115 rfl ?_
  obtain ⟨⟨q1r, q1s⟩, q1h, h⟩ := x_bind h
  try dsimp only at h
  refine z_callV E [] [] dX8_best_115 K_RX8_202 ⟨Nat.le_of_ble_eq_true rfl, Nat.le_of_ble_eq_true rfl⟩ sh_49 (by decide) rfl (c_Tr_mostOff_49 E  q1h) rfl rfl (Nat.le_of_ble_eq_true rfl) 118 rfl [.int _] rfl ?_
  refine x_istore 120 rfl dX8_best_118 (by decide) [some (.ref 0), some (.int _), some (.int _), some (.int _), some (.int _), some (.int _), some (.int _), none, some (.int _)] rfl ?_
  refine x_iload 122 rfl dX8_best_120 rfl ?_
  refine x_iconst 123 rfl (v := -1) dX8_best_122 (by decide) ?_
  refine x_icmp_eq 126 rfl 133 dX8_best_123 (by decide) (fun hc => ?_) (fun hc => ?_)
  · replace h := x_ifT hc h
    refine x_iload 135 rfl dX8_best_133 rfl ?_
    refine x_istore 137 rfl dX8_best_135 (by decide) [some (.ref 0), some (.int _), some (.int _), some (.int _), some (.int _), some (.int _), some (.int _), none, some (.int _)] rfl ?_
    refine x_iload 139 rfl dX8_best_137 rfl ?_
    refine x_istore 141 rfl dX8_best_139 (by decide) [some (.ref 0), some (.int _), some (.int _), some (.int _), some (.int _), some (.int _), some (.int _), none, some (.int _)] rfl ?_
    refine x_iinc 144 rfl (1) dX8_best_141 rfl (by decide) (by decide) [some (.ref 0), some (.int _), some (.int _), some (.int _), some (.int _), some (.int _), some (.int _), none, some (.int _)] rfl ?_
    refine x_goto 47 dX8_best_144 (by decide) ?_
    cases h
    exact x_wk (x_le_s (x_le_s (x_le_s (x_le_s (x_le_s (x_le_s (x_le_s (x_le_n (x_le_n x_le_0))))))))) (hG (_, _, _, _, _, _) rfl)
  · replace h := x_ifF hc h
    refine x_iload 128 rfl dX8_best_126 rfl ?_
    refine x_iload 130 rfl dX8_best_128 rfl ?_
    refine x_icmp_ge 133 rfl 141 dX8_best_130 (by decide) (fun hc => ?_) (fun hc => ?_)
    · replace h := x_ifT hc h
      refine x_iinc 144 rfl (1) dX8_best_141 rfl (by decide) (by decide) [some (.ref 0), some (.int _), some (.int _), some (.int _), some (.int _), some (.int _), some (.int _), none, some (.int _)] rfl ?_
      refine x_goto 47 dX8_best_144 (by decide) ?_
      cases h
      exact x_wk (x_le_s (x_le_s (x_le_s (x_le_s (x_le_s (x_le_s (x_le_s (x_le_n (x_le_n x_le_0))))))))) (hG (_, _, _, _, _, _) rfl)
    · replace h := x_ifF hc h
      refine x_iload 135 rfl dX8_best_133 rfl ?_
      refine x_istore 137 rfl dX8_best_135 (by decide) [some (.ref 0), some (.int _), some (.int _), some (.int _), some (.int _), some (.int _), some (.int _), none, some (.int _)] rfl ?_
      refine x_iload 139 rfl dX8_best_137 rfl ?_
      refine x_istore 141 rfl dX8_best_139 (by decide) [some (.ref 0), some (.int _), some (.int _), some (.int _), some (.int _), some (.int _), some (.int _), none, some (.int _)] rfl ?_
      refine x_iinc 144 rfl (1) dX8_best_141 rfl (by decide) (by decide) [some (.ref 0), some (.int _), some (.int _), some (.int _), some (.int _), some (.int _), some (.int _), none, some (.int _)] rfl ?_
      refine x_goto 47 dX8_best_144 (by decide) ?_
      cases h
      exact x_wk (x_le_s (x_le_s (x_le_s (x_le_s (x_le_s (x_le_s (x_le_s (x_le_n (x_le_n x_le_0))))))))) (hG (_, _, _, _, _, _) rfl)
set_option maxHeartbeats 4000000 in
set_option maxRecDepth 100000 in
theorem b_RH_best_0_L47 {l : Launch} {s0 : State} {a0 : Array Value} {D : va_G} {cA : Nat → ClassId} {sp : Nat → Nat} (E : x_En CL l s0 a0 D cA sp) (v1 : Int32) {r : Int32 ⊕ Nat} {σ1 : xS} (a : Int32 × Int32 × Int32 × Int32 × Int32 × xS) (o : (Int32 × Int32 × Int32 × Int32 × Int32 × xS) ⊕ (Int32 × Int32 × Int32 × Int32 × Int32 × xS)) (h : f_RH_best_0_L47 v1 a = some o) (hK : ∀ b, o = .inl b → zW l s0 D cA sp (oQ s0 D cA sp (x_oi r) σ1) (x_rm 5 1 6) M_RH_best 1 6 147 [none, some (.int v1), some (.int b.1), some (.int b.2.1), some (.int b.2.2.1), some (.int b.2.2.2.1), none, none, none] [] b.2.2.2.2.2) (hG : ∀ a', o = .inr a' → zW l s0 D cA sp (oQ s0 D cA sp (x_oi r) σ1) (x_rm 5 1 6) M_RH_best 1 6 47 [some (.ref 0), some (.int v1), some (.int a'.1), some (.int a'.2.1), some (.int a'.2.2.1), some (.int a'.2.2.2.1), some (.int a'.2.2.2.2.1), none, none] [] a'.2.2.2.2.2) : zW l s0 D cA sp (oQ s0 D cA sp (x_oi r) σ1) (x_rm 5 1 6) M_RH_best 1 6 47 [some (.ref 0), some (.int v1), some (.int a.1), some (.int a.2.1), some (.int a.2.2.1), some (.int a.2.2.2.1), some (.int a.2.2.2.2.1), none, none] [] a.2.2.2.2.2 := by
  obtain ⟨v2, v3, v4, v5, v6, σ⟩ := a
  unfold f_RH_best_0_L47 at h
  try dsimp only at h ⊢
  refine x_iload 49 rfl dX8_best_47 rfl ?_
  refine x_aload_n 50 rfl 0 dX8_best_49 rfl rfl ?_
  refine x_getR E dX8_best_50 F_RX8_27 sh_0 rf_0_3 53 rfl ?_
  refine x_getI E dX8_best_53 F_RX8_115 sh_7 56 rfl ?_
  refine x_icmp_ge 59 rfl 147 dX8_best_56 (by decide) (fun hc => ?_) (fun hc => ?_)
  · replace h := x_ifT hc h
    cases h
    exact x_wk (x_le_n (x_le_s (x_le_s (x_le_s (x_le_s (x_le_s (x_le_n (x_le_n (x_le_n x_le_0))))))))) (hK (_, _, _, _, _, _) rfl)
  · replace h := x_ifF hc h
    refine x_aload_n 60 rfl 0 dX8_best_59 rfl rfl ?_
    refine x_getR E dX8_best_60 F_RX8_51 sh_0 rf_0_8 63 rfl ?_
    refine x_getR E dX8_best_63 F_RX8_196 sh_49 rf_49_0 66 rfl ?_
    refine x_iconst 67 rfl (v := 4) dX8_best_66 (by decide) ?_
    refine x_iload 69 rfl dX8_best_67 rfl ?_
    refine x_iast E dX8_best_69 sh_50 4 (by decide) (by decide) 70 rfl ?_
    refine x_aload_n 71 rfl 0 dX8_best_70 rfl rfl ?_
    refine x_getR E dX8_best_71 F_RX8_51 sh_0 rf_0_8 74 rfl ?_
    refine x_aload_n 75 rfl 0 dX8_best_74 rfl rfl ?_
    refine x_getR E dX8_best_75 F_RX8_27 sh_0 rf_0_3 78 rfl ?_
    obtain ⟨⟨q7r, q7s⟩, q7h, h⟩ := x_bind h
    try dsimp only at h
    refine z_callV E [.ref 7] [] dX8_best_78 K_RX8_241 ⟨Nat.le_of_ble_eq_true rfl, Nat.le_of_ble_eq_true rfl⟩ sh_49 (by decide) rfl (c_Tr_follow_49_7 E  q7h) rfl rfl (Nat.le_of_ble_eq_true rfl) 81 rfl [] rfl ?_
    refine x_aload_n 82 rfl 0 dX8_best_81 rfl rfl ?_
    refine x_getR E dX8_best_82 F_RX8_51 sh_0 rf_0_8 85 rfl ?_
    refine x_aload_n 86 rfl 0 dX8_best_85 rfl rfl ?_
    refine x_getR E dX8_best_86 F_RX8_51 sh_0 rf_0_8 89 rfl ?_
    refine x_getR E dX8_best_89 F_RX8_196 sh_49 rf_49_0 92 rfl ?_
    refine x_iconst 93 rfl (v := 0) dX8_best_92 (by decide) ?_
    refine x_iald E dX8_best_93 sh_50 0 (by decide) (by decide) 94 rfl ?_
    obtain ⟨⟨q8r, q8s⟩, q8h, h⟩ := x_bind h
    try dsimp only at h
    refine z_callV E [.int _] [] dX8_best_94 K_RX8_197 ⟨Nat.le_of_ble_eq_true rfl, Nat.le_of_ble_eq_true rfl⟩ sh_49 (by decide) rfl (c_Tr_sharpBy_49 E _ q8h) rfl rfl (Nat.le_of_ble_eq_true rfl) 97 rfl [.int _] rfl ?_
    refine x_istore 99 rfl dX8_best_97 (by decide) [some (.ref 0), some (.int _), some (.int _), some (.int _), some (.int _), some (.int _), some (.int _), some (.int _), none] rfl ?_
    refine x_iload 101 rfl dX8_best_99 rfl ?_
    refine x_iload_n 102 rfl 3 dX8_best_101 rfl rfl ?_
    refine x_icmp_le 105 rfl 111 dX8_best_102 (by decide) (fun hc => ?_) (fun hc => ?_)
    · replace h := x_ifT hc h
      exact x_wk (x_le_s (x_le_s (x_le_s (x_le_s (x_le_s (x_le_s (x_le_s (x_le_n (x_le_n x_le_0))))))))) (j_RH_best_0_J111 (r := r) (σ1 := σ1) E _ _ _ _ _ _  _ _ h hK hG)
    · replace h := x_ifF hc h
      refine x_iload 107 rfl dX8_best_105 rfl ?_
      refine x_istore_n 108 rfl 3 dX8_best_107 rfl (by decide) [some (.ref 0), some (.int _), some (.int _), some (.int _), some (.int _), some (.int _), some (.int _), some (.int _), none] rfl ?_
      refine x_iload 110 rfl dX8_best_108 rfl ?_
      refine x_istore_n 111 rfl 2 dX8_best_110 rfl (by decide) [some (.ref 0), some (.int _), some (.int _), some (.int _), some (.int _), some (.int _), some (.int _), some (.int _), none] rfl ?_
      exact x_wk (x_le_s (x_le_s (x_le_s (x_le_s (x_le_s (x_le_s (x_le_s (x_le_n (x_le_n x_le_0))))))))) (j_RH_best_0_J111 (r := r) (σ1 := σ1) E _ _ _ _ _ _  _ _ h hK hG)
set_option maxHeartbeats 4000000 in
set_option maxRecDepth 100000 in
theorem c_RH_best_0 {l : Launch} {s0 : State} {a0 : Array Value} {D : va_G} {cA : Nat → ClassId} {sp : Nat → Nat} (E : x_En CL l s0 a0 D cA sp) (v1 : Int32) {σ : xS} {r : Int32 ⊕ Nat} {σ1 : xS} (h : f_RH_best_0 v1 σ = some (r, σ1)) : oC l s0 D cA sp 5 M_RH_best [.ref 0, .int v1] σ (x_oi r) σ1 := by
  unfold f_RH_best_0 at h
  try dsimp only at h
  refine x_enterO [some (.ref 0), some (.int v1), none, none, none, none, none, none, none] rfl (Nat.le_of_ble_eq_true rfl) (by decide +kernel) rfl ?_
  refine x_iload_n 1 rfl 1 dX8_best_0 rfl rfl ?_
  refine x_if_lt 4 rfl 9 dX8_best_1 (by decide) (fun hc => ?_) (fun hc => ?_)
  · replace h := x_ifT hc h
    cases h
    exact x_throwN E KU_ (k := 2) KX_RX8_236 rfl dX8_best_9 dX8_best_12 dX8_best_13 dX8_best_15 dX8_best_18 (Nat.le_of_ble_eq_true rfl)
  · replace h := x_ifF hc h
    refine x_iload_n 5 rfl 1 dX8_best_4 rfl rfl ?_
    refine x_iconst 6 rfl (v := 3) dX8_best_5 (by decide) ?_
    refine x_icmp_le 9 rfl 19 dX8_best_6 (by decide) (fun hc => ?_) (fun hc => ?_)
    · replace h := x_ifT hc h
      refine x_iconst 20 rfl (v := -1) dX8_best_19 (by decide) ?_
      refine x_istore_n 21 rfl 2 dX8_best_20 rfl (by decide) [some (.ref 0), some (.int _), some (.int _), none, none, none, none, none, none] rfl ?_
      refine x_iconst 22 rfl (v := -1) dX8_best_21 (by decide) ?_
      refine x_istore_n 23 rfl 3 dX8_best_22 rfl (by decide) [some (.ref 0), some (.int _), some (.int _), some (.int _), none, none, none, none, none] rfl ?_
      refine x_iconst 24 rfl (v := -1) dX8_best_23 (by decide) ?_
      refine x_istore 26 rfl dX8_best_24 (by decide) [some (.ref 0), some (.int _), some (.int _), some (.int _), some (.int _), none, none, none, none] rfl ?_
      refine x_iconst 27 rfl (v := -1) dX8_best_26 (by decide) ?_
      refine x_istore 29 rfl dX8_best_27 (by decide) [some (.ref 0), some (.int _), some (.int _), some (.int _), some (.int _), some (.int _), none, none, none] rfl ?_
      refine x_aload_n 30 rfl 0 dX8_best_29 rfl rfl ?_
      obtain ⟨⟨q10r, q10s⟩, q10h, h⟩ := x_bind h
      try dsimp only at h
      refine z_callV E [] [] dX8_best_30 K_RX8_187 ⟨Nat.le_of_ble_eq_true rfl, Nat.le_of_ble_eq_true rfl⟩ sh_0 (by decide) rfl (c_RH_takeSettings_0 E  q10h) rfl rfl (Nat.le_of_ble_eq_true rfl) 33 rfl [] rfl ?_
      refine x_aload_n 34 rfl 0 dX8_best_33 rfl rfl ?_
      refine x_getR E dX8_best_34 F_RX8_51 sh_0 rf_0_8 37 rfl ?_
      refine x_aload_n 38 rfl 0 dX8_best_37 rfl rfl ?_
      refine x_getR E dX8_best_38 F_RX8_27 sh_0 rf_0_3 41 rfl ?_
      obtain ⟨⟨q11r, q11s⟩, q11h, h⟩ := x_bind h
      try dsimp only at h
      refine z_callV E [.ref 7] [] dX8_best_41 K_RX8_238 ⟨Nat.le_of_ble_eq_true rfl, Nat.le_of_ble_eq_true rfl⟩ sh_49 (by decide) rfl (c_Tr_look_49_7 E  q11h) rfl rfl (Nat.le_of_ble_eq_true rfl) 44 rfl [] rfl ?_
      refine x_iconst 45 rfl (v := 0) dX8_best_44 (by decide) ?_
      refine x_istore 47 rfl dX8_best_45 (by decide) [some (.ref 0), some (.int _), some (.int _), some (.int _), some (.int _), some (.int _), some (.int _), none, none] rfl ?_
      obtain ⟨b12, b12h, h⟩ := x_bind h
      try dsimp only at h
      refine x_wk (x_le_s (x_le_s (x_le_s (x_le_s (x_le_s (x_le_s (x_le_s (x_le_n (x_le_n x_le_0))))))))) (x_loop (fun a o h hK hG => b_RH_best_0_L47 (r := r) (σ1 := σ1) E _ a o h hK hG) _ _ _ b12h ?_)
      refine x_iload_n 148 rfl 1 dX8_best_147 rfl rfl ?_
      refine x_case (0) (fun hc0 => ?_) (fun hc0 => ?_)
      · replace h := x_ifT hc0 h
        refine x_tabIn (off := 28) 176 dX8_best_148 (by rw [hc0]; decide) (by rw [hc0]; decide) (by rw [hc0]; rfl) (by decide) ?_
        refine x_iload_n 177 rfl 2 dX8_best_176 rfl rfl ?_
        cases h
        exact x_Oret (x_iret dX8_best_177 rfl rfl rfl)
      replace h := x_ifF hc0 h
      refine x_case (1) (fun hc1 => ?_) (fun hc1 => ?_)
      · replace h := x_ifT hc1 h
        refine x_tabIn (off := 30) 178 dX8_best_148 (by rw [hc1]; decide) (by rw [hc1]; decide) (by rw [hc1]; rfl) (by decide) ?_
        refine x_iload_n 179 rfl 3 dX8_best_178 rfl rfl ?_
        cases h
        exact x_Oret (x_iret dX8_best_179 rfl rfl rfl)
      replace h := x_ifF hc1 h
      refine x_case (2) (fun hc2 => ?_) (fun hc2 => ?_)
      · replace h := x_ifT hc2 h
        refine x_tabIn (off := 32) 180 dX8_best_148 (by rw [hc2]; decide) (by rw [hc2]; decide) (by rw [hc2]; rfl) (by decide) ?_
        refine x_iload 182 rfl dX8_best_180 rfl ?_
        cases h
        exact x_Oret (x_iret dX8_best_182 rfl rfl rfl)
      replace h := x_ifF hc2 h
      refine x_tabOut 183 dX8_best_148 (by have g0 := x_toNe hc0 (k := 0) (by decide); have g1 := x_toNe hc1 (k := 1) (by decide); have g2 := x_toNe hc2 (k := 2) (by decide); omega) (by decide) ?_
      refine x_iload 185 rfl dX8_best_183 rfl ?_
      cases h
      exact x_Oret (x_iret dX8_best_185 rfl rfl rfl)
    · replace h := x_ifF hc h
      cases h
      exact x_throwN E KU_ (k := 2) KX_RX8_236 rfl dX8_best_9 dX8_best_12 dX8_best_13 dX8_best_15 dX8_best_18 (Nat.le_of_ble_eq_true rfl)
abbrev M_RH_outward : xM := (yX8_outward, cX8_outward, 1, some .int, [])
theorem dX8_outward_0 : decode cX8_outward 0 = .ok (.iload_n 0, 1) := by decide +kernel
theorem dX8_outward_1 : decode cX8_outward 1 = .ok (.iconst 1, 1) := by decide +kernel
theorem dX8_outward_2 : decode cX8_outward 2 = .ok (.iand, 1) := by decide +kernel
theorem dX8_outward_3 : decode cX8_outward 3 = .ok (.ifCond .ne 9, 3) := by decide +kernel
theorem dX8_outward_6 : decode cX8_outward 6 = .ok (.iload_n 0, 1) := by decide +kernel
theorem dX8_outward_7 : decode cX8_outward 7 = .ok (.iconst 2, 1) := by decide +kernel
theorem dX8_outward_8 : decode cX8_outward 8 = .ok (.idiv, 1) := by decide +kernel
theorem dX8_outward_9 : decode cX8_outward 9 = .ok (.goto 9, 3) := by decide +kernel
theorem dX8_outward_12 : decode cX8_outward 12 = .ok (.iload_n 0, 1) := by decide +kernel
theorem dX8_outward_13 : decode cX8_outward 13 = .ok (.iconst 1, 1) := by decide +kernel
theorem dX8_outward_14 : decode cX8_outward 14 = .ok (.iadd, 1) := by decide +kernel
theorem dX8_outward_15 : decode cX8_outward 15 = .ok (.iconst 2, 1) := by decide +kernel
theorem dX8_outward_16 : decode cX8_outward 16 = .ok (.idiv, 1) := by decide +kernel
theorem dX8_outward_17 : decode cX8_outward 17 = .ok (.ineg, 1) := by decide +kernel
theorem dX8_outward_18 : decode cX8_outward 18 = .ok (.ireturn, 1) := by decide +kernel
def f_RH_outward (v0 : Int32) (σ : xS) : Option (Int32 × xS) :=
  if (v0 &&& (1 : Int32)) = 0 then
    some ((v0 / (2 : Int32)), σ)
  else
    some ((-((v0 + (1 : Int32)) / (2 : Int32))), σ)
set_option maxHeartbeats 4000000 in
set_option maxRecDepth 100000 in
theorem c_RH_outward {l : Launch} {s0 : State} {a0 : Array Value} {D : va_G} {cA : Nat → ClassId} {sp : Nat → Nat} (E : x_En CL l s0 a0 D cA sp) (v0 : Int32) {σ : xS} {r : Int32} {σ1 : xS} (h : f_RH_outward v0 σ = some (r, σ1)) : zC l s0 D cA sp 0 M_RH_outward [.int v0] σ (some (.int r)) σ1 := by
  unfold f_RH_outward at h
  try dsimp only at h
  refine x_enter [some (.int v0)] rfl (Nat.le_of_ble_eq_true rfl) (by decide +kernel) rfl ?_
  refine x_iload_n 1 rfl 0 dX8_outward_0 rfl rfl ?_
  refine x_iconst 2 rfl (v := 1) dX8_outward_1 (by decide) ?_
  refine x_iand 3 rfl dX8_outward_2 ?_
  refine x_if_ne 6 rfl 12 dX8_outward_3 (by decide) (fun hc => ?_) (fun hc => ?_)
  · replace h := x_ifF hc h
    refine x_iload_n 13 rfl 0 dX8_outward_12 rfl rfl ?_
    refine x_iconst 14 rfl (v := 1) dX8_outward_13 (by decide) ?_
    refine x_iadd 15 rfl dX8_outward_14 ?_
    refine x_iconst 16 rfl (v := 2) dX8_outward_15 (by decide) ?_
    refine x_idiv 17 rfl dX8_outward_16 (by decide) ?_
    refine x_ineg 18 rfl dX8_outward_17 ?_
    cases h
    exact x_iret dX8_outward_18 rfl rfl rfl
  · replace h := x_ifT hc h
    refine x_iload_n 7 rfl 0 dX8_outward_6 rfl rfl ?_
    refine x_iconst 8 rfl (v := 2) dX8_outward_7 (by decide) ?_
    refine x_idiv 9 rfl dX8_outward_8 (by decide) ?_
    refine x_goto 18 dX8_outward_9 (by decide) ?_
    cases h
    exact x_iret dX8_outward_18 rfl rfl rfl
theorem KX_RX8_244 : x_KN2 RX8 130 244 134 (x_Xn 2) "nothing such of FORETELLING" := ⟨by decide +kernel, (List.mem_append_right _ (List.mem_of_getElem? (i := 881) (by decide +kernel))), (List.mem_append_right _ (List.mem_of_getElem? (i := 22) (by decide +kernel))), (List.mem_append_right _ (List.mem_of_getElem? (i := 1004) (by decide +kernel))), (List.mem_of_getElem? (i := 615) (by decide +kernel)), AX_134, AO_130_134⟩
theorem K_RX8_246 : x_KS RX8 246 M_RH_outward 1 := ⟨⟨(List.mem_append_right _ (List.mem_of_getElem? (i := 1005) (by decide +kernel))), (List.mem_append_right _ (List.mem_of_getElem? (i := 1007) (by decide +kernel))), (List.mem_append_right _ (List.mem_of_getElem? (i := 1) (by decide +kernel))), ⟨by decide +kernel, by decide +kernel⟩, by decide +kernel⟩, (List.mem_append_right _ (List.mem_of_getElem? (i := 1006) (by decide +kernel)))⟩
abbrev M_RH_foretell : xM := (yX8_foretell, cX8_foretell, 7, some .int, [])
theorem dX8_foretell_0 : decode cX8_foretell 0 = .ok (.iload_n 1, 1) := by decide +kernel
theorem dX8_foretell_1 : decode cX8_foretell 1 = .ok (.ifCond .lt 8, 3) := by decide +kernel
theorem dX8_foretell_4 : decode cX8_foretell 4 = .ok (.iload_n 1, 1) := by decide +kernel
theorem dX8_foretell_5 : decode cX8_foretell 5 = .ok (.iconst 1, 1) := by decide +kernel
theorem dX8_foretell_6 : decode cX8_foretell 6 = .ok (.if_icmp .le 13, 3) := by decide +kernel
theorem dX8_foretell_9 : decode cX8_foretell 9 = .ok (.new 130, 3) := by decide +kernel
theorem dX8_foretell_12 : decode cX8_foretell 12 = .ok (.dup, 1) := by decide +kernel
theorem dX8_foretell_13 : decode cX8_foretell 13 = .ok (.ldc 244, 2) := by decide +kernel
theorem dX8_foretell_15 : decode cX8_foretell 15 = .ok (.invokespecial 134, 3) := by decide +kernel
theorem dX8_foretell_18 : decode cX8_foretell 18 = .ok (.athrow, 1) := by decide +kernel
theorem dX8_foretell_19 : decode cX8_foretell 19 = .ok (.iconst 0, 1) := by decide +kernel
theorem dX8_foretell_20 : decode cX8_foretell 20 = .ok (.istore_n 2, 1) := by decide +kernel
theorem dX8_foretell_21 : decode cX8_foretell 21 = .ok (.iconst (-1), 1) := by decide +kernel
theorem dX8_foretell_22 : decode cX8_foretell 22 = .ok (.istore_n 3, 1) := by decide +kernel
theorem dX8_foretell_23 : decode cX8_foretell 23 = .ok (.aload_n 0, 1) := by decide +kernel
theorem dX8_foretell_24 : decode cX8_foretell 24 = .ok (.invokevirtual 187, 3) := by decide +kernel
theorem dX8_foretell_27 : decode cX8_foretell 27 = .ok (.aload_n 0, 1) := by decide +kernel
theorem dX8_foretell_28 : decode cX8_foretell 28 = .ok (.getfield 51, 3) := by decide +kernel
theorem dX8_foretell_31 : decode cX8_foretell 31 = .ok (.aload_n 0, 1) := by decide +kernel
theorem dX8_foretell_32 : decode cX8_foretell 32 = .ok (.getfield 27, 3) := by decide +kernel
theorem dX8_foretell_35 : decode cX8_foretell 35 = .ok (.invokevirtual 238, 3) := by decide +kernel
theorem dX8_foretell_38 : decode cX8_foretell 38 = .ok (.iconst 0, 1) := by decide +kernel
theorem dX8_foretell_39 : decode cX8_foretell 39 = .ok (.istore 4, 2) := by decide +kernel
theorem dX8_foretell_41 : decode cX8_foretell 41 = .ok (.iload 4, 2) := by decide +kernel
theorem dX8_foretell_43 : decode cX8_foretell 43 = .ok (.bipush 48, 2) := by decide +kernel
theorem dX8_foretell_45 : decode cX8_foretell 45 = .ok (.if_icmp .gt 66, 3) := by decide +kernel
theorem dX8_foretell_48 : decode cX8_foretell 48 = .ok (.iload 4, 2) := by decide +kernel
theorem dX8_foretell_50 : decode cX8_foretell 50 = .ok (.invokestatic 246, 3) := by decide +kernel
theorem dX8_foretell_53 : decode cX8_foretell 53 = .ok (.istore 5, 2) := by decide +kernel
theorem dX8_foretell_55 : decode cX8_foretell 55 = .ok (.aload_n 0, 1) := by decide +kernel
theorem dX8_foretell_56 : decode cX8_foretell 56 = .ok (.getfield 51, 3) := by decide +kernel
theorem dX8_foretell_59 : decode cX8_foretell 59 = .ok (.iload 5, 2) := by decide +kernel
theorem dX8_foretell_61 : decode cX8_foretell 61 = .ok (.putfield 249, 3) := by decide +kernel
theorem dX8_foretell_64 : decode cX8_foretell 64 = .ok (.aload_n 0, 1) := by decide +kernel
theorem dX8_foretell_65 : decode cX8_foretell 65 = .ok (.getfield 51, 3) := by decide +kernel
theorem dX8_foretell_68 : decode cX8_foretell 68 = .ok (.aload_n 0, 1) := by decide +kernel
theorem dX8_foretell_69 : decode cX8_foretell 69 = .ok (.getfield 27, 3) := by decide +kernel
theorem dX8_foretell_72 : decode cX8_foretell 72 = .ok (.invokevirtual 241, 3) := by decide +kernel
theorem dX8_foretell_75 : decode cX8_foretell 75 = .ok (.aload_n 0, 1) := by decide +kernel
theorem dX8_foretell_76 : decode cX8_foretell 76 = .ok (.getfield 51, 3) := by decide +kernel
theorem dX8_foretell_79 : decode cX8_foretell 79 = .ok (.aload_n 0, 1) := by decide +kernel
theorem dX8_foretell_80 : decode cX8_foretell 80 = .ok (.getfield 51, 3) := by decide +kernel
theorem dX8_foretell_83 : decode cX8_foretell 83 = .ok (.getfield 196, 3) := by decide +kernel
theorem dX8_foretell_86 : decode cX8_foretell 86 = .ok (.iconst 0, 1) := by decide +kernel
theorem dX8_foretell_87 : decode cX8_foretell 87 = .ok (.iaload, 1) := by decide +kernel
theorem dX8_foretell_88 : decode cX8_foretell 88 = .ok (.invokevirtual 197, 3) := by decide +kernel
theorem dX8_foretell_91 : decode cX8_foretell 91 = .ok (.istore 6, 2) := by decide +kernel
theorem dX8_foretell_93 : decode cX8_foretell 93 = .ok (.iload 6, 2) := by decide +kernel
theorem dX8_foretell_95 : decode cX8_foretell 95 = .ok (.iload_n 3, 1) := by decide +kernel
theorem dX8_foretell_96 : decode cX8_foretell 96 = .ok (.if_icmp .le 9, 3) := by decide +kernel
theorem dX8_foretell_99 : decode cX8_foretell 99 = .ok (.iload 6, 2) := by decide +kernel
theorem dX8_foretell_101 : decode cX8_foretell 101 = .ok (.istore_n 3, 1) := by decide +kernel
theorem dX8_foretell_102 : decode cX8_foretell 102 = .ok (.iload 5, 2) := by decide +kernel
theorem dX8_foretell_104 : decode cX8_foretell 104 = .ok (.istore_n 2, 1) := by decide +kernel
theorem dX8_foretell_105 : decode cX8_foretell 105 = .ok (.iinc 4 1, 3) := by decide +kernel
theorem dX8_foretell_108 : decode cX8_foretell 108 = .ok (.goto (-67), 3) := by decide +kernel
theorem dX8_foretell_111 : decode cX8_foretell 111 = .ok (.iload_n 1, 1) := by decide +kernel
theorem dX8_foretell_112 : decode cX8_foretell 112 = .ok (.ifCond .ne 7, 3) := by decide +kernel
theorem dX8_foretell_115 : decode cX8_foretell 115 = .ok (.iload_n 2, 1) := by decide +kernel
theorem dX8_foretell_116 : decode cX8_foretell 116 = .ok (.goto 4, 3) := by decide +kernel
theorem dX8_foretell_119 : decode cX8_foretell 119 = .ok (.iload_n 3, 1) := by decide +kernel
theorem dX8_foretell_120 : decode cX8_foretell 120 = .ok (.ireturn, 1) := by decide +kernel
def f_RH_foretell_0_L41 (v1 : Int32) (a : Int32 × Int32 × Int32 × xS) : Option ((Int32 × Int32 × Int32 × xS) ⊕ (Int32 × Int32 × Int32 × xS)) :=
  let v2 := a.1; let v3 := a.2.1; let v4 := a.2.2.1; let σ := a.2.2.2;
  if (48 : Int32) < v4 then
    some (.inl (v2, v3, v4, σ))
  else
    (f_RH_outward v4 σ).bind fun q1 =>
    let w2 := q1.1
    let σ3 := x_pI q1.2 49 4 w2
    (f_Tr_follow_49_7  σ3).bind fun q4 =>
    (f_Tr_sharpBy_49 (q4.2.1 50 0) q4.2).bind fun q5 =>
    let w6 := q5.1
    if w6 ≤ v3 then
      let w7 := v4 + (1 : Int32)
      some (.inr (v2, v3, w7, q5.2))
    else
      let w8 := v4 + (1 : Int32)
      some (.inr (w2, w6, w8, q5.2))
def f_RH_foretell_0 (v1 : Int32) (σ : xS) : Option ((Int32 ⊕ Nat) × xS) :=
  if v1 < 0 then
    some (.inr 2, σ)
  else
    if v1 ≤ (1 : Int32) then
      (f_RH_takeSettings_0  σ).bind fun q9 =>
      (f_Tr_look_49_7  q9.2).bind fun q10 =>
      (x_it (f_RH_foretell_0_L41 v1) 10000 ((0 : Int32), (-1 : Int32), (0 : Int32), q10.2)).bind fun b11 =>
      if v1 = 0 then
        some (.inl b11.1, b11.2.2.2)
      else
        some (.inl b11.2.1, b11.2.2.2)
    else
      some (.inr 2, σ)
set_option maxHeartbeats 4000000 in
set_option maxRecDepth 100000 in
theorem b_RH_foretell_0_L41 {l : Launch} {s0 : State} {a0 : Array Value} {D : va_G} {cA : Nat → ClassId} {sp : Nat → Nat} (E : x_En CL l s0 a0 D cA sp) (v1 : Int32) {r : Int32 ⊕ Nat} {σ1 : xS} (a : Int32 × Int32 × Int32 × xS) (o : (Int32 × Int32 × Int32 × xS) ⊕ (Int32 × Int32 × Int32 × xS)) (h : f_RH_foretell_0_L41 v1 a = some o) (hK : ∀ b, o = .inl b → zW l s0 D cA sp (oQ s0 D cA sp (x_oi r) σ1) (x_rm 5 1 6) M_RH_foretell 1 6 111 [none, some (.int v1), some (.int b.1), some (.int b.2.1), none, none, none] [] b.2.2.2) (hG : ∀ a', o = .inr a' → zW l s0 D cA sp (oQ s0 D cA sp (x_oi r) σ1) (x_rm 5 1 6) M_RH_foretell 1 6 41 [some (.ref 0), some (.int v1), some (.int a'.1), some (.int a'.2.1), some (.int a'.2.2.1), none, none] [] a'.2.2.2) : zW l s0 D cA sp (oQ s0 D cA sp (x_oi r) σ1) (x_rm 5 1 6) M_RH_foretell 1 6 41 [some (.ref 0), some (.int v1), some (.int a.1), some (.int a.2.1), some (.int a.2.2.1), none, none] [] a.2.2.2 := by
  obtain ⟨v2, v3, v4, σ⟩ := a
  unfold f_RH_foretell_0_L41 at h
  try dsimp only at h ⊢
  refine x_iload 43 rfl dX8_foretell_41 rfl ?_
  refine x_bipush 45 rfl (v := 48) dX8_foretell_43 (by decide) ?_
  refine x_icmp_gt 48 rfl 111 dX8_foretell_45 (by decide) (fun hc => ?_) (fun hc => ?_)
  · replace h := x_ifT hc h
    cases h
    exact x_wk (x_le_n (x_le_s (x_le_s (x_le_s (x_le_n (x_le_n (x_le_n x_le_0))))))) (hK (_, _, _, _) rfl)
  · replace h := x_ifF hc h
    refine x_iload 50 rfl dX8_foretell_48 rfl ?_
    obtain ⟨⟨q1r, q1s⟩, q1h, h⟩ := x_bind h
    try dsimp only at h
    refine z_callS E [.int _] [] dX8_foretell_50 K_RX8_246 ⟨Nat.le_of_ble_eq_true rfl, Nat.le_of_ble_eq_true rfl⟩ (c_RH_outward E _ q1h) rfl rfl (Nat.le_of_ble_eq_true rfl) 53 rfl [.int _] rfl ?_
    refine x_istore 55 rfl dX8_foretell_53 (by decide) [some (.ref 0), some (.int _), some (.int _), some (.int _), some (.int _), some (.int _), none] rfl ?_
    refine x_aload_n 56 rfl 0 dX8_foretell_55 rfl rfl ?_
    refine x_getR E dX8_foretell_56 F_RX8_51 sh_0 rf_0_8 59 rfl ?_
    refine x_iload 61 rfl dX8_foretell_59 rfl ?_
    refine x_putI E dX8_foretell_61 F_RX8_249 sh_49 64 rfl ?_
    refine x_aload_n 65 rfl 0 dX8_foretell_64 rfl rfl ?_
    refine x_getR E dX8_foretell_65 F_RX8_51 sh_0 rf_0_8 68 rfl ?_
    refine x_aload_n 69 rfl 0 dX8_foretell_68 rfl rfl ?_
    refine x_getR E dX8_foretell_69 F_RX8_27 sh_0 rf_0_3 72 rfl ?_
    obtain ⟨⟨q4r, q4s⟩, q4h, h⟩ := x_bind h
    try dsimp only at h
    refine z_callV E [.ref 7] [] dX8_foretell_72 K_RX8_241 ⟨Nat.le_of_ble_eq_true rfl, Nat.le_of_ble_eq_true rfl⟩ sh_49 (by decide) rfl (c_Tr_follow_49_7 E  q4h) rfl rfl (Nat.le_of_ble_eq_true rfl) 75 rfl [] rfl ?_
    refine x_aload_n 76 rfl 0 dX8_foretell_75 rfl rfl ?_
    refine x_getR E dX8_foretell_76 F_RX8_51 sh_0 rf_0_8 79 rfl ?_
    refine x_aload_n 80 rfl 0 dX8_foretell_79 rfl rfl ?_
    refine x_getR E dX8_foretell_80 F_RX8_51 sh_0 rf_0_8 83 rfl ?_
    refine x_getR E dX8_foretell_83 F_RX8_196 sh_49 rf_49_0 86 rfl ?_
    refine x_iconst 87 rfl (v := 0) dX8_foretell_86 (by decide) ?_
    refine x_iald E dX8_foretell_87 sh_50 0 (by decide) (by decide) 88 rfl ?_
    obtain ⟨⟨q5r, q5s⟩, q5h, h⟩ := x_bind h
    try dsimp only at h
    refine z_callV E [.int _] [] dX8_foretell_88 K_RX8_197 ⟨Nat.le_of_ble_eq_true rfl, Nat.le_of_ble_eq_true rfl⟩ sh_49 (by decide) rfl (c_Tr_sharpBy_49 E _ q5h) rfl rfl (Nat.le_of_ble_eq_true rfl) 91 rfl [.int _] rfl ?_
    refine x_istore 93 rfl dX8_foretell_91 (by decide) [some (.ref 0), some (.int _), some (.int _), some (.int _), some (.int _), some (.int _), some (.int _)] rfl ?_
    refine x_iload 95 rfl dX8_foretell_93 rfl ?_
    refine x_iload_n 96 rfl 3 dX8_foretell_95 rfl rfl ?_
    refine x_icmp_le 99 rfl 105 dX8_foretell_96 (by decide) (fun hc => ?_) (fun hc => ?_)
    · replace h := x_ifT hc h
      refine x_iinc 108 rfl (1) dX8_foretell_105 rfl (by decide) (by decide) [some (.ref 0), some (.int _), some (.int _), some (.int _), some (.int _), some (.int _), some (.int _)] rfl ?_
      refine x_goto 41 dX8_foretell_108 (by decide) ?_
      cases h
      exact x_wk (x_le_s (x_le_s (x_le_s (x_le_s (x_le_s (x_le_n (x_le_n x_le_0))))))) (hG (_, _, _, _) rfl)
    · replace h := x_ifF hc h
      refine x_iload 101 rfl dX8_foretell_99 rfl ?_
      refine x_istore_n 102 rfl 3 dX8_foretell_101 rfl (by decide) [some (.ref 0), some (.int _), some (.int _), some (.int _), some (.int _), some (.int _), some (.int _)] rfl ?_
      refine x_iload 104 rfl dX8_foretell_102 rfl ?_
      refine x_istore_n 105 rfl 2 dX8_foretell_104 rfl (by decide) [some (.ref 0), some (.int _), some (.int _), some (.int _), some (.int _), some (.int _), some (.int _)] rfl ?_
      refine x_iinc 108 rfl (1) dX8_foretell_105 rfl (by decide) (by decide) [some (.ref 0), some (.int _), some (.int _), some (.int _), some (.int _), some (.int _), some (.int _)] rfl ?_
      refine x_goto 41 dX8_foretell_108 (by decide) ?_
      cases h
      exact x_wk (x_le_s (x_le_s (x_le_s (x_le_s (x_le_s (x_le_n (x_le_n x_le_0))))))) (hG (_, _, _, _) rfl)
set_option maxHeartbeats 4000000 in
set_option maxRecDepth 100000 in
theorem c_RH_foretell_0 {l : Launch} {s0 : State} {a0 : Array Value} {D : va_G} {cA : Nat → ClassId} {sp : Nat → Nat} (E : x_En CL l s0 a0 D cA sp) (v1 : Int32) {σ : xS} {r : Int32 ⊕ Nat} {σ1 : xS} (h : f_RH_foretell_0 v1 σ = some (r, σ1)) : oC l s0 D cA sp 5 M_RH_foretell [.ref 0, .int v1] σ (x_oi r) σ1 := by
  unfold f_RH_foretell_0 at h
  try dsimp only at h
  refine x_enterO [some (.ref 0), some (.int v1), none, none, none, none, none] rfl (Nat.le_of_ble_eq_true rfl) (by decide +kernel) rfl ?_
  refine x_iload_n 1 rfl 1 dX8_foretell_0 rfl rfl ?_
  refine x_if_lt 4 rfl 9 dX8_foretell_1 (by decide) (fun hc => ?_) (fun hc => ?_)
  · replace h := x_ifT hc h
    cases h
    exact x_throwN E KU_ (k := 2) KX_RX8_244 rfl dX8_foretell_9 dX8_foretell_12 dX8_foretell_13 dX8_foretell_15 dX8_foretell_18 (Nat.le_of_ble_eq_true rfl)
  · replace h := x_ifF hc h
    refine x_iload_n 5 rfl 1 dX8_foretell_4 rfl rfl ?_
    refine x_iconst 6 rfl (v := 1) dX8_foretell_5 (by decide) ?_
    refine x_icmp_le 9 rfl 19 dX8_foretell_6 (by decide) (fun hc => ?_) (fun hc => ?_)
    · replace h := x_ifT hc h
      refine x_iconst 20 rfl (v := 0) dX8_foretell_19 (by decide) ?_
      refine x_istore_n 21 rfl 2 dX8_foretell_20 rfl (by decide) [some (.ref 0), some (.int _), some (.int _), none, none, none, none] rfl ?_
      refine x_iconst 22 rfl (v := -1) dX8_foretell_21 (by decide) ?_
      refine x_istore_n 23 rfl 3 dX8_foretell_22 rfl (by decide) [some (.ref 0), some (.int _), some (.int _), some (.int _), none, none, none] rfl ?_
      refine x_aload_n 24 rfl 0 dX8_foretell_23 rfl rfl ?_
      obtain ⟨⟨q9r, q9s⟩, q9h, h⟩ := x_bind h
      try dsimp only at h
      refine z_callV E [] [] dX8_foretell_24 K_RX8_187 ⟨Nat.le_of_ble_eq_true rfl, Nat.le_of_ble_eq_true rfl⟩ sh_0 (by decide) rfl (c_RH_takeSettings_0 E  q9h) rfl rfl (Nat.le_of_ble_eq_true rfl) 27 rfl [] rfl ?_
      refine x_aload_n 28 rfl 0 dX8_foretell_27 rfl rfl ?_
      refine x_getR E dX8_foretell_28 F_RX8_51 sh_0 rf_0_8 31 rfl ?_
      refine x_aload_n 32 rfl 0 dX8_foretell_31 rfl rfl ?_
      refine x_getR E dX8_foretell_32 F_RX8_27 sh_0 rf_0_3 35 rfl ?_
      obtain ⟨⟨q10r, q10s⟩, q10h, h⟩ := x_bind h
      try dsimp only at h
      refine z_callV E [.ref 7] [] dX8_foretell_35 K_RX8_238 ⟨Nat.le_of_ble_eq_true rfl, Nat.le_of_ble_eq_true rfl⟩ sh_49 (by decide) rfl (c_Tr_look_49_7 E  q10h) rfl rfl (Nat.le_of_ble_eq_true rfl) 38 rfl [] rfl ?_
      refine x_iconst 39 rfl (v := 0) dX8_foretell_38 (by decide) ?_
      refine x_istore 41 rfl dX8_foretell_39 (by decide) [some (.ref 0), some (.int _), some (.int _), some (.int _), some (.int _), none, none] rfl ?_
      obtain ⟨b11, b11h, h⟩ := x_bind h
      try dsimp only at h
      refine x_wk (x_le_s (x_le_s (x_le_s (x_le_s (x_le_s (x_le_n (x_le_n x_le_0))))))) (x_loop (fun a o h hK hG => b_RH_foretell_0_L41 (r := r) (σ1 := σ1) E _ a o h hK hG) _ _ _ b11h ?_)
      refine x_iload_n 112 rfl 1 dX8_foretell_111 rfl rfl ?_
      refine x_if_ne 115 rfl 119 dX8_foretell_112 (by decide) (fun hc => ?_) (fun hc => ?_)
      · replace h := x_ifF hc h
        refine x_iload_n 120 rfl 3 dX8_foretell_119 rfl rfl ?_
        cases h
        exact x_Oret (x_iret dX8_foretell_120 rfl rfl rfl)
      · replace h := x_ifT hc h
        refine x_iload_n 116 rfl 2 dX8_foretell_115 rfl rfl ?_
        refine x_goto 120 dX8_foretell_116 (by decide) ?_
        cases h
        exact x_Oret (x_iret dX8_foretell_120 rfl rfl rfl)
    · replace h := x_ifF hc h
      cases h
      exact x_throwN E KU_ (k := 2) KX_RX8_244 rfl dX8_foretell_9 dX8_foretell_12 dX8_foretell_13 dX8_foretell_15 dX8_foretell_18 (Nat.le_of_ble_eq_true rfl)
theorem KX_RX8_252 : x_KX RX8 85 252 89 (x_Xn 1) "not so many tenths" := ⟨by decide +kernel, (List.mem_append_right _ (List.mem_of_getElem? (i := 544) (by decide +kernel))), (List.mem_append_right _ (List.mem_of_getElem? (i := 13) (by decide +kernel))), (List.mem_append_right _ (List.mem_of_getElem? (i := 1015) (by decide +kernel))), (List.mem_of_getElem? (i := 646) (by decide +kernel)), AX_89, AO_85_89⟩
abbrev M_RH_holes : xM := (yX8_holes, cX8_holes, 3, some .int, [])
theorem dX8_holes_0 : decode cX8_holes 0 = .ok (.iload_n 1, 1) := by decide +kernel
theorem dX8_holes_1 : decode cX8_holes 1 = .ok (.ifCond .lt 10, 3) := by decide +kernel
theorem dX8_holes_4 : decode cX8_holes 4 = .ok (.iload_n 1, 1) := by decide +kernel
theorem dX8_holes_5 : decode cX8_holes 5 = .ok (.sipush 601, 3) := by decide +kernel
theorem dX8_holes_8 : decode cX8_holes 8 = .ok (.if_icmp .le 13, 3) := by decide +kernel
theorem dX8_holes_11 : decode cX8_holes 11 = .ok (.new 85, 3) := by decide +kernel
theorem dX8_holes_14 : decode cX8_holes 14 = .ok (.dup, 1) := by decide +kernel
theorem dX8_holes_15 : decode cX8_holes 15 = .ok (.ldc 252, 2) := by decide +kernel
theorem dX8_holes_17 : decode cX8_holes 17 = .ok (.invokespecial 89, 3) := by decide +kernel
theorem dX8_holes_20 : decode cX8_holes 20 = .ok (.athrow, 1) := by decide +kernel
theorem dX8_holes_21 : decode cX8_holes 21 = .ok (.aload_n 0, 1) := by decide +kernel
theorem dX8_holes_22 : decode cX8_holes 22 = .ok (.invokevirtual 164, 3) := by decide +kernel
theorem dX8_holes_25 : decode cX8_holes 25 = .ok (.iconst 1, 1) := by decide +kernel
theorem dX8_holes_26 : decode cX8_holes 26 = .ok (.istore_n 2, 1) := by decide +kernel
theorem dX8_holes_27 : decode cX8_holes 27 = .ok (.iload_n 2, 1) := by decide +kernel
theorem dX8_holes_28 : decode cX8_holes 28 = .ok (.bipush 60, 2) := by decide +kernel
theorem dX8_holes_30 : decode cX8_holes 30 = .ok (.if_icmp .gt 23, 3) := by decide +kernel
theorem dX8_holes_33 : decode cX8_holes 33 = .ok (.aload_n 0, 1) := by decide +kernel
theorem dX8_holes_34 : decode cX8_holes 34 = .ok (.getfield 51, 3) := by decide +kernel
theorem dX8_holes_37 : decode cX8_holes 37 = .ok (.iload_n 2, 1) := by decide +kernel
theorem dX8_holes_38 : decode cX8_holes 38 = .ok (.invokevirtual 197, 3) := by decide +kernel
theorem dX8_holes_41 : decode cX8_holes 41 = .ok (.iload_n 1, 1) := by decide +kernel
theorem dX8_holes_42 : decode cX8_holes 42 = .ok (.if_icmp .lt 5, 3) := by decide +kernel
theorem dX8_holes_45 : decode cX8_holes 45 = .ok (.iload_n 2, 1) := by decide +kernel
theorem dX8_holes_46 : decode cX8_holes 46 = .ok (.ireturn, 1) := by decide +kernel
theorem dX8_holes_47 : decode cX8_holes 47 = .ok (.iinc 2 1, 3) := by decide +kernel
theorem dX8_holes_50 : decode cX8_holes 50 = .ok (.goto (-23), 3) := by decide +kernel
theorem dX8_holes_53 : decode cX8_holes 53 = .ok (.iconst (-1), 1) := by decide +kernel
theorem dX8_holes_54 : decode cX8_holes 54 = .ok (.ireturn, 1) := by decide +kernel
def f_RH_holes_0_L27 (v1 : Int32) (a : Int32 × xS) : Option ((((Int32 ⊕ Nat) × xS) ⊕ (Int32 × xS)) ⊕ (Int32 × xS)) :=
  let v2 := a.1; let σ := a.2;
  if (60 : Int32) < v2 then
    some (.inl (.inr (v2, σ)))
  else
    (f_Tr_sharpBy_49 v2 σ).bind fun q1 =>
    if q1.1 < v1 then
      let w2 := v2 + (1 : Int32)
      some (.inr (w2, q1.2))
    else
      some (.inl (.inl (.inl v2, q1.2)))
def f_RH_holes_0 (v1 : Int32) (σ : xS) : Option ((Int32 ⊕ Nat) × xS) :=
  if v1 < 0 then
    some (.inr 1, σ)
  else
    if v1 ≤ (601 : Int32) then
      (f_RH_walkAsSet_0  σ).bind fun q3 =>
      (x_it (f_RH_holes_0_L27 v1) 10000 ((1 : Int32), q3.2)).bind fun b4 =>
      match b4 with
      | .inl b4r => some b4r
      | .inr b4e =>
        some (.inl (-1 : Int32), b4e.2)
    else
      some (.inr 1, σ)
set_option maxHeartbeats 4000000 in
set_option maxRecDepth 100000 in
theorem b_RH_holes_0_L27 {l : Launch} {s0 : State} {a0 : Array Value} {D : va_G} {cA : Nat → ClassId} {sp : Nat → Nat} (E : x_En CL l s0 a0 D cA sp) (v1 : Int32) {r : Int32 ⊕ Nat} {σ1 : xS} (a : Int32 × xS) (o : (((Int32 ⊕ Nat) × xS) ⊕ (Int32 × xS)) ⊕ (Int32 × xS)) (h : f_RH_holes_0_L27 v1 a = some o) (hK : ∀ b, o = .inl b → (∀ q, b = .inl q → q = (r, σ1)) ∧ ∀ e, b = .inr e → zW l s0 D cA sp (oQ s0 D cA sp (x_oi r) σ1) (x_rm 7 1 6) M_RH_holes 1 6 53 [none, none, none] [] e.2) (hG : ∀ a', o = .inr a' → zW l s0 D cA sp (oQ s0 D cA sp (x_oi r) σ1) (x_rm 7 1 6) M_RH_holes 1 6 27 [some (.ref 0), some (.int v1), some (.int a'.1)] [] a'.2) : zW l s0 D cA sp (oQ s0 D cA sp (x_oi r) σ1) (x_rm 7 1 6) M_RH_holes 1 6 27 [some (.ref 0), some (.int v1), some (.int a.1)] [] a.2 := by
  obtain ⟨v2, σ⟩ := a
  unfold f_RH_holes_0_L27 at h
  try dsimp only at h ⊢
  refine x_iload_n 28 rfl 2 dX8_holes_27 rfl rfl ?_
  refine x_bipush 30 rfl (v := 60) dX8_holes_28 (by decide) ?_
  refine x_icmp_gt 33 rfl 53 dX8_holes_30 (by decide) (fun hc => ?_) (fun hc => ?_)
  · replace h := x_ifT hc h
    cases h
    exact x_wk (x_le_n (x_le_n (x_le_n x_le_0))) ((hK (.inr (_, _)) rfl).2 (_, _) rfl)
  · replace h := x_ifF hc h
    refine x_aload_n 34 rfl 0 dX8_holes_33 rfl rfl ?_
    refine x_getR E dX8_holes_34 F_RX8_51 sh_0 rf_0_8 37 rfl ?_
    refine x_iload_n 38 rfl 2 dX8_holes_37 rfl rfl ?_
    obtain ⟨⟨q1r, q1s⟩, q1h, h⟩ := x_bind h
    try dsimp only at h
    refine z_callV E [.int _] [] dX8_holes_38 K_RX8_197 ⟨Nat.le_of_ble_eq_true rfl, Nat.le_of_ble_eq_true rfl⟩ sh_49 (by decide) rfl (c_Tr_sharpBy_49 E _ q1h) rfl rfl (Nat.le_of_ble_eq_true rfl) 41 rfl [.int _] rfl ?_
    refine x_iload_n 42 rfl 1 dX8_holes_41 rfl rfl ?_
    refine x_icmp_lt 45 rfl 47 dX8_holes_42 (by decide) (fun hc => ?_) (fun hc => ?_)
    · replace h := x_ifT hc h
      refine x_iinc 50 rfl (1) dX8_holes_47 rfl (by decide) (by decide) [some (.ref 0), some (.int _), some (.int _)] rfl ?_
      refine x_goto 27 dX8_holes_50 (by decide) ?_
      cases h
      exact x_wk (x_le_s (x_le_s (x_le_s x_le_0))) (hG (_, _) rfl)
    · replace h := x_ifF hc h
      refine x_iload_n 46 rfl 2 dX8_holes_45 rfl rfl ?_
      cases h
      cases (hK (.inl (_, _)) rfl).1 (_, _) rfl
      exact x_Oret (x_iret dX8_holes_46 rfl rfl rfl)
set_option maxHeartbeats 4000000 in
set_option maxRecDepth 100000 in
theorem c_RH_holes_0 {l : Launch} {s0 : State} {a0 : Array Value} {D : va_G} {cA : Nat → ClassId} {sp : Nat → Nat} (E : x_En CL l s0 a0 D cA sp) (v1 : Int32) {σ : xS} {r : Int32 ⊕ Nat} {σ1 : xS} (h : f_RH_holes_0 v1 σ = some (r, σ1)) : oC l s0 D cA sp 7 M_RH_holes [.ref 0, .int v1] σ (x_oi r) σ1 := by
  unfold f_RH_holes_0 at h
  try dsimp only at h
  refine x_enterO [some (.ref 0), some (.int v1), none] rfl (Nat.le_of_ble_eq_true rfl) (by decide +kernel) rfl ?_
  refine x_iload_n 1 rfl 1 dX8_holes_0 rfl rfl ?_
  refine x_if_lt 4 rfl 11 dX8_holes_1 (by decide) (fun hc => ?_) (fun hc => ?_)
  · replace h := x_ifT hc h
    cases h
    exact x_throw E KU_ (k := 1) KX_RX8_252 rfl dX8_holes_11 dX8_holes_14 dX8_holes_15 dX8_holes_17 dX8_holes_20 (Nat.le_of_ble_eq_true rfl)
  · replace h := x_ifF hc h
    refine x_iload_n 5 rfl 1 dX8_holes_4 rfl rfl ?_
    refine x_sipush 8 rfl (v := 601) dX8_holes_5 (by decide) ?_
    refine x_icmp_le 11 rfl 21 dX8_holes_8 (by decide) (fun hc => ?_) (fun hc => ?_)
    · replace h := x_ifT hc h
      refine x_aload_n 22 rfl 0 dX8_holes_21 rfl rfl ?_
      obtain ⟨⟨q3r, q3s⟩, q3h, h⟩ := x_bind h
      try dsimp only at h
      refine z_callV E [] [] dX8_holes_22 K_RX8_164 ⟨Nat.le_of_ble_eq_true rfl, Nat.le_of_ble_eq_true rfl⟩ sh_0 (by decide) rfl (c_RH_walkAsSet_0 E  q3h) rfl rfl (Nat.le_of_ble_eq_true rfl) 25 rfl [] rfl ?_
      refine x_iconst 26 rfl (v := 1) dX8_holes_25 (by decide) ?_
      refine x_istore_n 27 rfl 2 dX8_holes_26 rfl (by decide) [some (.ref 0), some (.int _), some (.int _)] rfl ?_
      obtain ⟨b4, b4h, h⟩ := x_bind h
      try dsimp only at h
      refine x_wk (x_le_s (x_le_s (x_le_s x_le_0))) (x_loop (fun a o h hK hG => b_RH_holes_0_L27 (r := r) (σ1 := σ1) E _ a o h hK hG) _ _ _ b4h ?_)
      cases b4 with
      | inl b4r =>
        try dsimp only at h
        cases h
        exact ⟨fun q e => (by cases e; rfl), fun e he => (by cases he)⟩
      | inr b4e =>
        try dsimp only at h
        refine ⟨fun q e => (by cases e), fun e he => ?_⟩
        cases he
        refine x_iconst 54 rfl (v := -1) dX8_holes_53 (by decide) ?_
        cases h
        exact x_Oret (x_iret dX8_holes_54 rfl rfl rfl)
    · replace h := x_ifF hc h
      cases h
      exact x_throw E KU_ (k := 1) KX_RX8_252 rfl dX8_holes_11 dX8_holes_14 dX8_holes_15 dX8_holes_17 dX8_holes_20 (Nat.le_of_ble_eq_true rfl)
theorem KX_RX8_254 : x_KX RX8 85 254 89 (x_Xn 1) "not so many minutes" := ⟨by decide +kernel, (List.mem_append_right _ (List.mem_of_getElem? (i := 544) (by decide +kernel))), (List.mem_append_right _ (List.mem_of_getElem? (i := 13) (by decide +kernel))), (List.mem_append_right _ (List.mem_of_getElem? (i := 1023) (by decide +kernel))), (List.mem_of_getElem? (i := 668) (by decide +kernel)), AX_89, AO_85_89⟩
abbrev M_RH_light : xM := (yX8_light, cX8_light, 13, some .int, [])
theorem dX8_light_0 : decode cX8_light 0 = .ok (.iload_n 1, 1) := by decide +kernel
theorem dX8_light_1 : decode cX8_light 1 = .ok (.ifCond .lt 20, 3) := by decide +kernel
theorem dX8_light_4 : decode cX8_light 4 = .ok (.iload_n 1, 1) := by decide +kernel
theorem dX8_light_5 : decode cX8_light 5 = .ok (.bipush 99, 2) := by decide +kernel
theorem dX8_light_7 : decode cX8_light 7 = .ok (.if_icmp .gt 14, 3) := by decide +kernel
theorem dX8_light_10 : decode cX8_light 10 = .ok (.iload_n 2, 1) := by decide +kernel
theorem dX8_light_11 : decode cX8_light 11 = .ok (.iconst 1, 1) := by decide +kernel
theorem dX8_light_12 : decode cX8_light 12 = .ok (.if_icmp .lt 9, 3) := by decide +kernel
theorem dX8_light_15 : decode cX8_light 15 = .ok (.iload_n 2, 1) := by decide +kernel
theorem dX8_light_16 : decode cX8_light 16 = .ok (.bipush 99, 2) := by decide +kernel
theorem dX8_light_18 : decode cX8_light 18 = .ok (.if_icmp .le 13, 3) := by decide +kernel
theorem dX8_light_21 : decode cX8_light 21 = .ok (.new 85, 3) := by decide +kernel
theorem dX8_light_24 : decode cX8_light 24 = .ok (.dup, 1) := by decide +kernel
theorem dX8_light_25 : decode cX8_light 25 = .ok (.ldc 254, 2) := by decide +kernel
theorem dX8_light_27 : decode cX8_light 27 = .ok (.invokespecial 89, 3) := by decide +kernel
theorem dX8_light_30 : decode cX8_light 30 = .ok (.athrow, 1) := by decide +kernel
theorem dX8_light_31 : decode cX8_light 31 = .ok (.aload_n 0, 1) := by decide +kernel
theorem dX8_light_32 : decode cX8_light 32 = .ok (.invokevirtual 164, 3) := by decide +kernel
theorem dX8_light_35 : decode cX8_light 35 = .ok (.iconst (-1), 1) := by decide +kernel
theorem dX8_light_36 : decode cX8_light 36 = .ok (.istore_n 3, 1) := by decide +kernel
theorem dX8_light_37 : decode cX8_light 37 = .ok (.lconst 0, 1) := by decide +kernel
theorem dX8_light_38 : decode cX8_light 38 = .ok (.lstore 4, 2) := by decide +kernel
theorem dX8_light_40 : decode cX8_light 40 = .ok (.lconst 1, 1) := by decide +kernel
theorem dX8_light_41 : decode cX8_light 41 = .ok (.lstore 6, 2) := by decide +kernel
theorem dX8_light_43 : decode cX8_light 43 = .ok (.iconst 0, 1) := by decide +kernel
theorem dX8_light_44 : decode cX8_light 44 = .ok (.istore 8, 2) := by decide +kernel
theorem dX8_light_46 : decode cX8_light 46 = .ok (.iload 8, 2) := by decide +kernel
theorem dX8_light_48 : decode cX8_light 48 = .ok (.bipush 60, 2) := by decide +kernel
theorem dX8_light_50 : decode cX8_light 50 = .ok (.aload_n 0, 1) := by decide +kernel
theorem dX8_light_51 : decode cX8_light 51 = .ok (.getfield 37, 3) := by decide +kernel
theorem dX8_light_54 : decode cX8_light 54 = .ok (.getfield 118, 3) := by decide +kernel
theorem dX8_light_57 : decode cX8_light 57 = .ok (.iconst 0, 1) := by decide +kernel
theorem dX8_light_58 : decode cX8_light 58 = .ok (.iaload, 1) := by decide +kernel
theorem dX8_light_59 : decode cX8_light 59 = .ok (.isub, 1) := by decide +kernel
theorem dX8_light_60 : decode cX8_light 60 = .ok (.if_icmp .gt 92, 3) := by decide +kernel
theorem dX8_light_63 : decode cX8_light 63 = .ok (.aload_n 0, 1) := by decide +kernel
theorem dX8_light_64 : decode cX8_light 64 = .ok (.getfield 51, 3) := by decide +kernel
theorem dX8_light_67 : decode cX8_light 67 = .ok (.aload_n 0, 1) := by decide +kernel
theorem dX8_light_68 : decode cX8_light 68 = .ok (.getfield 37, 3) := by decide +kernel
theorem dX8_light_71 : decode cX8_light 71 = .ok (.getfield 118, 3) := by decide +kernel
theorem dX8_light_74 : decode cX8_light 74 = .ok (.iconst 0, 1) := by decide +kernel
theorem dX8_light_75 : decode cX8_light 75 = .ok (.iaload, 1) := by decide +kernel
theorem dX8_light_76 : decode cX8_light 76 = .ok (.iload 8, 2) := by decide +kernel
theorem dX8_light_78 : decode cX8_light 78 = .ok (.iadd, 1) := by decide +kernel
theorem dX8_light_79 : decode cX8_light 79 = .ok (.invokevirtual 197, 3) := by decide +kernel
theorem dX8_light_82 : decode cX8_light 82 = .ok (.i2l, 1) := by decide +kernel
theorem dX8_light_83 : decode cX8_light 83 = .ok (.lstore 9, 2) := by decide +kernel
theorem dX8_light_85 : decode cX8_light 85 = .ok (.iload 8, 2) := by decide +kernel
theorem dX8_light_87 : decode cX8_light 87 = .ok (.iload_n 1, 1) := by decide +kernel
theorem dX8_light_88 : decode cX8_light 88 = .ok (.imul, 1) := by decide +kernel
theorem dX8_light_89 : decode cX8_light 89 = .ok (.i2l, 1) := by decide +kernel
theorem dX8_light_90 : decode cX8_light 90 = .ok (.lload 9, 2) := by decide +kernel
theorem dX8_light_92 : decode cX8_light 92 = .ok (.lmul, 1) := by decide +kernel
theorem dX8_light_93 : decode cX8_light 93 = .ok (.iload_n 2, 1) := by decide +kernel
theorem dX8_light_94 : decode cX8_light 94 = .ok (.i2l, 1) := by decide +kernel
theorem dX8_light_95 : decode cX8_light 95 = .ok (.aload_n 0, 1) := by decide +kernel
theorem dX8_light_96 : decode cX8_light 96 = .ok (.getfield 27, 3) := by decide +kernel
theorem dX8_light_99 : decode cX8_light 99 = .ok (.getfield 103, 3) := by decide +kernel
theorem dX8_light_102 : decode cX8_light 102 = .ok (.iconst 1, 1) := by decide +kernel
theorem dX8_light_103 : decode cX8_light 103 = .ok (.iadd, 1) := by decide +kernel
theorem dX8_light_104 : decode cX8_light 104 = .ok (.i2l, 1) := by decide +kernel
theorem dX8_light_105 : decode cX8_light 105 = .ok (.lmul, 1) := by decide +kernel
theorem dX8_light_106 : decode cX8_light 106 = .ok (.ladd, 1) := by decide +kernel
theorem dX8_light_107 : decode cX8_light 107 = .ok (.lstore 11, 2) := by decide +kernel
theorem dX8_light_109 : decode cX8_light 109 = .ok (.lload 9, 2) := by decide +kernel
theorem dX8_light_111 : decode cX8_light 111 = .ok (.lconst 0, 1) := by decide +kernel
theorem dX8_light_112 : decode cX8_light 112 = .ok (.lcmp, 1) := by decide +kernel
theorem dX8_light_113 : decode cX8_light 113 = .ok (.ifCond .le 33, 3) := by decide +kernel
theorem dX8_light_116 : decode cX8_light 116 = .ok (.iload_n 3, 1) := by decide +kernel
theorem dX8_light_117 : decode cX8_light 117 = .ok (.iconst (-1), 1) := by decide +kernel
theorem dX8_light_118 : decode cX8_light 118 = .ok (.if_icmp .eq 17, 3) := by decide +kernel
theorem dX8_light_121 : decode cX8_light 121 = .ok (.lload 11, 2) := by decide +kernel
theorem dX8_light_123 : decode cX8_light 123 = .ok (.lload 6, 2) := by decide +kernel
theorem dX8_light_125 : decode cX8_light 125 = .ok (.lmul, 1) := by decide +kernel
theorem dX8_light_126 : decode cX8_light 126 = .ok (.lload 4, 2) := by decide +kernel
theorem dX8_light_128 : decode cX8_light 128 = .ok (.lload 9, 2) := by decide +kernel
theorem dX8_light_130 : decode cX8_light 130 = .ok (.lmul, 1) := by decide +kernel
theorem dX8_light_131 : decode cX8_light 131 = .ok (.lcmp, 1) := by decide +kernel
theorem dX8_light_132 : decode cX8_light 132 = .ok (.ifCond .ge 14, 3) := by decide +kernel
theorem dX8_light_135 : decode cX8_light 135 = .ok (.iload 8, 2) := by decide +kernel
theorem dX8_light_137 : decode cX8_light 137 = .ok (.istore_n 3, 1) := by decide +kernel
theorem dX8_light_138 : decode cX8_light 138 = .ok (.lload 11, 2) := by decide +kernel
theorem dX8_light_140 : decode cX8_light 140 = .ok (.lstore 4, 2) := by decide +kernel
theorem dX8_light_142 : decode cX8_light 142 = .ok (.lload 9, 2) := by decide +kernel
theorem dX8_light_144 : decode cX8_light 144 = .ok (.lstore 6, 2) := by decide +kernel
theorem dX8_light_146 : decode cX8_light 146 = .ok (.iinc 8 1, 3) := by decide +kernel
theorem dX8_light_149 : decode cX8_light 149 = .ok (.goto (-103), 3) := by decide +kernel
theorem dX8_light_152 : decode cX8_light 152 = .ok (.iload_n 3, 1) := by decide +kernel
theorem dX8_light_153 : decode cX8_light 153 = .ok (.ireturn, 1) := by decide +kernel
def f_RH_light_0_L46 (v1 : Int32) (v2 : Int32) (a : Int32 × Int64 × Int64 × Int32 × xS) : Option ((Int32 × Int64 × Int64 × Int32 × xS) ⊕ (Int32 × Int64 × Int64 × Int32 × xS)) :=
  let v3 := a.1; let v4 := a.2.1; let v6 := a.2.2.1; let v8 := a.2.2.2.1; let σ := a.2.2.2.2;
  if ((60 : Int32) - σ.1 36 0) < v8 then
    some (.inl (v3, v4, v6, v8, σ))
  else
    (f_Tr_sharpBy_49 (σ.1 36 0 + v8) σ).bind fun q1 =>
    let w2 := q1.1.toInt64
    let w3 := (((v8 * v1).toInt64 * w2) + (v2.toInt64 * (q1.2.1 7 4 + (1 : Int32)).toInt64))
    if (lg_cmp w2 (0 : Int64)) ≤ 0 then
      let w4 := v8 + (1 : Int32)
      some (.inr (v3, v4, v6, w4, q1.2))
    else
      if v3 = (-1 : Int32) then
        let w5 := v8 + (1 : Int32)
        some (.inr (v8, w3, w2, w5, q1.2))
      else
        if 0 ≤ (lg_cmp (w3 * v6) (v4 * w2)) then
          let w6 := v8 + (1 : Int32)
          some (.inr (v3, v4, v6, w6, q1.2))
        else
          let w7 := v8 + (1 : Int32)
          some (.inr (v8, w3, w2, w7, q1.2))
def f_RH_light_0 (v1 : Int32) (v2 : Int32) (σ : xS) : Option ((Int32 ⊕ Nat) × xS) :=
  if v1 < 0 then
    some (.inr 1, σ)
  else
    if (99 : Int32) < v1 then
      some (.inr 1, σ)
    else
      if v2 < (1 : Int32) then
        some (.inr 1, σ)
      else
        if v2 ≤ (99 : Int32) then
          (f_RH_walkAsSet_0  σ).bind fun q8 =>
          let w9 := (0 : Int64)
          let w10 := (1 : Int64)
          (x_it (f_RH_light_0_L46 v1 v2) 10000 ((-1 : Int32), w9, w10, (0 : Int32), q8.2)).bind fun b11 =>
          some (.inl b11.1, b11.2.2.2.2)
        else
          some (.inr 1, σ)
set_option maxHeartbeats 4000000 in
set_option maxRecDepth 100000 in
theorem b_RH_light_0_L46 {l : Launch} {s0 : State} {a0 : Array Value} {D : va_G} {cA : Nat → ClassId} {sp : Nat → Nat} (E : x_En CL l s0 a0 D cA sp) (v1 : Int32) (v2 : Int32) {r : Int32 ⊕ Nat} {σ1 : xS} (a : Int32 × Int64 × Int64 × Int32 × xS) (o : (Int32 × Int64 × Int64 × Int32 × xS) ⊕ (Int32 × Int64 × Int64 × Int32 × xS)) (h : f_RH_light_0_L46 v1 v2 a = some o) (hK : ∀ b, o = .inl b → zW l s0 D cA sp (oQ s0 D cA sp (x_oi r) σ1) (x_rm 7 1 6) M_RH_light 1 6 152 [none, none, none, some (.int b.1), none, none, none, none, none, none, none, none, none] [] b.2.2.2.2) (hG : ∀ a', o = .inr a' → zW l s0 D cA sp (oQ s0 D cA sp (x_oi r) σ1) (x_rm 7 1 6) M_RH_light 1 6 46 [some (.ref 0), some (.int v1), some (.int v2), some (.int a'.1), some (.long a'.2.1), none, some (.long a'.2.2.1), none, some (.int a'.2.2.2.1), none, none, none, none] [] a'.2.2.2.2) : zW l s0 D cA sp (oQ s0 D cA sp (x_oi r) σ1) (x_rm 7 1 6) M_RH_light 1 6 46 [some (.ref 0), some (.int v1), some (.int v2), some (.int a.1), some (.long a.2.1), none, some (.long a.2.2.1), none, some (.int a.2.2.2.1), none, none, none, none] [] a.2.2.2.2 := by
  obtain ⟨v3, v4, v6, v8, σ⟩ := a
  unfold f_RH_light_0_L46 at h
  try dsimp only at h ⊢
  refine x_iload 48 rfl dX8_light_46 rfl ?_
  refine x_bipush 50 rfl (v := 60) dX8_light_48 (by decide) ?_
  refine x_aload_n 51 rfl 0 dX8_light_50 rfl rfl ?_
  refine x_getR E dX8_light_51 F_RX8_37 sh_0 rf_0_5 54 rfl ?_
  refine x_getR E dX8_light_54 F_RX8_118 sh_35 rf_35_0 57 rfl ?_
  refine x_iconst 58 rfl (v := 0) dX8_light_57 (by decide) ?_
  refine x_iald E dX8_light_58 sh_36 0 (by decide) (by decide) 59 rfl ?_
  refine x_isub 60 rfl dX8_light_59 ?_
  refine x_icmp_gt 63 rfl 152 dX8_light_60 (by decide) (fun hc => ?_) (fun hc => ?_)
  · replace h := x_ifT hc h
    cases h
    exact x_wk (x_le_n (x_le_n (x_le_n (x_le_s (x_le_n (x_le_n (x_le_n (x_le_n (x_le_n (x_le_n (x_le_n (x_le_n (x_le_n x_le_0))))))))))))) (hK (_, _, _, _, _) rfl)
  · replace h := x_ifF hc h
    refine x_aload_n 64 rfl 0 dX8_light_63 rfl rfl ?_
    refine x_getR E dX8_light_64 F_RX8_51 sh_0 rf_0_8 67 rfl ?_
    refine x_aload_n 68 rfl 0 dX8_light_67 rfl rfl ?_
    refine x_getR E dX8_light_68 F_RX8_37 sh_0 rf_0_5 71 rfl ?_
    refine x_getR E dX8_light_71 F_RX8_118 sh_35 rf_35_0 74 rfl ?_
    refine x_iconst 75 rfl (v := 0) dX8_light_74 (by decide) ?_
    refine x_iald E dX8_light_75 sh_36 0 (by decide) (by decide) 76 rfl ?_
    refine x_iload 78 rfl dX8_light_76 rfl ?_
    refine x_iadd 79 rfl dX8_light_78 ?_
    obtain ⟨⟨q1r, q1s⟩, q1h, h⟩ := x_bind h
    try dsimp only at h
    refine z_callV E [.int _] [] dX8_light_79 K_RX8_197 ⟨Nat.le_of_ble_eq_true rfl, Nat.le_of_ble_eq_true rfl⟩ sh_49 (by decide) rfl (c_Tr_sharpBy_49 E _ q1h) rfl rfl (Nat.le_of_ble_eq_true rfl) 82 rfl [.int _] rfl ?_
    refine x_i2l 83 rfl dX8_light_82 ?_
    refine x_lstore 85 rfl dX8_light_83 (by decide) [some (.ref 0), some (.int _), some (.int _), some (.int _), some (.long _), none, some (.long _), none, some (.int _), some (.long _), none, none, none] rfl ?_
    refine x_iload 87 rfl dX8_light_85 rfl ?_
    refine x_iload_n 88 rfl 1 dX8_light_87 rfl rfl ?_
    refine x_imul 89 rfl dX8_light_88 ?_
    refine x_i2l 90 rfl dX8_light_89 ?_
    refine x_lload 92 rfl dX8_light_90 rfl ?_
    refine x_lmul 93 rfl dX8_light_92 ?_
    refine x_iload_n 94 rfl 2 dX8_light_93 rfl rfl ?_
    refine x_i2l 95 rfl dX8_light_94 ?_
    refine x_aload_n 96 rfl 0 dX8_light_95 rfl rfl ?_
    refine x_getR E dX8_light_96 F_RX8_27 sh_0 rf_0_3 99 rfl ?_
    refine x_getI E dX8_light_99 F_RX8_103 sh_7 102 rfl ?_
    refine x_iconst 103 rfl (v := 1) dX8_light_102 (by decide) ?_
    refine x_iadd 104 rfl dX8_light_103 ?_
    refine x_i2l 105 rfl dX8_light_104 ?_
    refine x_lmul 106 rfl dX8_light_105 ?_
    refine x_ladd 107 rfl dX8_light_106 ?_
    refine x_lstore 109 rfl dX8_light_107 (by decide) [some (.ref 0), some (.int _), some (.int _), some (.int _), some (.long _), none, some (.long _), none, some (.int _), some (.long _), none, some (.long _), none] rfl ?_
    refine x_lload 111 rfl dX8_light_109 rfl ?_
    refine x_lconst 112 rfl (v := 0) dX8_light_111 (by decide) ?_
    refine x_lcmp 113 rfl dX8_light_112 ?_
    refine x_if_le 116 rfl 146 dX8_light_113 (by decide) (fun hc => ?_) (fun hc => ?_)
    · replace h := x_ifT hc h
      refine x_iinc 149 rfl (1) dX8_light_146 rfl (by decide) (by decide) [some (.ref 0), some (.int _), some (.int _), some (.int _), some (.long _), none, some (.long _), none, some (.int _), some (.long _), none, some (.long _), none] rfl ?_
      refine x_goto 46 dX8_light_149 (by decide) ?_
      cases h
      exact x_wk (x_le_s (x_le_s (x_le_s (x_le_s (x_le_s (x_le_n (x_le_s (x_le_n (x_le_s (x_le_n (x_le_n (x_le_n (x_le_n x_le_0))))))))))))) (hG (_, _, _, _, _) rfl)
    · replace h := x_ifF hc h
      refine x_iload_n 117 rfl 3 dX8_light_116 rfl rfl ?_
      refine x_iconst 118 rfl (v := -1) dX8_light_117 (by decide) ?_
      refine x_icmp_eq 121 rfl 135 dX8_light_118 (by decide) (fun hc => ?_) (fun hc => ?_)
      · replace h := x_ifT hc h
        refine x_iload 137 rfl dX8_light_135 rfl ?_
        refine x_istore_n 138 rfl 3 dX8_light_137 rfl (by decide) [some (.ref 0), some (.int _), some (.int _), some (.int _), some (.long _), none, some (.long _), none, some (.int _), some (.long _), none, some (.long _), none] rfl ?_
        refine x_lload 140 rfl dX8_light_138 rfl ?_
        refine x_lstore 142 rfl dX8_light_140 (by decide) [some (.ref 0), some (.int _), some (.int _), some (.int _), some (.long _), none, some (.long _), none, some (.int _), some (.long _), none, some (.long _), none] rfl ?_
        refine x_lload 144 rfl dX8_light_142 rfl ?_
        refine x_lstore 146 rfl dX8_light_144 (by decide) [some (.ref 0), some (.int _), some (.int _), some (.int _), some (.long _), none, some (.long _), none, some (.int _), some (.long _), none, some (.long _), none] rfl ?_
        refine x_iinc 149 rfl (1) dX8_light_146 rfl (by decide) (by decide) [some (.ref 0), some (.int _), some (.int _), some (.int _), some (.long _), none, some (.long _), none, some (.int _), some (.long _), none, some (.long _), none] rfl ?_
        refine x_goto 46 dX8_light_149 (by decide) ?_
        cases h
        exact x_wk (x_le_s (x_le_s (x_le_s (x_le_s (x_le_s (x_le_n (x_le_s (x_le_n (x_le_s (x_le_n (x_le_n (x_le_n (x_le_n x_le_0))))))))))))) (hG (_, _, _, _, _) rfl)
      · replace h := x_ifF hc h
        refine x_lload 123 rfl dX8_light_121 rfl ?_
        refine x_lload 125 rfl dX8_light_123 rfl ?_
        refine x_lmul 126 rfl dX8_light_125 ?_
        refine x_lload 128 rfl dX8_light_126 rfl ?_
        refine x_lload 130 rfl dX8_light_128 rfl ?_
        refine x_lmul 131 rfl dX8_light_130 ?_
        refine x_lcmp 132 rfl dX8_light_131 ?_
        refine x_if_ge 135 rfl 146 dX8_light_132 (by decide) (fun hc => ?_) (fun hc => ?_)
        · replace h := x_ifT hc h
          refine x_iinc 149 rfl (1) dX8_light_146 rfl (by decide) (by decide) [some (.ref 0), some (.int _), some (.int _), some (.int _), some (.long _), none, some (.long _), none, some (.int _), some (.long _), none, some (.long _), none] rfl ?_
          refine x_goto 46 dX8_light_149 (by decide) ?_
          cases h
          exact x_wk (x_le_s (x_le_s (x_le_s (x_le_s (x_le_s (x_le_n (x_le_s (x_le_n (x_le_s (x_le_n (x_le_n (x_le_n (x_le_n x_le_0))))))))))))) (hG (_, _, _, _, _) rfl)
        · replace h := x_ifF hc h
          refine x_iload 137 rfl dX8_light_135 rfl ?_
          refine x_istore_n 138 rfl 3 dX8_light_137 rfl (by decide) [some (.ref 0), some (.int _), some (.int _), some (.int _), some (.long _), none, some (.long _), none, some (.int _), some (.long _), none, some (.long _), none] rfl ?_
          refine x_lload 140 rfl dX8_light_138 rfl ?_
          refine x_lstore 142 rfl dX8_light_140 (by decide) [some (.ref 0), some (.int _), some (.int _), some (.int _), some (.long _), none, some (.long _), none, some (.int _), some (.long _), none, some (.long _), none] rfl ?_
          refine x_lload 144 rfl dX8_light_142 rfl ?_
          refine x_lstore 146 rfl dX8_light_144 (by decide) [some (.ref 0), some (.int _), some (.int _), some (.int _), some (.long _), none, some (.long _), none, some (.int _), some (.long _), none, some (.long _), none] rfl ?_
          refine x_iinc 149 rfl (1) dX8_light_146 rfl (by decide) (by decide) [some (.ref 0), some (.int _), some (.int _), some (.int _), some (.long _), none, some (.long _), none, some (.int _), some (.long _), none, some (.long _), none] rfl ?_
          refine x_goto 46 dX8_light_149 (by decide) ?_
          cases h
          exact x_wk (x_le_s (x_le_s (x_le_s (x_le_s (x_le_s (x_le_n (x_le_s (x_le_n (x_le_s (x_le_n (x_le_n (x_le_n (x_le_n x_le_0))))))))))))) (hG (_, _, _, _, _) rfl)
set_option maxHeartbeats 4000000 in
set_option maxRecDepth 100000 in
theorem c_RH_light_0 {l : Launch} {s0 : State} {a0 : Array Value} {D : va_G} {cA : Nat → ClassId} {sp : Nat → Nat} (E : x_En CL l s0 a0 D cA sp) (v1 : Int32) (v2 : Int32) {σ : xS} {r : Int32 ⊕ Nat} {σ1 : xS} (h : f_RH_light_0 v1 v2 σ = some (r, σ1)) : oC l s0 D cA sp 7 M_RH_light [.ref 0, .int v1, .int v2] σ (x_oi r) σ1 := by
  unfold f_RH_light_0 at h
  try dsimp only at h
  refine x_enterO [some (.ref 0), some (.int v1), some (.int v2), none, none, none, none, none, none, none, none, none, none] rfl (Nat.le_of_ble_eq_true rfl) (by decide +kernel) rfl ?_
  refine x_iload_n 1 rfl 1 dX8_light_0 rfl rfl ?_
  refine x_if_lt 4 rfl 21 dX8_light_1 (by decide) (fun hc => ?_) (fun hc => ?_)
  · replace h := x_ifT hc h
    cases h
    exact x_throw E KU_ (k := 1) KX_RX8_254 rfl dX8_light_21 dX8_light_24 dX8_light_25 dX8_light_27 dX8_light_30 (Nat.le_of_ble_eq_true rfl)
  · replace h := x_ifF hc h
    refine x_iload_n 5 rfl 1 dX8_light_4 rfl rfl ?_
    refine x_bipush 7 rfl (v := 99) dX8_light_5 (by decide) ?_
    refine x_icmp_gt 10 rfl 21 dX8_light_7 (by decide) (fun hc => ?_) (fun hc => ?_)
    · replace h := x_ifT hc h
      cases h
      exact x_throw E KU_ (k := 1) KX_RX8_254 rfl dX8_light_21 dX8_light_24 dX8_light_25 dX8_light_27 dX8_light_30 (Nat.le_of_ble_eq_true rfl)
    · replace h := x_ifF hc h
      refine x_iload_n 11 rfl 2 dX8_light_10 rfl rfl ?_
      refine x_iconst 12 rfl (v := 1) dX8_light_11 (by decide) ?_
      refine x_icmp_lt 15 rfl 21 dX8_light_12 (by decide) (fun hc => ?_) (fun hc => ?_)
      · replace h := x_ifT hc h
        cases h
        exact x_throw E KU_ (k := 1) KX_RX8_254 rfl dX8_light_21 dX8_light_24 dX8_light_25 dX8_light_27 dX8_light_30 (Nat.le_of_ble_eq_true rfl)
      · replace h := x_ifF hc h
        refine x_iload_n 16 rfl 2 dX8_light_15 rfl rfl ?_
        refine x_bipush 18 rfl (v := 99) dX8_light_16 (by decide) ?_
        refine x_icmp_le 21 rfl 31 dX8_light_18 (by decide) (fun hc => ?_) (fun hc => ?_)
        · replace h := x_ifT hc h
          refine x_aload_n 32 rfl 0 dX8_light_31 rfl rfl ?_
          obtain ⟨⟨q8r, q8s⟩, q8h, h⟩ := x_bind h
          try dsimp only at h
          refine z_callV E [] [] dX8_light_32 K_RX8_164 ⟨Nat.le_of_ble_eq_true rfl, Nat.le_of_ble_eq_true rfl⟩ sh_0 (by decide) rfl (c_RH_walkAsSet_0 E  q8h) rfl rfl (Nat.le_of_ble_eq_true rfl) 35 rfl [] rfl ?_
          refine x_iconst 36 rfl (v := -1) dX8_light_35 (by decide) ?_
          refine x_istore_n 37 rfl 3 dX8_light_36 rfl (by decide) [some (.ref 0), some (.int _), some (.int _), some (.int _), none, none, none, none, none, none, none, none, none] rfl ?_
          refine x_lconst 38 rfl (v := 0) dX8_light_37 (by decide) ?_
          refine x_lstore 40 rfl dX8_light_38 (by decide) [some (.ref 0), some (.int _), some (.int _), some (.int _), some (.long _), none, none, none, none, none, none, none, none] rfl ?_
          refine x_lconst 41 rfl (v := 1) dX8_light_40 (by decide) ?_
          refine x_lstore 43 rfl dX8_light_41 (by decide) [some (.ref 0), some (.int _), some (.int _), some (.int _), some (.long _), none, some (.long _), none, none, none, none, none, none] rfl ?_
          refine x_iconst 44 rfl (v := 0) dX8_light_43 (by decide) ?_
          refine x_istore 46 rfl dX8_light_44 (by decide) [some (.ref 0), some (.int _), some (.int _), some (.int _), some (.long _), none, some (.long _), none, some (.int _), none, none, none, none] rfl ?_
          obtain ⟨b11, b11h, h⟩ := x_bind h
          try dsimp only at h
          refine x_wk (x_le_s (x_le_s (x_le_s (x_le_s (x_le_s (x_le_n (x_le_s (x_le_n (x_le_s (x_le_n (x_le_n (x_le_n (x_le_n x_le_0))))))))))))) (x_loop (fun a o h hK hG => b_RH_light_0_L46 (r := r) (σ1 := σ1) E _ _ a o h hK hG) _ _ _ b11h ?_)
          refine x_iload_n 153 rfl 3 dX8_light_152 rfl rfl ?_
          cases h
          exact x_Oret (x_iret dX8_light_153 rfl rfl rfl)
        · replace h := x_ifF hc h
          cases h
          exact x_throw E KU_ (k := 1) KX_RX8_254 rfl dX8_light_21 dX8_light_24 dX8_light_25 dX8_light_27 dX8_light_30 (Nat.le_of_ble_eq_true rfl)
theorem K_RX8_261 : x_KM RX8 261 Lib.Math.max.name Lib.Math.max.code 2 := ⟨(List.mem_append_right _ (List.mem_of_getElem? (i := 426) (by decide +kernel))), (List.mem_append_right _ (List.mem_of_getElem? (i := 427) (by decide +kernel))), (List.mem_append_right _ (List.mem_of_getElem? (i := 14) (by decide +kernel))), (List.mem_append_right _ (List.mem_of_getElem? (i := 428) (by decide +kernel)))⟩
abbrev M_RH_both : xM := (yX8_both, cX8_both, 5, some .int, [])
theorem dX8_both_0 : decode cX8_both 0 = .ok (.iconst 0, 1) := by decide +kernel
theorem dX8_both_1 : decode cX8_both 1 = .ok (.istore_n 1, 1) := by decide +kernel
theorem dX8_both_2 : decode cX8_both 2 = .ok (.iconst 0, 1) := by decide +kernel
theorem dX8_both_3 : decode cX8_both 3 = .ok (.istore_n 2, 1) := by decide +kernel
theorem dX8_both_4 : decode cX8_both 4 = .ok (.iload_n 2, 1) := by decide +kernel
theorem dX8_both_5 : decode cX8_both 5 = .ok (.aload_n 0, 1) := by decide +kernel
theorem dX8_both_6 : decode cX8_both 6 = .ok (.getfield 27, 3) := by decide +kernel
theorem dX8_both_9 : decode cX8_both 9 = .ok (.getfield 103, 3) := by decide +kernel
theorem dX8_both_12 : decode cX8_both 12 = .ok (.if_icmp .gt 64, 3) := by decide +kernel
theorem dX8_both_15 : decode cX8_both 15 = .ok (.aload_n 0, 1) := by decide +kernel
theorem dX8_both_16 : decode cX8_both 16 = .ok (.getfield 27, 3) := by decide +kernel
theorem dX8_both_19 : decode cX8_both 19 = .ok (.iload_n 2, 1) := by decide +kernel
theorem dX8_both_20 : decode cX8_both 20 = .ok (.invokevirtual 146, 3) := by decide +kernel
theorem dX8_both_23 : decode cX8_both 23 = .ok (.istore_n 3, 1) := by decide +kernel
theorem dX8_both_24 : decode cX8_both 24 = .ok (.aload_n 0, 1) := by decide +kernel
theorem dX8_both_25 : decode cX8_both 25 = .ok (.getfield 27, 3) := by decide +kernel
theorem dX8_both_28 : decode cX8_both 28 = .ok (.iload_n 3, 1) := by decide +kernel
theorem dX8_both_29 : decode cX8_both 29 = .ok (.iconst 1, 1) := by decide +kernel
theorem dX8_both_30 : decode cX8_both 30 = .ok (.aload_n 0, 1) := by decide +kernel
theorem dX8_both_31 : decode cX8_both 31 = .ok (.getfield 37, 3) := by decide +kernel
theorem dX8_both_34 : decode cX8_both 34 = .ok (.getfield 118, 3) := by decide +kernel
theorem dX8_both_37 : decode cX8_both 37 = .ok (.iconst 5, 1) := by decide +kernel
theorem dX8_both_38 : decode cX8_both 38 = .ok (.iaload, 1) := by decide +kernel
theorem dX8_both_39 : decode cX8_both 39 = .ok (.invokevirtual 150, 3) := by decide +kernel
theorem dX8_both_42 : decode cX8_both 42 = .ok (.istore 4, 2) := by decide +kernel
theorem dX8_both_44 : decode cX8_both 44 = .ok (.iload_n 1, 1) := by decide +kernel
theorem dX8_both_45 : decode cX8_both 45 = .ok (.aload_n 0, 1) := by decide +kernel
theorem dX8_both_46 : decode cX8_both 46 = .ok (.getfield 27, 3) := by decide +kernel
theorem dX8_both_49 : decode cX8_both 49 = .ok (.iload_n 3, 1) := by decide +kernel
theorem dX8_both_50 : decode cX8_both 50 = .ok (.invokevirtual 159, 3) := by decide +kernel
theorem dX8_both_53 : decode cX8_both 53 = .ok (.aload_n 0, 1) := by decide +kernel
theorem dX8_both_54 : decode cX8_both 54 = .ok (.getfield 27, 3) := by decide +kernel
theorem dX8_both_57 : decode cX8_both 57 = .ok (.iload 4, 2) := by decide +kernel
theorem dX8_both_59 : decode cX8_both 59 = .ok (.invokevirtual 159, 3) := by decide +kernel
theorem dX8_both_62 : decode cX8_both 62 = .ok (.isub, 1) := by decide +kernel
theorem dX8_both_63 : decode cX8_both 63 = .ok (.invokestatic 256, 3) := by decide +kernel
theorem dX8_both_66 : decode cX8_both 66 = .ok (.invokestatic 261, 3) := by decide +kernel
theorem dX8_both_69 : decode cX8_both 69 = .ok (.istore_n 1, 1) := by decide +kernel
theorem dX8_both_70 : decode cX8_both 70 = .ok (.iinc 2 1, 3) := by decide +kernel
theorem dX8_both_73 : decode cX8_both 73 = .ok (.goto (-69), 3) := by decide +kernel
theorem dX8_both_76 : decode cX8_both 76 = .ok (.iload_n 1, 1) := by decide +kernel
theorem dX8_both_77 : decode cX8_both 77 = .ok (.iconst 1, 1) := by decide +kernel
theorem dX8_both_78 : decode cX8_both 78 = .ok (.iadd, 1) := by decide +kernel
theorem dX8_both_79 : decode cX8_both 79 = .ok (.iconst 2, 1) := by decide +kernel
theorem dX8_both_80 : decode cX8_both 80 = .ok (.idiv, 1) := by decide +kernel
theorem dX8_both_81 : decode cX8_both 81 = .ok (.ireturn, 1) := by decide +kernel
def f_RH_both_0_L4  (a : Int32 × Int32 × xS) : Option ((Int32 × Int32 × xS) ⊕ (Int32 × Int32 × xS)) :=
  let v1 := a.1; let v2 := a.2.1; let σ := a.2.2;
  if σ.1 7 4 < v2 then
    some (.inl (v1, v2, σ))
  else
    (f_Sc_herIn_7 v2 σ).bind fun q1 =>
    let w2 := q1.1
    (f_Sc_placeOf_7 w2 (1 : Int32) (q1.2.1 36 5) q1.2).bind fun q3 =>
    let w4 := q3.1
    (f_Sc_turnOf_7 w2 q3.2).bind fun q5 =>
    (f_Sc_turnOf_7 w4 q5.2).bind fun q6 =>
    let w7 := (if v1 < (if 0 ≤ (q5.1 - q6.1) then (q5.1 - q6.1) else 0 - (q5.1 - q6.1)) then (if 0 ≤ (q5.1 - q6.1) then (q5.1 - q6.1) else 0 - (q5.1 - q6.1)) else v1)
    let w8 := v2 + (1 : Int32)
    some (.inr (w7, w8, q6.2))
def f_RH_both_0  (σ : xS) : Option (Int32 × xS) :=
  (x_it (f_RH_both_0_L4 ) 10000 ((0 : Int32), (0 : Int32), σ)).bind fun b9 =>
  some (((b9.1 + (1 : Int32)) / (2 : Int32)), b9.2.2)
set_option maxHeartbeats 4000000 in
set_option maxRecDepth 100000 in
theorem b_RH_both_0_L4 {l : Launch} {s0 : State} {a0 : Array Value} {D : va_G} {cA : Nat → ClassId} {sp : Nat → Nat} (E : x_En CL l s0 a0 D cA sp)  {r : Int32} {σ1 : xS} (a : Int32 × Int32 × xS) (o : (Int32 × Int32 × xS) ⊕ (Int32 × Int32 × xS)) (h : f_RH_both_0_L4  a = some o) (hK : ∀ b, o = .inl b → zW l s0 D cA sp (zQ s0 D cA sp (some (.int r)) σ1) (x_rm 2 0 0) M_RH_both 0 0 76 [none, some (.int b.1), none, none, none] [] b.2.2) (hG : ∀ a', o = .inr a' → zW l s0 D cA sp (zQ s0 D cA sp (some (.int r)) σ1) (x_rm 2 0 0) M_RH_both 0 0 4 [some (.ref 0), some (.int a'.1), some (.int a'.2.1), none, none] [] a'.2.2) : zW l s0 D cA sp (zQ s0 D cA sp (some (.int r)) σ1) (x_rm 2 0 0) M_RH_both 0 0 4 [some (.ref 0), some (.int a.1), some (.int a.2.1), none, none] [] a.2.2 := by
  obtain ⟨v1, v2, σ⟩ := a
  unfold f_RH_both_0_L4 at h
  try dsimp only at h ⊢
  refine x_iload_n 5 rfl 2 dX8_both_4 rfl rfl ?_
  refine x_aload_n 6 rfl 0 dX8_both_5 rfl rfl ?_
  refine x_getR E dX8_both_6 F_RX8_27 sh_0 rf_0_3 9 rfl ?_
  refine x_getI E dX8_both_9 F_RX8_103 sh_7 12 rfl ?_
  refine x_icmp_gt 15 rfl 76 dX8_both_12 (by decide) (fun hc => ?_) (fun hc => ?_)
  · replace h := x_ifT hc h
    cases h
    exact x_wk (x_le_n (x_le_s (x_le_n (x_le_n (x_le_n x_le_0))))) (hK (_, _, _) rfl)
  · replace h := x_ifF hc h
    refine x_aload_n 16 rfl 0 dX8_both_15 rfl rfl ?_
    refine x_getR E dX8_both_16 F_RX8_27 sh_0 rf_0_3 19 rfl ?_
    refine x_iload_n 20 rfl 2 dX8_both_19 rfl rfl ?_
    obtain ⟨⟨q1r, q1s⟩, q1h, h⟩ := x_bind h
    try dsimp only at h
    refine z_callV E [.int _] [] dX8_both_20 K_RX8_146 ⟨Nat.le_of_ble_eq_true rfl, Nat.le_of_ble_eq_true rfl⟩ sh_7 (by decide) rfl (c_Sc_herIn_7 E _ q1h) rfl rfl (Nat.le_of_ble_eq_true rfl) 23 rfl [.int _] rfl ?_
    refine x_istore_n 24 rfl 3 dX8_both_23 rfl (by decide) [some (.ref 0), some (.int _), some (.int _), some (.int _), none] rfl ?_
    refine x_aload_n 25 rfl 0 dX8_both_24 rfl rfl ?_
    refine x_getR E dX8_both_25 F_RX8_27 sh_0 rf_0_3 28 rfl ?_
    refine x_iload_n 29 rfl 3 dX8_both_28 rfl rfl ?_
    refine x_iconst 30 rfl (v := 1) dX8_both_29 (by decide) ?_
    refine x_aload_n 31 rfl 0 dX8_both_30 rfl rfl ?_
    refine x_getR E dX8_both_31 F_RX8_37 sh_0 rf_0_5 34 rfl ?_
    refine x_getR E dX8_both_34 F_RX8_118 sh_35 rf_35_0 37 rfl ?_
    refine x_iconst 38 rfl (v := 5) dX8_both_37 (by decide) ?_
    refine x_iald E dX8_both_38 sh_36 5 (by decide) (by decide) 39 rfl ?_
    obtain ⟨⟨q3r, q3s⟩, q3h, h⟩ := x_bind h
    try dsimp only at h
    refine z_callV E [.int _, .int _, .int _] [] dX8_both_39 K_RX8_150 ⟨Nat.le_of_ble_eq_true rfl, Nat.le_of_ble_eq_true rfl⟩ sh_7 (by decide) rfl (c_Sc_placeOf_7 E _ _ _ q3h) rfl rfl (Nat.le_of_ble_eq_true rfl) 42 rfl [.int _] rfl ?_
    refine x_istore 44 rfl dX8_both_42 (by decide) [some (.ref 0), some (.int _), some (.int _), some (.int _), some (.int _)] rfl ?_
    refine x_iload_n 45 rfl 1 dX8_both_44 rfl rfl ?_
    refine x_aload_n 46 rfl 0 dX8_both_45 rfl rfl ?_
    refine x_getR E dX8_both_46 F_RX8_27 sh_0 rf_0_3 49 rfl ?_
    refine x_iload_n 50 rfl 3 dX8_both_49 rfl rfl ?_
    obtain ⟨⟨q5r, q5s⟩, q5h, h⟩ := x_bind h
    try dsimp only at h
    refine z_callV E [.int _] [.int _] dX8_both_50 K_RX8_159 ⟨Nat.le_of_ble_eq_true rfl, Nat.le_of_ble_eq_true rfl⟩ sh_7 (by decide) rfl (c_Sc_turnOf_7 E _ q5h) rfl rfl (Nat.le_of_ble_eq_true rfl) 53 rfl [.int _, .int _] rfl ?_
    refine x_aload_n 54 rfl 0 dX8_both_53 rfl rfl ?_
    refine x_getR E dX8_both_54 F_RX8_27 sh_0 rf_0_3 57 rfl ?_
    refine x_iload 59 rfl dX8_both_57 rfl ?_
    obtain ⟨⟨q6r, q6s⟩, q6h, h⟩ := x_bind h
    try dsimp only at h
    refine z_callV E [.int _] [.int _, .int _] dX8_both_59 K_RX8_159 ⟨Nat.le_of_ble_eq_true rfl, Nat.le_of_ble_eq_true rfl⟩ sh_7 (by decide) rfl (c_Sc_turnOf_7 E _ q6h) rfl rfl (Nat.le_of_ble_eq_true rfl) 62 rfl [.int _, .int _, .int _] rfl ?_
    refine x_isub 63 rfl dX8_both_62 ?_
    refine x_mabs E dX8_both_63 K_RX8_256 (Nat.le_of_ble_eq_true rfl) (Nat.le_of_ble_eq_true rfl) 66 rfl ?_
    refine x_mmax E dX8_both_66 K_RX8_261 (Nat.le_of_ble_eq_true rfl) (Nat.le_of_ble_eq_true rfl) 69 rfl ?_
    refine x_istore_n 70 rfl 1 dX8_both_69 rfl (by decide) [some (.ref 0), some (.int _), some (.int _), some (.int _), some (.int _)] rfl ?_
    refine x_iinc 73 rfl (1) dX8_both_70 rfl (by decide) (by decide) [some (.ref 0), some (.int _), some (.int _), some (.int _), some (.int _)] rfl ?_
    refine x_goto 4 dX8_both_73 (by decide) ?_
    cases h
    exact x_wk (x_le_s (x_le_s (x_le_s (x_le_n (x_le_n x_le_0))))) (hG (_, _, _) rfl)
set_option maxHeartbeats 4000000 in
set_option maxRecDepth 100000 in
theorem c_RH_both_0 {l : Launch} {s0 : State} {a0 : Array Value} {D : va_G} {cA : Nat → ClassId} {sp : Nat → Nat} (E : x_En CL l s0 a0 D cA sp)  {σ : xS} {r : Int32} {σ1 : xS} (h : f_RH_both_0  σ = some (r, σ1)) : zC l s0 D cA sp 2 M_RH_both [.ref 0] σ (some (.int r)) σ1 := by
  unfold f_RH_both_0 at h
  try dsimp only at h
  refine x_enter [some (.ref 0), none, none, none, none] rfl (Nat.le_of_ble_eq_true rfl) (by decide +kernel) rfl ?_
  refine x_iconst 1 rfl (v := 0) dX8_both_0 (by decide) ?_
  refine x_istore_n 2 rfl 1 dX8_both_1 rfl (by decide) [some (.ref 0), some (.int _), none, none, none] rfl ?_
  refine x_iconst 3 rfl (v := 0) dX8_both_2 (by decide) ?_
  refine x_istore_n 4 rfl 2 dX8_both_3 rfl (by decide) [some (.ref 0), some (.int _), some (.int _), none, none] rfl ?_
  obtain ⟨b9, b9h, h⟩ := x_bind h
  try dsimp only at h
  refine x_wk (x_le_s (x_le_s (x_le_s (x_le_n (x_le_n x_le_0))))) (x_loop (fun a o h hK hG => b_RH_both_0_L4 (r := r) (σ1 := σ1) E  a o h hK hG) _ _ _ b9h ?_)
  refine x_iload_n 77 rfl 1 dX8_both_76 rfl rfl ?_
  refine x_iconst 78 rfl (v := 1) dX8_both_77 (by decide) ?_
  refine x_iadd 79 rfl dX8_both_78 ?_
  refine x_iconst 80 rfl (v := 2) dX8_both_79 (by decide) ?_
  refine x_idiv 81 rfl dX8_both_80 (by decide) ?_
  cases h
  exact x_iret dX8_both_81 rfl rfl rfl
abbrev M_Ch_pickedInches : xM := (yX1_pickedInches, cX1_pickedInches, 3, some .int, [])
theorem dX1_pickedInches_0 : decode cX1_pickedInches 0 = .ok (.iload_n 1, 1) := by decide +kernel
theorem dX1_pickedInches_1 : decode cX1_pickedInches 1 = .ok (.ifCond .lt 17, 3) := by decide +kernel
theorem dX1_pickedInches_4 : decode cX1_pickedInches 4 = .ok (.iload_n 1, 1) := by decide +kernel
theorem dX1_pickedInches_5 : decode cX1_pickedInches 5 = .ok (.iconst 3, 1) := by decide +kernel
theorem dX1_pickedInches_6 : decode cX1_pickedInches 6 = .ok (.if_icmp .ge 12, 3) := by decide +kernel
theorem dX1_pickedInches_9 : decode cX1_pickedInches 9 = .ok (.aload_n 0, 1) := by decide +kernel
theorem dX1_pickedInches_10 : decode cX1_pickedInches 10 = .ok (.getfield 19, 3) := by decide +kernel
theorem dX1_pickedInches_13 : decode cX1_pickedInches 13 = .ok (.iload_n 1, 1) := by decide +kernel
theorem dX1_pickedInches_14 : decode cX1_pickedInches 14 = .ok (.iaload, 1) := by decide +kernel
theorem dX1_pickedInches_15 : decode cX1_pickedInches 15 = .ok (.goto 4, 3) := by decide +kernel
theorem dX1_pickedInches_18 : decode cX1_pickedInches 18 = .ok (.iconst 0, 1) := by decide +kernel
theorem dX1_pickedInches_19 : decode cX1_pickedInches 19 = .ok (.istore_n 2, 1) := by decide +kernel
theorem dX1_pickedInches_20 : decode cX1_pickedInches 20 = .ok (.iload_n 2, 1) := by decide +kernel
theorem dX1_pickedInches_21 : decode cX1_pickedInches 21 = .ok (.ifCond .lt 21, 3) := by decide +kernel
theorem dX1_pickedInches_24 : decode cX1_pickedInches 24 = .ok (.iload_n 2, 1) := by decide +kernel
theorem dX1_pickedInches_25 : decode cX1_pickedInches 25 = .ok (.aload_n 0, 1) := by decide +kernel
theorem dX1_pickedInches_26 : decode cX1_pickedInches 26 = .ok (.getfield 9, 3) := by decide +kernel
theorem dX1_pickedInches_29 : decode cX1_pickedInches 29 = .ok (.arraylength, 1) := by decide +kernel
theorem dX1_pickedInches_30 : decode cX1_pickedInches 30 = .ok (.if_icmp .ge 12, 3) := by decide +kernel
theorem dX1_pickedInches_33 : decode cX1_pickedInches 33 = .ok (.aload_n 0, 1) := by decide +kernel
theorem dX1_pickedInches_34 : decode cX1_pickedInches 34 = .ok (.getfield 9, 3) := by decide +kernel
theorem dX1_pickedInches_37 : decode cX1_pickedInches 37 = .ok (.iload_n 2, 1) := by decide +kernel
theorem dX1_pickedInches_38 : decode cX1_pickedInches 38 = .ok (.iaload, 1) := by decide +kernel
theorem dX1_pickedInches_39 : decode cX1_pickedInches 39 = .ok (.goto 5, 3) := by decide +kernel
theorem dX1_pickedInches_42 : decode cX1_pickedInches 42 = .ok (.bipush 12, 2) := by decide +kernel
theorem dX1_pickedInches_44 : decode cX1_pickedInches 44 = .ok (.ireturn, 1) := by decide +kernel
def f_Ch_pickedInches_55_J19 (y0 : Int32) (σ : xS) : Option (Int32 × xS) :=
  if y0 < 0 then
    some ((12 : Int32), σ)
  else
    if (Int32.ofNat 13) ≤ y0 then
      some ((12 : Int32), σ)
    else
      if y0 < 0 ∨ 13 ≤ y0.toNatClampNeg then none else
      some (σ.1 56 y0.toNatClampNeg, σ)
def f_Ch_pickedInches_55_J18  (σ : xS) : Option (Int32 × xS) :=
  f_Ch_pickedInches_55_J19 (0 : Int32) σ
def f_Ch_pickedInches_55 (v1 : Int32) (σ : xS) : Option (Int32 × xS) :=
  if v1 < 0 then
    f_Ch_pickedInches_55_J18  σ
  else
    if (3 : Int32) ≤ v1 then
      f_Ch_pickedInches_55_J18  σ
    else
      if v1 < 0 ∨ 3 ≤ v1.toNatClampNeg then none else
      f_Ch_pickedInches_55_J19 (σ.1 57 v1.toNatClampNeg) σ
set_option maxHeartbeats 4000000 in
set_option maxRecDepth 100000 in
theorem j_Ch_pickedInches_55_J19 {l : Launch} {s0 : State} {a0 : Array Value} {D : va_G} {cA : Nat → ClassId} {sp : Nat → Nat} (E : x_En CL l s0 a0 D cA sp) (y0 : Int32) (σ : xS) {r : Int32} {σ1 : xS} (h : f_Ch_pickedInches_55_J19 y0 σ = some (r, σ1)) : zW l s0 D cA sp (zQ s0 D cA sp (some (.int r)) σ1) (x_rm 0 0 0) M_Ch_pickedInches 0 0 19 [some (.ref 55), none, none] [.int y0] σ := by
  unfold f_Ch_pickedInches_55_J19 at h
  try dsimp only at h
  refine x_istore_n 20 rfl 2 dX1_pickedInches_19 rfl (by decide) [some (.ref 55), none, some (.int _)] rfl ?_
  refine x_iload_n 21 rfl 2 dX1_pickedInches_20 rfl rfl ?_
  refine x_if_lt 24 rfl 42 dX1_pickedInches_21 (by decide) (fun hc => ?_) (fun hc => ?_)
  · replace h := x_ifT hc h
    refine x_bipush 44 rfl (v := 12) dX1_pickedInches_42 (by decide) ?_
    cases h
    exact x_iret dX1_pickedInches_44 rfl rfl rfl
  · replace h := x_ifF hc h
    refine x_iload_n 25 rfl 2 dX1_pickedInches_24 rfl rfl ?_
    refine x_aload_n 26 rfl 0 dX1_pickedInches_25 rfl rfl ?_
    refine x_getR E dX1_pickedInches_26 F_RX1_9 sh_55 rf_55_0 29 rfl ?_
    refine x_alen E dX1_pickedInches_29 sh_56 30 rfl ?_
    refine x_icmp_ge 33 rfl 42 dX1_pickedInches_30 (by decide) (fun hc => ?_) (fun hc => ?_)
    · replace h := x_ifT hc h
      refine x_bipush 44 rfl (v := 12) dX1_pickedInches_42 (by decide) ?_
      cases h
      exact x_iret dX1_pickedInches_44 rfl rfl rfl
    · replace h := x_ifF hc h
      refine x_aload_n 34 rfl 0 dX1_pickedInches_33 rfl rfl ?_
      refine x_getR E dX1_pickedInches_34 F_RX1_9 sh_55 rf_55_0 37 rfl ?_
      refine x_iload_n 38 rfl 2 dX1_pickedInches_37 rfl rfl ?_
      obtain ⟨hz, h⟩ := x_ifn h
      refine x_iald E dX1_pickedInches_38 sh_56 _ rfl hz 39 rfl ?_
      refine x_goto 44 dX1_pickedInches_39 (by decide) ?_
      cases h
      exact x_iret dX1_pickedInches_44 rfl rfl rfl
set_option maxHeartbeats 4000000 in
set_option maxRecDepth 100000 in
theorem j_Ch_pickedInches_55_J18 {l : Launch} {s0 : State} {a0 : Array Value} {D : va_G} {cA : Nat → ClassId} {sp : Nat → Nat} (E : x_En CL l s0 a0 D cA sp)  (σ : xS) {r : Int32} {σ1 : xS} (h : f_Ch_pickedInches_55_J18  σ = some (r, σ1)) : zW l s0 D cA sp (zQ s0 D cA sp (some (.int r)) σ1) (x_rm 0 0 0) M_Ch_pickedInches 0 0 18 [some (.ref 55), none, none] [] σ := by
  unfold f_Ch_pickedInches_55_J18 at h
  try dsimp only at h
  refine x_iconst 19 rfl (v := 0) dX1_pickedInches_18 (by decide) ?_
  exact x_wk (x_le_s (x_le_n (x_le_n x_le_0))) (j_Ch_pickedInches_55_J19 E _ _ h)
set_option maxHeartbeats 4000000 in
set_option maxRecDepth 100000 in
theorem c_Ch_pickedInches_55 {l : Launch} {s0 : State} {a0 : Array Value} {D : va_G} {cA : Nat → ClassId} {sp : Nat → Nat} (E : x_En CL l s0 a0 D cA sp) (v1 : Int32) {σ : xS} {r : Int32} {σ1 : xS} (h : f_Ch_pickedInches_55 v1 σ = some (r, σ1)) : zC l s0 D cA sp 0 M_Ch_pickedInches [.ref 55, .int v1] σ (some (.int r)) σ1 := by
  unfold f_Ch_pickedInches_55 at h
  try dsimp only at h
  refine x_enter [some (.ref 55), some (.int v1), none] rfl (Nat.le_of_ble_eq_true rfl) (by decide +kernel) rfl ?_
  refine x_iload_n 1 rfl 1 dX1_pickedInches_0 rfl rfl ?_
  refine x_if_lt 4 rfl 18 dX1_pickedInches_1 (by decide) (fun hc => ?_) (fun hc => ?_)
  · replace h := x_ifT hc h
    exact x_wk (x_le_s (x_le_n (x_le_n x_le_0))) (j_Ch_pickedInches_55_J18 E  _ h)
  · replace h := x_ifF hc h
    refine x_iload_n 5 rfl 1 dX1_pickedInches_4 rfl rfl ?_
    refine x_iconst 6 rfl (v := 3) dX1_pickedInches_5 (by decide) ?_
    refine x_icmp_ge 9 rfl 18 dX1_pickedInches_6 (by decide) (fun hc => ?_) (fun hc => ?_)
    · replace h := x_ifT hc h
      exact x_wk (x_le_s (x_le_n (x_le_n x_le_0))) (j_Ch_pickedInches_55_J18 E  _ h)
    · replace h := x_ifF hc h
      refine x_aload_n 10 rfl 0 dX1_pickedInches_9 rfl rfl ?_
      refine x_getR E dX1_pickedInches_10 F_RX1_19 sh_55 rf_55_2 13 rfl ?_
      refine x_iload_n 14 rfl 1 dX1_pickedInches_13 rfl rfl ?_
      obtain ⟨hz, h⟩ := x_ifn h
      refine x_iald E dX1_pickedInches_14 sh_57 _ rfl hz 15 rfl ?_
      refine x_goto 19 dX1_pickedInches_15 (by decide) ?_
      exact x_wk (x_le_s (x_le_n (x_le_n x_le_0))) (j_Ch_pickedInches_55_J19 E _ _ h)
theorem K_RX1_57 : x_KV RX1 57 M_Ch_pickedInches 1 := ⟨⟨(List.mem_append_right _ (List.mem_of_getElem? (i := 1048) (by decide +kernel))), (List.mem_append_right _ (List.mem_of_getElem? (i := 1051) (by decide +kernel))), (List.mem_append_right _ (List.mem_of_getElem? (i := 7) (by decide +kernel))), ⟨by decide +kernel, by decide +kernel⟩, by decide +kernel⟩, (List.mem_append_right _ (List.mem_of_getElem? (i := 1050) (by decide +kernel))), (List.mem_append_left _ (List.mem_of_getElem? (i := 45) (by decide +kernel)))⟩
abbrev M_Ch_putPicked : xM := (yX1_putPicked, cX1_putPicked, 4, none, [])
theorem dX1_putPicked_0 : decode cX1_putPicked 0 = .ok (.aload_n 1, 1) := by decide +kernel
theorem dX1_putPicked_1 : decode cX1_putPicked 1 = .ok (.iload_n 2, 1) := by decide +kernel
theorem dX1_putPicked_2 : decode cX1_putPicked 2 = .ok (.putfield 49, 3) := by decide +kernel
theorem dX1_putPicked_5 : decode cX1_putPicked 5 = .ok (.iconst 0, 1) := by decide +kernel
theorem dX1_putPicked_6 : decode cX1_putPicked 6 = .ok (.istore_n 3, 1) := by decide +kernel
theorem dX1_putPicked_7 : decode cX1_putPicked 7 = .ok (.iload_n 3, 1) := by decide +kernel
theorem dX1_putPicked_8 : decode cX1_putPicked 8 = .ok (.iload_n 2, 1) := by decide +kernel
theorem dX1_putPicked_9 : decode cX1_putPicked 9 = .ok (.if_icmp .ge 29, 3) := by decide +kernel
theorem dX1_putPicked_12 : decode cX1_putPicked 12 = .ok (.iload_n 3, 1) := by decide +kernel
theorem dX1_putPicked_13 : decode cX1_putPicked 13 = .ok (.bipush 6, 2) := by decide +kernel
theorem dX1_putPicked_15 : decode cX1_putPicked 15 = .ok (.if_icmp .ge 23, 3) := by decide +kernel
theorem dX1_putPicked_18 : decode cX1_putPicked 18 = .ok (.aload_n 1, 1) := by decide +kernel
theorem dX1_putPicked_19 : decode cX1_putPicked 19 = .ok (.getfield 54, 3) := by decide +kernel
theorem dX1_putPicked_22 : decode cX1_putPicked 22 = .ok (.bipush 6, 2) := by decide +kernel
theorem dX1_putPicked_24 : decode cX1_putPicked 24 = .ok (.iload_n 3, 1) := by decide +kernel
theorem dX1_putPicked_25 : decode cX1_putPicked 25 = .ok (.iadd, 1) := by decide +kernel
theorem dX1_putPicked_26 : decode cX1_putPicked 26 = .ok (.aload_n 0, 1) := by decide +kernel
theorem dX1_putPicked_27 : decode cX1_putPicked 27 = .ok (.iload_n 3, 1) := by decide +kernel
theorem dX1_putPicked_28 : decode cX1_putPicked 28 = .ok (.invokevirtual 57, 3) := by decide +kernel
theorem dX1_putPicked_31 : decode cX1_putPicked 31 = .ok (.iastore, 1) := by decide +kernel
theorem dX1_putPicked_32 : decode cX1_putPicked 32 = .ok (.iinc 3 1, 3) := by decide +kernel
theorem dX1_putPicked_35 : decode cX1_putPicked 35 = .ok (.goto (-28), 3) := by decide +kernel
theorem dX1_putPicked_38 : decode cX1_putPicked 38 = .ok (.return_, 1) := by decide +kernel
def f_Ch_putPicked_55_49_L7 (v2 : Int32) (a : Int32 × xS) : Option ((Int32 × xS) ⊕ (Int32 × xS)) :=
  let v3 := a.1; let σ := a.2;
  if v2 ≤ v3 then
    some (.inl (v3, σ))
  else
    if (6 : Int32) ≤ v3 then
      some (.inl (v3, σ))
    else
      (f_Ch_pickedInches_55 v3 σ).bind fun q1 =>
      if ((6 : Int32) + v3) < 0 ∨ 12 ≤ ((6 : Int32) + v3).toNatClampNeg then none else
      let σ2 := x_pI q1.2 50 ((6 : Int32) + v3).toNatClampNeg q1.1
      let w3 := v3 + (1 : Int32)
      some (.inr (w3, σ2))
def f_Ch_putPicked_55_49 (v2 : Int32) (σ : xS) : Option (Unit × xS) :=
  let σ4 := x_pI σ 49 1 v2
  (x_it (f_Ch_putPicked_55_49_L7 v2) 10000 ((0 : Int32), σ4)).bind fun b5 =>
  some ((), b5.2)
set_option maxHeartbeats 4000000 in
set_option maxRecDepth 100000 in
theorem b_Ch_putPicked_55_49_L7 {l : Launch} {s0 : State} {a0 : Array Value} {D : va_G} {cA : Nat → ClassId} {sp : Nat → Nat} (E : x_En CL l s0 a0 D cA sp) (v2 : Int32) {r : Unit} {σ1 : xS} (a : Int32 × xS) (o : (Int32 × xS) ⊕ (Int32 × xS)) (h : f_Ch_putPicked_55_49_L7 v2 a = some o) (hK : ∀ b, o = .inl b → zW l s0 D cA sp (zQ s0 D cA sp none σ1) (x_rm 1 0 0) M_Ch_putPicked 0 0 38 [none, none, none, none] [] b.2) (hG : ∀ a', o = .inr a' → zW l s0 D cA sp (zQ s0 D cA sp none σ1) (x_rm 1 0 0) M_Ch_putPicked 0 0 7 [some (.ref 55), some (.ref 49), some (.int v2), some (.int a'.1)] [] a'.2) : zW l s0 D cA sp (zQ s0 D cA sp none σ1) (x_rm 1 0 0) M_Ch_putPicked 0 0 7 [some (.ref 55), some (.ref 49), some (.int v2), some (.int a.1)] [] a.2 := by
  obtain ⟨v3, σ⟩ := a
  unfold f_Ch_putPicked_55_49_L7 at h
  try dsimp only at h ⊢
  refine x_iload_n 8 rfl 3 dX1_putPicked_7 rfl rfl ?_
  refine x_iload_n 9 rfl 2 dX1_putPicked_8 rfl rfl ?_
  refine x_icmp_ge 12 rfl 38 dX1_putPicked_9 (by decide) (fun hc => ?_) (fun hc => ?_)
  · replace h := x_ifT hc h
    cases h
    exact x_wk (x_le_n (x_le_n (x_le_n (x_le_n x_le_0)))) (hK (_, _) rfl)
  · replace h := x_ifF hc h
    refine x_iload_n 13 rfl 3 dX1_putPicked_12 rfl rfl ?_
    refine x_bipush 15 rfl (v := 6) dX1_putPicked_13 (by decide) ?_
    refine x_icmp_ge 18 rfl 38 dX1_putPicked_15 (by decide) (fun hc => ?_) (fun hc => ?_)
    · replace h := x_ifT hc h
      cases h
      exact x_wk (x_le_n (x_le_n (x_le_n (x_le_n x_le_0)))) (hK (_, _) rfl)
    · replace h := x_ifF hc h
      refine x_aload_n 19 rfl 1 dX1_putPicked_18 rfl rfl ?_
      refine x_getR E dX1_putPicked_19 F_RX1_54 sh_49 rf_49_0 22 rfl ?_
      refine x_bipush 24 rfl (v := 6) dX1_putPicked_22 (by decide) ?_
      refine x_iload_n 25 rfl 3 dX1_putPicked_24 rfl rfl ?_
      refine x_iadd 26 rfl dX1_putPicked_25 ?_
      refine x_aload_n 27 rfl 0 dX1_putPicked_26 rfl rfl ?_
      refine x_iload_n 28 rfl 3 dX1_putPicked_27 rfl rfl ?_
      obtain ⟨⟨q1r, q1s⟩, q1h, h⟩ := x_bind h
      try dsimp only at h
      refine z_callV E [.int _] [.int _, .ref 50] dX1_putPicked_28 K_RX1_57 ⟨Nat.le_of_ble_eq_true rfl, Nat.le_of_ble_eq_true rfl⟩ sh_55 (by decide) rfl (c_Ch_pickedInches_55 E _ q1h) rfl rfl (Nat.le_of_ble_eq_true rfl) 31 rfl [.int _, .int _, .ref 50] rfl ?_
      obtain ⟨hz, h⟩ := x_ifn h
      refine x_iast E dX1_putPicked_31 sh_50 _ rfl hz 32 rfl ?_
      refine x_iinc 35 rfl (1) dX1_putPicked_32 rfl (by decide) (by decide) [some (.ref 55), some (.ref 49), some (.int _), some (.int _)] rfl ?_
      refine x_goto 7 dX1_putPicked_35 (by decide) ?_
      cases h
      exact x_wk (x_le_s (x_le_s (x_le_s (x_le_s x_le_0)))) (hG (_, _) rfl)
set_option maxHeartbeats 4000000 in
set_option maxRecDepth 100000 in
theorem c_Ch_putPicked_55_49 {l : Launch} {s0 : State} {a0 : Array Value} {D : va_G} {cA : Nat → ClassId} {sp : Nat → Nat} (E : x_En CL l s0 a0 D cA sp) (v2 : Int32) {σ : xS} {r : Unit} {σ1 : xS} (h : f_Ch_putPicked_55_49 v2 σ = some (r, σ1)) : zC l s0 D cA sp 1 M_Ch_putPicked [.ref 55, .ref 49, .int v2] σ none σ1 := by
  unfold f_Ch_putPicked_55_49 at h
  try dsimp only at h
  refine x_enter [some (.ref 55), some (.ref 49), some (.int v2), none] rfl (Nat.le_of_ble_eq_true rfl) (by decide +kernel) rfl ?_
  refine x_aload_n 1 rfl 1 dX1_putPicked_0 rfl rfl ?_
  refine x_iload_n 2 rfl 2 dX1_putPicked_1 rfl rfl ?_
  refine x_putI E dX1_putPicked_2 F_RX1_49 sh_49 5 rfl ?_
  refine x_iconst 6 rfl (v := 0) dX1_putPicked_5 (by decide) ?_
  refine x_istore_n 7 rfl 3 dX1_putPicked_6 rfl (by decide) [some (.ref 55), some (.ref 49), some (.int _), some (.int _)] rfl ?_
  obtain ⟨b5, b5h, h⟩ := x_bind h
  try dsimp only at h
  refine x_wk (x_le_s (x_le_s (x_le_s (x_le_s x_le_0)))) (x_loop (fun a o h hK hG => b_Ch_putPicked_55_49_L7 (r := r) (σ1 := σ1) E _ a o h hK hG) _ _ _ b5h ?_)
  cases h
  exact x_vret dX1_putPicked_38 rfl rfl rfl
theorem K_RX1_43 : x_KM RX1 43 Lib.Math.min.name Lib.Math.min.code 2 := ⟨(List.mem_append_right _ (List.mem_of_getElem? (i := 1060) (by decide +kernel))), (List.mem_append_right _ (List.mem_of_getElem? (i := 461) (by decide +kernel))), (List.mem_append_right _ (List.mem_of_getElem? (i := 14) (by decide +kernel))), (List.mem_append_right _ (List.mem_of_getElem? (i := 462) (by decide +kernel)))⟩
abbrev M_Ch_pickNext : xM := (yX1_pickNext, cX1_pickNext, 5, some .boolean, [])
theorem dX1_pickNext_0 : decode cX1_pickNext 0 = .ok (.iload_n 1, 1) := by decide +kernel
theorem dX1_pickNext_1 : decode cX1_pickNext 1 = .ok (.iconst 3, 1) := by decide +kernel
theorem dX1_pickNext_2 : decode cX1_pickNext 2 = .ok (.invokestatic 43, 3) := by decide +kernel
theorem dX1_pickNext_5 : decode cX1_pickNext 5 = .ok (.iconst 1, 1) := by decide +kernel
theorem dX1_pickNext_6 : decode cX1_pickNext 6 = .ok (.isub, 1) := by decide +kernel
theorem dX1_pickNext_7 : decode cX1_pickNext 7 = .ok (.istore_n 2, 1) := by decide +kernel
theorem dX1_pickNext_8 : decode cX1_pickNext 8 = .ok (.iload_n 2, 1) := by decide +kernel
theorem dX1_pickNext_9 : decode cX1_pickNext 9 = .ok (.ifCond .lt 69, 3) := by decide +kernel
theorem dX1_pickNext_12 : decode cX1_pickNext 12 = .ok (.aload_n 0, 1) := by decide +kernel
theorem dX1_pickNext_13 : decode cX1_pickNext 13 = .ok (.getfield 19, 3) := by decide +kernel
theorem dX1_pickNext_16 : decode cX1_pickNext 16 = .ok (.iload_n 2, 1) := by decide +kernel
theorem dX1_pickNext_17 : decode cX1_pickNext 17 = .ok (.iaload, 1) := by decide +kernel
theorem dX1_pickNext_18 : decode cX1_pickNext 18 = .ok (.aload_n 0, 1) := by decide +kernel
theorem dX1_pickNext_19 : decode cX1_pickNext 19 = .ok (.getfield 15, 3) := by decide +kernel
theorem dX1_pickNext_22 : decode cX1_pickNext 22 = .ok (.iload_n 1, 1) := by decide +kernel
theorem dX1_pickNext_23 : decode cX1_pickNext 23 = .ok (.isub, 1) := by decide +kernel
theorem dX1_pickNext_24 : decode cX1_pickNext 24 = .ok (.iload_n 2, 1) := by decide +kernel
theorem dX1_pickNext_25 : decode cX1_pickNext 25 = .ok (.iadd, 1) := by decide +kernel
theorem dX1_pickNext_26 : decode cX1_pickNext 26 = .ok (.if_icmp .ge 46, 3) := by decide +kernel
theorem dX1_pickNext_29 : decode cX1_pickNext 29 = .ok (.aload_n 0, 1) := by decide +kernel
theorem dX1_pickNext_30 : decode cX1_pickNext 30 = .ok (.getfield 19, 3) := by decide +kernel
theorem dX1_pickNext_33 : decode cX1_pickNext 33 = .ok (.iload_n 2, 1) := by decide +kernel
theorem dX1_pickNext_34 : decode cX1_pickNext 34 = .ok (.iaload, 1) := by decide +kernel
theorem dX1_pickNext_35 : decode cX1_pickNext 35 = .ok (.iconst 1, 1) := by decide +kernel
theorem dX1_pickNext_36 : decode cX1_pickNext 36 = .ok (.iadd, 1) := by decide +kernel
theorem dX1_pickNext_37 : decode cX1_pickNext 37 = .ok (.istore_n 3, 1) := by decide +kernel
theorem dX1_pickNext_38 : decode cX1_pickNext 38 = .ok (.iload_n 2, 1) := by decide +kernel
theorem dX1_pickNext_39 : decode cX1_pickNext 39 = .ok (.istore 4, 2) := by decide +kernel
theorem dX1_pickNext_41 : decode cX1_pickNext 41 = .ok (.iload 4, 2) := by decide +kernel
theorem dX1_pickNext_43 : decode cX1_pickNext 43 = .ok (.iload_n 1, 1) := by decide +kernel
theorem dX1_pickNext_44 : decode cX1_pickNext 44 = .ok (.if_icmp .ge 26, 3) := by decide +kernel
theorem dX1_pickNext_47 : decode cX1_pickNext 47 = .ok (.iload 4, 2) := by decide +kernel
theorem dX1_pickNext_49 : decode cX1_pickNext 49 = .ok (.iconst 3, 1) := by decide +kernel
theorem dX1_pickNext_50 : decode cX1_pickNext 50 = .ok (.if_icmp .ge 20, 3) := by decide +kernel
theorem dX1_pickNext_53 : decode cX1_pickNext 53 = .ok (.aload_n 0, 1) := by decide +kernel
theorem dX1_pickNext_54 : decode cX1_pickNext 54 = .ok (.getfield 19, 3) := by decide +kernel
theorem dX1_pickNext_57 : decode cX1_pickNext 57 = .ok (.iload 4, 2) := by decide +kernel
theorem dX1_pickNext_59 : decode cX1_pickNext 59 = .ok (.iload_n 3, 1) := by decide +kernel
theorem dX1_pickNext_60 : decode cX1_pickNext 60 = .ok (.iastore, 1) := by decide +kernel
theorem dX1_pickNext_61 : decode cX1_pickNext 61 = .ok (.iinc 3 1, 3) := by decide +kernel
theorem dX1_pickNext_64 : decode cX1_pickNext 64 = .ok (.iinc 4 1, 3) := by decide +kernel
theorem dX1_pickNext_67 : decode cX1_pickNext 67 = .ok (.goto (-26), 3) := by decide +kernel
theorem dX1_pickNext_70 : decode cX1_pickNext 70 = .ok (.iconst 1, 1) := by decide +kernel
theorem dX1_pickNext_71 : decode cX1_pickNext 71 = .ok (.ireturn, 1) := by decide +kernel
theorem dX1_pickNext_72 : decode cX1_pickNext 72 = .ok (.iinc 2 (-1), 3) := by decide +kernel
theorem dX1_pickNext_75 : decode cX1_pickNext 75 = .ok (.goto (-67), 3) := by decide +kernel
theorem dX1_pickNext_78 : decode cX1_pickNext 78 = .ok (.iconst 0, 1) := by decide +kernel
theorem dX1_pickNext_79 : decode cX1_pickNext 79 = .ok (.ireturn, 1) := by decide +kernel
def f_Ch_pickNext_55_L41 (v1 : Int32) (a : Int32 × Int32 × xS) : Option ((Int32 × Int32 × xS) ⊕ (Int32 × Int32 × xS)) :=
  let v3 := a.1; let v4 := a.2.1; let σ := a.2.2;
  if v1 ≤ v4 then
    some (.inl (v3, v4, σ))
  else
    if (3 : Int32) ≤ v4 then
      some (.inl (v3, v4, σ))
    else
      if v4 < 0 ∨ 3 ≤ v4.toNatClampNeg then none else
      let σ1 := x_pI σ 57 v4.toNatClampNeg v3
      let w2 := v3 + (1 : Int32)
      let w3 := v4 + (1 : Int32)
      some (.inr (w2, w3, σ1))
def f_Ch_pickNext_55_L8 (v1 : Int32) (a : Int32 × xS) : Option (((Int32 × xS) ⊕ (Int32 × xS)) ⊕ (Int32 × xS)) :=
  let v2 := a.1; let σ := a.2;
  if v2 < 0 then
    some (.inl (.inr (v2, σ)))
  else
    if v2 < 0 ∨ 3 ≤ v2.toNatClampNeg then none else
    if ((σ.1 55 1 - v1) + v2) ≤ σ.1 57 v2.toNatClampNeg then
      let w4 := v2 + (-1 : Int32)
      some (.inr (w4, σ))
    else
      if v2 < 0 ∨ 3 ≤ v2.toNatClampNeg then none else
      let w5 := (σ.1 57 v2.toNatClampNeg + (1 : Int32))
      (x_it (f_Ch_pickNext_55_L41 v1) 10000 (w5, v2, σ)).bind fun b6 =>
      some (.inl (.inl ((1 : Int32), b6.2.2)))
def f_Ch_pickNext_55 (v1 : Int32) (σ : xS) : Option (Int32 × xS) :=
  let w7 := ((if (3 : Int32) < v1 then (3 : Int32) else v1) - (1 : Int32))
  (x_it (f_Ch_pickNext_55_L8 v1) 10000 (w7, σ)).bind fun b8 =>
  match b8 with
  | .inl b8r => some b8r
  | .inr b8e =>
    some ((0 : Int32), b8e.2)
set_option maxHeartbeats 4000000 in
set_option maxRecDepth 100000 in
theorem b_Ch_pickNext_55_L41 {l : Launch} {s0 : State} {a0 : Array Value} {D : va_G} {cA : Nat → ClassId} {sp : Nat → Nat} (E : x_En CL l s0 a0 D cA sp) (v1 : Int32) {r : Int32} {σ1 : xS} (a : Int32 × Int32 × xS) (o : (Int32 × Int32 × xS) ⊕ (Int32 × Int32 × xS)) (h : f_Ch_pickNext_55_L41 v1 a = some o) (hK : ∀ b, o = .inl b → zW l s0 D cA sp (zQ s0 D cA sp (some (.int r)) σ1) (x_rm 0 0 0) M_Ch_pickNext 0 0 70 [none, none, none, none, none] [] b.2.2) (hG : ∀ a', o = .inr a' → zW l s0 D cA sp (zQ s0 D cA sp (some (.int r)) σ1) (x_rm 0 0 0) M_Ch_pickNext 0 0 41 [some (.ref 55), some (.int v1), none, some (.int a'.1), some (.int a'.2.1)] [] a'.2.2) : zW l s0 D cA sp (zQ s0 D cA sp (some (.int r)) σ1) (x_rm 0 0 0) M_Ch_pickNext 0 0 41 [some (.ref 55), some (.int v1), none, some (.int a.1), some (.int a.2.1)] [] a.2.2 := by
  obtain ⟨v3, v4, σ⟩ := a
  unfold f_Ch_pickNext_55_L41 at h
  try dsimp only at h ⊢
  refine x_iload 43 rfl dX1_pickNext_41 rfl ?_
  refine x_iload_n 44 rfl 1 dX1_pickNext_43 rfl rfl ?_
  refine x_icmp_ge 47 rfl 70 dX1_pickNext_44 (by decide) (fun hc => ?_) (fun hc => ?_)
  · replace h := x_ifT hc h
    cases h
    exact x_wk (x_le_n (x_le_n (x_le_n (x_le_n (x_le_n x_le_0))))) (hK (_, _, _) rfl)
  · replace h := x_ifF hc h
    refine x_iload 49 rfl dX1_pickNext_47 rfl ?_
    refine x_iconst 50 rfl (v := 3) dX1_pickNext_49 (by decide) ?_
    refine x_icmp_ge 53 rfl 70 dX1_pickNext_50 (by decide) (fun hc => ?_) (fun hc => ?_)
    · replace h := x_ifT hc h
      cases h
      exact x_wk (x_le_n (x_le_n (x_le_n (x_le_n (x_le_n x_le_0))))) (hK (_, _, _) rfl)
    · replace h := x_ifF hc h
      refine x_aload_n 54 rfl 0 dX1_pickNext_53 rfl rfl ?_
      refine x_getR E dX1_pickNext_54 F_RX1_19 sh_55 rf_55_2 57 rfl ?_
      refine x_iload 59 rfl dX1_pickNext_57 rfl ?_
      refine x_iload_n 60 rfl 3 dX1_pickNext_59 rfl rfl ?_
      obtain ⟨hz, h⟩ := x_ifn h
      refine x_iast E dX1_pickNext_60 sh_57 _ rfl hz 61 rfl ?_
      refine x_iinc 64 rfl (1) dX1_pickNext_61 rfl (by decide) (by decide) [some (.ref 55), some (.int _), none, some (.int _), some (.int _)] rfl ?_
      refine x_iinc 67 rfl (1) dX1_pickNext_64 rfl (by decide) (by decide) [some (.ref 55), some (.int _), none, some (.int _), some (.int _)] rfl ?_
      refine x_goto 41 dX1_pickNext_67 (by decide) ?_
      cases h
      exact x_wk (x_le_s (x_le_s (x_le_n (x_le_s (x_le_s x_le_0))))) (hG (_, _, _) rfl)
set_option maxHeartbeats 4000000 in
set_option maxRecDepth 100000 in
theorem b_Ch_pickNext_55_L8 {l : Launch} {s0 : State} {a0 : Array Value} {D : va_G} {cA : Nat → ClassId} {sp : Nat → Nat} (E : x_En CL l s0 a0 D cA sp) (v1 : Int32) {r : Int32} {σ1 : xS} (a : Int32 × xS) (o : ((Int32 × xS) ⊕ (Int32 × xS)) ⊕ (Int32 × xS)) (h : f_Ch_pickNext_55_L8 v1 a = some o) (hK : ∀ b, o = .inl b → (∀ q, b = .inl q → q = (r, σ1)) ∧ ∀ e, b = .inr e → zW l s0 D cA sp (zQ s0 D cA sp (some (.int r)) σ1) (x_rm 0 0 0) M_Ch_pickNext 0 0 78 [none, none, none, none, none] [] e.2) (hG : ∀ a', o = .inr a' → zW l s0 D cA sp (zQ s0 D cA sp (some (.int r)) σ1) (x_rm 0 0 0) M_Ch_pickNext 0 0 8 [some (.ref 55), some (.int v1), some (.int a'.1), none, none] [] a'.2) : zW l s0 D cA sp (zQ s0 D cA sp (some (.int r)) σ1) (x_rm 0 0 0) M_Ch_pickNext 0 0 8 [some (.ref 55), some (.int v1), some (.int a.1), none, none] [] a.2 := by
  obtain ⟨v2, σ⟩ := a
  unfold f_Ch_pickNext_55_L8 at h
  try dsimp only at h ⊢
  refine x_iload_n 9 rfl 2 dX1_pickNext_8 rfl rfl ?_
  refine x_if_lt 12 rfl 78 dX1_pickNext_9 (by decide) (fun hc => ?_) (fun hc => ?_)
  · replace h := x_ifT hc h
    cases h
    exact x_wk (x_le_n (x_le_n (x_le_n (x_le_n (x_le_n x_le_0))))) ((hK (.inr (_, _)) rfl).2 (_, _) rfl)
  · replace h := x_ifF hc h
    refine x_aload_n 13 rfl 0 dX1_pickNext_12 rfl rfl ?_
    refine x_getR E dX1_pickNext_13 F_RX1_19 sh_55 rf_55_2 16 rfl ?_
    refine x_iload_n 17 rfl 2 dX1_pickNext_16 rfl rfl ?_
    obtain ⟨hz, h⟩ := x_ifn h
    refine x_iald E dX1_pickNext_17 sh_57 _ rfl hz 18 rfl ?_
    refine x_aload_n 19 rfl 0 dX1_pickNext_18 rfl rfl ?_
    refine x_getI E dX1_pickNext_19 F_RX1_15 sh_55 22 rfl ?_
    refine x_iload_n 23 rfl 1 dX1_pickNext_22 rfl rfl ?_
    refine x_isub 24 rfl dX1_pickNext_23 ?_
    refine x_iload_n 25 rfl 2 dX1_pickNext_24 rfl rfl ?_
    refine x_iadd 26 rfl dX1_pickNext_25 ?_
    refine x_icmp_ge 29 rfl 72 dX1_pickNext_26 (by decide) (fun hc => ?_) (fun hc => ?_)
    · replace h := x_ifT hc h
      refine x_iinc 75 rfl (-1) dX1_pickNext_72 rfl (by decide) (by decide) [some (.ref 55), some (.int _), some (.int _), none, none] rfl ?_
      refine x_goto 8 dX1_pickNext_75 (by decide) ?_
      cases h
      exact x_wk (x_le_s (x_le_s (x_le_s (x_le_n (x_le_n x_le_0))))) (hG (_, _) rfl)
    · replace h := x_ifF hc h
      refine x_aload_n 30 rfl 0 dX1_pickNext_29 rfl rfl ?_
      refine x_getR E dX1_pickNext_30 F_RX1_19 sh_55 rf_55_2 33 rfl ?_
      refine x_iload_n 34 rfl 2 dX1_pickNext_33 rfl rfl ?_
      obtain ⟨hz, h⟩ := x_ifn h
      refine x_iald E dX1_pickNext_34 sh_57 _ rfl hz 35 rfl ?_
      refine x_iconst 36 rfl (v := 1) dX1_pickNext_35 (by decide) ?_
      refine x_iadd 37 rfl dX1_pickNext_36 ?_
      refine x_istore_n 38 rfl 3 dX1_pickNext_37 rfl (by decide) [some (.ref 55), some (.int _), some (.int _), some (.int _), none] rfl ?_
      refine x_iload_n 39 rfl 2 dX1_pickNext_38 rfl rfl ?_
      refine x_istore 41 rfl dX1_pickNext_39 (by decide) [some (.ref 55), some (.int _), some (.int _), some (.int _), some (.int _)] rfl ?_
      obtain ⟨b6, b6h, h⟩ := x_bind h
      try dsimp only at h
      refine x_wk (x_le_s (x_le_s (x_le_n (x_le_s (x_le_s x_le_0))))) (x_loop (fun a o h hK hG => b_Ch_pickNext_55_L41 (r := r) (σ1 := σ1) E _ a o h hK hG) _ _ _ b6h ?_)
      refine x_iconst 71 rfl (v := 1) dX1_pickNext_70 (by decide) ?_
      cases h
      cases (hK (.inl (_, _)) rfl).1 (_, _) rfl
      exact x_zret (Or.inr rfl) dX1_pickNext_71 rfl rfl rfl
set_option maxHeartbeats 4000000 in
set_option maxRecDepth 100000 in
theorem c_Ch_pickNext_55 {l : Launch} {s0 : State} {a0 : Array Value} {D : va_G} {cA : Nat → ClassId} {sp : Nat → Nat} (E : x_En CL l s0 a0 D cA sp) (v1 : Int32) {σ : xS} {r : Int32} {σ1 : xS} (h : f_Ch_pickNext_55 v1 σ = some (r, σ1)) : zC l s0 D cA sp 0 M_Ch_pickNext [.ref 55, .int v1] σ (some (.int r)) σ1 := by
  unfold f_Ch_pickNext_55 at h
  try dsimp only at h
  refine x_enter [some (.ref 55), some (.int v1), none, none, none] rfl (Nat.le_of_ble_eq_true rfl) (by decide +kernel) rfl ?_
  refine x_iload_n 1 rfl 1 dX1_pickNext_0 rfl rfl ?_
  refine x_iconst 2 rfl (v := 3) dX1_pickNext_1 (by decide) ?_
  refine x_mmin E dX1_pickNext_2 K_RX1_43 (Nat.le_of_ble_eq_true rfl) (Nat.le_of_ble_eq_true rfl) 5 rfl ?_
  refine x_iconst 6 rfl (v := 1) dX1_pickNext_5 (by decide) ?_
  refine x_isub 7 rfl dX1_pickNext_6 ?_
  refine x_istore_n 8 rfl 2 dX1_pickNext_7 rfl (by decide) [some (.ref 55), some (.int _), some (.int _), none, none] rfl ?_
  obtain ⟨b8, b8h, h⟩ := x_bind h
  try dsimp only at h
  refine x_wk (x_le_s (x_le_s (x_le_s (x_le_n (x_le_n x_le_0))))) (x_loop (fun a o h hK hG => b_Ch_pickNext_55_L8 (r := r) (σ1 := σ1) E _ a o h hK hG) _ _ _ b8h ?_)
  cases b8 with
  | inl b8r =>
    try dsimp only at h
    cases h
    exact ⟨fun q e => (by cases e; rfl), fun e he => (by cases he)⟩
  | inr b8e =>
    try dsimp only at h
    refine ⟨fun q e => (by cases e), fun e he => ?_⟩
    cases he
    refine x_iconst 79 rfl (v := 0) dX1_pickNext_78 (by decide) ?_
    cases h
    exact x_zret (Or.inl rfl) dX1_pickNext_79 rfl rfl rfl
