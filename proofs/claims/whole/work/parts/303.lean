/-! The class's methods: functions and contracts. Written by wip/gen/emit.py. -/
theorem K_RX2_148 : x_KV RX2 148 M_Re_readGo 1 := ⟨⟨(List.mem_append_right _ (List.mem_of_getElem? (i := 756) (by decide +kernel))), (List.mem_append_right _ (List.mem_of_getElem? (i := 759) (by decide +kernel))), (List.mem_append_right _ (List.mem_of_getElem? (i := 2) (by decide +kernel))), ⟨by decide +kernel, by decide +kernel⟩, by decide +kernel⟩, (List.mem_append_right _ (List.mem_of_getElem? (i := 758) (by decide +kernel))), (List.mem_append_left _ (List.mem_of_getElem? (i := 25) (by decide +kernel)))⟩
theorem K_RX2_151 : x_KV RX2 151 M_Re_readStay 1 := ⟨⟨(List.mem_append_right _ (List.mem_of_getElem? (i := 768) (by decide +kernel))), (List.mem_append_right _ (List.mem_of_getElem? (i := 771) (by decide +kernel))), (List.mem_append_right _ (List.mem_of_getElem? (i := 2) (by decide +kernel))), ⟨by decide +kernel, by decide +kernel⟩, by decide +kernel⟩, (List.mem_append_right _ (List.mem_of_getElem? (i := 770) (by decide +kernel))), (List.mem_append_left _ (List.mem_of_getElem? (i := 27) (by decide +kernel)))⟩
theorem K_RX2_154 : x_KV RX2 154 M_Re_readChange 2 := ⟨⟨(List.mem_append_right _ (List.mem_of_getElem? (i := 776) (by decide +kernel))), (List.mem_append_right _ (List.mem_of_getElem? (i := 779) (by decide +kernel))), (List.mem_append_right _ (List.mem_of_getElem? (i := 2) (by decide +kernel))), ⟨by decide +kernel, by decide +kernel⟩, by decide +kernel⟩, (List.mem_append_right _ (List.mem_of_getElem? (i := 778) (by decide +kernel))), (List.mem_append_left _ (List.mem_of_getElem? (i := 28) (by decide +kernel)))⟩
theorem K_RX2_158 : x_KV RX2 158 M_Re_readMark 1 := ⟨⟨(List.mem_append_right _ (List.mem_of_getElem? (i := 788) (by decide +kernel))), (List.mem_append_right _ (List.mem_of_getElem? (i := 791) (by decide +kernel))), (List.mem_append_right _ (List.mem_of_getElem? (i := 2) (by decide +kernel))), ⟨by decide +kernel, by decide +kernel⟩, by decide +kernel⟩, (List.mem_append_right _ (List.mem_of_getElem? (i := 790) (by decide +kernel))), (List.mem_append_left _ (List.mem_of_getElem? (i := 29) (by decide +kernel)))⟩
theorem K_RX2_161 : x_KV RX2 161 M_Re_readSetting 4 := ⟨⟨(List.mem_append_right _ (List.mem_of_getElem? (i := 797) (by decide +kernel))), (List.mem_append_right _ (List.mem_of_getElem? (i := 800) (by decide +kernel))), (List.mem_append_right _ (List.mem_of_getElem? (i := 2) (by decide +kernel))), ⟨by decide +kernel, by decide +kernel⟩, by decide +kernel⟩, (List.mem_append_right _ (List.mem_of_getElem? (i := 799) (by decide +kernel))), (List.mem_append_left _ (List.mem_of_getElem? (i := 30) (by decide +kernel)))⟩
theorem K_RX2_165 : x_KV RX2 165 M_Re_readEye 1 := ⟨⟨(List.mem_append_right _ (List.mem_of_getElem? (i := 805) (by decide +kernel))), (List.mem_append_right _ (List.mem_of_getElem? (i := 808) (by decide +kernel))), (List.mem_append_right _ (List.mem_of_getElem? (i := 2) (by decide +kernel))), ⟨by decide +kernel, by decide +kernel⟩, by decide +kernel⟩, (List.mem_append_right _ (List.mem_of_getElem? (i := 807) (by decide +kernel))), (List.mem_append_left _ (List.mem_of_getElem? (i := 32) (by decide +kernel)))⟩
theorem K_RX2_168 : x_KV RX2 168 M_Re_readRule 2 := ⟨⟨(List.mem_append_right _ (List.mem_of_getElem? (i := 809) (by decide +kernel))), (List.mem_append_right _ (List.mem_of_getElem? (i := 812) (by decide +kernel))), (List.mem_append_right _ (List.mem_of_getElem? (i := 2) (by decide +kernel))), ⟨by decide +kernel, by decide +kernel⟩, by decide +kernel⟩, (List.mem_append_right _ (List.mem_of_getElem? (i := 811) (by decide +kernel))), (List.mem_append_left _ (List.mem_of_getElem? (i := 33) (by decide +kernel)))⟩
abbrev M_Re_readLine : xM := (yX2_readLine, cX2_readLine, 2, some .boolean, [])
theorem dX2_readLine_0 : decode cX2_readLine 0 = .ok (.getstatic 140, 3) := by decide +kernel
theorem dX2_readLine_3 : decode cX2_readLine 3 = .ok (.aload_n 0, 1) := by decide +kernel
theorem dX2_readLine_4 : decode cX2_readLine 4 = .ok (.invokevirtual 111, 3) := by decide +kernel
theorem dX2_readLine_7 : decode cX2_readLine 7 = .ok (.invokevirtual 145, 3) := by decide +kernel
theorem dX2_readLine_10 : decode cX2_readLine 10 = .ok (.iaload, 1) := by decide +kernel
theorem dX2_readLine_11 : decode cX2_readLine 11 = .ok (.tableswitch 170 1 13 #[65, 71, 77, 84, 91, 97, 108, 118, 128, 138, 144, 151, 158], 65) := by decide +kernel
theorem dX2_readLine_76 : decode cX2_readLine 76 = .ok (.aload_n 0, 1) := by decide +kernel
theorem dX2_readLine_77 : decode cX2_readLine 77 = .ok (.aload_n 1, 1) := by decide +kernel
theorem dX2_readLine_78 : decode cX2_readLine 78 = .ok (.invokevirtual 148, 3) := by decide +kernel
theorem dX2_readLine_81 : decode cX2_readLine 81 = .ok (.ireturn, 1) := by decide +kernel
theorem dX2_readLine_82 : decode cX2_readLine 82 = .ok (.aload_n 0, 1) := by decide +kernel
theorem dX2_readLine_83 : decode cX2_readLine 83 = .ok (.aload_n 1, 1) := by decide +kernel
theorem dX2_readLine_84 : decode cX2_readLine 84 = .ok (.invokevirtual 151, 3) := by decide +kernel
theorem dX2_readLine_87 : decode cX2_readLine 87 = .ok (.ireturn, 1) := by decide +kernel
theorem dX2_readLine_88 : decode cX2_readLine 88 = .ok (.aload_n 0, 1) := by decide +kernel
theorem dX2_readLine_89 : decode cX2_readLine 89 = .ok (.aload_n 1, 1) := by decide +kernel
theorem dX2_readLine_90 : decode cX2_readLine 90 = .ok (.iconst 1, 1) := by decide +kernel
theorem dX2_readLine_91 : decode cX2_readLine 91 = .ok (.invokevirtual 154, 3) := by decide +kernel
theorem dX2_readLine_94 : decode cX2_readLine 94 = .ok (.ireturn, 1) := by decide +kernel
theorem dX2_readLine_95 : decode cX2_readLine 95 = .ok (.aload_n 0, 1) := by decide +kernel
theorem dX2_readLine_96 : decode cX2_readLine 96 = .ok (.aload_n 1, 1) := by decide +kernel
theorem dX2_readLine_97 : decode cX2_readLine 97 = .ok (.iconst 0, 1) := by decide +kernel
theorem dX2_readLine_98 : decode cX2_readLine 98 = .ok (.invokevirtual 154, 3) := by decide +kernel
theorem dX2_readLine_101 : decode cX2_readLine 101 = .ok (.ireturn, 1) := by decide +kernel
theorem dX2_readLine_102 : decode cX2_readLine 102 = .ok (.aload_n 0, 1) := by decide +kernel
theorem dX2_readLine_103 : decode cX2_readLine 103 = .ok (.aload_n 1, 1) := by decide +kernel
theorem dX2_readLine_104 : decode cX2_readLine 104 = .ok (.invokevirtual 158, 3) := by decide +kernel
theorem dX2_readLine_107 : decode cX2_readLine 107 = .ok (.ireturn, 1) := by decide +kernel
theorem dX2_readLine_108 : decode cX2_readLine 108 = .ok (.aload_n 0, 1) := by decide +kernel
theorem dX2_readLine_109 : decode cX2_readLine 109 = .ok (.aload_n 1, 1) := by decide +kernel
theorem dX2_readLine_110 : decode cX2_readLine 110 = .ok (.iconst 5, 1) := by decide +kernel
theorem dX2_readLine_111 : decode cX2_readLine 111 = .ok (.iconst 0, 1) := by decide +kernel
theorem dX2_readLine_112 : decode cX2_readLine 112 = .ok (.sipush 200, 3) := by decide +kernel
theorem dX2_readLine_115 : decode cX2_readLine 115 = .ok (.invokevirtual 161, 3) := by decide +kernel
theorem dX2_readLine_118 : decode cX2_readLine 118 = .ok (.ireturn, 1) := by decide +kernel
theorem dX2_readLine_119 : decode cX2_readLine 119 = .ok (.aload_n 0, 1) := by decide +kernel
theorem dX2_readLine_120 : decode cX2_readLine 120 = .ok (.aload_n 1, 1) := by decide +kernel
theorem dX2_readLine_121 : decode cX2_readLine 121 = .ok (.iconst 0, 1) := by decide +kernel
theorem dX2_readLine_122 : decode cX2_readLine 122 = .ok (.iconst 1, 1) := by decide +kernel
theorem dX2_readLine_123 : decode cX2_readLine 123 = .ok (.bipush 60, 2) := by decide +kernel
theorem dX2_readLine_125 : decode cX2_readLine 125 = .ok (.invokevirtual 161, 3) := by decide +kernel
theorem dX2_readLine_128 : decode cX2_readLine 128 = .ok (.ireturn, 1) := by decide +kernel
theorem dX2_readLine_129 : decode cX2_readLine 129 = .ok (.aload_n 0, 1) := by decide +kernel
theorem dX2_readLine_130 : decode cX2_readLine 130 = .ok (.aload_n 1, 1) := by decide +kernel
theorem dX2_readLine_131 : decode cX2_readLine 131 = .ok (.iconst 1, 1) := by decide +kernel
theorem dX2_readLine_132 : decode cX2_readLine 132 = .ok (.iconst 0, 1) := by decide +kernel
theorem dX2_readLine_133 : decode cX2_readLine 133 = .ok (.bipush 24, 2) := by decide +kernel
theorem dX2_readLine_135 : decode cX2_readLine 135 = .ok (.invokevirtual 161, 3) := by decide +kernel
theorem dX2_readLine_138 : decode cX2_readLine 138 = .ok (.ireturn, 1) := by decide +kernel
theorem dX2_readLine_139 : decode cX2_readLine 139 = .ok (.aload_n 0, 1) := by decide +kernel
theorem dX2_readLine_140 : decode cX2_readLine 140 = .ok (.aload_n 1, 1) := by decide +kernel
theorem dX2_readLine_141 : decode cX2_readLine 141 = .ok (.iconst 2, 1) := by decide +kernel
theorem dX2_readLine_142 : decode cX2_readLine 142 = .ok (.iconst 1, 1) := by decide +kernel
theorem dX2_readLine_143 : decode cX2_readLine 143 = .ok (.bipush 90, 2) := by decide +kernel
theorem dX2_readLine_145 : decode cX2_readLine 145 = .ok (.invokevirtual 161, 3) := by decide +kernel
theorem dX2_readLine_148 : decode cX2_readLine 148 = .ok (.ireturn, 1) := by decide +kernel
theorem dX2_readLine_149 : decode cX2_readLine 149 = .ok (.aload_n 0, 1) := by decide +kernel
theorem dX2_readLine_150 : decode cX2_readLine 150 = .ok (.aload_n 1, 1) := by decide +kernel
theorem dX2_readLine_151 : decode cX2_readLine 151 = .ok (.invokevirtual 165, 3) := by decide +kernel
theorem dX2_readLine_154 : decode cX2_readLine 154 = .ok (.ireturn, 1) := by decide +kernel
theorem dX2_readLine_155 : decode cX2_readLine 155 = .ok (.aload_n 0, 1) := by decide +kernel
theorem dX2_readLine_156 : decode cX2_readLine 156 = .ok (.aload_n 1, 1) := by decide +kernel
theorem dX2_readLine_157 : decode cX2_readLine 157 = .ok (.iconst 0, 1) := by decide +kernel
theorem dX2_readLine_158 : decode cX2_readLine 158 = .ok (.invokevirtual 168, 3) := by decide +kernel
theorem dX2_readLine_161 : decode cX2_readLine 161 = .ok (.ireturn, 1) := by decide +kernel
theorem dX2_readLine_162 : decode cX2_readLine 162 = .ok (.aload_n 0, 1) := by decide +kernel
theorem dX2_readLine_163 : decode cX2_readLine 163 = .ok (.aload_n 1, 1) := by decide +kernel
theorem dX2_readLine_164 : decode cX2_readLine 164 = .ok (.iconst 1, 1) := by decide +kernel
theorem dX2_readLine_165 : decode cX2_readLine 165 = .ok (.invokevirtual 168, 3) := by decide +kernel
theorem dX2_readLine_168 : decode cX2_readLine 168 = .ok (.ireturn, 1) := by decide +kernel
theorem dX2_readLine_169 : decode cX2_readLine 169 = .ok (.aload_n 0, 1) := by decide +kernel
theorem dX2_readLine_170 : decode cX2_readLine 170 = .ok (.aload_n 1, 1) := by decide +kernel
theorem dX2_readLine_171 : decode cX2_readLine 171 = .ok (.iconst 2, 1) := by decide +kernel
theorem dX2_readLine_172 : decode cX2_readLine 172 = .ok (.aload_n 1, 1) := by decide +kernel
theorem dX2_readLine_173 : decode cX2_readLine 173 = .ok (.getfield 171, 3) := by decide +kernel
theorem dX2_readLine_176 : decode cX2_readLine 176 = .ok (.iadd, 1) := by decide +kernel
theorem dX2_readLine_177 : decode cX2_readLine 177 = .ok (.invokevirtual 168, 3) := by decide +kernel
theorem dX2_readLine_180 : decode cX2_readLine 180 = .ok (.ireturn, 1) := by decide +kernel
theorem dX2_readLine_181 : decode cX2_readLine 181 = .ok (.aload_n 0, 1) := by decide +kernel
theorem dX2_readLine_182 : decode cX2_readLine 182 = .ok (.iconst 1, 1) := by decide +kernel
theorem dX2_readLine_183 : decode cX2_readLine 183 = .ok (.invokevirtual 115, 3) := by decide +kernel
theorem dX2_readLine_186 : decode cX2_readLine 186 = .ok (.ireturn, 1) := by decide +kernel
def f_Re_readLine_2_21  (σ : xS) : Option (Int32 × xS) :=
  (f_Re_word_2  σ).bind fun q1 =>
  x_ok (1000 ≤ q1.1 ∧ q1.1 < 1023) <|
  if (Int32.ofNat (q1.1 - 1000)) < 0 ∨ 23 ≤ (Int32.ofNat (q1.1 - 1000)).toNatClampNeg then none else
  if (x_sm.getD (Int32.ofNat (q1.1 - 1000)).toNatClampNeg 0) = (1 : Int32) then
    (f_Re_readGo_2_21  q1.2).bind fun q2 =>
    x_ok (q2.1 = 0 ∨ q2.1 = 1) <|
    some (q2.1, q2.2)
  else if (x_sm.getD (Int32.ofNat (q1.1 - 1000)).toNatClampNeg 0) = (2 : Int32) then
    (f_Re_readStay_2_21  q1.2).bind fun q3 =>
    x_ok (q3.1 = 0 ∨ q3.1 = 1) <|
    some (q3.1, q3.2)
  else if (x_sm.getD (Int32.ofNat (q1.1 - 1000)).toNatClampNeg 0) = (3 : Int32) then
    (f_Re_readChange_2_21 (1 : Int32) q1.2).bind fun q4 =>
    x_ok (q4.1 = 0 ∨ q4.1 = 1) <|
    some (q4.1, q4.2)
  else if (x_sm.getD (Int32.ofNat (q1.1 - 1000)).toNatClampNeg 0) = (4 : Int32) then
    (f_Re_readChange_2_21 (0 : Int32) q1.2).bind fun q5 =>
    x_ok (q5.1 = 0 ∨ q5.1 = 1) <|
    some (q5.1, q5.2)
  else if (x_sm.getD (Int32.ofNat (q1.1 - 1000)).toNatClampNeg 0) = (5 : Int32) then
    (f_Re_readMark_2_21  q1.2).bind fun q6 =>
    x_ok (q6.1 = 0 ∨ q6.1 = 1) <|
    some (q6.1, q6.2)
  else if (x_sm.getD (Int32.ofNat (q1.1 - 1000)).toNatClampNeg 0) = (6 : Int32) then
    (f_Re_readSetting_2_21 (5 : Int32) (0 : Int32) (200 : Int32) q1.2).bind fun q7 =>
    x_ok (q7.1 = 0 ∨ q7.1 = 1) <|
    some (q7.1, q7.2)
  else if (x_sm.getD (Int32.ofNat (q1.1 - 1000)).toNatClampNeg 0) = (7 : Int32) then
    (f_Re_readSetting_2_21 (0 : Int32) (1 : Int32) (60 : Int32) q1.2).bind fun q8 =>
    x_ok (q8.1 = 0 ∨ q8.1 = 1) <|
    some (q8.1, q8.2)
  else if (x_sm.getD (Int32.ofNat (q1.1 - 1000)).toNatClampNeg 0) = (8 : Int32) then
    (f_Re_readSetting_2_21 (1 : Int32) (0 : Int32) (24 : Int32) q1.2).bind fun q9 =>
    x_ok (q9.1 = 0 ∨ q9.1 = 1) <|
    some (q9.1, q9.2)
  else if (x_sm.getD (Int32.ofNat (q1.1 - 1000)).toNatClampNeg 0) = (9 : Int32) then
    (f_Re_readSetting_2_21 (2 : Int32) (1 : Int32) (90 : Int32) q1.2).bind fun q10 =>
    x_ok (q10.1 = 0 ∨ q10.1 = 1) <|
    some (q10.1, q10.2)
  else if (x_sm.getD (Int32.ofNat (q1.1 - 1000)).toNatClampNeg 0) = (10 : Int32) then
    (f_Re_readEye_2_21  q1.2).bind fun q11 =>
    x_ok (q11.1 = 0 ∨ q11.1 = 1) <|
    some (q11.1, q11.2)
  else if (x_sm.getD (Int32.ofNat (q1.1 - 1000)).toNatClampNeg 0) = (11 : Int32) then
    (f_Re_readRule_2_21 (0 : Int32) q1.2).bind fun q12 =>
    x_ok (q12.1 = 0 ∨ q12.1 = 1) <|
    some (q12.1, q12.2)
  else if (x_sm.getD (Int32.ofNat (q1.1 - 1000)).toNatClampNeg 0) = (12 : Int32) then
    (f_Re_readRule_2_21 (1 : Int32) q1.2).bind fun q13 =>
    x_ok (q13.1 = 0 ∨ q13.1 = 1) <|
    some (q13.1, q13.2)
  else if (x_sm.getD (Int32.ofNat (q1.1 - 1000)).toNatClampNeg 0) = (13 : Int32) then
    (f_Re_readRule_2_21 ((2 : Int32) + q1.2.1 21 9) q1.2).bind fun q14 =>
    x_ok (q14.1 = 0 ∨ q14.1 = 1) <|
    some (q14.1, q14.2)
  else 
    (f_Re_refuse_2 (1 : Int32) q1.2).bind fun q15 =>
    x_ok (q15.1 = 0 ∨ q15.1 = 1) <|
    some (q15.1, q15.2)
set_option maxHeartbeats 4000000 in
set_option maxRecDepth 100000 in
theorem c_Re_readLine_2_21 {l : Launch} {s0 : State} {a0 : Array Value} {D : va_G} {cA : Nat → ClassId} {sp : Nat → Nat} (E : x_En CL l s0 a0 D cA sp) (S : x_Sw s0 sp)  {σ : xS} {r : Int32} {σ1 : xS} (h : f_Re_readLine_2_21  σ = some (r, σ1)) : zC l s0 D cA sp 74 M_Re_readLine [.ref 2, .ref 21] σ (some (.int r)) σ1 := by
  unfold f_Re_readLine_2_21 at h
  try dsimp only at h
  refine x_enter [some (.ref 2), some (.ref 21)] rfl (Nat.le_of_ble_eq_true rfl) (by decide +kernel) rfl ?_
  refine z_smap E S dX2_readLine_0 (List.mem_append_right _ (List.mem_of_getElem? (i := 748) (by decide +kernel))) 3 rfl ?_
  refine x_aload_n 4 rfl 0 dX2_readLine_3 rfl rfl ?_
  obtain ⟨⟨q1r, q1s⟩, q1h, h⟩ := x_bind h
  try dsimp only at h
  refine z_callV E [] [.ref 1101] dX2_readLine_4 K_RX2_111 ⟨Nat.le_of_ble_eq_true rfl, Nat.le_of_ble_eq_true rfl⟩ sh_2 (by decide) rfl (c_Re_word_2 E S  q1h) rfl rfl (Nat.le_of_ble_eq_true rfl) 7 rfl [.ref _, .ref 1101] rfl ?_
  obtain ⟨hz, h⟩ := x_ift h
  refine z_ord E S [.ref 1101] hz dX2_readLine_7 KO_RX2_145 ⟨(Nat.le_of_ble_eq_true rfl), (Nat.le_of_ble_eq_true rfl)⟩ (Nat.le_of_ble_eq_true rfl) 10 rfl ?_
  obtain ⟨hz, h⟩ := x_ifn h
  refine z_mald S dX2_readLine_10 hz 11 rfl ?_
  refine x_case (1) (fun hc0 => ?_) (fun hc0 => ?_)
  · replace h := x_ifT hc0 h
    refine x_tabIn (off := 65) 76 dX2_readLine_11 (by rw [hc0]; decide) (by rw [hc0]; decide) (by rw [hc0]; rfl) (by decide) ?_
    refine x_aload_n 77 rfl 0 dX2_readLine_76 rfl rfl ?_
    refine x_aload_n 78 rfl 1 dX2_readLine_77 rfl rfl ?_
    obtain ⟨⟨q2r, q2s⟩, q2h, h⟩ := x_bind h
    try dsimp only at h
    refine z_callV E [.ref 21] [] dX2_readLine_78 K_RX2_148 ⟨Nat.le_of_ble_eq_true rfl, Nat.le_of_ble_eq_true rfl⟩ sh_2 (by decide) rfl (c_Re_readGo_2_21 E  q2h) rfl rfl (Nat.le_of_ble_eq_true rfl) 81 rfl [.int _] rfl ?_
    obtain ⟨hz, h⟩ := x_ift h
    cases h
    exact x_zret hz dX2_readLine_81 rfl rfl rfl
  replace h := x_ifF hc0 h
  refine x_case (2) (fun hc1 => ?_) (fun hc1 => ?_)
  · replace h := x_ifT hc1 h
    refine x_tabIn (off := 71) 82 dX2_readLine_11 (by rw [hc1]; decide) (by rw [hc1]; decide) (by rw [hc1]; rfl) (by decide) ?_
    refine x_aload_n 83 rfl 0 dX2_readLine_82 rfl rfl ?_
    refine x_aload_n 84 rfl 1 dX2_readLine_83 rfl rfl ?_
    obtain ⟨⟨q3r, q3s⟩, q3h, h⟩ := x_bind h
    try dsimp only at h
    refine z_callV E [.ref 21] [] dX2_readLine_84 K_RX2_151 ⟨Nat.le_of_ble_eq_true rfl, Nat.le_of_ble_eq_true rfl⟩ sh_2 (by decide) rfl (c_Re_readStay_2_21 E  q3h) rfl rfl (Nat.le_of_ble_eq_true rfl) 87 rfl [.int _] rfl ?_
    obtain ⟨hz, h⟩ := x_ift h
    cases h
    exact x_zret hz dX2_readLine_87 rfl rfl rfl
  replace h := x_ifF hc1 h
  refine x_case (3) (fun hc2 => ?_) (fun hc2 => ?_)
  · replace h := x_ifT hc2 h
    refine x_tabIn (off := 77) 88 dX2_readLine_11 (by rw [hc2]; decide) (by rw [hc2]; decide) (by rw [hc2]; rfl) (by decide) ?_
    refine x_aload_n 89 rfl 0 dX2_readLine_88 rfl rfl ?_
    refine x_aload_n 90 rfl 1 dX2_readLine_89 rfl rfl ?_
    refine x_iconst 91 rfl (v := 1) dX2_readLine_90 (by decide) ?_
    obtain ⟨⟨q4r, q4s⟩, q4h, h⟩ := x_bind h
    try dsimp only at h
    refine z_callV E [.ref 21, .int _] [] dX2_readLine_91 K_RX2_154 ⟨Nat.le_of_ble_eq_true rfl, Nat.le_of_ble_eq_true rfl⟩ sh_2 (by decide) rfl (c_Re_readChange_2_21 E _ q4h) rfl rfl (Nat.le_of_ble_eq_true rfl) 94 rfl [.int _] rfl ?_
    obtain ⟨hz, h⟩ := x_ift h
    cases h
    exact x_zret hz dX2_readLine_94 rfl rfl rfl
  replace h := x_ifF hc2 h
  refine x_case (4) (fun hc3 => ?_) (fun hc3 => ?_)
  · replace h := x_ifT hc3 h
    refine x_tabIn (off := 84) 95 dX2_readLine_11 (by rw [hc3]; decide) (by rw [hc3]; decide) (by rw [hc3]; rfl) (by decide) ?_
    refine x_aload_n 96 rfl 0 dX2_readLine_95 rfl rfl ?_
    refine x_aload_n 97 rfl 1 dX2_readLine_96 rfl rfl ?_
    refine x_iconst 98 rfl (v := 0) dX2_readLine_97 (by decide) ?_
    obtain ⟨⟨q5r, q5s⟩, q5h, h⟩ := x_bind h
    try dsimp only at h
    refine z_callV E [.ref 21, .int _] [] dX2_readLine_98 K_RX2_154 ⟨Nat.le_of_ble_eq_true rfl, Nat.le_of_ble_eq_true rfl⟩ sh_2 (by decide) rfl (c_Re_readChange_2_21 E _ q5h) rfl rfl (Nat.le_of_ble_eq_true rfl) 101 rfl [.int _] rfl ?_
    obtain ⟨hz, h⟩ := x_ift h
    cases h
    exact x_zret hz dX2_readLine_101 rfl rfl rfl
  replace h := x_ifF hc3 h
  refine x_case (5) (fun hc4 => ?_) (fun hc4 => ?_)
  · replace h := x_ifT hc4 h
    refine x_tabIn (off := 91) 102 dX2_readLine_11 (by rw [hc4]; decide) (by rw [hc4]; decide) (by rw [hc4]; rfl) (by decide) ?_
    refine x_aload_n 103 rfl 0 dX2_readLine_102 rfl rfl ?_
    refine x_aload_n 104 rfl 1 dX2_readLine_103 rfl rfl ?_
    obtain ⟨⟨q6r, q6s⟩, q6h, h⟩ := x_bind h
    try dsimp only at h
    refine z_callV E [.ref 21] [] dX2_readLine_104 K_RX2_158 ⟨Nat.le_of_ble_eq_true rfl, Nat.le_of_ble_eq_true rfl⟩ sh_2 (by decide) rfl (c_Re_readMark_2_21 E  q6h) rfl rfl (Nat.le_of_ble_eq_true rfl) 107 rfl [.int _] rfl ?_
    obtain ⟨hz, h⟩ := x_ift h
    cases h
    exact x_zret hz dX2_readLine_107 rfl rfl rfl
  replace h := x_ifF hc4 h
  refine x_case (6) (fun hc5 => ?_) (fun hc5 => ?_)
  · replace h := x_ifT hc5 h
    refine x_tabIn (off := 97) 108 dX2_readLine_11 (by rw [hc5]; decide) (by rw [hc5]; decide) (by rw [hc5]; rfl) (by decide) ?_
    refine x_aload_n 109 rfl 0 dX2_readLine_108 rfl rfl ?_
    refine x_aload_n 110 rfl 1 dX2_readLine_109 rfl rfl ?_
    refine x_iconst 111 rfl (v := 5) dX2_readLine_110 (by decide) ?_
    refine x_iconst 112 rfl (v := 0) dX2_readLine_111 (by decide) ?_
    refine x_sipush 115 rfl (v := 200) dX2_readLine_112 (by decide) ?_
    obtain ⟨⟨q7r, q7s⟩, q7h, h⟩ := x_bind h
    try dsimp only at h
    refine z_callV E [.ref 21, .int _, .int _, .int _] [] dX2_readLine_115 K_RX2_161 ⟨Nat.le_of_ble_eq_true rfl, Nat.le_of_ble_eq_true rfl⟩ sh_2 (by decide) rfl (c_Re_readSetting_2_21 E _ _ _ q7h) rfl rfl (Nat.le_of_ble_eq_true rfl) 118 rfl [.int _] rfl ?_
    obtain ⟨hz, h⟩ := x_ift h
    cases h
    exact x_zret hz dX2_readLine_118 rfl rfl rfl
  replace h := x_ifF hc5 h
  refine x_case (7) (fun hc6 => ?_) (fun hc6 => ?_)
  · replace h := x_ifT hc6 h
    refine x_tabIn (off := 108) 119 dX2_readLine_11 (by rw [hc6]; decide) (by rw [hc6]; decide) (by rw [hc6]; rfl) (by decide) ?_
    refine x_aload_n 120 rfl 0 dX2_readLine_119 rfl rfl ?_
    refine x_aload_n 121 rfl 1 dX2_readLine_120 rfl rfl ?_
    refine x_iconst 122 rfl (v := 0) dX2_readLine_121 (by decide) ?_
    refine x_iconst 123 rfl (v := 1) dX2_readLine_122 (by decide) ?_
    refine x_bipush 125 rfl (v := 60) dX2_readLine_123 (by decide) ?_
    obtain ⟨⟨q8r, q8s⟩, q8h, h⟩ := x_bind h
    try dsimp only at h
    refine z_callV E [.ref 21, .int _, .int _, .int _] [] dX2_readLine_125 K_RX2_161 ⟨Nat.le_of_ble_eq_true rfl, Nat.le_of_ble_eq_true rfl⟩ sh_2 (by decide) rfl (c_Re_readSetting_2_21 E _ _ _ q8h) rfl rfl (Nat.le_of_ble_eq_true rfl) 128 rfl [.int _] rfl ?_
    obtain ⟨hz, h⟩ := x_ift h
    cases h
    exact x_zret hz dX2_readLine_128 rfl rfl rfl
  replace h := x_ifF hc6 h
  refine x_case (8) (fun hc7 => ?_) (fun hc7 => ?_)
  · replace h := x_ifT hc7 h
    refine x_tabIn (off := 118) 129 dX2_readLine_11 (by rw [hc7]; decide) (by rw [hc7]; decide) (by rw [hc7]; rfl) (by decide) ?_
    refine x_aload_n 130 rfl 0 dX2_readLine_129 rfl rfl ?_
    refine x_aload_n 131 rfl 1 dX2_readLine_130 rfl rfl ?_
    refine x_iconst 132 rfl (v := 1) dX2_readLine_131 (by decide) ?_
    refine x_iconst 133 rfl (v := 0) dX2_readLine_132 (by decide) ?_
    refine x_bipush 135 rfl (v := 24) dX2_readLine_133 (by decide) ?_
    obtain ⟨⟨q9r, q9s⟩, q9h, h⟩ := x_bind h
    try dsimp only at h
    refine z_callV E [.ref 21, .int _, .int _, .int _] [] dX2_readLine_135 K_RX2_161 ⟨Nat.le_of_ble_eq_true rfl, Nat.le_of_ble_eq_true rfl⟩ sh_2 (by decide) rfl (c_Re_readSetting_2_21 E _ _ _ q9h) rfl rfl (Nat.le_of_ble_eq_true rfl) 138 rfl [.int _] rfl ?_
    obtain ⟨hz, h⟩ := x_ift h
    cases h
    exact x_zret hz dX2_readLine_138 rfl rfl rfl
  replace h := x_ifF hc7 h
  refine x_case (9) (fun hc8 => ?_) (fun hc8 => ?_)
  · replace h := x_ifT hc8 h
    refine x_tabIn (off := 128) 139 dX2_readLine_11 (by rw [hc8]; decide) (by rw [hc8]; decide) (by rw [hc8]; rfl) (by decide) ?_
    refine x_aload_n 140 rfl 0 dX2_readLine_139 rfl rfl ?_
    refine x_aload_n 141 rfl 1 dX2_readLine_140 rfl rfl ?_
    refine x_iconst 142 rfl (v := 2) dX2_readLine_141 (by decide) ?_
    refine x_iconst 143 rfl (v := 1) dX2_readLine_142 (by decide) ?_
    refine x_bipush 145 rfl (v := 90) dX2_readLine_143 (by decide) ?_
    obtain ⟨⟨q10r, q10s⟩, q10h, h⟩ := x_bind h
    try dsimp only at h
    refine z_callV E [.ref 21, .int _, .int _, .int _] [] dX2_readLine_145 K_RX2_161 ⟨Nat.le_of_ble_eq_true rfl, Nat.le_of_ble_eq_true rfl⟩ sh_2 (by decide) rfl (c_Re_readSetting_2_21 E _ _ _ q10h) rfl rfl (Nat.le_of_ble_eq_true rfl) 148 rfl [.int _] rfl ?_
    obtain ⟨hz, h⟩ := x_ift h
    cases h
    exact x_zret hz dX2_readLine_148 rfl rfl rfl
  replace h := x_ifF hc8 h
  refine x_case (10) (fun hc9 => ?_) (fun hc9 => ?_)
  · replace h := x_ifT hc9 h
    refine x_tabIn (off := 138) 149 dX2_readLine_11 (by rw [hc9]; decide) (by rw [hc9]; decide) (by rw [hc9]; rfl) (by decide) ?_
    refine x_aload_n 150 rfl 0 dX2_readLine_149 rfl rfl ?_
    refine x_aload_n 151 rfl 1 dX2_readLine_150 rfl rfl ?_
    obtain ⟨⟨q11r, q11s⟩, q11h, h⟩ := x_bind h
    try dsimp only at h
    refine z_callV E [.ref 21] [] dX2_readLine_151 K_RX2_165 ⟨Nat.le_of_ble_eq_true rfl, Nat.le_of_ble_eq_true rfl⟩ sh_2 (by decide) rfl (c_Re_readEye_2_21 E  q11h) rfl rfl (Nat.le_of_ble_eq_true rfl) 154 rfl [.int _] rfl ?_
    obtain ⟨hz, h⟩ := x_ift h
    cases h
    exact x_zret hz dX2_readLine_154 rfl rfl rfl
  replace h := x_ifF hc9 h
  refine x_case (11) (fun hc10 => ?_) (fun hc10 => ?_)
  · replace h := x_ifT hc10 h
    refine x_tabIn (off := 144) 155 dX2_readLine_11 (by rw [hc10]; decide) (by rw [hc10]; decide) (by rw [hc10]; rfl) (by decide) ?_
    refine x_aload_n 156 rfl 0 dX2_readLine_155 rfl rfl ?_
    refine x_aload_n 157 rfl 1 dX2_readLine_156 rfl rfl ?_
    refine x_iconst 158 rfl (v := 0) dX2_readLine_157 (by decide) ?_
    obtain ⟨⟨q12r, q12s⟩, q12h, h⟩ := x_bind h
    try dsimp only at h
    refine z_callV E [.ref 21, .int _] [] dX2_readLine_158 K_RX2_168 ⟨Nat.le_of_ble_eq_true rfl, Nat.le_of_ble_eq_true rfl⟩ sh_2 (by decide) rfl (c_Re_readRule_2_21 E S _ q12h) rfl rfl (Nat.le_of_ble_eq_true rfl) 161 rfl [.int _] rfl ?_
    obtain ⟨hz, h⟩ := x_ift h
    cases h
    exact x_zret hz dX2_readLine_161 rfl rfl rfl
  replace h := x_ifF hc10 h
  refine x_case (12) (fun hc11 => ?_) (fun hc11 => ?_)
  · replace h := x_ifT hc11 h
    refine x_tabIn (off := 151) 162 dX2_readLine_11 (by rw [hc11]; decide) (by rw [hc11]; decide) (by rw [hc11]; rfl) (by decide) ?_
    refine x_aload_n 163 rfl 0 dX2_readLine_162 rfl rfl ?_
    refine x_aload_n 164 rfl 1 dX2_readLine_163 rfl rfl ?_
    refine x_iconst 165 rfl (v := 1) dX2_readLine_164 (by decide) ?_
    obtain ⟨⟨q13r, q13s⟩, q13h, h⟩ := x_bind h
    try dsimp only at h
    refine z_callV E [.ref 21, .int _] [] dX2_readLine_165 K_RX2_168 ⟨Nat.le_of_ble_eq_true rfl, Nat.le_of_ble_eq_true rfl⟩ sh_2 (by decide) rfl (c_Re_readRule_2_21 E S _ q13h) rfl rfl (Nat.le_of_ble_eq_true rfl) 168 rfl [.int _] rfl ?_
    obtain ⟨hz, h⟩ := x_ift h
    cases h
    exact x_zret hz dX2_readLine_168 rfl rfl rfl
  replace h := x_ifF hc11 h
  refine x_case (13) (fun hc12 => ?_) (fun hc12 => ?_)
  · replace h := x_ifT hc12 h
    refine x_tabIn (off := 158) 169 dX2_readLine_11 (by rw [hc12]; decide) (by rw [hc12]; decide) (by rw [hc12]; rfl) (by decide) ?_
    refine x_aload_n 170 rfl 0 dX2_readLine_169 rfl rfl ?_
    refine x_aload_n 171 rfl 1 dX2_readLine_170 rfl rfl ?_
    refine x_iconst 172 rfl (v := 2) dX2_readLine_171 (by decide) ?_
    refine x_aload_n 173 rfl 1 dX2_readLine_172 rfl rfl ?_
    refine x_getI E dX2_readLine_173 F_RX2_171 sh_21 176 rfl ?_
    refine x_iadd 177 rfl dX2_readLine_176 ?_
    obtain ⟨⟨q14r, q14s⟩, q14h, h⟩ := x_bind h
    try dsimp only at h
    refine z_callV E [.ref 21, .int _] [] dX2_readLine_177 K_RX2_168 ⟨Nat.le_of_ble_eq_true rfl, Nat.le_of_ble_eq_true rfl⟩ sh_2 (by decide) rfl (c_Re_readRule_2_21 E S _ q14h) rfl rfl (Nat.le_of_ble_eq_true rfl) 180 rfl [.int _] rfl ?_
    obtain ⟨hz, h⟩ := x_ift h
    cases h
    exact x_zret hz dX2_readLine_180 rfl rfl rfl
  replace h := x_ifF hc12 h
  refine x_tabOut 181 dX2_readLine_11 (by have g0 := x_toNe hc0 (k := 1) (by decide); have g1 := x_toNe hc1 (k := 2) (by decide); have g2 := x_toNe hc2 (k := 3) (by decide); have g3 := x_toNe hc3 (k := 4) (by decide); have g4 := x_toNe hc4 (k := 5) (by decide); have g5 := x_toNe hc5 (k := 6) (by decide); have g6 := x_toNe hc6 (k := 7) (by decide); have g7 := x_toNe hc7 (k := 8) (by decide); have g8 := x_toNe hc8 (k := 9) (by decide); have g9 := x_toNe hc9 (k := 10) (by decide); have g10 := x_toNe hc10 (k := 11) (by decide); have g11 := x_toNe hc11 (k := 12) (by decide); have g12 := x_toNe hc12 (k := 13) (by decide); omega) (by decide) ?_
  refine x_aload_n 182 rfl 0 dX2_readLine_181 rfl rfl ?_
  refine x_iconst 183 rfl (v := 1) dX2_readLine_182 (by decide) ?_
  obtain ⟨⟨q15r, q15s⟩, q15h, h⟩ := x_bind h
  try dsimp only at h
  refine z_callV E [.int _] [] dX2_readLine_183 K_RX2_115 ⟨Nat.le_of_ble_eq_true rfl, Nat.le_of_ble_eq_true rfl⟩ sh_2 (by decide) rfl (c_Re_refuse_2 E _ q15h) rfl rfl (Nat.le_of_ble_eq_true rfl) 186 rfl [.int _] rfl ?_
  obtain ⟨hz, h⟩ := x_ift h
  cases h
  exact x_zret hz dX2_readLine_186 rfl rfl rfl
abbrev M_Re_isLetter : xM := (yX2_isLetter, cX2_isLetter, 1, some .boolean, [])
theorem dX2_isLetter_0 : decode cX2_isLetter 0 = .ok (.iload_n 0, 1) := by decide +kernel
theorem dX2_isLetter_1 : decode cX2_isLetter 1 = .ok (.bipush 97, 2) := by decide +kernel
theorem dX2_isLetter_3 : decode cX2_isLetter 3 = .ok (.if_icmp .lt 13, 3) := by decide +kernel
theorem dX2_isLetter_6 : decode cX2_isLetter 6 = .ok (.iload_n 0, 1) := by decide +kernel
theorem dX2_isLetter_7 : decode cX2_isLetter 7 = .ok (.bipush 122, 2) := by decide +kernel
theorem dX2_isLetter_9 : decode cX2_isLetter 9 = .ok (.if_icmp .gt 7, 3) := by decide +kernel
theorem dX2_isLetter_12 : decode cX2_isLetter 12 = .ok (.iconst 1, 1) := by decide +kernel
theorem dX2_isLetter_13 : decode cX2_isLetter 13 = .ok (.goto 4, 3) := by decide +kernel
theorem dX2_isLetter_16 : decode cX2_isLetter 16 = .ok (.iconst 0, 1) := by decide +kernel
theorem dX2_isLetter_17 : decode cX2_isLetter 17 = .ok (.ireturn, 1) := by decide +kernel
def f_Re_isLetter (v0 : Int32) (σ : xS) : Option (Int32 × xS) :=
  if v0 < (97 : Int32) then
    some ((0 : Int32), σ)
  else
    if (122 : Int32) < v0 then
      some ((0 : Int32), σ)
    else
      some ((1 : Int32), σ)
set_option maxHeartbeats 4000000 in
set_option maxRecDepth 100000 in
theorem c_Re_isLetter {l : Launch} {s0 : State} {a0 : Array Value} {D : va_G} {cA : Nat → ClassId} {sp : Nat → Nat} (E : x_En CL l s0 a0 D cA sp) (v0 : Int32) {σ : xS} {r : Int32} {σ1 : xS} (h : f_Re_isLetter v0 σ = some (r, σ1)) : zC l s0 D cA sp 0 M_Re_isLetter [.int v0] σ (some (.int r)) σ1 := by
  unfold f_Re_isLetter at h
  try dsimp only at h
  refine x_enter [some (.int v0)] rfl (Nat.le_of_ble_eq_true rfl) (by decide +kernel) rfl ?_
  refine x_iload_n 1 rfl 0 dX2_isLetter_0 rfl rfl ?_
  refine x_bipush 3 rfl (v := 97) dX2_isLetter_1 (by decide) ?_
  refine x_icmp_lt 6 rfl 16 dX2_isLetter_3 (by decide) (fun hc => ?_) (fun hc => ?_)
  · replace h := x_ifT hc h
    refine x_iconst 17 rfl (v := 0) dX2_isLetter_16 (by decide) ?_
    cases h
    exact x_zret (Or.inl rfl) dX2_isLetter_17 rfl rfl rfl
  · replace h := x_ifF hc h
    refine x_iload_n 7 rfl 0 dX2_isLetter_6 rfl rfl ?_
    refine x_bipush 9 rfl (v := 122) dX2_isLetter_7 (by decide) ?_
    refine x_icmp_gt 12 rfl 16 dX2_isLetter_9 (by decide) (fun hc => ?_) (fun hc => ?_)
    · replace h := x_ifT hc h
      refine x_iconst 17 rfl (v := 0) dX2_isLetter_16 (by decide) ?_
      cases h
      exact x_zret (Or.inl rfl) dX2_isLetter_17 rfl rfl rfl
    · replace h := x_ifF hc h
      refine x_iconst 13 rfl (v := 1) dX2_isLetter_12 (by decide) ?_
      refine x_goto 17 dX2_isLetter_13 (by decide) ?_
      cases h
      exact x_zret (Or.inr rfl) dX2_isLetter_17 rfl rfl rfl
abbrev M_Re_isDigit : xM := (yX2_isDigit, cX2_isDigit, 1, some .boolean, [])
theorem dX2_isDigit_0 : decode cX2_isDigit 0 = .ok (.iload_n 0, 1) := by decide +kernel
theorem dX2_isDigit_1 : decode cX2_isDigit 1 = .ok (.bipush 48, 2) := by decide +kernel
theorem dX2_isDigit_3 : decode cX2_isDigit 3 = .ok (.if_icmp .lt 13, 3) := by decide +kernel
theorem dX2_isDigit_6 : decode cX2_isDigit 6 = .ok (.iload_n 0, 1) := by decide +kernel
theorem dX2_isDigit_7 : decode cX2_isDigit 7 = .ok (.bipush 57, 2) := by decide +kernel
theorem dX2_isDigit_9 : decode cX2_isDigit 9 = .ok (.if_icmp .gt 7, 3) := by decide +kernel
theorem dX2_isDigit_12 : decode cX2_isDigit 12 = .ok (.iconst 1, 1) := by decide +kernel
theorem dX2_isDigit_13 : decode cX2_isDigit 13 = .ok (.goto 4, 3) := by decide +kernel
theorem dX2_isDigit_16 : decode cX2_isDigit 16 = .ok (.iconst 0, 1) := by decide +kernel
theorem dX2_isDigit_17 : decode cX2_isDigit 17 = .ok (.ireturn, 1) := by decide +kernel
def f_Re_isDigit (v0 : Int32) (σ : xS) : Option (Int32 × xS) :=
  if v0 < (48 : Int32) then
    some ((0 : Int32), σ)
  else
    if (57 : Int32) < v0 then
      some ((0 : Int32), σ)
    else
      some ((1 : Int32), σ)
set_option maxHeartbeats 4000000 in
set_option maxRecDepth 100000 in
theorem c_Re_isDigit {l : Launch} {s0 : State} {a0 : Array Value} {D : va_G} {cA : Nat → ClassId} {sp : Nat → Nat} (E : x_En CL l s0 a0 D cA sp) (v0 : Int32) {σ : xS} {r : Int32} {σ1 : xS} (h : f_Re_isDigit v0 σ = some (r, σ1)) : zC l s0 D cA sp 0 M_Re_isDigit [.int v0] σ (some (.int r)) σ1 := by
  unfold f_Re_isDigit at h
  try dsimp only at h
  refine x_enter [some (.int v0)] rfl (Nat.le_of_ble_eq_true rfl) (by decide +kernel) rfl ?_
  refine x_iload_n 1 rfl 0 dX2_isDigit_0 rfl rfl ?_
  refine x_bipush 3 rfl (v := 48) dX2_isDigit_1 (by decide) ?_
  refine x_icmp_lt 6 rfl 16 dX2_isDigit_3 (by decide) (fun hc => ?_) (fun hc => ?_)
  · replace h := x_ifT hc h
    refine x_iconst 17 rfl (v := 0) dX2_isDigit_16 (by decide) ?_
    cases h
    exact x_zret (Or.inl rfl) dX2_isDigit_17 rfl rfl rfl
  · replace h := x_ifF hc h
    refine x_iload_n 7 rfl 0 dX2_isDigit_6 rfl rfl ?_
    refine x_bipush 9 rfl (v := 57) dX2_isDigit_7 (by decide) ?_
    refine x_icmp_gt 12 rfl 16 dX2_isDigit_9 (by decide) (fun hc => ?_) (fun hc => ?_)
    · replace h := x_ifT hc h
      refine x_iconst 17 rfl (v := 0) dX2_isDigit_16 (by decide) ?_
      cases h
      exact x_zret (Or.inl rfl) dX2_isDigit_17 rfl rfl rfl
    · replace h := x_ifF hc h
      refine x_iconst 13 rfl (v := 1) dX2_isDigit_12 (by decide) ?_
      refine x_goto 17 dX2_isDigit_13 (by decide) ?_
      cases h
      exact x_zret (Or.inr rfl) dX2_isDigit_17 rfl rfl rfl
abbrev M_Re_isSignByte : xM := (yX2_isSignByte, cX2_isSignByte, 1, some .boolean, [])
theorem dX2_isSignByte_0 : decode cX2_isSignByte 0 = .ok (.iload_n 0, 1) := by decide +kernel
theorem dX2_isSignByte_1 : decode cX2_isSignByte 1 = .ok (.tableswitch 105 40 61 #[103, 103, 103, 103, 105, 103, 105, 103, 105, 105, 105, 105, 105, 105, 105, 105, 105, 105, 105, 103, 103, 103], 103) := by decide +kernel
theorem dX2_isSignByte_104 : decode cX2_isSignByte 104 = .ok (.iconst 1, 1) := by decide +kernel
theorem dX2_isSignByte_105 : decode cX2_isSignByte 105 = .ok (.ireturn, 1) := by decide +kernel
theorem dX2_isSignByte_106 : decode cX2_isSignByte 106 = .ok (.iconst 0, 1) := by decide +kernel
theorem dX2_isSignByte_107 : decode cX2_isSignByte 107 = .ok (.ireturn, 1) := by decide +kernel
def f_Re_isSignByte (v0 : Int32) (σ : xS) : Option (Int32 × xS) :=
  if v0 = (40 : Int32) then
    some ((1 : Int32), σ)
  else if v0 = (41 : Int32) then
    some ((1 : Int32), σ)
  else if v0 = (42 : Int32) then
    some ((1 : Int32), σ)
  else if v0 = (43 : Int32) then
    some ((1 : Int32), σ)
  else if v0 = (44 : Int32) then
    some ((0 : Int32), σ)
  else if v0 = (45 : Int32) then
    some ((1 : Int32), σ)
  else if v0 = (46 : Int32) then
    some ((0 : Int32), σ)
  else if v0 = (47 : Int32) then
    some ((1 : Int32), σ)
  else if v0 = (48 : Int32) then
    some ((0 : Int32), σ)
  else if v0 = (49 : Int32) then
    some ((0 : Int32), σ)
  else if v0 = (50 : Int32) then
    some ((0 : Int32), σ)
  else if v0 = (51 : Int32) then
    some ((0 : Int32), σ)
  else if v0 = (52 : Int32) then
    some ((0 : Int32), σ)
  else if v0 = (53 : Int32) then
    some ((0 : Int32), σ)
  else if v0 = (54 : Int32) then
    some ((0 : Int32), σ)
  else if v0 = (55 : Int32) then
    some ((0 : Int32), σ)
  else if v0 = (56 : Int32) then
    some ((0 : Int32), σ)
  else if v0 = (57 : Int32) then
    some ((0 : Int32), σ)
  else if v0 = (58 : Int32) then
    some ((0 : Int32), σ)
  else if v0 = (59 : Int32) then
    some ((1 : Int32), σ)
  else if v0 = (60 : Int32) then
    some ((1 : Int32), σ)
  else if v0 = (61 : Int32) then
    some ((1 : Int32), σ)
  else 
    some ((0 : Int32), σ)
set_option maxHeartbeats 4000000 in
set_option maxRecDepth 100000 in
theorem c_Re_isSignByte {l : Launch} {s0 : State} {a0 : Array Value} {D : va_G} {cA : Nat → ClassId} {sp : Nat → Nat} (E : x_En CL l s0 a0 D cA sp) (v0 : Int32) {σ : xS} {r : Int32} {σ1 : xS} (h : f_Re_isSignByte v0 σ = some (r, σ1)) : zC l s0 D cA sp 0 M_Re_isSignByte [.int v0] σ (some (.int r)) σ1 := by
  unfold f_Re_isSignByte at h
  try dsimp only at h
  refine x_enter [some (.int v0)] rfl (Nat.le_of_ble_eq_true rfl) (by decide +kernel) rfl ?_
  refine x_iload_n 1 rfl 0 dX2_isSignByte_0 rfl rfl ?_
  refine x_case (40) (fun hc0 => ?_) (fun hc0 => ?_)
  · replace h := x_ifT hc0 h
    refine x_tabIn (off := 103) 104 dX2_isSignByte_1 (by rw [hc0]; decide) (by rw [hc0]; decide) (by rw [hc0]; rfl) (by decide) ?_
    refine x_iconst 105 rfl (v := 1) dX2_isSignByte_104 (by decide) ?_
    cases h
    exact x_zret (Or.inr rfl) dX2_isSignByte_105 rfl rfl rfl
  replace h := x_ifF hc0 h
  refine x_case (41) (fun hc1 => ?_) (fun hc1 => ?_)
  · replace h := x_ifT hc1 h
    refine x_tabIn (off := 103) 104 dX2_isSignByte_1 (by rw [hc1]; decide) (by rw [hc1]; decide) (by rw [hc1]; rfl) (by decide) ?_
    refine x_iconst 105 rfl (v := 1) dX2_isSignByte_104 (by decide) ?_
    cases h
    exact x_zret (Or.inr rfl) dX2_isSignByte_105 rfl rfl rfl
  replace h := x_ifF hc1 h
  refine x_case (42) (fun hc2 => ?_) (fun hc2 => ?_)
  · replace h := x_ifT hc2 h
    refine x_tabIn (off := 103) 104 dX2_isSignByte_1 (by rw [hc2]; decide) (by rw [hc2]; decide) (by rw [hc2]; rfl) (by decide) ?_
    refine x_iconst 105 rfl (v := 1) dX2_isSignByte_104 (by decide) ?_
    cases h
    exact x_zret (Or.inr rfl) dX2_isSignByte_105 rfl rfl rfl
  replace h := x_ifF hc2 h
  refine x_case (43) (fun hc3 => ?_) (fun hc3 => ?_)
  · replace h := x_ifT hc3 h
    refine x_tabIn (off := 103) 104 dX2_isSignByte_1 (by rw [hc3]; decide) (by rw [hc3]; decide) (by rw [hc3]; rfl) (by decide) ?_
    refine x_iconst 105 rfl (v := 1) dX2_isSignByte_104 (by decide) ?_
    cases h
    exact x_zret (Or.inr rfl) dX2_isSignByte_105 rfl rfl rfl
  replace h := x_ifF hc3 h
  refine x_case (44) (fun hc4 => ?_) (fun hc4 => ?_)
  · replace h := x_ifT hc4 h
    refine x_tabIn (off := 105) 106 dX2_isSignByte_1 (by rw [hc4]; decide) (by rw [hc4]; decide) (by rw [hc4]; rfl) (by decide) ?_
    refine x_iconst 107 rfl (v := 0) dX2_isSignByte_106 (by decide) ?_
    cases h
    exact x_zret (Or.inl rfl) dX2_isSignByte_107 rfl rfl rfl
  replace h := x_ifF hc4 h
  refine x_case (45) (fun hc5 => ?_) (fun hc5 => ?_)
  · replace h := x_ifT hc5 h
    refine x_tabIn (off := 103) 104 dX2_isSignByte_1 (by rw [hc5]; decide) (by rw [hc5]; decide) (by rw [hc5]; rfl) (by decide) ?_
    refine x_iconst 105 rfl (v := 1) dX2_isSignByte_104 (by decide) ?_
    cases h
    exact x_zret (Or.inr rfl) dX2_isSignByte_105 rfl rfl rfl
  replace h := x_ifF hc5 h
  refine x_case (46) (fun hc6 => ?_) (fun hc6 => ?_)
  · replace h := x_ifT hc6 h
    refine x_tabIn (off := 105) 106 dX2_isSignByte_1 (by rw [hc6]; decide) (by rw [hc6]; decide) (by rw [hc6]; rfl) (by decide) ?_
    refine x_iconst 107 rfl (v := 0) dX2_isSignByte_106 (by decide) ?_
    cases h
    exact x_zret (Or.inl rfl) dX2_isSignByte_107 rfl rfl rfl
  replace h := x_ifF hc6 h
  refine x_case (47) (fun hc7 => ?_) (fun hc7 => ?_)
  · replace h := x_ifT hc7 h
    refine x_tabIn (off := 103) 104 dX2_isSignByte_1 (by rw [hc7]; decide) (by rw [hc7]; decide) (by rw [hc7]; rfl) (by decide) ?_
    refine x_iconst 105 rfl (v := 1) dX2_isSignByte_104 (by decide) ?_
    cases h
    exact x_zret (Or.inr rfl) dX2_isSignByte_105 rfl rfl rfl
  replace h := x_ifF hc7 h
  refine x_case (48) (fun hc8 => ?_) (fun hc8 => ?_)
  · replace h := x_ifT hc8 h
    refine x_tabIn (off := 105) 106 dX2_isSignByte_1 (by rw [hc8]; decide) (by rw [hc8]; decide) (by rw [hc8]; rfl) (by decide) ?_
    refine x_iconst 107 rfl (v := 0) dX2_isSignByte_106 (by decide) ?_
    cases h
    exact x_zret (Or.inl rfl) dX2_isSignByte_107 rfl rfl rfl
  replace h := x_ifF hc8 h
  refine x_case (49) (fun hc9 => ?_) (fun hc9 => ?_)
  · replace h := x_ifT hc9 h
    refine x_tabIn (off := 105) 106 dX2_isSignByte_1 (by rw [hc9]; decide) (by rw [hc9]; decide) (by rw [hc9]; rfl) (by decide) ?_
    refine x_iconst 107 rfl (v := 0) dX2_isSignByte_106 (by decide) ?_
    cases h
    exact x_zret (Or.inl rfl) dX2_isSignByte_107 rfl rfl rfl
  replace h := x_ifF hc9 h
  refine x_case (50) (fun hc10 => ?_) (fun hc10 => ?_)
  · replace h := x_ifT hc10 h
    refine x_tabIn (off := 105) 106 dX2_isSignByte_1 (by rw [hc10]; decide) (by rw [hc10]; decide) (by rw [hc10]; rfl) (by decide) ?_
    refine x_iconst 107 rfl (v := 0) dX2_isSignByte_106 (by decide) ?_
    cases h
    exact x_zret (Or.inl rfl) dX2_isSignByte_107 rfl rfl rfl
  replace h := x_ifF hc10 h
  refine x_case (51) (fun hc11 => ?_) (fun hc11 => ?_)
  · replace h := x_ifT hc11 h
    refine x_tabIn (off := 105) 106 dX2_isSignByte_1 (by rw [hc11]; decide) (by rw [hc11]; decide) (by rw [hc11]; rfl) (by decide) ?_
    refine x_iconst 107 rfl (v := 0) dX2_isSignByte_106 (by decide) ?_
    cases h
    exact x_zret (Or.inl rfl) dX2_isSignByte_107 rfl rfl rfl
  replace h := x_ifF hc11 h
  refine x_case (52) (fun hc12 => ?_) (fun hc12 => ?_)
  · replace h := x_ifT hc12 h
    refine x_tabIn (off := 105) 106 dX2_isSignByte_1 (by rw [hc12]; decide) (by rw [hc12]; decide) (by rw [hc12]; rfl) (by decide) ?_
    refine x_iconst 107 rfl (v := 0) dX2_isSignByte_106 (by decide) ?_
    cases h
    exact x_zret (Or.inl rfl) dX2_isSignByte_107 rfl rfl rfl
  replace h := x_ifF hc12 h
  refine x_case (53) (fun hc13 => ?_) (fun hc13 => ?_)
  · replace h := x_ifT hc13 h
    refine x_tabIn (off := 105) 106 dX2_isSignByte_1 (by rw [hc13]; decide) (by rw [hc13]; decide) (by rw [hc13]; rfl) (by decide) ?_
    refine x_iconst 107 rfl (v := 0) dX2_isSignByte_106 (by decide) ?_
    cases h
    exact x_zret (Or.inl rfl) dX2_isSignByte_107 rfl rfl rfl
  replace h := x_ifF hc13 h
  refine x_case (54) (fun hc14 => ?_) (fun hc14 => ?_)
  · replace h := x_ifT hc14 h
    refine x_tabIn (off := 105) 106 dX2_isSignByte_1 (by rw [hc14]; decide) (by rw [hc14]; decide) (by rw [hc14]; rfl) (by decide) ?_
    refine x_iconst 107 rfl (v := 0) dX2_isSignByte_106 (by decide) ?_
    cases h
    exact x_zret (Or.inl rfl) dX2_isSignByte_107 rfl rfl rfl
  replace h := x_ifF hc14 h
  refine x_case (55) (fun hc15 => ?_) (fun hc15 => ?_)
  · replace h := x_ifT hc15 h
    refine x_tabIn (off := 105) 106 dX2_isSignByte_1 (by rw [hc15]; decide) (by rw [hc15]; decide) (by rw [hc15]; rfl) (by decide) ?_
    refine x_iconst 107 rfl (v := 0) dX2_isSignByte_106 (by decide) ?_
    cases h
    exact x_zret (Or.inl rfl) dX2_isSignByte_107 rfl rfl rfl
  replace h := x_ifF hc15 h
  refine x_case (56) (fun hc16 => ?_) (fun hc16 => ?_)
  · replace h := x_ifT hc16 h
    refine x_tabIn (off := 105) 106 dX2_isSignByte_1 (by rw [hc16]; decide) (by rw [hc16]; decide) (by rw [hc16]; rfl) (by decide) ?_
    refine x_iconst 107 rfl (v := 0) dX2_isSignByte_106 (by decide) ?_
    cases h
    exact x_zret (Or.inl rfl) dX2_isSignByte_107 rfl rfl rfl
  replace h := x_ifF hc16 h
  refine x_case (57) (fun hc17 => ?_) (fun hc17 => ?_)
  · replace h := x_ifT hc17 h
    refine x_tabIn (off := 105) 106 dX2_isSignByte_1 (by rw [hc17]; decide) (by rw [hc17]; decide) (by rw [hc17]; rfl) (by decide) ?_
    refine x_iconst 107 rfl (v := 0) dX2_isSignByte_106 (by decide) ?_
    cases h
    exact x_zret (Or.inl rfl) dX2_isSignByte_107 rfl rfl rfl
  replace h := x_ifF hc17 h
  refine x_case (58) (fun hc18 => ?_) (fun hc18 => ?_)
  · replace h := x_ifT hc18 h
    refine x_tabIn (off := 105) 106 dX2_isSignByte_1 (by rw [hc18]; decide) (by rw [hc18]; decide) (by rw [hc18]; rfl) (by decide) ?_
    refine x_iconst 107 rfl (v := 0) dX2_isSignByte_106 (by decide) ?_
    cases h
    exact x_zret (Or.inl rfl) dX2_isSignByte_107 rfl rfl rfl
  replace h := x_ifF hc18 h
  refine x_case (59) (fun hc19 => ?_) (fun hc19 => ?_)
  · replace h := x_ifT hc19 h
    refine x_tabIn (off := 103) 104 dX2_isSignByte_1 (by rw [hc19]; decide) (by rw [hc19]; decide) (by rw [hc19]; rfl) (by decide) ?_
    refine x_iconst 105 rfl (v := 1) dX2_isSignByte_104 (by decide) ?_
    cases h
    exact x_zret (Or.inr rfl) dX2_isSignByte_105 rfl rfl rfl
  replace h := x_ifF hc19 h
  refine x_case (60) (fun hc20 => ?_) (fun hc20 => ?_)
  · replace h := x_ifT hc20 h
    refine x_tabIn (off := 103) 104 dX2_isSignByte_1 (by rw [hc20]; decide) (by rw [hc20]; decide) (by rw [hc20]; rfl) (by decide) ?_
    refine x_iconst 105 rfl (v := 1) dX2_isSignByte_104 (by decide) ?_
    cases h
    exact x_zret (Or.inr rfl) dX2_isSignByte_105 rfl rfl rfl
  replace h := x_ifF hc20 h
  refine x_case (61) (fun hc21 => ?_) (fun hc21 => ?_)
  · replace h := x_ifT hc21 h
    refine x_tabIn (off := 103) 104 dX2_isSignByte_1 (by rw [hc21]; decide) (by rw [hc21]; decide) (by rw [hc21]; rfl) (by decide) ?_
    refine x_iconst 105 rfl (v := 1) dX2_isSignByte_104 (by decide) ?_
    cases h
    exact x_zret (Or.inr rfl) dX2_isSignByte_105 rfl rfl rfl
  replace h := x_ifF hc21 h
  refine x_tabOut 106 dX2_isSignByte_1 (by have g0 := x_toNe hc0 (k := 40) (by decide); have g1 := x_toNe hc1 (k := 41) (by decide); have g2 := x_toNe hc2 (k := 42) (by decide); have g3 := x_toNe hc3 (k := 43) (by decide); have g4 := x_toNe hc4 (k := 44) (by decide); have g5 := x_toNe hc5 (k := 45) (by decide); have g6 := x_toNe hc6 (k := 46) (by decide); have g7 := x_toNe hc7 (k := 47) (by decide); have g8 := x_toNe hc8 (k := 48) (by decide); have g9 := x_toNe hc9 (k := 49) (by decide); have g10 := x_toNe hc10 (k := 50) (by decide); have g11 := x_toNe hc11 (k := 51) (by decide); have g12 := x_toNe hc12 (k := 52) (by decide); have g13 := x_toNe hc13 (k := 53) (by decide); have g14 := x_toNe hc14 (k := 54) (by decide); have g15 := x_toNe hc15 (k := 55) (by decide); have g16 := x_toNe hc16 (k := 56) (by decide); have g17 := x_toNe hc17 (k := 57) (by decide); have g18 := x_toNe hc18 (k := 58) (by decide); have g19 := x_toNe hc19 (k := 59) (by decide); have g20 := x_toNe hc20 (k := 60) (by decide); have g21 := x_toNe hc21 (k := 61) (by decide); omega) (by decide) ?_
  refine x_iconst 107 rfl (v := 0) dX2_isSignByte_106 (by decide) ?_
  cases h
  exact x_zret (Or.inl rfl) dX2_isSignByte_107 rfl rfl rfl
abbrev M_Re_addToken : xM := (yX2_addToken, cX2_addToken, 4, none, [])
theorem dX2_addToken_0 : decode cX2_addToken 0 = .ok (.aload_n 0, 1) := by decide +kernel
theorem dX2_addToken_1 : decode cX2_addToken 1 = .ok (.getfield 21, 3) := by decide +kernel
theorem dX2_addToken_4 : decode cX2_addToken 4 = .ok (.aload_n 0, 1) := by decide +kernel
theorem dX2_addToken_5 : decode cX2_addToken 5 = .ok (.getfield 9, 3) := by decide +kernel
theorem dX2_addToken_8 : decode cX2_addToken 8 = .ok (.arraylength, 1) := by decide +kernel
theorem dX2_addToken_9 : decode cX2_addToken 9 = .ok (.if_icmp .ge 43, 3) := by decide +kernel
theorem dX2_addToken_12 : decode cX2_addToken 12 = .ok (.aload_n 0, 1) := by decide +kernel
theorem dX2_addToken_13 : decode cX2_addToken 13 = .ok (.getfield 9, 3) := by decide +kernel
theorem dX2_addToken_16 : decode cX2_addToken 16 = .ok (.aload_n 0, 1) := by decide +kernel
theorem dX2_addToken_17 : decode cX2_addToken 17 = .ok (.getfield 21, 3) := by decide +kernel
theorem dX2_addToken_20 : decode cX2_addToken 20 = .ok (.iload_n 1, 1) := by decide +kernel
theorem dX2_addToken_21 : decode cX2_addToken 21 = .ok (.iastore, 1) := by decide +kernel
theorem dX2_addToken_22 : decode cX2_addToken 22 = .ok (.aload_n 0, 1) := by decide +kernel
theorem dX2_addToken_23 : decode cX2_addToken 23 = .ok (.getfield 15, 3) := by decide +kernel
theorem dX2_addToken_26 : decode cX2_addToken 26 = .ok (.aload_n 0, 1) := by decide +kernel
theorem dX2_addToken_27 : decode cX2_addToken 27 = .ok (.getfield 21, 3) := by decide +kernel
theorem dX2_addToken_30 : decode cX2_addToken 30 = .ok (.iload_n 2, 1) := by decide +kernel
theorem dX2_addToken_31 : decode cX2_addToken 31 = .ok (.iastore, 1) := by decide +kernel
theorem dX2_addToken_32 : decode cX2_addToken 32 = .ok (.aload_n 0, 1) := by decide +kernel
theorem dX2_addToken_33 : decode cX2_addToken 33 = .ok (.getfield 18, 3) := by decide +kernel
theorem dX2_addToken_36 : decode cX2_addToken 36 = .ok (.aload_n 0, 1) := by decide +kernel
theorem dX2_addToken_37 : decode cX2_addToken 37 = .ok (.getfield 21, 3) := by decide +kernel
theorem dX2_addToken_40 : decode cX2_addToken 40 = .ok (.iload_n 3, 1) := by decide +kernel
theorem dX2_addToken_41 : decode cX2_addToken 41 = .ok (.iastore, 1) := by decide +kernel
theorem dX2_addToken_42 : decode cX2_addToken 42 = .ok (.aload_n 0, 1) := by decide +kernel
theorem dX2_addToken_43 : decode cX2_addToken 43 = .ok (.dup, 1) := by decide +kernel
theorem dX2_addToken_44 : decode cX2_addToken 44 = .ok (.getfield 21, 3) := by decide +kernel
theorem dX2_addToken_47 : decode cX2_addToken 47 = .ok (.iconst 1, 1) := by decide +kernel
theorem dX2_addToken_48 : decode cX2_addToken 48 = .ok (.iadd, 1) := by decide +kernel
theorem dX2_addToken_49 : decode cX2_addToken 49 = .ok (.putfield 21, 3) := by decide +kernel
theorem dX2_addToken_52 : decode cX2_addToken 52 = .ok (.return_, 1) := by decide +kernel
def f_Re_addToken_2 (v1 : Int32) (v2 : Int32) (v3 : Int32) (σ : xS) : Option (Unit × xS) :=
  if (Int32.ofNat 701) ≤ σ.1 2 3 then
    some ((), σ)
  else
    if σ.1 2 3 < 0 ∨ 701 ≤ (σ.1 2 3).toNatClampNeg then none else
    let σ1 := x_pI σ 3 (σ.1 2 3).toNatClampNeg v1
    if σ1.1 2 3 < 0 ∨ 701 ≤ (σ1.1 2 3).toNatClampNeg then none else
    let σ2 := x_pI σ1 4 (σ1.1 2 3).toNatClampNeg v2
    if σ2.1 2 3 < 0 ∨ 701 ≤ (σ2.1 2 3).toNatClampNeg then none else
    let σ3 := x_pI σ2 5 (σ2.1 2 3).toNatClampNeg v3
    let σ4 := x_pI σ3 2 3 (σ3.1 2 3 + (1 : Int32))
    some ((), σ4)
set_option maxHeartbeats 4000000 in
set_option maxRecDepth 100000 in
theorem c_Re_addToken_2 {l : Launch} {s0 : State} {a0 : Array Value} {D : va_G} {cA : Nat → ClassId} {sp : Nat → Nat} (E : x_En CL l s0 a0 D cA sp) (v1 : Int32) (v2 : Int32) (v3 : Int32) {σ : xS} {r : Unit} {σ1 : xS} (h : f_Re_addToken_2 v1 v2 v3 σ = some (r, σ1)) : zC l s0 D cA sp 0 M_Re_addToken [.ref 2, .int v1, .int v2, .int v3] σ none σ1 := by
  unfold f_Re_addToken_2 at h
  try dsimp only at h
  refine x_enter [some (.ref 2), some (.int v1), some (.int v2), some (.int v3)] rfl (Nat.le_of_ble_eq_true rfl) (by decide +kernel) rfl ?_
  refine x_aload_n 1 rfl 0 dX2_addToken_0 rfl rfl ?_
  refine x_getI E dX2_addToken_1 F_RX2_21 sh_2 4 rfl ?_
  refine x_aload_n 5 rfl 0 dX2_addToken_4 rfl rfl ?_
  refine x_getR E dX2_addToken_5 F_RX2_9 sh_2 rf_2_0 8 rfl ?_
  refine x_alen E dX2_addToken_8 sh_3 9 rfl ?_
  refine x_icmp_ge 12 rfl 52 dX2_addToken_9 (by decide) (fun hc => ?_) (fun hc => ?_)
  · replace h := x_ifT hc h
    cases h
    exact x_vret dX2_addToken_52 rfl rfl rfl
  · replace h := x_ifF hc h
    refine x_aload_n 13 rfl 0 dX2_addToken_12 rfl rfl ?_
    refine x_getR E dX2_addToken_13 F_RX2_9 sh_2 rf_2_0 16 rfl ?_
    refine x_aload_n 17 rfl 0 dX2_addToken_16 rfl rfl ?_
    refine x_getI E dX2_addToken_17 F_RX2_21 sh_2 20 rfl ?_
    refine x_iload_n 21 rfl 1 dX2_addToken_20 rfl rfl ?_
    obtain ⟨hz, h⟩ := x_ifn h
    refine x_iast E dX2_addToken_21 sh_3 _ rfl hz 22 rfl ?_
    refine x_aload_n 23 rfl 0 dX2_addToken_22 rfl rfl ?_
    refine x_getR E dX2_addToken_23 F_RX2_15 sh_2 rf_2_1 26 rfl ?_
    refine x_aload_n 27 rfl 0 dX2_addToken_26 rfl rfl ?_
    refine x_getI E dX2_addToken_27 F_RX2_21 sh_2 30 rfl ?_
    refine x_iload_n 31 rfl 2 dX2_addToken_30 rfl rfl ?_
    obtain ⟨hz, h⟩ := x_ifn h
    refine x_iast E dX2_addToken_31 sh_4 _ rfl hz 32 rfl ?_
    refine x_aload_n 33 rfl 0 dX2_addToken_32 rfl rfl ?_
    refine x_getR E dX2_addToken_33 F_RX2_18 sh_2 rf_2_2 36 rfl ?_
    refine x_aload_n 37 rfl 0 dX2_addToken_36 rfl rfl ?_
    refine x_getI E dX2_addToken_37 F_RX2_21 sh_2 40 rfl ?_
    refine x_iload_n 41 rfl 3 dX2_addToken_40 rfl rfl ?_
    obtain ⟨hz, h⟩ := x_ifn h
    refine x_iast E dX2_addToken_41 sh_5 _ rfl hz 42 rfl ?_
    refine x_aload_n 43 rfl 0 dX2_addToken_42 rfl rfl ?_
    refine x_dup 44 rfl dX2_addToken_43 rfl ?_
    refine x_getI E dX2_addToken_44 F_RX2_21 sh_2 47 rfl ?_
    refine x_iconst 48 rfl (v := 1) dX2_addToken_47 (by decide) ?_
    refine x_iadd 49 rfl dX2_addToken_48 ?_
    refine x_putI E dX2_addToken_49 F_RX2_21 sh_2 52 rfl ?_
    cases h
    exact x_vret dX2_addToken_52 rfl rfl rfl
theorem K_RX2_88 : x_KS RX2 88 M_Re_isDigit 1 := ⟨⟨(List.mem_append_right _ (List.mem_of_getElem? (i := 687) (by decide +kernel))), (List.mem_append_right _ (List.mem_of_getElem? (i := 689) (by decide +kernel))), (List.mem_append_right _ (List.mem_of_getElem? (i := 2) (by decide +kernel))), ⟨by decide +kernel, by decide +kernel⟩, by decide +kernel⟩, (List.mem_append_right _ (List.mem_of_getElem? (i := 688) (by decide +kernel)))⟩
abbrev M_Re_endOfDigits : xM := (yX2_endOfDigits, cX2_endOfDigits, 4, some .int, [])
theorem dX2_endOfDigits_0 : decode cX2_endOfDigits 0 = .ok (.iload_n 1, 1) := by decide +kernel
theorem dX2_endOfDigits_1 : decode cX2_endOfDigits 1 = .ok (.istore_n 3, 1) := by decide +kernel
theorem dX2_endOfDigits_2 : decode cX2_endOfDigits 2 = .ok (.iload_n 3, 1) := by decide +kernel
theorem dX2_endOfDigits_3 : decode cX2_endOfDigits 3 = .ok (.iload_n 2, 1) := by decide +kernel
theorem dX2_endOfDigits_4 : decode cX2_endOfDigits 4 = .ok (.if_icmp .ge 26, 3) := by decide +kernel
theorem dX2_endOfDigits_7 : decode cX2_endOfDigits 7 = .ok (.iload_n 3, 1) := by decide +kernel
theorem dX2_endOfDigits_8 : decode cX2_endOfDigits 8 = .ok (.aload_n 0, 1) := by decide +kernel
theorem dX2_endOfDigits_9 : decode cX2_endOfDigits 9 = .ok (.arraylength, 1) := by decide +kernel
theorem dX2_endOfDigits_10 : decode cX2_endOfDigits 10 = .ok (.if_icmp .ge 20, 3) := by decide +kernel
theorem dX2_endOfDigits_13 : decode cX2_endOfDigits 13 = .ok (.aload_n 0, 1) := by decide +kernel
theorem dX2_endOfDigits_14 : decode cX2_endOfDigits 14 = .ok (.iload_n 3, 1) := by decide +kernel
theorem dX2_endOfDigits_15 : decode cX2_endOfDigits 15 = .ok (.iaload, 1) := by decide +kernel
theorem dX2_endOfDigits_16 : decode cX2_endOfDigits 16 = .ok (.invokestatic 88, 3) := by decide +kernel
theorem dX2_endOfDigits_19 : decode cX2_endOfDigits 19 = .ok (.ifCond .ne 5, 3) := by decide +kernel
theorem dX2_endOfDigits_22 : decode cX2_endOfDigits 22 = .ok (.iload_n 3, 1) := by decide +kernel
theorem dX2_endOfDigits_23 : decode cX2_endOfDigits 23 = .ok (.ireturn, 1) := by decide +kernel
theorem dX2_endOfDigits_24 : decode cX2_endOfDigits 24 = .ok (.iinc 3 1, 3) := by decide +kernel
theorem dX2_endOfDigits_27 : decode cX2_endOfDigits 27 = .ok (.goto (-25), 3) := by decide +kernel
theorem dX2_endOfDigits_30 : decode cX2_endOfDigits 30 = .ok (.iload_n 2, 1) := by decide +kernel
theorem dX2_endOfDigits_31 : decode cX2_endOfDigits 31 = .ok (.ireturn, 1) := by decide +kernel
def f_Re_endOfDigits_1_L2 (v2 : Int32) (a : Int32 × xS) : Option (((Int32 × xS) ⊕ (Int32 × xS)) ⊕ (Int32 × xS)) :=
  let v3 := a.1; let σ := a.2;
  if v2 ≤ v3 then
    some (.inl (.inr (v3, σ)))
  else
    if (Int32.ofNat 700) ≤ v3 then
      some (.inl (.inr (v3, σ)))
    else
      if v3 < 0 ∨ 700 ≤ v3.toNatClampNeg then none else
      (f_Re_isDigit (σ.1 1 v3.toNatClampNeg) σ).bind fun q1 =>
      if q1.1 = 0 then
        some (.inl (.inl (v3, q1.2)))
      else
        let w2 := v3 + (1 : Int32)
        some (.inr (w2, q1.2))
def f_Re_endOfDigits_1 (v1 : Int32) (v2 : Int32) (σ : xS) : Option (Int32 × xS) :=
  (x_it (f_Re_endOfDigits_1_L2 v2) 10000 (v1, σ)).bind fun b3 =>
  match b3 with
  | .inl b3r => some b3r
  | .inr b3e =>
    some (v2, b3e.2)
set_option maxHeartbeats 4000000 in
set_option maxRecDepth 100000 in
theorem b_Re_endOfDigits_1_L2 {l : Launch} {s0 : State} {a0 : Array Value} {D : va_G} {cA : Nat → ClassId} {sp : Nat → Nat} (E : x_En CL l s0 a0 D cA sp) (v2 : Int32) {r : Int32} {σ1 : xS} (a : Int32 × xS) (o : ((Int32 × xS) ⊕ (Int32 × xS)) ⊕ (Int32 × xS)) (h : f_Re_endOfDigits_1_L2 v2 a = some o) (hK : ∀ b, o = .inl b → (∀ q, b = .inl q → q = (r, σ1)) ∧ ∀ e, b = .inr e → zW l s0 D cA sp (zQ s0 D cA sp (some (.int r)) σ1) (x_rm 1 0 0) M_Re_endOfDigits 0 0 30 [none, none, some (.int v2), none] [] e.2) (hG : ∀ a', o = .inr a' → zW l s0 D cA sp (zQ s0 D cA sp (some (.int r)) σ1) (x_rm 1 0 0) M_Re_endOfDigits 0 0 2 [some (.ref 1), none, some (.int v2), some (.int a'.1)] [] a'.2) : zW l s0 D cA sp (zQ s0 D cA sp (some (.int r)) σ1) (x_rm 1 0 0) M_Re_endOfDigits 0 0 2 [some (.ref 1), none, some (.int v2), some (.int a.1)] [] a.2 := by
  obtain ⟨v3, σ⟩ := a
  unfold f_Re_endOfDigits_1_L2 at h
  try dsimp only at h ⊢
  refine x_iload_n 3 rfl 3 dX2_endOfDigits_2 rfl rfl ?_
  refine x_iload_n 4 rfl 2 dX2_endOfDigits_3 rfl rfl ?_
  refine x_icmp_ge 7 rfl 30 dX2_endOfDigits_4 (by decide) (fun hc => ?_) (fun hc => ?_)
  · replace h := x_ifT hc h
    cases h
    exact x_wk (x_le_n (x_le_n (x_le_s (x_le_n x_le_0)))) ((hK (.inr (_, _)) rfl).2 (_, _) rfl)
  · replace h := x_ifF hc h
    refine x_iload_n 8 rfl 3 dX2_endOfDigits_7 rfl rfl ?_
    refine x_aload_n 9 rfl 0 dX2_endOfDigits_8 rfl rfl ?_
    refine x_alen E dX2_endOfDigits_9 sh_1 10 rfl ?_
    refine x_icmp_ge 13 rfl 30 dX2_endOfDigits_10 (by decide) (fun hc => ?_) (fun hc => ?_)
    · replace h := x_ifT hc h
      cases h
      exact x_wk (x_le_n (x_le_n (x_le_s (x_le_n x_le_0)))) ((hK (.inr (_, _)) rfl).2 (_, _) rfl)
    · replace h := x_ifF hc h
      refine x_aload_n 14 rfl 0 dX2_endOfDigits_13 rfl rfl ?_
      refine x_iload_n 15 rfl 3 dX2_endOfDigits_14 rfl rfl ?_
      obtain ⟨hz, h⟩ := x_ifn h
      refine x_iald E dX2_endOfDigits_15 sh_1 _ rfl hz 16 rfl ?_
      obtain ⟨⟨q1r, q1s⟩, q1h, h⟩ := x_bind h
      try dsimp only at h
      refine z_callS E [.int _] [] dX2_endOfDigits_16 K_RX2_88 ⟨Nat.le_of_ble_eq_true rfl, Nat.le_of_ble_eq_true rfl⟩ (c_Re_isDigit E _ q1h) rfl rfl (Nat.le_of_ble_eq_true rfl) 19 rfl [.int _] rfl ?_
      refine x_if_ne 22 rfl 24 dX2_endOfDigits_19 (by decide) (fun hc => ?_) (fun hc => ?_)
      · replace h := x_ifF hc h
        refine x_iinc 27 rfl (1) dX2_endOfDigits_24 rfl (by decide) (by decide) [some (.ref 1), none, some (.int _), some (.int _)] rfl ?_
        refine x_goto 2 dX2_endOfDigits_27 (by decide) ?_
        cases h
        exact x_wk (x_le_s (x_le_n (x_le_s (x_le_s x_le_0)))) (hG (_, _) rfl)
      · replace h := x_ifT hc h
        refine x_iload_n 23 rfl 3 dX2_endOfDigits_22 rfl rfl ?_
        cases h
        cases (hK (.inl (_, _)) rfl).1 (_, _) rfl
        exact x_iret dX2_endOfDigits_23 rfl rfl rfl
set_option maxHeartbeats 4000000 in
set_option maxRecDepth 100000 in
theorem c_Re_endOfDigits_1 {l : Launch} {s0 : State} {a0 : Array Value} {D : va_G} {cA : Nat → ClassId} {sp : Nat → Nat} (E : x_En CL l s0 a0 D cA sp) (v1 : Int32) (v2 : Int32) {σ : xS} {r : Int32} {σ1 : xS} (h : f_Re_endOfDigits_1 v1 v2 σ = some (r, σ1)) : zC l s0 D cA sp 1 M_Re_endOfDigits [.ref 1, .int v1, .int v2] σ (some (.int r)) σ1 := by
  unfold f_Re_endOfDigits_1 at h
  try dsimp only at h
  refine x_enter [some (.ref 1), some (.int v1), some (.int v2), none] rfl (Nat.le_of_ble_eq_true rfl) (by decide +kernel) rfl ?_
  refine x_iload_n 1 rfl 1 dX2_endOfDigits_0 rfl rfl ?_
  refine x_istore_n 2 rfl 3 dX2_endOfDigits_1 rfl (by decide) [some (.ref 1), some (.int _), some (.int _), some (.int _)] rfl ?_
  obtain ⟨b3, b3h, h⟩ := x_bind h
  try dsimp only at h
  refine x_wk (x_le_s (x_le_n (x_le_s (x_le_s x_le_0)))) (x_loop (fun a o h hK hG => b_Re_endOfDigits_1_L2 (r := r) (σ1 := σ1) E _ a o h hK hG) _ _ _ b3h ?_)
  cases b3 with
  | inl b3r =>
    try dsimp only at h
    cases h
    exact ⟨fun q e => (by cases e; rfl), fun e he => (by cases he)⟩
  | inr b3e =>
    try dsimp only at h
    refine ⟨fun q e => (by cases e), fun e he => ?_⟩
    cases he
    refine x_iload_n 31 rfl 2 dX2_endOfDigits_30 rfl rfl ?_
    cases h
    exact x_iret dX2_endOfDigits_31 rfl rfl rfl
abbrev M_Re_numberOn : xM := (yX2_numberOn, cX2_numberOn, 5, some .int, [])
theorem dX2_numberOn_0 : decode cX2_numberOn 0 = .ok (.iload_n 2, 1) := by decide +kernel
theorem dX2_numberOn_1 : decode cX2_numberOn 1 = .ok (.iload_n 1, 1) := by decide +kernel
theorem dX2_numberOn_2 : decode cX2_numberOn 2 = .ok (.isub, 1) := by decide +kernel
theorem dX2_numberOn_3 : decode cX2_numberOn 3 = .ok (.iconst 4, 1) := by decide +kernel
theorem dX2_numberOn_4 : decode cX2_numberOn 4 = .ok (.if_icmp .le 5, 3) := by decide +kernel
theorem dX2_numberOn_7 : decode cX2_numberOn 7 = .ok (.iconst (-1), 1) := by decide +kernel
theorem dX2_numberOn_8 : decode cX2_numberOn 8 = .ok (.ireturn, 1) := by decide +kernel
theorem dX2_numberOn_9 : decode cX2_numberOn 9 = .ok (.iconst 0, 1) := by decide +kernel
theorem dX2_numberOn_10 : decode cX2_numberOn 10 = .ok (.istore_n 3, 1) := by decide +kernel
theorem dX2_numberOn_11 : decode cX2_numberOn 11 = .ok (.iload_n 1, 1) := by decide +kernel
theorem dX2_numberOn_12 : decode cX2_numberOn 12 = .ok (.istore 4, 2) := by decide +kernel
theorem dX2_numberOn_14 : decode cX2_numberOn 14 = .ok (.iload 4, 2) := by decide +kernel
theorem dX2_numberOn_16 : decode cX2_numberOn 16 = .ok (.iload_n 2, 1) := by decide +kernel
theorem dX2_numberOn_17 : decode cX2_numberOn 17 = .ok (.if_icmp .ge 29, 3) := by decide +kernel
theorem dX2_numberOn_20 : decode cX2_numberOn 20 = .ok (.iload 4, 2) := by decide +kernel
theorem dX2_numberOn_22 : decode cX2_numberOn 22 = .ok (.aload_n 0, 1) := by decide +kernel
theorem dX2_numberOn_23 : decode cX2_numberOn 23 = .ok (.arraylength, 1) := by decide +kernel
theorem dX2_numberOn_24 : decode cX2_numberOn 24 = .ok (.if_icmp .ge 22, 3) := by decide +kernel
theorem dX2_numberOn_27 : decode cX2_numberOn 27 = .ok (.iload_n 3, 1) := by decide +kernel
theorem dX2_numberOn_28 : decode cX2_numberOn 28 = .ok (.bipush 10, 2) := by decide +kernel
theorem dX2_numberOn_30 : decode cX2_numberOn 30 = .ok (.imul, 1) := by decide +kernel
theorem dX2_numberOn_31 : decode cX2_numberOn 31 = .ok (.aload_n 0, 1) := by decide +kernel
theorem dX2_numberOn_32 : decode cX2_numberOn 32 = .ok (.iload 4, 2) := by decide +kernel
theorem dX2_numberOn_34 : decode cX2_numberOn 34 = .ok (.iaload, 1) := by decide +kernel
theorem dX2_numberOn_35 : decode cX2_numberOn 35 = .ok (.iadd, 1) := by decide +kernel
theorem dX2_numberOn_36 : decode cX2_numberOn 36 = .ok (.bipush 48, 2) := by decide +kernel
theorem dX2_numberOn_38 : decode cX2_numberOn 38 = .ok (.isub, 1) := by decide +kernel
theorem dX2_numberOn_39 : decode cX2_numberOn 39 = .ok (.istore_n 3, 1) := by decide +kernel
theorem dX2_numberOn_40 : decode cX2_numberOn 40 = .ok (.iinc 4 1, 3) := by decide +kernel
theorem dX2_numberOn_43 : decode cX2_numberOn 43 = .ok (.goto (-29), 3) := by decide +kernel
theorem dX2_numberOn_46 : decode cX2_numberOn 46 = .ok (.iload_n 3, 1) := by decide +kernel
theorem dX2_numberOn_47 : decode cX2_numberOn 47 = .ok (.ireturn, 1) := by decide +kernel
def f_Re_numberOn_1_L14 (v2 : Int32) (a : Int32 × Int32 × xS) : Option ((Int32 × Int32 × xS) ⊕ (Int32 × Int32 × xS)) :=
  let v3 := a.1; let v4 := a.2.1; let σ := a.2.2;
  if v2 ≤ v4 then
    some (.inl (v3, v4, σ))
  else
    if (Int32.ofNat 700) ≤ v4 then
      some (.inl (v3, v4, σ))
    else
      if v4 < 0 ∨ 700 ≤ v4.toNatClampNeg then none else
      let w1 := (((v3 * (10 : Int32)) + σ.1 1 v4.toNatClampNeg) - (48 : Int32))
      let w2 := v4 + (1 : Int32)
      some (.inr (w1, w2, σ))
def f_Re_numberOn_1 (v1 : Int32) (v2 : Int32) (σ : xS) : Option (Int32 × xS) :=
  if (v2 - v1) ≤ (4 : Int32) then
    (x_it (f_Re_numberOn_1_L14 v2) 10000 ((0 : Int32), v1, σ)).bind fun b3 =>
    some (b3.1, b3.2.2)
  else
    some ((-1 : Int32), σ)
set_option maxHeartbeats 4000000 in
set_option maxRecDepth 100000 in
theorem b_Re_numberOn_1_L14 {l : Launch} {s0 : State} {a0 : Array Value} {D : va_G} {cA : Nat → ClassId} {sp : Nat → Nat} (E : x_En CL l s0 a0 D cA sp) (v2 : Int32) {r : Int32} {σ1 : xS} (a : Int32 × Int32 × xS) (o : (Int32 × Int32 × xS) ⊕ (Int32 × Int32 × xS)) (h : f_Re_numberOn_1_L14 v2 a = some o) (hK : ∀ b, o = .inl b → zW l s0 D cA sp (zQ s0 D cA sp (some (.int r)) σ1) (x_rm 0 0 0) M_Re_numberOn 0 0 46 [none, none, none, some (.int b.1), none] [] b.2.2) (hG : ∀ a', o = .inr a' → zW l s0 D cA sp (zQ s0 D cA sp (some (.int r)) σ1) (x_rm 0 0 0) M_Re_numberOn 0 0 14 [some (.ref 1), none, some (.int v2), some (.int a'.1), some (.int a'.2.1)] [] a'.2.2) : zW l s0 D cA sp (zQ s0 D cA sp (some (.int r)) σ1) (x_rm 0 0 0) M_Re_numberOn 0 0 14 [some (.ref 1), none, some (.int v2), some (.int a.1), some (.int a.2.1)] [] a.2.2 := by
  obtain ⟨v3, v4, σ⟩ := a
  unfold f_Re_numberOn_1_L14 at h
  try dsimp only at h ⊢
  refine x_iload 16 rfl dX2_numberOn_14 rfl ?_
  refine x_iload_n 17 rfl 2 dX2_numberOn_16 rfl rfl ?_
  refine x_icmp_ge 20 rfl 46 dX2_numberOn_17 (by decide) (fun hc => ?_) (fun hc => ?_)
  · replace h := x_ifT hc h
    cases h
    exact x_wk (x_le_n (x_le_n (x_le_n (x_le_s (x_le_n x_le_0))))) (hK (_, _, _) rfl)
  · replace h := x_ifF hc h
    refine x_iload 22 rfl dX2_numberOn_20 rfl ?_
    refine x_aload_n 23 rfl 0 dX2_numberOn_22 rfl rfl ?_
    refine x_alen E dX2_numberOn_23 sh_1 24 rfl ?_
    refine x_icmp_ge 27 rfl 46 dX2_numberOn_24 (by decide) (fun hc => ?_) (fun hc => ?_)
    · replace h := x_ifT hc h
      cases h
      exact x_wk (x_le_n (x_le_n (x_le_n (x_le_s (x_le_n x_le_0))))) (hK (_, _, _) rfl)
    · replace h := x_ifF hc h
      refine x_iload_n 28 rfl 3 dX2_numberOn_27 rfl rfl ?_
      refine x_bipush 30 rfl (v := 10) dX2_numberOn_28 (by decide) ?_
      refine x_imul 31 rfl dX2_numberOn_30 ?_
      refine x_aload_n 32 rfl 0 dX2_numberOn_31 rfl rfl ?_
      refine x_iload 34 rfl dX2_numberOn_32 rfl ?_
      obtain ⟨hz, h⟩ := x_ifn h
      refine x_iald E dX2_numberOn_34 sh_1 _ rfl hz 35 rfl ?_
      refine x_iadd 36 rfl dX2_numberOn_35 ?_
      refine x_bipush 38 rfl (v := 48) dX2_numberOn_36 (by decide) ?_
      refine x_isub 39 rfl dX2_numberOn_38 ?_
      refine x_istore_n 40 rfl 3 dX2_numberOn_39 rfl (by decide) [some (.ref 1), none, some (.int _), some (.int _), some (.int _)] rfl ?_
      refine x_iinc 43 rfl (1) dX2_numberOn_40 rfl (by decide) (by decide) [some (.ref 1), none, some (.int _), some (.int _), some (.int _)] rfl ?_
      refine x_goto 14 dX2_numberOn_43 (by decide) ?_
      cases h
      exact x_wk (x_le_s (x_le_n (x_le_s (x_le_s (x_le_s x_le_0))))) (hG (_, _, _) rfl)
set_option maxHeartbeats 4000000 in
set_option maxRecDepth 100000 in
theorem c_Re_numberOn_1 {l : Launch} {s0 : State} {a0 : Array Value} {D : va_G} {cA : Nat → ClassId} {sp : Nat → Nat} (E : x_En CL l s0 a0 D cA sp) (v1 : Int32) (v2 : Int32) {σ : xS} {r : Int32} {σ1 : xS} (h : f_Re_numberOn_1 v1 v2 σ = some (r, σ1)) : zC l s0 D cA sp 0 M_Re_numberOn [.ref 1, .int v1, .int v2] σ (some (.int r)) σ1 := by
  unfold f_Re_numberOn_1 at h
  try dsimp only at h
  refine x_enter [some (.ref 1), some (.int v1), some (.int v2), none, none] rfl (Nat.le_of_ble_eq_true rfl) (by decide +kernel) rfl ?_
  refine x_iload_n 1 rfl 2 dX2_numberOn_0 rfl rfl ?_
  refine x_iload_n 2 rfl 1 dX2_numberOn_1 rfl rfl ?_
  refine x_isub 3 rfl dX2_numberOn_2 ?_
  refine x_iconst 4 rfl (v := 4) dX2_numberOn_3 (by decide) ?_
  refine x_icmp_le 7 rfl 9 dX2_numberOn_4 (by decide) (fun hc => ?_) (fun hc => ?_)
  · replace h := x_ifT hc h
    refine x_iconst 10 rfl (v := 0) dX2_numberOn_9 (by decide) ?_
    refine x_istore_n 11 rfl 3 dX2_numberOn_10 rfl (by decide) [some (.ref 1), some (.int _), some (.int _), some (.int _), none] rfl ?_
    refine x_iload_n 12 rfl 1 dX2_numberOn_11 rfl rfl ?_
    refine x_istore 14 rfl dX2_numberOn_12 (by decide) [some (.ref 1), some (.int _), some (.int _), some (.int _), some (.int _)] rfl ?_
    obtain ⟨b3, b3h, h⟩ := x_bind h
    try dsimp only at h
    refine x_wk (x_le_s (x_le_n (x_le_s (x_le_s (x_le_s x_le_0))))) (x_loop (fun a o h hK hG => b_Re_numberOn_1_L14 (r := r) (σ1 := σ1) E _ a o h hK hG) _ _ _ b3h ?_)
    refine x_iload_n 47 rfl 3 dX2_numberOn_46 rfl rfl ?_
    cases h
    exact x_iret dX2_numberOn_47 rfl rfl rfl
  · replace h := x_ifF hc h
    refine x_iconst 8 rfl (v := -1) dX2_numberOn_7 (by decide) ?_
    cases h
    exact x_iret dX2_numberOn_8 rfl rfl rfl
theorem K_RX2_74 : x_KS RX2 74 M_Re_isLetter 1 := ⟨⟨(List.mem_append_right _ (List.mem_of_getElem? (i := 620) (by decide +kernel))), (List.mem_append_right _ (List.mem_of_getElem? (i := 622) (by decide +kernel))), (List.mem_append_right _ (List.mem_of_getElem? (i := 2) (by decide +kernel))), ⟨by decide +kernel, by decide +kernel⟩, by decide +kernel⟩, (List.mem_append_right _ (List.mem_of_getElem? (i := 621) (by decide +kernel)))⟩
abbrev M_Re_endOfLetters : xM := (yX2_endOfLetters, cX2_endOfLetters, 4, some .int, [])
theorem dX2_endOfLetters_0 : decode cX2_endOfLetters 0 = .ok (.iload_n 1, 1) := by decide +kernel
theorem dX2_endOfLetters_1 : decode cX2_endOfLetters 1 = .ok (.istore_n 3, 1) := by decide +kernel
theorem dX2_endOfLetters_2 : decode cX2_endOfLetters 2 = .ok (.iload_n 3, 1) := by decide +kernel
theorem dX2_endOfLetters_3 : decode cX2_endOfLetters 3 = .ok (.iload_n 2, 1) := by decide +kernel
theorem dX2_endOfLetters_4 : decode cX2_endOfLetters 4 = .ok (.if_icmp .ge 26, 3) := by decide +kernel
theorem dX2_endOfLetters_7 : decode cX2_endOfLetters 7 = .ok (.iload_n 3, 1) := by decide +kernel
theorem dX2_endOfLetters_8 : decode cX2_endOfLetters 8 = .ok (.aload_n 0, 1) := by decide +kernel
theorem dX2_endOfLetters_9 : decode cX2_endOfLetters 9 = .ok (.arraylength, 1) := by decide +kernel
theorem dX2_endOfLetters_10 : decode cX2_endOfLetters 10 = .ok (.if_icmp .ge 20, 3) := by decide +kernel
theorem dX2_endOfLetters_13 : decode cX2_endOfLetters 13 = .ok (.aload_n 0, 1) := by decide +kernel
theorem dX2_endOfLetters_14 : decode cX2_endOfLetters 14 = .ok (.iload_n 3, 1) := by decide +kernel
theorem dX2_endOfLetters_15 : decode cX2_endOfLetters 15 = .ok (.iaload, 1) := by decide +kernel
theorem dX2_endOfLetters_16 : decode cX2_endOfLetters 16 = .ok (.invokestatic 74, 3) := by decide +kernel
theorem dX2_endOfLetters_19 : decode cX2_endOfLetters 19 = .ok (.ifCond .ne 5, 3) := by decide +kernel
theorem dX2_endOfLetters_22 : decode cX2_endOfLetters 22 = .ok (.iload_n 3, 1) := by decide +kernel
theorem dX2_endOfLetters_23 : decode cX2_endOfLetters 23 = .ok (.ireturn, 1) := by decide +kernel
theorem dX2_endOfLetters_24 : decode cX2_endOfLetters 24 = .ok (.iinc 3 1, 3) := by decide +kernel
theorem dX2_endOfLetters_27 : decode cX2_endOfLetters 27 = .ok (.goto (-25), 3) := by decide +kernel
theorem dX2_endOfLetters_30 : decode cX2_endOfLetters 30 = .ok (.iload_n 2, 1) := by decide +kernel
theorem dX2_endOfLetters_31 : decode cX2_endOfLetters 31 = .ok (.ireturn, 1) := by decide +kernel
def f_Re_endOfLetters_1_L2 (v2 : Int32) (a : Int32 × xS) : Option (((Int32 × xS) ⊕ (Int32 × xS)) ⊕ (Int32 × xS)) :=
  let v3 := a.1; let σ := a.2;
  if v2 ≤ v3 then
    some (.inl (.inr (v3, σ)))
  else
    if (Int32.ofNat 700) ≤ v3 then
      some (.inl (.inr (v3, σ)))
    else
      if v3 < 0 ∨ 700 ≤ v3.toNatClampNeg then none else
      (f_Re_isLetter (σ.1 1 v3.toNatClampNeg) σ).bind fun q1 =>
      if q1.1 = 0 then
        some (.inl (.inl (v3, q1.2)))
      else
        let w2 := v3 + (1 : Int32)
        some (.inr (w2, q1.2))
def f_Re_endOfLetters_1 (v1 : Int32) (v2 : Int32) (σ : xS) : Option (Int32 × xS) :=
  (x_it (f_Re_endOfLetters_1_L2 v2) 10000 (v1, σ)).bind fun b3 =>
  match b3 with
  | .inl b3r => some b3r
  | .inr b3e =>
    some (v2, b3e.2)
set_option maxHeartbeats 4000000 in
set_option maxRecDepth 100000 in
theorem b_Re_endOfLetters_1_L2 {l : Launch} {s0 : State} {a0 : Array Value} {D : va_G} {cA : Nat → ClassId} {sp : Nat → Nat} (E : x_En CL l s0 a0 D cA sp) (v2 : Int32) {r : Int32} {σ1 : xS} (a : Int32 × xS) (o : ((Int32 × xS) ⊕ (Int32 × xS)) ⊕ (Int32 × xS)) (h : f_Re_endOfLetters_1_L2 v2 a = some o) (hK : ∀ b, o = .inl b → (∀ q, b = .inl q → q = (r, σ1)) ∧ ∀ e, b = .inr e → zW l s0 D cA sp (zQ s0 D cA sp (some (.int r)) σ1) (x_rm 1 0 0) M_Re_endOfLetters 0 0 30 [none, none, some (.int v2), none] [] e.2) (hG : ∀ a', o = .inr a' → zW l s0 D cA sp (zQ s0 D cA sp (some (.int r)) σ1) (x_rm 1 0 0) M_Re_endOfLetters 0 0 2 [some (.ref 1), none, some (.int v2), some (.int a'.1)] [] a'.2) : zW l s0 D cA sp (zQ s0 D cA sp (some (.int r)) σ1) (x_rm 1 0 0) M_Re_endOfLetters 0 0 2 [some (.ref 1), none, some (.int v2), some (.int a.1)] [] a.2 := by
  obtain ⟨v3, σ⟩ := a
  unfold f_Re_endOfLetters_1_L2 at h
  try dsimp only at h ⊢
  refine x_iload_n 3 rfl 3 dX2_endOfLetters_2 rfl rfl ?_
  refine x_iload_n 4 rfl 2 dX2_endOfLetters_3 rfl rfl ?_
  refine x_icmp_ge 7 rfl 30 dX2_endOfLetters_4 (by decide) (fun hc => ?_) (fun hc => ?_)
  · replace h := x_ifT hc h
    cases h
    exact x_wk (x_le_n (x_le_n (x_le_s (x_le_n x_le_0)))) ((hK (.inr (_, _)) rfl).2 (_, _) rfl)
  · replace h := x_ifF hc h
    refine x_iload_n 8 rfl 3 dX2_endOfLetters_7 rfl rfl ?_
    refine x_aload_n 9 rfl 0 dX2_endOfLetters_8 rfl rfl ?_
    refine x_alen E dX2_endOfLetters_9 sh_1 10 rfl ?_
    refine x_icmp_ge 13 rfl 30 dX2_endOfLetters_10 (by decide) (fun hc => ?_) (fun hc => ?_)
    · replace h := x_ifT hc h
      cases h
      exact x_wk (x_le_n (x_le_n (x_le_s (x_le_n x_le_0)))) ((hK (.inr (_, _)) rfl).2 (_, _) rfl)
    · replace h := x_ifF hc h
      refine x_aload_n 14 rfl 0 dX2_endOfLetters_13 rfl rfl ?_
      refine x_iload_n 15 rfl 3 dX2_endOfLetters_14 rfl rfl ?_
      obtain ⟨hz, h⟩ := x_ifn h
      refine x_iald E dX2_endOfLetters_15 sh_1 _ rfl hz 16 rfl ?_
      obtain ⟨⟨q1r, q1s⟩, q1h, h⟩ := x_bind h
      try dsimp only at h
      refine z_callS E [.int _] [] dX2_endOfLetters_16 K_RX2_74 ⟨Nat.le_of_ble_eq_true rfl, Nat.le_of_ble_eq_true rfl⟩ (c_Re_isLetter E _ q1h) rfl rfl (Nat.le_of_ble_eq_true rfl) 19 rfl [.int _] rfl ?_
      refine x_if_ne 22 rfl 24 dX2_endOfLetters_19 (by decide) (fun hc => ?_) (fun hc => ?_)
      · replace h := x_ifF hc h
        refine x_iinc 27 rfl (1) dX2_endOfLetters_24 rfl (by decide) (by decide) [some (.ref 1), none, some (.int _), some (.int _)] rfl ?_
        refine x_goto 2 dX2_endOfLetters_27 (by decide) ?_
        cases h
        exact x_wk (x_le_s (x_le_n (x_le_s (x_le_s x_le_0)))) (hG (_, _) rfl)
      · replace h := x_ifT hc h
        refine x_iload_n 23 rfl 3 dX2_endOfLetters_22 rfl rfl ?_
        cases h
        cases (hK (.inl (_, _)) rfl).1 (_, _) rfl
        exact x_iret dX2_endOfLetters_23 rfl rfl rfl
set_option maxHeartbeats 4000000 in
set_option maxRecDepth 100000 in
theorem c_Re_endOfLetters_1 {l : Launch} {s0 : State} {a0 : Array Value} {D : va_G} {cA : Nat → ClassId} {sp : Nat → Nat} (E : x_En CL l s0 a0 D cA sp) (v1 : Int32) (v2 : Int32) {σ : xS} {r : Int32} {σ1 : xS} (h : f_Re_endOfLetters_1 v1 v2 σ = some (r, σ1)) : zC l s0 D cA sp 1 M_Re_endOfLetters [.ref 1, .int v1, .int v2] σ (some (.int r)) σ1 := by
  unfold f_Re_endOfLetters_1 at h
  try dsimp only at h
  refine x_enter [some (.ref 1), some (.int v1), some (.int v2), none] rfl (Nat.le_of_ble_eq_true rfl) (by decide +kernel) rfl ?_
  refine x_iload_n 1 rfl 1 dX2_endOfLetters_0 rfl rfl ?_
  refine x_istore_n 2 rfl 3 dX2_endOfLetters_1 rfl (by decide) [some (.ref 1), some (.int _), some (.int _), some (.int _)] rfl ?_
  obtain ⟨b3, b3h, h⟩ := x_bind h
  try dsimp only at h
  refine x_wk (x_le_s (x_le_n (x_le_s (x_le_s x_le_0)))) (x_loop (fun a o h hK hG => b_Re_endOfLetters_1_L2 (r := r) (σ1 := σ1) E _ a o h hK hG) _ _ _ b3h ?_)
  cases b3 with
  | inl b3r =>
    try dsimp only at h
    cases h
    exact ⟨fun q e => (by cases e; rfl), fun e he => (by cases he)⟩
  | inr b3e =>
    try dsimp only at h
    refine ⟨fun q e => (by cases e), fun e he => ?_⟩
    cases he
    refine x_iload_n 31 rfl 2 dX2_endOfLetters_30 rfl rfl ?_
    cases h
    exact x_iret dX2_endOfLetters_31 rfl rfl rfl
theorem KT_RX7_102 : x_KV RX7 102 M_sch 1 := ⟨⟨(List.mem_append_right _ (List.mem_of_getElem? (i := 645) (by decide +kernel))), (List.mem_append_right _ (List.mem_of_getElem? (i := 648) (by decide +kernel))), (List.mem_append_right _ (List.mem_of_getElem? (i := 15) (by decide +kernel))), ⟨by decide +kernel, by decide +kernel⟩, by decide +kernel⟩, (List.mem_append_right _ (List.mem_of_getElem? (i := 646) (by decide +kernel))), (List.mem_append_right _ (List.mem_of_getElem? (i := 647) (by decide +kernel)))⟩
theorem KT_RX7_96 : x_KV RX7 96 M_slen 0 := ⟨⟨(List.mem_append_right _ (List.mem_of_getElem? (i := 635) (by decide +kernel))), (List.mem_append_right _ (List.mem_of_getElem? (i := 638) (by decide +kernel))), (List.mem_append_right _ (List.mem_of_getElem? (i := 15) (by decide +kernel))), ⟨by decide +kernel, by decide +kernel⟩, by decide +kernel⟩, (List.mem_append_right _ (List.mem_of_getElem? (i := 636) (by decide +kernel))), (List.mem_append_right _ (List.mem_of_getElem? (i := 637) (by decide +kernel)))⟩
abbrev M_Wo_isOn : xM := (yX7_isOn, cX7_isOn, 5, some .boolean, [])
theorem dX7_isOn_0 : decode cX7_isOn 0 = .ok (.iload_n 3, 1) := by decide +kernel
theorem dX7_isOn_1 : decode cX7_isOn 1 = .ok (.iload_n 2, 1) := by decide +kernel
theorem dX7_isOn_2 : decode cX7_isOn 2 = .ok (.isub, 1) := by decide +kernel
theorem dX7_isOn_3 : decode cX7_isOn 3 = .ok (.aload_n 0, 1) := by decide +kernel
theorem dX7_isOn_4 : decode cX7_isOn 4 = .ok (.getfield 92, 3) := by decide +kernel
theorem dX7_isOn_7 : decode cX7_isOn 7 = .ok (.invokevirtual 96, 3) := by decide +kernel
theorem dX7_isOn_10 : decode cX7_isOn 10 = .ok (.if_icmp .ne 13, 3) := by decide +kernel
theorem dX7_isOn_13 : decode cX7_isOn 13 = .ok (.iload_n 2, 1) := by decide +kernel
theorem dX7_isOn_14 : decode cX7_isOn 14 = .ok (.ifCond .lt 9, 3) := by decide +kernel
theorem dX7_isOn_17 : decode cX7_isOn 17 = .ok (.iload_n 3, 1) := by decide +kernel
theorem dX7_isOn_18 : decode cX7_isOn 18 = .ok (.aload_n 1, 1) := by decide +kernel
theorem dX7_isOn_19 : decode cX7_isOn 19 = .ok (.arraylength, 1) := by decide +kernel
theorem dX7_isOn_20 : decode cX7_isOn 20 = .ok (.if_icmp .le 5, 3) := by decide +kernel
theorem dX7_isOn_23 : decode cX7_isOn 23 = .ok (.iconst 0, 1) := by decide +kernel
theorem dX7_isOn_24 : decode cX7_isOn 24 = .ok (.ireturn, 1) := by decide +kernel
theorem dX7_isOn_25 : decode cX7_isOn 25 = .ok (.iconst 0, 1) := by decide +kernel
theorem dX7_isOn_26 : decode cX7_isOn 26 = .ok (.istore 4, 2) := by decide +kernel
theorem dX7_isOn_28 : decode cX7_isOn 28 = .ok (.iload 4, 2) := by decide +kernel
theorem dX7_isOn_30 : decode cX7_isOn 30 = .ok (.aload_n 0, 1) := by decide +kernel
theorem dX7_isOn_31 : decode cX7_isOn 31 = .ok (.getfield 92, 3) := by decide +kernel
theorem dX7_isOn_34 : decode cX7_isOn 34 = .ok (.invokevirtual 96, 3) := by decide +kernel
theorem dX7_isOn_37 : decode cX7_isOn 37 = .ok (.if_icmp .ge 29, 3) := by decide +kernel
theorem dX7_isOn_40 : decode cX7_isOn 40 = .ok (.aload_n 1, 1) := by decide +kernel
theorem dX7_isOn_41 : decode cX7_isOn 41 = .ok (.iload_n 2, 1) := by decide +kernel
theorem dX7_isOn_42 : decode cX7_isOn 42 = .ok (.iload 4, 2) := by decide +kernel
theorem dX7_isOn_44 : decode cX7_isOn 44 = .ok (.iadd, 1) := by decide +kernel
theorem dX7_isOn_45 : decode cX7_isOn 45 = .ok (.iaload, 1) := by decide +kernel
theorem dX7_isOn_46 : decode cX7_isOn 46 = .ok (.aload_n 0, 1) := by decide +kernel
theorem dX7_isOn_47 : decode cX7_isOn 47 = .ok (.getfield 92, 3) := by decide +kernel
theorem dX7_isOn_50 : decode cX7_isOn 50 = .ok (.iload 4, 2) := by decide +kernel
theorem dX7_isOn_52 : decode cX7_isOn 52 = .ok (.invokevirtual 102, 3) := by decide +kernel
theorem dX7_isOn_55 : decode cX7_isOn 55 = .ok (.if_icmp .eq 5, 3) := by decide +kernel
theorem dX7_isOn_58 : decode cX7_isOn 58 = .ok (.iconst 0, 1) := by decide +kernel
theorem dX7_isOn_59 : decode cX7_isOn 59 = .ok (.ireturn, 1) := by decide +kernel
theorem dX7_isOn_60 : decode cX7_isOn 60 = .ok (.iinc 4 1, 3) := by decide +kernel
theorem dX7_isOn_63 : decode cX7_isOn 63 = .ok (.goto (-35), 3) := by decide +kernel
theorem dX7_isOn_66 : decode cX7_isOn 66 = .ok (.iconst 1, 1) := by decide +kernel
theorem dX7_isOn_67 : decode cX7_isOn 67 = .ok (.ireturn, 1) := by decide +kernel
def f_Wo_isOn_1_L28 (v0 : Nat) (v2 : Int32) (a : Int32 × xS) : Option (((Int32 × xS) ⊕ (Int32 × xS)) ⊕ (Int32 × xS)) :=
  let v4 := a.1; let σ := a.2;
  x_ok (1000 ≤ v0 ∧ v0 < 1023) <|
  x_ok (1200 ≤ (v0 + 200) ∧ (v0 + 200) < 1223) <|
  if (Int32.ofNat (x_ln.getD ((v0 + 200) - 1200) 0)) ≤ v4 then
    some (.inl (.inr (v4, σ)))
  else
    if (v2 + v4) < 0 ∨ 700 ≤ (v2 + v4).toNatClampNeg then none else
    x_ok (1000 ≤ v0 ∧ v0 < 1023) <|
    x_ok (1200 ≤ (v0 + 200) ∧ (v0 + 200) < 1223) <|
    x_ok (¬ v4 < 0 ∧ v4.toNatClampNeg < x_ln.getD ((v0 + 200) - 1200) 0) <|
    if σ.1 1 (v2 + v4).toNatClampNeg = (x_ch ((v0 + 200) - 1200) v4.toNatClampNeg) then
      let w1 := v4 + (1 : Int32)
      some (.inr (w1, σ))
    else
      some (.inl (.inl ((0 : Int32), σ)))
def f_Wo_isOn_1 (v0 : Nat) (v2 : Int32) (v3 : Int32) (σ : xS) : Option (Int32 × xS) :=
  x_ok (1000 ≤ v0 ∧ v0 < 1023) <|
  x_ok (1200 ≤ (v0 + 200) ∧ (v0 + 200) < 1223) <|
  if (v3 - v2) = (Int32.ofNat (x_ln.getD ((v0 + 200) - 1200) 0)) then
    if v2 < 0 then
      some ((0 : Int32), σ)
    else
      if v3 ≤ (Int32.ofNat 700) then
        (x_it (f_Wo_isOn_1_L28 v0 v2) 10000 ((0 : Int32), σ)).bind fun b2 =>
        match b2 with
        | .inl b2r => some b2r
        | .inr b2e =>
          some ((1 : Int32), b2e.2)
      else
        some ((0 : Int32), σ)
  else
    some ((0 : Int32), σ)
set_option maxHeartbeats 4000000 in
set_option maxRecDepth 100000 in
theorem b_Wo_isOn_1_L28 {l : Launch} {s0 : State} {a0 : Array Value} {D : va_G} {cA : Nat → ClassId} {sp : Nat → Nat} (E : x_En CL l s0 a0 D cA sp) (S : x_Sw s0 sp) (v0 : Nat) (v2 : Int32) {r : Int32} {σ1 : xS} (a : Int32 × xS) (o : ((Int32 × xS) ⊕ (Int32 × xS)) ⊕ (Int32 × xS)) (h : f_Wo_isOn_1_L28 v0 v2 a = some o) (hK : ∀ b, o = .inl b → (∀ q, b = .inl q → q = (r, σ1)) ∧ ∀ e, b = .inr e → zW l s0 D cA sp (zQ s0 D cA sp (some (.int r)) σ1) (x_rm 4 0 0) M_Wo_isOn 0 0 66 [none, none, none, none, none] [] e.2) (hG : ∀ a', o = .inr a' → zW l s0 D cA sp (zQ s0 D cA sp (some (.int r)) σ1) (x_rm 4 0 0) M_Wo_isOn 0 0 28 [some (.ref v0), some (.ref 1), some (.int v2), none, some (.int a'.1)] [] a'.2) : zW l s0 D cA sp (zQ s0 D cA sp (some (.int r)) σ1) (x_rm 4 0 0) M_Wo_isOn 0 0 28 [some (.ref v0), some (.ref 1), some (.int v2), none, some (.int a.1)] [] a.2 := by
  obtain ⟨v4, σ⟩ := a
  unfold f_Wo_isOn_1_L28 at h
  try dsimp only at h ⊢
  refine x_iload 30 rfl dX7_isOn_28 rfl ?_
  refine x_aload_n 31 rfl 0 dX7_isOn_30 rfl rfl ?_
  obtain ⟨hz, h⟩ := x_ift h
  refine z_lets E S hz dX7_isOn_31 (List.mem_append_right _ (List.mem_of_getElem? (i := 1933) (by decide +kernel))) 34 rfl ?_
  obtain ⟨hz, h⟩ := x_ift h
  refine z_slen E S [.int _] hz dX7_isOn_34 KT_RX7_96 ⟨(Nat.le_of_ble_eq_true rfl), (Nat.le_of_ble_eq_true rfl)⟩ (Nat.le_of_ble_eq_true rfl) 37 rfl ?_
  refine x_icmp_ge 40 rfl 66 dX7_isOn_37 (by decide) (fun hc => ?_) (fun hc => ?_)
  · replace h := x_ifT hc h
    cases h
    exact x_wk (x_le_n (x_le_n (x_le_n (x_le_n (x_le_n x_le_0))))) ((hK (.inr (_, _)) rfl).2 (_, _) rfl)
  · replace h := x_ifF hc h
    refine x_aload_n 41 rfl 1 dX7_isOn_40 rfl rfl ?_
    refine x_iload_n 42 rfl 2 dX7_isOn_41 rfl rfl ?_
    refine x_iload 44 rfl dX7_isOn_42 rfl ?_
    refine x_iadd 45 rfl dX7_isOn_44 ?_
    obtain ⟨hz, h⟩ := x_ifn h
    refine x_iald E dX7_isOn_45 sh_1 _ rfl hz 46 rfl ?_
    refine x_aload_n 47 rfl 0 dX7_isOn_46 rfl rfl ?_
    obtain ⟨hz, h⟩ := x_ift h
    refine z_lets E S hz dX7_isOn_47 (List.mem_append_right _ (List.mem_of_getElem? (i := 1933) (by decide +kernel))) 50 rfl ?_
    refine x_iload 52 rfl dX7_isOn_50 rfl ?_
    obtain ⟨hz, h⟩ := x_ift h
    obtain ⟨hz2, h⟩ := x_ift h
    refine z_schar E S [.int _] hz hz2 dX7_isOn_52 KT_RX7_102 ⟨(Nat.le_of_ble_eq_true rfl), (Nat.le_of_ble_eq_true rfl)⟩ (Nat.le_of_ble_eq_true rfl) 55 rfl ?_
    refine x_icmp_eq 58 rfl 60 dX7_isOn_55 (by decide) (fun hc => ?_) (fun hc => ?_)
    · replace h := x_ifT hc h
      refine x_iinc 63 rfl (1) dX7_isOn_60 rfl (by decide) (by decide) [some (.ref _), some (.ref 1), some (.int _), none, some (.int _)] rfl ?_
      refine x_goto 28 dX7_isOn_63 (by decide) ?_
      cases h
      exact x_wk (x_le_s (x_le_s (x_le_s (x_le_n (x_le_s x_le_0))))) (hG (_, _) rfl)
    · replace h := x_ifF hc h
      refine x_iconst 59 rfl (v := 0) dX7_isOn_58 (by decide) ?_
      cases h
      cases (hK (.inl (_, _)) rfl).1 (_, _) rfl
      exact x_zret (Or.inl rfl) dX7_isOn_59 rfl rfl rfl
set_option maxHeartbeats 4000000 in
set_option maxRecDepth 100000 in
theorem c_Wo_isOn_1 {l : Launch} {s0 : State} {a0 : Array Value} {D : va_G} {cA : Nat → ClassId} {sp : Nat → Nat} (E : x_En CL l s0 a0 D cA sp) (S : x_Sw s0 sp) (v0 : Nat) (v2 : Int32) (v3 : Int32) {σ : xS} {r : Int32} {σ1 : xS} (h : f_Wo_isOn_1 v0 v2 v3 σ = some (r, σ1)) : zC l s0 D cA sp 4 M_Wo_isOn [.ref v0, .ref 1, .int v2, .int v3] σ (some (.int r)) σ1 := by
  unfold f_Wo_isOn_1 at h
  try dsimp only at h
  refine x_enter [some (.ref v0), some (.ref 1), some (.int v2), some (.int v3), none] rfl (Nat.le_of_ble_eq_true rfl) (by decide +kernel) rfl ?_
  refine x_iload_n 1 rfl 3 dX7_isOn_0 rfl rfl ?_
  refine x_iload_n 2 rfl 2 dX7_isOn_1 rfl rfl ?_
  refine x_isub 3 rfl dX7_isOn_2 ?_
  refine x_aload_n 4 rfl 0 dX7_isOn_3 rfl rfl ?_
  obtain ⟨hz, h⟩ := x_ift h
  refine z_lets E S hz dX7_isOn_4 (List.mem_append_right _ (List.mem_of_getElem? (i := 1933) (by decide +kernel))) 7 rfl ?_
  obtain ⟨hz, h⟩ := x_ift h
  refine z_slen E S [.int _] hz dX7_isOn_7 KT_RX7_96 ⟨(Nat.le_of_ble_eq_true rfl), (Nat.le_of_ble_eq_true rfl)⟩ (Nat.le_of_ble_eq_true rfl) 10 rfl ?_
  refine x_icmp_ne 13 rfl 23 dX7_isOn_10 (by decide) (fun hc => ?_) (fun hc => ?_)
  · replace h := x_ifF hc h
    refine x_iconst 24 rfl (v := 0) dX7_isOn_23 (by decide) ?_
    cases h
    exact x_zret (Or.inl rfl) dX7_isOn_24 rfl rfl rfl
  · replace h := x_ifT hc h
    refine x_iload_n 14 rfl 2 dX7_isOn_13 rfl rfl ?_
    refine x_if_lt 17 rfl 23 dX7_isOn_14 (by decide) (fun hc => ?_) (fun hc => ?_)
    · replace h := x_ifT hc h
      refine x_iconst 24 rfl (v := 0) dX7_isOn_23 (by decide) ?_
      cases h
      exact x_zret (Or.inl rfl) dX7_isOn_24 rfl rfl rfl
    · replace h := x_ifF hc h
      refine x_iload_n 18 rfl 3 dX7_isOn_17 rfl rfl ?_
      refine x_aload_n 19 rfl 1 dX7_isOn_18 rfl rfl ?_
      refine x_alen E dX7_isOn_19 sh_1 20 rfl ?_
      refine x_icmp_le 23 rfl 25 dX7_isOn_20 (by decide) (fun hc => ?_) (fun hc => ?_)
      · replace h := x_ifT hc h
        refine x_iconst 26 rfl (v := 0) dX7_isOn_25 (by decide) ?_
        refine x_istore 28 rfl dX7_isOn_26 (by decide) [some (.ref _), some (.ref 1), some (.int _), some (.int _), some (.int _)] rfl ?_
        obtain ⟨b2, b2h, h⟩ := x_bind h
        try dsimp only at h
        refine x_wk (x_le_s (x_le_s (x_le_s (x_le_n (x_le_s x_le_0))))) (x_loop (fun a o h hK hG => b_Wo_isOn_1_L28 (r := r) (σ1 := σ1) E S _ _ a o h hK hG) _ _ _ b2h ?_)
        cases b2 with
        | inl b2r =>
          try dsimp only at h
          cases h
          exact ⟨fun q e => (by cases e; rfl), fun e he => (by cases he)⟩
        | inr b2e =>
          try dsimp only at h
          refine ⟨fun q e => (by cases e), fun e he => ?_⟩
          cases he
          refine x_iconst 67 rfl (v := 1) dX7_isOn_66 (by decide) ?_
          cases h
          exact x_zret (Or.inr rfl) dX7_isOn_67 rfl rfl rfl
      · replace h := x_ifF hc h
        refine x_iconst 24 rfl (v := 0) dX7_isOn_23 (by decide) ?_
        cases h
        exact x_zret (Or.inl rfl) dX7_isOn_24 rfl rfl rfl
theorem K_RX2_104 : x_KV RX2 104 M_Wo_isOn 3 := ⟨⟨(List.mem_append_right _ (List.mem_of_getElem? (i := 631) (by decide +kernel))), (List.mem_append_right _ (List.mem_of_getElem? (i := 634) (by decide +kernel))), (List.mem_append_right _ (List.mem_of_getElem? (i := 20) (by decide +kernel))), ⟨by decide +kernel, by decide +kernel⟩, by decide +kernel⟩, (List.mem_append_right _ (List.mem_of_getElem? (i := 632) (by decide +kernel))), (List.mem_append_right _ (List.mem_of_getElem? (i := 633) (by decide +kernel)))⟩
abbrev M_Re_wordOn : xM := (yX2_wordOn, cX2_wordOn, 4, some .int, [])
theorem dX2_wordOn_0 : decode cX2_wordOn 0 = .ok (.iconst 1, 1) := by decide +kernel
theorem dX2_wordOn_1 : decode cX2_wordOn 1 = .ok (.istore_n 3, 1) := by decide +kernel
theorem dX2_wordOn_2 : decode cX2_wordOn 2 = .ok (.iload_n 3, 1) := by decide +kernel
theorem dX2_wordOn_3 : decode cX2_wordOn 3 = .ok (.getstatic 100, 3) := by decide +kernel
theorem dX2_wordOn_6 : decode cX2_wordOn 6 = .ok (.arraylength, 1) := by decide +kernel
theorem dX2_wordOn_7 : decode cX2_wordOn 7 = .ok (.if_icmp .ge 25, 3) := by decide +kernel
theorem dX2_wordOn_10 : decode cX2_wordOn 10 = .ok (.getstatic 100, 3) := by decide +kernel
theorem dX2_wordOn_13 : decode cX2_wordOn 13 = .ok (.iload_n 3, 1) := by decide +kernel
theorem dX2_wordOn_14 : decode cX2_wordOn 14 = .ok (.aaload, 1) := by decide +kernel
theorem dX2_wordOn_15 : decode cX2_wordOn 15 = .ok (.aload_n 0, 1) := by decide +kernel
theorem dX2_wordOn_16 : decode cX2_wordOn 16 = .ok (.iload_n 1, 1) := by decide +kernel
theorem dX2_wordOn_17 : decode cX2_wordOn 17 = .ok (.iload_n 2, 1) := by decide +kernel
theorem dX2_wordOn_18 : decode cX2_wordOn 18 = .ok (.invokevirtual 104, 3) := by decide +kernel
theorem dX2_wordOn_21 : decode cX2_wordOn 21 = .ok (.ifCond .eq 5, 3) := by decide +kernel
theorem dX2_wordOn_24 : decode cX2_wordOn 24 = .ok (.iload_n 3, 1) := by decide +kernel
theorem dX2_wordOn_25 : decode cX2_wordOn 25 = .ok (.ireturn, 1) := by decide +kernel
theorem dX2_wordOn_26 : decode cX2_wordOn 26 = .ok (.iinc 3 1, 3) := by decide +kernel
theorem dX2_wordOn_29 : decode cX2_wordOn 29 = .ok (.goto (-27), 3) := by decide +kernel
theorem dX2_wordOn_32 : decode cX2_wordOn 32 = .ok (.iconst 0, 1) := by decide +kernel
theorem dX2_wordOn_33 : decode cX2_wordOn 33 = .ok (.ireturn, 1) := by decide +kernel
def f_Re_wordOn_1_L2 (v1 : Int32) (v2 : Int32) (a : Int32 × xS) : Option (((Int32 × xS) ⊕ (Int32 × xS)) ⊕ (Int32 × xS)) :=
  let v3 := a.1; let σ := a.2;
  if (Int32.ofNat 23) ≤ v3 then
    some (.inl (.inr (v3, σ)))
  else
    if v3 < 0 ∨ 23 ≤ v3.toNatClampNeg then none else
    x_ok (1000 ≤ (1000 + v3.toNatClampNeg) ∧ (1000 + v3.toNatClampNeg) < 1023) <|
    (f_Wo_isOn_1 (1000 + v3.toNatClampNeg) v1 v2 σ).bind fun q1 =>
    if q1.1 = 0 then
      let w2 := v3 + (1 : Int32)
      some (.inr (w2, q1.2))
    else
      some (.inl (.inl (v3, q1.2)))
def f_Re_wordOn_1 (v1 : Int32) (v2 : Int32) (σ : xS) : Option (Int32 × xS) :=
  (x_it (f_Re_wordOn_1_L2 v1 v2) 10000 ((1 : Int32), σ)).bind fun b3 =>
  match b3 with
  | .inl b3r => some b3r
  | .inr b3e =>
    some ((0 : Int32), b3e.2)
set_option maxHeartbeats 4000000 in
set_option maxRecDepth 100000 in
theorem b_Re_wordOn_1_L2 {l : Launch} {s0 : State} {a0 : Array Value} {D : va_G} {cA : Nat → ClassId} {sp : Nat → Nat} (E : x_En CL l s0 a0 D cA sp) (S : x_Sw s0 sp) (v1 : Int32) (v2 : Int32) {r : Int32} {σ1 : xS} (a : Int32 × xS) (o : ((Int32 × xS) ⊕ (Int32 × xS)) ⊕ (Int32 × xS)) (h : f_Re_wordOn_1_L2 v1 v2 a = some o) (hK : ∀ b, o = .inl b → (∀ q, b = .inl q → q = (r, σ1)) ∧ ∀ e, b = .inr e → zW l s0 D cA sp (zQ s0 D cA sp (some (.int r)) σ1) (x_rm 5 0 0) M_Re_wordOn 0 0 32 [none, none, none, none] [] e.2) (hG : ∀ a', o = .inr a' → zW l s0 D cA sp (zQ s0 D cA sp (some (.int r)) σ1) (x_rm 5 0 0) M_Re_wordOn 0 0 2 [some (.ref 1), some (.int v1), some (.int v2), some (.int a'.1)] [] a'.2) : zW l s0 D cA sp (zQ s0 D cA sp (some (.int r)) σ1) (x_rm 5 0 0) M_Re_wordOn 0 0 2 [some (.ref 1), some (.int v1), some (.int v2), some (.int a.1)] [] a.2 := by
  obtain ⟨v3, σ⟩ := a
  unfold f_Re_wordOn_1_L2 at h
  try dsimp only at h ⊢
  refine x_iload_n 3 rfl 3 dX2_wordOn_2 rfl rfl ?_
  refine z_words (host := "RingHand") E S dX2_wordOn_3 (List.mem_append_right _ (List.mem_of_getElem? (i := 629) (by decide +kernel))) 6 rfl ?_
  refine z_wlen S dX2_wordOn_6 7 rfl ?_
  refine x_icmp_ge 10 rfl 32 dX2_wordOn_7 (by decide) (fun hc => ?_) (fun hc => ?_)
  · replace h := x_ifT hc h
    cases h
    exact x_wk (x_le_n (x_le_n (x_le_n (x_le_n x_le_0)))) ((hK (.inr (_, _)) rfl).2 (_, _) rfl)
  · replace h := x_ifF hc h
    refine z_words (host := "RingHand") E S dX2_wordOn_10 (List.mem_append_right _ (List.mem_of_getElem? (i := 629) (by decide +kernel))) 13 rfl ?_
    refine x_iload_n 14 rfl 3 dX2_wordOn_13 rfl rfl ?_
    obtain ⟨hz, h⟩ := x_ifn h
    refine z_wald S dX2_wordOn_14 hz 15 rfl ?_
    refine x_aload_n 16 rfl 0 dX2_wordOn_15 rfl rfl ?_
    refine x_iload_n 17 rfl 1 dX2_wordOn_16 rfl rfl ?_
    refine x_iload_n 18 rfl 2 dX2_wordOn_17 rfl rfl ?_
    obtain ⟨hz, h⟩ := x_ift h
    obtain ⟨⟨q1r, q1s⟩, q1h, h⟩ := x_bind h
    try dsimp only at h
    refine z_callO E S [.ref 1, .int _, .int _] [] hz rfl dX2_wordOn_18 K_RX2_104 ⟨Nat.le_of_ble_eq_true rfl, Nat.le_of_ble_eq_true rfl⟩ (c_Wo_isOn_1 E S _ _ _ q1h) rfl rfl (Nat.le_of_ble_eq_true rfl) 21 rfl [.int _] rfl ?_
    refine x_if_eq 24 rfl 26 dX2_wordOn_21 (by decide) (fun hc => ?_) (fun hc => ?_)
    · replace h := x_ifT hc h
      refine x_iinc 29 rfl (1) dX2_wordOn_26 rfl (by decide) (by decide) [some (.ref 1), some (.int _), some (.int _), some (.int _)] rfl ?_
      refine x_goto 2 dX2_wordOn_29 (by decide) ?_
      cases h
      exact x_wk (x_le_s (x_le_s (x_le_s (x_le_s x_le_0)))) (hG (_, _) rfl)
    · replace h := x_ifF hc h
      refine x_iload_n 25 rfl 3 dX2_wordOn_24 rfl rfl ?_
      cases h
      cases (hK (.inl (_, _)) rfl).1 (_, _) rfl
      exact x_iret dX2_wordOn_25 rfl rfl rfl
set_option maxHeartbeats 4000000 in
set_option maxRecDepth 100000 in
theorem c_Re_wordOn_1 {l : Launch} {s0 : State} {a0 : Array Value} {D : va_G} {cA : Nat → ClassId} {sp : Nat → Nat} (E : x_En CL l s0 a0 D cA sp) (S : x_Sw s0 sp) (v1 : Int32) (v2 : Int32) {σ : xS} {r : Int32} {σ1 : xS} (h : f_Re_wordOn_1 v1 v2 σ = some (r, σ1)) : zC l s0 D cA sp 5 M_Re_wordOn [.ref 1, .int v1, .int v2] σ (some (.int r)) σ1 := by
  unfold f_Re_wordOn_1 at h
  try dsimp only at h
  refine x_enter [some (.ref 1), some (.int v1), some (.int v2), none] rfl (Nat.le_of_ble_eq_true rfl) (by decide +kernel) rfl ?_
  refine x_iconst 1 rfl (v := 1) dX2_wordOn_0 (by decide) ?_
  refine x_istore_n 2 rfl 3 dX2_wordOn_1 rfl (by decide) [some (.ref 1), some (.int _), some (.int _), some (.int _)] rfl ?_
  obtain ⟨b3, b3h, h⟩ := x_bind h
  try dsimp only at h
  refine x_wk (x_le_s (x_le_s (x_le_s (x_le_s x_le_0)))) (x_loop (fun a o h hK hG => b_Re_wordOn_1_L2 (r := r) (σ1 := σ1) E S _ _ a o h hK hG) _ _ _ b3h ?_)
  cases b3 with
  | inl b3r =>
    try dsimp only at h
    cases h
    exact ⟨fun q e => (by cases e; rfl), fun e he => (by cases he)⟩
  | inr b3e =>
    try dsimp only at h
    refine ⟨fun q e => (by cases e), fun e he => ?_⟩
    cases he
    refine x_iconst 33 rfl (v := 0) dX2_wordOn_32 (by decide) ?_
    cases h
    exact x_iret dX2_wordOn_33 rfl rfl rfl
