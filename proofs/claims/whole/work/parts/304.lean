/-! The class's methods: functions and contracts. Written by wip/gen/emit.py. -/
theorem K_RX2_77 : x_KS RX2 77 M_Re_endOfLetters 3 := ⟨⟨(List.mem_append_right _ (List.mem_of_getElem? (i := 623) (by decide +kernel))), (List.mem_append_right _ (List.mem_of_getElem? (i := 625) (by decide +kernel))), (List.mem_append_right _ (List.mem_of_getElem? (i := 2) (by decide +kernel))), ⟨by decide +kernel, by decide +kernel⟩, by decide +kernel⟩, (List.mem_append_right _ (List.mem_of_getElem? (i := 624) (by decide +kernel)))⟩
theorem K_RX2_81 : x_KS RX2 81 M_Re_wordOn 3 := ⟨⟨(List.mem_append_right _ (List.mem_of_getElem? (i := 626) (by decide +kernel))), (List.mem_append_right _ (List.mem_of_getElem? (i := 628) (by decide +kernel))), (List.mem_append_right _ (List.mem_of_getElem? (i := 2) (by decide +kernel))), ⟨by decide +kernel, by decide +kernel⟩, by decide +kernel⟩, (List.mem_append_right _ (List.mem_of_getElem? (i := 627) (by decide +kernel)))⟩
theorem K_RX2_84 : x_KV RX2 84 M_Re_addToken 3 := ⟨⟨(List.mem_append_right _ (List.mem_of_getElem? (i := 683) (by decide +kernel))), (List.mem_append_right _ (List.mem_of_getElem? (i := 686) (by decide +kernel))), (List.mem_append_right _ (List.mem_of_getElem? (i := 2) (by decide +kernel))), ⟨by decide +kernel, by decide +kernel⟩, by decide +kernel⟩, (List.mem_append_right _ (List.mem_of_getElem? (i := 685) (by decide +kernel))), (List.mem_append_left _ (List.mem_of_getElem? (i := 13) (by decide +kernel)))⟩
theorem K_RX2_91 : x_KS RX2 91 M_Re_endOfDigits 3 := ⟨⟨(List.mem_append_right _ (List.mem_of_getElem? (i := 690) (by decide +kernel))), (List.mem_append_right _ (List.mem_of_getElem? (i := 692) (by decide +kernel))), (List.mem_append_right _ (List.mem_of_getElem? (i := 2) (by decide +kernel))), ⟨by decide +kernel, by decide +kernel⟩, by decide +kernel⟩, (List.mem_append_right _ (List.mem_of_getElem? (i := 691) (by decide +kernel)))⟩
theorem K_RX2_94 : x_KS RX2 94 M_Re_numberOn 3 := ⟨⟨(List.mem_append_right _ (List.mem_of_getElem? (i := 693) (by decide +kernel))), (List.mem_append_right _ (List.mem_of_getElem? (i := 695) (by decide +kernel))), (List.mem_append_right _ (List.mem_of_getElem? (i := 2) (by decide +kernel))), ⟨by decide +kernel, by decide +kernel⟩, by decide +kernel⟩, (List.mem_append_right _ (List.mem_of_getElem? (i := 694) (by decide +kernel)))⟩
theorem K_RX2_97 : x_KS RX2 97 M_Re_isSignByte 1 := ⟨⟨(List.mem_append_right _ (List.mem_of_getElem? (i := 696) (by decide +kernel))), (List.mem_append_right _ (List.mem_of_getElem? (i := 698) (by decide +kernel))), (List.mem_append_right _ (List.mem_of_getElem? (i := 2) (by decide +kernel))), ⟨by decide +kernel, by decide +kernel⟩, by decide +kernel⟩, (List.mem_append_right _ (List.mem_of_getElem? (i := 697) (by decide +kernel)))⟩
abbrev M_Re_split : xM := (yX2_split, cX2_split, 8, none, [])
theorem dX2_split_0 : decode cX2_split 0 = .ok (.aload_n 0, 1) := by decide +kernel
theorem dX2_split_1 : decode cX2_split 1 = .ok (.iconst 0, 1) := by decide +kernel
theorem dX2_split_2 : decode cX2_split 2 = .ok (.putfield 21, 3) := by decide +kernel
theorem dX2_split_5 : decode cX2_split 5 = .ok (.iload_n 2, 1) := by decide +kernel
theorem dX2_split_6 : decode cX2_split 6 = .ok (.aload_n 1, 1) := by decide +kernel
theorem dX2_split_7 : decode cX2_split 7 = .ok (.arraylength, 1) := by decide +kernel
theorem dX2_split_8 : decode cX2_split 8 = .ok (.invokestatic 68, 3) := by decide +kernel
theorem dX2_split_11 : decode cX2_split 11 = .ok (.istore_n 3, 1) := by decide +kernel
theorem dX2_split_12 : decode cX2_split 12 = .ok (.iconst 0, 1) := by decide +kernel
theorem dX2_split_13 : decode cX2_split 13 = .ok (.istore 4, 2) := by decide +kernel
theorem dX2_split_15 : decode cX2_split 15 = .ok (.iconst 0, 1) := by decide +kernel
theorem dX2_split_16 : decode cX2_split 16 = .ok (.istore 5, 2) := by decide +kernel
theorem dX2_split_18 : decode cX2_split 18 = .ok (.iload 5, 2) := by decide +kernel
theorem dX2_split_20 : decode cX2_split 20 = .ok (.sipush 700, 3) := by decide +kernel
theorem dX2_split_23 : decode cX2_split 23 = .ok (.if_icmp .gt 133, 3) := by decide +kernel
theorem dX2_split_26 : decode cX2_split 26 = .ok (.iload 4, 2) := by decide +kernel
theorem dX2_split_28 : decode cX2_split 28 = .ok (.iload_n 3, 1) := by decide +kernel
theorem dX2_split_29 : decode cX2_split 29 = .ok (.if_icmp .ge 127, 3) := by decide +kernel
theorem dX2_split_32 : decode cX2_split 32 = .ok (.iload 4, 2) := by decide +kernel
theorem dX2_split_34 : decode cX2_split 34 = .ok (.istore 6, 2) := by decide +kernel
theorem dX2_split_36 : decode cX2_split 36 = .ok (.aload_n 1, 1) := by decide +kernel
theorem dX2_split_37 : decode cX2_split 37 = .ok (.iload 4, 2) := by decide +kernel
theorem dX2_split_39 : decode cX2_split 39 = .ok (.iaload, 1) := by decide +kernel
theorem dX2_split_40 : decode cX2_split 40 = .ok (.istore 7, 2) := by decide +kernel
theorem dX2_split_42 : decode cX2_split 42 = .ok (.iload 7, 2) := by decide +kernel
theorem dX2_split_44 : decode cX2_split 44 = .ok (.invokestatic 74, 3) := by decide +kernel
theorem dX2_split_47 : decode cX2_split 47 = .ok (.ifCond .eq 30, 3) := by decide +kernel
theorem dX2_split_50 : decode cX2_split 50 = .ok (.aload_n 1, 1) := by decide +kernel
theorem dX2_split_51 : decode cX2_split 51 = .ok (.iload 6, 2) := by decide +kernel
theorem dX2_split_53 : decode cX2_split 53 = .ok (.iload_n 3, 1) := by decide +kernel
theorem dX2_split_54 : decode cX2_split 54 = .ok (.invokestatic 77, 3) := by decide +kernel
theorem dX2_split_57 : decode cX2_split 57 = .ok (.istore 4, 2) := by decide +kernel
theorem dX2_split_59 : decode cX2_split 59 = .ok (.aload_n 0, 1) := by decide +kernel
theorem dX2_split_60 : decode cX2_split 60 = .ok (.iconst 1, 1) := by decide +kernel
theorem dX2_split_61 : decode cX2_split 61 = .ok (.aload_n 1, 1) := by decide +kernel
theorem dX2_split_62 : decode cX2_split 62 = .ok (.iload 6, 2) := by decide +kernel
theorem dX2_split_64 : decode cX2_split 64 = .ok (.iload 4, 2) := by decide +kernel
theorem dX2_split_66 : decode cX2_split 66 = .ok (.invokestatic 81, 3) := by decide +kernel
theorem dX2_split_69 : decode cX2_split 69 = .ok (.iload 6, 2) := by decide +kernel
theorem dX2_split_71 : decode cX2_split 71 = .ok (.invokevirtual 84, 3) := by decide +kernel
theorem dX2_split_74 : decode cX2_split 74 = .ok (.goto 76, 3) := by decide +kernel
theorem dX2_split_77 : decode cX2_split 77 = .ok (.iload 7, 2) := by decide +kernel
theorem dX2_split_79 : decode cX2_split 79 = .ok (.invokestatic 88, 3) := by decide +kernel
theorem dX2_split_82 : decode cX2_split 82 = .ok (.ifCond .eq 30, 3) := by decide +kernel
theorem dX2_split_85 : decode cX2_split 85 = .ok (.aload_n 1, 1) := by decide +kernel
theorem dX2_split_86 : decode cX2_split 86 = .ok (.iload 6, 2) := by decide +kernel
theorem dX2_split_88 : decode cX2_split 88 = .ok (.iload_n 3, 1) := by decide +kernel
theorem dX2_split_89 : decode cX2_split 89 = .ok (.invokestatic 91, 3) := by decide +kernel
theorem dX2_split_92 : decode cX2_split 92 = .ok (.istore 4, 2) := by decide +kernel
theorem dX2_split_94 : decode cX2_split 94 = .ok (.aload_n 0, 1) := by decide +kernel
theorem dX2_split_95 : decode cX2_split 95 = .ok (.iconst 2, 1) := by decide +kernel
theorem dX2_split_96 : decode cX2_split 96 = .ok (.aload_n 1, 1) := by decide +kernel
theorem dX2_split_97 : decode cX2_split 97 = .ok (.iload 6, 2) := by decide +kernel
theorem dX2_split_99 : decode cX2_split 99 = .ok (.iload 4, 2) := by decide +kernel
theorem dX2_split_101 : decode cX2_split 101 = .ok (.invokestatic 94, 3) := by decide +kernel
theorem dX2_split_104 : decode cX2_split 104 = .ok (.iload 6, 2) := by decide +kernel
theorem dX2_split_106 : decode cX2_split 106 = .ok (.invokevirtual 84, 3) := by decide +kernel
theorem dX2_split_109 : decode cX2_split 109 = .ok (.goto 41, 3) := by decide +kernel
theorem dX2_split_112 : decode cX2_split 112 = .ok (.iinc 4 1, 3) := by decide +kernel
theorem dX2_split_115 : decode cX2_split 115 = .ok (.iload 7, 2) := by decide +kernel
theorem dX2_split_117 : decode cX2_split 117 = .ok (.bipush 32, 2) := by decide +kernel
theorem dX2_split_119 : decode cX2_split 119 = .ok (.if_icmp .eq 31, 3) := by decide +kernel
theorem dX2_split_122 : decode cX2_split 122 = .ok (.iload 7, 2) := by decide +kernel
theorem dX2_split_124 : decode cX2_split 124 = .ok (.bipush 10, 2) := by decide +kernel
theorem dX2_split_126 : decode cX2_split 126 = .ok (.if_icmp .eq 24, 3) := by decide +kernel
theorem dX2_split_129 : decode cX2_split 129 = .ok (.aload_n 0, 1) := by decide +kernel
theorem dX2_split_130 : decode cX2_split 130 = .ok (.iload 7, 2) := by decide +kernel
theorem dX2_split_132 : decode cX2_split 132 = .ok (.invokestatic 97, 3) := by decide +kernel
theorem dX2_split_135 : decode cX2_split 135 = .ok (.ifCond .eq 7, 3) := by decide +kernel
theorem dX2_split_138 : decode cX2_split 138 = .ok (.iconst 3, 1) := by decide +kernel
theorem dX2_split_139 : decode cX2_split 139 = .ok (.goto 4, 3) := by decide +kernel
theorem dX2_split_142 : decode cX2_split 142 = .ok (.iconst 4, 1) := by decide +kernel
theorem dX2_split_143 : decode cX2_split 143 = .ok (.iload 7, 2) := by decide +kernel
theorem dX2_split_145 : decode cX2_split 145 = .ok (.iload 6, 2) := by decide +kernel
theorem dX2_split_147 : decode cX2_split 147 = .ok (.invokevirtual 84, 3) := by decide +kernel
theorem dX2_split_150 : decode cX2_split 150 = .ok (.iinc 5 1, 3) := by decide +kernel
theorem dX2_split_153 : decode cX2_split 153 = .ok (.goto (-135), 3) := by decide +kernel
theorem dX2_split_156 : decode cX2_split 156 = .ok (.aload_n 0, 1) := by decide +kernel
theorem dX2_split_157 : decode cX2_split 157 = .ok (.iconst 0, 1) := by decide +kernel
theorem dX2_split_158 : decode cX2_split 158 = .ok (.iconst 0, 1) := by decide +kernel
theorem dX2_split_159 : decode cX2_split 159 = .ok (.iload_n 3, 1) := by decide +kernel
theorem dX2_split_160 : decode cX2_split 160 = .ok (.invokevirtual 84, 3) := by decide +kernel
theorem dX2_split_163 : decode cX2_split 163 = .ok (.return_, 1) := by decide +kernel
def f_Re_split_2_1_L18 (v3 : Int32) (a : Int32 × Int32 × xS) : Option ((Int32 × Int32 × xS) ⊕ (Int32 × Int32 × xS)) :=
  let v4 := a.1; let v5 := a.2.1; let σ := a.2.2;
  if (700 : Int32) < v5 then
    some (.inl (v4, v5, σ))
  else
    if v3 ≤ v4 then
      some (.inl (v4, v5, σ))
    else
      if v4 < 0 ∨ 700 ≤ v4.toNatClampNeg then none else
      let w1 := σ.1 1 v4.toNatClampNeg
      (f_Re_isLetter w1 σ).bind fun q2 =>
      if q2.1 = 0 then
        (f_Re_isDigit w1 q2.2).bind fun q3 =>
        if q3.1 = 0 then
          let w4 := v4 + (1 : Int32)
          if w1 = (32 : Int32) then
            let w5 := v5 + (1 : Int32)
            some (.inr (w4, w5, q3.2))
          else
            if w1 = (10 : Int32) then
              let w6 := v5 + (1 : Int32)
              some (.inr (w4, w6, q3.2))
            else
              (f_Re_isSignByte w1 q3.2).bind fun q7 =>
              if q7.1 = 0 then
                (f_Re_addToken_2 (4 : Int32) w1 v4 q7.2).bind fun q8 =>
                let w9 := v5 + (1 : Int32)
                some (.inr (w4, w9, q8.2))
              else
                (f_Re_addToken_2 (3 : Int32) w1 v4 q7.2).bind fun q10 =>
                let w11 := v5 + (1 : Int32)
                some (.inr (w4, w11, q10.2))
        else
          (f_Re_endOfDigits_1 v4 v3 q3.2).bind fun q12 =>
          let w13 := q12.1
          (f_Re_numberOn_1 v4 w13 q12.2).bind fun q14 =>
          (f_Re_addToken_2 (2 : Int32) q14.1 v4 q14.2).bind fun q15 =>
          let w16 := v5 + (1 : Int32)
          some (.inr (w13, w16, q15.2))
      else
        (f_Re_endOfLetters_1 v4 v3 q2.2).bind fun q17 =>
        let w18 := q17.1
        (f_Re_wordOn_1 v4 w18 q17.2).bind fun q19 =>
        (f_Re_addToken_2 (1 : Int32) q19.1 v4 q19.2).bind fun q20 =>
        let w21 := v5 + (1 : Int32)
        some (.inr (w18, w21, q20.2))
def f_Re_split_2_1 (v2 : Int32) (σ : xS) : Option (Unit × xS) :=
  let σ22 := x_pI σ 2 3 (0 : Int32)
  let w23 := (if (Int32.ofNat 700) < v2 then (Int32.ofNat 700) else v2)
  (x_it (f_Re_split_2_1_L18 w23) 10000 ((0 : Int32), (0 : Int32), σ22)).bind fun b24 =>
  (f_Re_addToken_2 (0 : Int32) (0 : Int32) w23 b24.2.2).bind fun q25 =>
  some ((), q25.2)
set_option maxHeartbeats 4000000 in
set_option maxRecDepth 100000 in
theorem b_Re_split_2_1_L18 {l : Launch} {s0 : State} {a0 : Array Value} {D : va_G} {cA : Nat → ClassId} {sp : Nat → Nat} (E : x_En CL l s0 a0 D cA sp) (S : x_Sw s0 sp) (v3 : Int32) {r : Unit} {σ1 : xS} (a : Int32 × Int32 × xS) (o : (Int32 × Int32 × xS) ⊕ (Int32 × Int32 × xS)) (h : f_Re_split_2_1_L18 v3 a = some o) (hK : ∀ b, o = .inl b → zW l s0 D cA sp (zQ s0 D cA sp none σ1) (x_rm 6 0 0) M_Re_split 0 0 156 [some (.ref 2), none, none, some (.int v3), none, none, none, none] [] b.2.2) (hG : ∀ a', o = .inr a' → zW l s0 D cA sp (zQ s0 D cA sp none σ1) (x_rm 6 0 0) M_Re_split 0 0 18 [some (.ref 2), some (.ref 1), none, some (.int v3), some (.int a'.1), some (.int a'.2.1), none, none] [] a'.2.2) : zW l s0 D cA sp (zQ s0 D cA sp none σ1) (x_rm 6 0 0) M_Re_split 0 0 18 [some (.ref 2), some (.ref 1), none, some (.int v3), some (.int a.1), some (.int a.2.1), none, none] [] a.2.2 := by
  obtain ⟨v4, v5, σ⟩ := a
  unfold f_Re_split_2_1_L18 at h
  try dsimp only at h ⊢
  refine x_iload 20 rfl dX2_split_18 rfl ?_
  refine x_sipush 23 rfl (v := 700) dX2_split_20 (by decide) ?_
  refine x_icmp_gt 26 rfl 156 dX2_split_23 (by decide) (fun hc => ?_) (fun hc => ?_)
  · replace h := x_ifT hc h
    cases h
    exact x_wk (x_le_s (x_le_n (x_le_n (x_le_s (x_le_n (x_le_n (x_le_n (x_le_n x_le_0)))))))) (hK (_, _, _) rfl)
  · replace h := x_ifF hc h
    refine x_iload 28 rfl dX2_split_26 rfl ?_
    refine x_iload_n 29 rfl 3 dX2_split_28 rfl rfl ?_
    refine x_icmp_ge 32 rfl 156 dX2_split_29 (by decide) (fun hc => ?_) (fun hc => ?_)
    · replace h := x_ifT hc h
      cases h
      exact x_wk (x_le_s (x_le_n (x_le_n (x_le_s (x_le_n (x_le_n (x_le_n (x_le_n x_le_0)))))))) (hK (_, _, _) rfl)
    · replace h := x_ifF hc h
      refine x_iload 34 rfl dX2_split_32 rfl ?_
      refine x_istore 36 rfl dX2_split_34 (by decide) [some (.ref 2), some (.ref 1), none, some (.int _), some (.int _), some (.int _), some (.int _), none] rfl ?_
      refine x_aload_n 37 rfl 1 dX2_split_36 rfl rfl ?_
      refine x_iload 39 rfl dX2_split_37 rfl ?_
      obtain ⟨hz, h⟩ := x_ifn h
      refine x_iald E dX2_split_39 sh_1 _ rfl hz 40 rfl ?_
      refine x_istore 42 rfl dX2_split_40 (by decide) [some (.ref 2), some (.ref 1), none, some (.int _), some (.int _), some (.int _), some (.int _), some (.int _)] rfl ?_
      refine x_iload 44 rfl dX2_split_42 rfl ?_
      obtain ⟨⟨q2r, q2s⟩, q2h, h⟩ := x_bind h
      try dsimp only at h
      refine z_callS E [.int _] [] dX2_split_44 K_RX2_74 ⟨Nat.le_of_ble_eq_true rfl, Nat.le_of_ble_eq_true rfl⟩ (c_Re_isLetter E _ q2h) rfl rfl (Nat.le_of_ble_eq_true rfl) 47 rfl [.int _] rfl ?_
      refine x_if_eq 50 rfl 77 dX2_split_47 (by decide) (fun hc => ?_) (fun hc => ?_)
      · replace h := x_ifT hc h
        refine x_iload 79 rfl dX2_split_77 rfl ?_
        obtain ⟨⟨q3r, q3s⟩, q3h, h⟩ := x_bind h
        try dsimp only at h
        refine z_callS E [.int _] [] dX2_split_79 K_RX2_88 ⟨Nat.le_of_ble_eq_true rfl, Nat.le_of_ble_eq_true rfl⟩ (c_Re_isDigit E _ q3h) rfl rfl (Nat.le_of_ble_eq_true rfl) 82 rfl [.int _] rfl ?_
        refine x_if_eq 85 rfl 112 dX2_split_82 (by decide) (fun hc => ?_) (fun hc => ?_)
        · replace h := x_ifT hc h
          refine x_iinc 115 rfl (1) dX2_split_112 rfl (by decide) (by decide) [some (.ref 2), some (.ref 1), none, some (.int _), some (.int _), some (.int _), some (.int _), some (.int _)] rfl ?_
          refine x_iload 117 rfl dX2_split_115 rfl ?_
          refine x_bipush 119 rfl (v := 32) dX2_split_117 (by decide) ?_
          refine x_icmp_eq 122 rfl 150 dX2_split_119 (by decide) (fun hc => ?_) (fun hc => ?_)
          · replace h := x_ifT hc h
            refine x_iinc 153 rfl (1) dX2_split_150 rfl (by decide) (by decide) [some (.ref 2), some (.ref 1), none, some (.int _), some (.int _), some (.int _), some (.int _), some (.int _)] rfl ?_
            refine x_goto 18 dX2_split_153 (by decide) ?_
            cases h
            exact x_wk (x_le_s (x_le_s (x_le_n (x_le_s (x_le_s (x_le_s (x_le_n (x_le_n x_le_0)))))))) (hG (_, _, _) rfl)
          · replace h := x_ifF hc h
            refine x_iload 124 rfl dX2_split_122 rfl ?_
            refine x_bipush 126 rfl (v := 10) dX2_split_124 (by decide) ?_
            refine x_icmp_eq 129 rfl 150 dX2_split_126 (by decide) (fun hc => ?_) (fun hc => ?_)
            · replace h := x_ifT hc h
              refine x_iinc 153 rfl (1) dX2_split_150 rfl (by decide) (by decide) [some (.ref 2), some (.ref 1), none, some (.int _), some (.int _), some (.int _), some (.int _), some (.int _)] rfl ?_
              refine x_goto 18 dX2_split_153 (by decide) ?_
              cases h
              exact x_wk (x_le_s (x_le_s (x_le_n (x_le_s (x_le_s (x_le_s (x_le_n (x_le_n x_le_0)))))))) (hG (_, _, _) rfl)
            · replace h := x_ifF hc h
              refine x_aload_n 130 rfl 0 dX2_split_129 rfl rfl ?_
              refine x_iload 132 rfl dX2_split_130 rfl ?_
              obtain ⟨⟨q7r, q7s⟩, q7h, h⟩ := x_bind h
              try dsimp only at h
              refine z_callS E [.int _] [.ref 2] dX2_split_132 K_RX2_97 ⟨Nat.le_of_ble_eq_true rfl, Nat.le_of_ble_eq_true rfl⟩ (c_Re_isSignByte E _ q7h) rfl rfl (Nat.le_of_ble_eq_true rfl) 135 rfl [.int _, .ref 2] rfl ?_
              refine x_if_eq 138 rfl 142 dX2_split_135 (by decide) (fun hc => ?_) (fun hc => ?_)
              · replace h := x_ifT hc h
                refine x_iconst 143 rfl (v := 4) dX2_split_142 (by decide) ?_
                refine x_iload 145 rfl dX2_split_143 rfl ?_
                refine x_iload 147 rfl dX2_split_145 rfl ?_
                obtain ⟨⟨q8r, q8s⟩, q8h, h⟩ := x_bind h
                try dsimp only at h
                refine z_callV E [.int _, .int _, .int _] [] dX2_split_147 K_RX2_84 ⟨Nat.le_of_ble_eq_true rfl, Nat.le_of_ble_eq_true rfl⟩ sh_2 (by decide) rfl (c_Re_addToken_2 E _ _ _ q8h) rfl rfl (Nat.le_of_ble_eq_true rfl) 150 rfl [] rfl ?_
                refine x_iinc 153 rfl (1) dX2_split_150 rfl (by decide) (by decide) [some (.ref 2), some (.ref 1), none, some (.int _), some (.int _), some (.int _), some (.int _), some (.int _)] rfl ?_
                refine x_goto 18 dX2_split_153 (by decide) ?_
                cases h
                exact x_wk (x_le_s (x_le_s (x_le_n (x_le_s (x_le_s (x_le_s (x_le_n (x_le_n x_le_0)))))))) (hG (_, _, _) rfl)
              · replace h := x_ifF hc h
                refine x_iconst 139 rfl (v := 3) dX2_split_138 (by decide) ?_
                refine x_goto 143 dX2_split_139 (by decide) ?_
                refine x_iload 145 rfl dX2_split_143 rfl ?_
                refine x_iload 147 rfl dX2_split_145 rfl ?_
                obtain ⟨⟨q10r, q10s⟩, q10h, h⟩ := x_bind h
                try dsimp only at h
                refine z_callV E [.int _, .int _, .int _] [] dX2_split_147 K_RX2_84 ⟨Nat.le_of_ble_eq_true rfl, Nat.le_of_ble_eq_true rfl⟩ sh_2 (by decide) rfl (c_Re_addToken_2 E _ _ _ q10h) rfl rfl (Nat.le_of_ble_eq_true rfl) 150 rfl [] rfl ?_
                refine x_iinc 153 rfl (1) dX2_split_150 rfl (by decide) (by decide) [some (.ref 2), some (.ref 1), none, some (.int _), some (.int _), some (.int _), some (.int _), some (.int _)] rfl ?_
                refine x_goto 18 dX2_split_153 (by decide) ?_
                cases h
                exact x_wk (x_le_s (x_le_s (x_le_n (x_le_s (x_le_s (x_le_s (x_le_n (x_le_n x_le_0)))))))) (hG (_, _, _) rfl)
        · replace h := x_ifF hc h
          refine x_aload_n 86 rfl 1 dX2_split_85 rfl rfl ?_
          refine x_iload 88 rfl dX2_split_86 rfl ?_
          refine x_iload_n 89 rfl 3 dX2_split_88 rfl rfl ?_
          obtain ⟨⟨q12r, q12s⟩, q12h, h⟩ := x_bind h
          try dsimp only at h
          refine z_callS E [.ref 1, .int _, .int _] [] dX2_split_89 K_RX2_91 ⟨Nat.le_of_ble_eq_true rfl, Nat.le_of_ble_eq_true rfl⟩ (c_Re_endOfDigits_1 E _ _ q12h) rfl rfl (Nat.le_of_ble_eq_true rfl) 92 rfl [.int _] rfl ?_
          refine x_istore 94 rfl dX2_split_92 (by decide) [some (.ref 2), some (.ref 1), none, some (.int _), some (.int _), some (.int _), some (.int _), some (.int _)] rfl ?_
          refine x_aload_n 95 rfl 0 dX2_split_94 rfl rfl ?_
          refine x_iconst 96 rfl (v := 2) dX2_split_95 (by decide) ?_
          refine x_aload_n 97 rfl 1 dX2_split_96 rfl rfl ?_
          refine x_iload 99 rfl dX2_split_97 rfl ?_
          refine x_iload 101 rfl dX2_split_99 rfl ?_
          obtain ⟨⟨q14r, q14s⟩, q14h, h⟩ := x_bind h
          try dsimp only at h
          refine z_callS E [.ref 1, .int _, .int _] [.int _, .ref 2] dX2_split_101 K_RX2_94 ⟨Nat.le_of_ble_eq_true rfl, Nat.le_of_ble_eq_true rfl⟩ (c_Re_numberOn_1 E _ _ q14h) rfl rfl (Nat.le_of_ble_eq_true rfl) 104 rfl [.int _, .int _, .ref 2] rfl ?_
          refine x_iload 106 rfl dX2_split_104 rfl ?_
          obtain ⟨⟨q15r, q15s⟩, q15h, h⟩ := x_bind h
          try dsimp only at h
          refine z_callV E [.int _, .int _, .int _] [] dX2_split_106 K_RX2_84 ⟨Nat.le_of_ble_eq_true rfl, Nat.le_of_ble_eq_true rfl⟩ sh_2 (by decide) rfl (c_Re_addToken_2 E _ _ _ q15h) rfl rfl (Nat.le_of_ble_eq_true rfl) 109 rfl [] rfl ?_
          refine x_goto 150 dX2_split_109 (by decide) ?_
          refine x_iinc 153 rfl (1) dX2_split_150 rfl (by decide) (by decide) [some (.ref 2), some (.ref 1), none, some (.int _), some (.int _), some (.int _), some (.int _), some (.int _)] rfl ?_
          refine x_goto 18 dX2_split_153 (by decide) ?_
          cases h
          exact x_wk (x_le_s (x_le_s (x_le_n (x_le_s (x_le_s (x_le_s (x_le_n (x_le_n x_le_0)))))))) (hG (_, _, _) rfl)
      · replace h := x_ifF hc h
        refine x_aload_n 51 rfl 1 dX2_split_50 rfl rfl ?_
        refine x_iload 53 rfl dX2_split_51 rfl ?_
        refine x_iload_n 54 rfl 3 dX2_split_53 rfl rfl ?_
        obtain ⟨⟨q17r, q17s⟩, q17h, h⟩ := x_bind h
        try dsimp only at h
        refine z_callS E [.ref 1, .int _, .int _] [] dX2_split_54 K_RX2_77 ⟨Nat.le_of_ble_eq_true rfl, Nat.le_of_ble_eq_true rfl⟩ (c_Re_endOfLetters_1 E _ _ q17h) rfl rfl (Nat.le_of_ble_eq_true rfl) 57 rfl [.int _] rfl ?_
        refine x_istore 59 rfl dX2_split_57 (by decide) [some (.ref 2), some (.ref 1), none, some (.int _), some (.int _), some (.int _), some (.int _), some (.int _)] rfl ?_
        refine x_aload_n 60 rfl 0 dX2_split_59 rfl rfl ?_
        refine x_iconst 61 rfl (v := 1) dX2_split_60 (by decide) ?_
        refine x_aload_n 62 rfl 1 dX2_split_61 rfl rfl ?_
        refine x_iload 64 rfl dX2_split_62 rfl ?_
        refine x_iload 66 rfl dX2_split_64 rfl ?_
        obtain ⟨⟨q19r, q19s⟩, q19h, h⟩ := x_bind h
        try dsimp only at h
        refine z_callS E [.ref 1, .int _, .int _] [.int _, .ref 2] dX2_split_66 K_RX2_81 ⟨Nat.le_of_ble_eq_true rfl, Nat.le_of_ble_eq_true rfl⟩ (c_Re_wordOn_1 E S _ _ q19h) rfl rfl (Nat.le_of_ble_eq_true rfl) 69 rfl [.int _, .int _, .ref 2] rfl ?_
        refine x_iload 71 rfl dX2_split_69 rfl ?_
        obtain ⟨⟨q20r, q20s⟩, q20h, h⟩ := x_bind h
        try dsimp only at h
        refine z_callV E [.int _, .int _, .int _] [] dX2_split_71 K_RX2_84 ⟨Nat.le_of_ble_eq_true rfl, Nat.le_of_ble_eq_true rfl⟩ sh_2 (by decide) rfl (c_Re_addToken_2 E _ _ _ q20h) rfl rfl (Nat.le_of_ble_eq_true rfl) 74 rfl [] rfl ?_
        refine x_goto 150 dX2_split_74 (by decide) ?_
        refine x_iinc 153 rfl (1) dX2_split_150 rfl (by decide) (by decide) [some (.ref 2), some (.ref 1), none, some (.int _), some (.int _), some (.int _), some (.int _), some (.int _)] rfl ?_
        refine x_goto 18 dX2_split_153 (by decide) ?_
        cases h
        exact x_wk (x_le_s (x_le_s (x_le_n (x_le_s (x_le_s (x_le_s (x_le_n (x_le_n x_le_0)))))))) (hG (_, _, _) rfl)
set_option maxHeartbeats 4000000 in
set_option maxRecDepth 100000 in
theorem c_Re_split_2_1 {l : Launch} {s0 : State} {a0 : Array Value} {D : va_G} {cA : Nat → ClassId} {sp : Nat → Nat} (E : x_En CL l s0 a0 D cA sp) (S : x_Sw s0 sp) (v2 : Int32) {σ : xS} {r : Unit} {σ1 : xS} (h : f_Re_split_2_1 v2 σ = some (r, σ1)) : zC l s0 D cA sp 6 M_Re_split [.ref 2, .ref 1, .int v2] σ none σ1 := by
  unfold f_Re_split_2_1 at h
  try dsimp only at h
  refine x_enter [some (.ref 2), some (.ref 1), some (.int v2), none, none, none, none, none] rfl (Nat.le_of_ble_eq_true rfl) (by decide +kernel) rfl ?_
  refine x_aload_n 1 rfl 0 dX2_split_0 rfl rfl ?_
  refine x_iconst 2 rfl (v := 0) dX2_split_1 (by decide) ?_
  refine x_putI E dX2_split_2 F_RX2_21 sh_2 5 rfl ?_
  refine x_iload_n 6 rfl 2 dX2_split_5 rfl rfl ?_
  refine x_aload_n 7 rfl 1 dX2_split_6 rfl rfl ?_
  refine x_alen E dX2_split_7 sh_1 8 rfl ?_
  refine x_mmin E dX2_split_8 K_RX2_68 (Nat.le_of_ble_eq_true rfl) (Nat.le_of_ble_eq_true rfl) 11 rfl ?_
  refine x_istore_n 12 rfl 3 dX2_split_11 rfl (by decide) [some (.ref 2), some (.ref 1), some (.int _), some (.int _), none, none, none, none] rfl ?_
  refine x_iconst 13 rfl (v := 0) dX2_split_12 (by decide) ?_
  refine x_istore 15 rfl dX2_split_13 (by decide) [some (.ref 2), some (.ref 1), some (.int _), some (.int _), some (.int _), none, none, none] rfl ?_
  refine x_iconst 16 rfl (v := 0) dX2_split_15 (by decide) ?_
  refine x_istore 18 rfl dX2_split_16 (by decide) [some (.ref 2), some (.ref 1), some (.int _), some (.int _), some (.int _), some (.int _), none, none] rfl ?_
  obtain ⟨b24, b24h, h⟩ := x_bind h
  try dsimp only at h
  refine x_wk (x_le_s (x_le_s (x_le_n (x_le_s (x_le_s (x_le_s (x_le_n (x_le_n x_le_0)))))))) (x_loop (fun a o h hK hG => b_Re_split_2_1_L18 (r := r) (σ1 := σ1) E S _ a o h hK hG) _ _ _ b24h ?_)
  refine x_aload_n 157 rfl 0 dX2_split_156 rfl rfl ?_
  refine x_iconst 158 rfl (v := 0) dX2_split_157 (by decide) ?_
  refine x_iconst 159 rfl (v := 0) dX2_split_158 (by decide) ?_
  refine x_iload_n 160 rfl 3 dX2_split_159 rfl rfl ?_
  obtain ⟨⟨q25r, q25s⟩, q25h, h⟩ := x_bind h
  try dsimp only at h
  refine z_callV E [.int _, .int _, .int _] [] dX2_split_160 K_RX2_84 ⟨Nat.le_of_ble_eq_true rfl, Nat.le_of_ble_eq_true rfl⟩ sh_2 (by decide) rfl (c_Re_addToken_2 E _ _ _ q25h) rfl rfl (Nat.le_of_ble_eq_true rfl) 163 rfl [] rfl ?_
  cases h
  exact x_vret dX2_split_163 rfl rfl rfl
abbrev M_Ru_clear : xM := (yX3_clear, cX3_clear, 2, none, [])
theorem dX3_clear_0 : decode cX3_clear 0 = .ok (.aload_n 0, 1) := by decide +kernel
theorem dX3_clear_1 : decode cX3_clear 1 = .ok (.iconst 0, 1) := by decide +kernel
theorem dX3_clear_2 : decode cX3_clear 2 = .ok (.putfield 15, 3) := by decide +kernel
theorem dX3_clear_5 : decode cX3_clear 5 = .ok (.iconst 0, 1) := by decide +kernel
theorem dX3_clear_6 : decode cX3_clear 6 = .ok (.istore_n 1, 1) := by decide +kernel
theorem dX3_clear_7 : decode cX3_clear 7 = .ok (.iload_n 1, 1) := by decide +kernel
theorem dX3_clear_8 : decode cX3_clear 8 = .ok (.bipush 6, 2) := by decide +kernel
theorem dX3_clear_10 : decode cX3_clear 10 = .ok (.if_icmp .ge 23, 3) := by decide +kernel
theorem dX3_clear_13 : decode cX3_clear 13 = .ok (.aload_n 0, 1) := by decide +kernel
theorem dX3_clear_14 : decode cX3_clear 14 = .ok (.getfield 19, 3) := by decide +kernel
theorem dX3_clear_17 : decode cX3_clear 17 = .ok (.iload_n 1, 1) := by decide +kernel
theorem dX3_clear_18 : decode cX3_clear 18 = .ok (.iconst 0, 1) := by decide +kernel
theorem dX3_clear_19 : decode cX3_clear 19 = .ok (.iastore, 1) := by decide +kernel
theorem dX3_clear_20 : decode cX3_clear 20 = .ok (.aload_n 0, 1) := by decide +kernel
theorem dX3_clear_21 : decode cX3_clear 21 = .ok (.getfield 22, 3) := by decide +kernel
theorem dX3_clear_24 : decode cX3_clear 24 = .ok (.iload_n 1, 1) := by decide +kernel
theorem dX3_clear_25 : decode cX3_clear 25 = .ok (.iconst 0, 1) := by decide +kernel
theorem dX3_clear_26 : decode cX3_clear 26 = .ok (.iastore, 1) := by decide +kernel
theorem dX3_clear_27 : decode cX3_clear 27 = .ok (.iinc 1 1, 3) := by decide +kernel
theorem dX3_clear_30 : decode cX3_clear 30 = .ok (.goto (-23), 3) := by decide +kernel
theorem dX3_clear_33 : decode cX3_clear 33 = .ok (.return_, 1) := by decide +kernel
def f_Ru_clear_27_L7  (a : Int32 × xS) : Option ((Int32 × xS) ⊕ (Int32 × xS)) :=
  let v1 := a.1; let σ := a.2;
  if (6 : Int32) ≤ v1 then
    some (.inl (v1, σ))
  else
    if v1 < 0 ∨ 6 ≤ v1.toNatClampNeg then none else
    let σ1 := x_pI σ 29 v1.toNatClampNeg (0 : Int32)
    if v1 < 0 ∨ 6 ≤ v1.toNatClampNeg then none else
    let σ2 := x_pI σ1 30 v1.toNatClampNeg (0 : Int32)
    let w3 := v1 + (1 : Int32)
    some (.inr (w3, σ2))
def f_Ru_clear_27  (σ : xS) : Option (Unit × xS) :=
  let σ4 := x_pI σ 27 1 (0 : Int32)
  (x_it (f_Ru_clear_27_L7 ) 10000 ((0 : Int32), σ4)).bind fun b5 =>
  some ((), b5.2)
set_option maxHeartbeats 4000000 in
set_option maxRecDepth 100000 in
theorem b_Ru_clear_27_L7 {l : Launch} {s0 : State} {a0 : Array Value} {D : va_G} {cA : Nat → ClassId} {sp : Nat → Nat} (E : x_En CL l s0 a0 D cA sp)  {r : Unit} {σ1 : xS} (a : Int32 × xS) (o : (Int32 × xS) ⊕ (Int32 × xS)) (h : f_Ru_clear_27_L7  a = some o) (hK : ∀ b, o = .inl b → zW l s0 D cA sp (zQ s0 D cA sp none σ1) (x_rm 0 0 0) M_Ru_clear 0 0 33 [none, none] [] b.2) (hG : ∀ a', o = .inr a' → zW l s0 D cA sp (zQ s0 D cA sp none σ1) (x_rm 0 0 0) M_Ru_clear 0 0 7 [some (.ref 27), some (.int a'.1)] [] a'.2) : zW l s0 D cA sp (zQ s0 D cA sp none σ1) (x_rm 0 0 0) M_Ru_clear 0 0 7 [some (.ref 27), some (.int a.1)] [] a.2 := by
  obtain ⟨v1, σ⟩ := a
  unfold f_Ru_clear_27_L7 at h
  try dsimp only at h ⊢
  refine x_iload_n 8 rfl 1 dX3_clear_7 rfl rfl ?_
  refine x_bipush 10 rfl (v := 6) dX3_clear_8 (by decide) ?_
  refine x_icmp_ge 13 rfl 33 dX3_clear_10 (by decide) (fun hc => ?_) (fun hc => ?_)
  · replace h := x_ifT hc h
    cases h
    exact x_wk (x_le_n (x_le_n x_le_0)) (hK (_, _) rfl)
  · replace h := x_ifF hc h
    refine x_aload_n 14 rfl 0 dX3_clear_13 rfl rfl ?_
    refine x_getR E dX3_clear_14 F_RX3_19 sh_27 rf_27_2 17 rfl ?_
    refine x_iload_n 18 rfl 1 dX3_clear_17 rfl rfl ?_
    refine x_iconst 19 rfl (v := 0) dX3_clear_18 (by decide) ?_
    obtain ⟨hz, h⟩ := x_ifn h
    refine x_iast E dX3_clear_19 sh_29 _ rfl hz 20 rfl ?_
    refine x_aload_n 21 rfl 0 dX3_clear_20 rfl rfl ?_
    refine x_getR E dX3_clear_21 F_RX3_22 sh_27 rf_27_3 24 rfl ?_
    refine x_iload_n 25 rfl 1 dX3_clear_24 rfl rfl ?_
    refine x_iconst 26 rfl (v := 0) dX3_clear_25 (by decide) ?_
    obtain ⟨hz, h⟩ := x_ifn h
    refine x_iast E dX3_clear_26 sh_30 _ rfl hz 27 rfl ?_
    refine x_iinc 30 rfl (1) dX3_clear_27 rfl (by decide) (by decide) [some (.ref 27), some (.int _)] rfl ?_
    refine x_goto 7 dX3_clear_30 (by decide) ?_
    cases h
    exact x_wk (x_le_s (x_le_s x_le_0)) (hG (_, _) rfl)
set_option maxHeartbeats 4000000 in
set_option maxRecDepth 100000 in
theorem c_Ru_clear_27 {l : Launch} {s0 : State} {a0 : Array Value} {D : va_G} {cA : Nat → ClassId} {sp : Nat → Nat} (E : x_En CL l s0 a0 D cA sp)  {σ : xS} {r : Unit} {σ1 : xS} (h : f_Ru_clear_27  σ = some (r, σ1)) : zC l s0 D cA sp 0 M_Ru_clear [.ref 27] σ none σ1 := by
  unfold f_Ru_clear_27 at h
  try dsimp only at h
  refine x_enter [some (.ref 27), none] rfl (Nat.le_of_ble_eq_true rfl) (by decide +kernel) rfl ?_
  refine x_aload_n 1 rfl 0 dX3_clear_0 rfl rfl ?_
  refine x_iconst 2 rfl (v := 0) dX3_clear_1 (by decide) ?_
  refine x_putI E dX3_clear_2 F_RX3_15 sh_27 5 rfl ?_
  refine x_iconst 6 rfl (v := 0) dX3_clear_5 (by decide) ?_
  refine x_istore_n 7 rfl 1 dX3_clear_6 rfl (by decide) [some (.ref 27), some (.int _)] rfl ?_
  obtain ⟨b5, b5h, h⟩ := x_bind h
  try dsimp only at h
  refine x_wk (x_le_s (x_le_s x_le_0)) (x_loop (fun a o h hK hG => b_Ru_clear_27_L7 (r := r) (σ1 := σ1) E  a o h hK hG) _ _ _ b5h ?_)
  cases h
  exact x_vret dX3_clear_33 rfl rfl rfl
theorem K_RX4_59 : x_KV RX4 59 M_Ru_clear 0 := ⟨⟨(List.mem_append_right _ (List.mem_of_getElem? (i := 273) (by decide +kernel))), (List.mem_append_right _ (List.mem_of_getElem? (i := 276) (by decide +kernel))), (List.mem_append_right _ (List.mem_of_getElem? (i := 4) (by decide +kernel))), ⟨by decide +kernel, by decide +kernel⟩, by decide +kernel⟩, (List.mem_append_right _ (List.mem_of_getElem? (i := 274) (by decide +kernel))), (List.mem_append_right _ (List.mem_of_getElem? (i := 275) (by decide +kernel)))⟩
abbrev M_Sc_clear : xM := (yX4_clear, cX4_clear, 2, none, [])
theorem dX4_clear_0 : decode cX4_clear 0 = .ok (.aload_n 0, 1) := by decide +kernel
theorem dX4_clear_1 : decode cX4_clear 1 = .ok (.bipush 120, 2) := by decide +kernel
theorem dX4_clear_3 : decode cX4_clear 3 = .ok (.putfield 40, 3) := by decide +kernel
theorem dX4_clear_6 : decode cX4_clear 6 = .ok (.aload_n 0, 1) := by decide +kernel
theorem dX4_clear_7 : decode cX4_clear 7 = .ok (.iconst 0, 1) := by decide +kernel
theorem dX4_clear_8 : decode cX4_clear 8 = .ok (.putfield 44, 3) := by decide +kernel
theorem dX4_clear_11 : decode cX4_clear 11 = .ok (.aload_n 0, 1) := by decide +kernel
theorem dX4_clear_12 : decode cX4_clear 12 = .ok (.iconst 0, 1) := by decide +kernel
theorem dX4_clear_13 : decode cX4_clear 13 = .ok (.putfield 47, 3) := by decide +kernel
theorem dX4_clear_16 : decode cX4_clear 16 = .ok (.aload_n 0, 1) := by decide +kernel
theorem dX4_clear_17 : decode cX4_clear 17 = .ok (.iconst 0, 1) := by decide +kernel
theorem dX4_clear_18 : decode cX4_clear 18 = .ok (.putfield 50, 3) := by decide +kernel
theorem dX4_clear_21 : decode cX4_clear 21 = .ok (.aload_n 0, 1) := by decide +kernel
theorem dX4_clear_22 : decode cX4_clear 22 = .ok (.iconst 0, 1) := by decide +kernel
theorem dX4_clear_23 : decode cX4_clear 23 = .ok (.putfield 53, 3) := by decide +kernel
theorem dX4_clear_26 : decode cX4_clear 26 = .ok (.aload_n 0, 1) := by decide +kernel
theorem dX4_clear_27 : decode cX4_clear 27 = .ok (.iconst 0, 1) := by decide +kernel
theorem dX4_clear_28 : decode cX4_clear 28 = .ok (.putfield 56, 3) := by decide +kernel
theorem dX4_clear_31 : decode cX4_clear 31 = .ok (.iconst 0, 1) := by decide +kernel
theorem dX4_clear_32 : decode cX4_clear 32 = .ok (.istore_n 1, 1) := by decide +kernel
theorem dX4_clear_33 : decode cX4_clear 33 = .ok (.iload_n 1, 1) := by decide +kernel
theorem dX4_clear_34 : decode cX4_clear 34 = .ok (.bipush 12, 2) := by decide +kernel
theorem dX4_clear_36 : decode cX4_clear 36 = .ok (.if_icmp .ge 16, 3) := by decide +kernel
theorem dX4_clear_39 : decode cX4_clear 39 = .ok (.aload_n 0, 1) := by decide +kernel
theorem dX4_clear_40 : decode cX4_clear 40 = .ok (.getfield 24, 3) := by decide +kernel
theorem dX4_clear_43 : decode cX4_clear 43 = .ok (.iload_n 1, 1) := by decide +kernel
theorem dX4_clear_44 : decode cX4_clear 44 = .ok (.iconst 0, 1) := by decide +kernel
theorem dX4_clear_45 : decode cX4_clear 45 = .ok (.iastore, 1) := by decide +kernel
theorem dX4_clear_46 : decode cX4_clear 46 = .ok (.iinc 1 1, 3) := by decide +kernel
theorem dX4_clear_49 : decode cX4_clear 49 = .ok (.goto (-16), 3) := by decide +kernel
theorem dX4_clear_52 : decode cX4_clear 52 = .ok (.aload_n 0, 1) := by decide +kernel
theorem dX4_clear_53 : decode cX4_clear 53 = .ok (.getfield 24, 3) := by decide +kernel
theorem dX4_clear_56 : decode cX4_clear 56 = .ok (.iconst 0, 1) := by decide +kernel
theorem dX4_clear_57 : decode cX4_clear 57 = .ok (.iconst 3, 1) := by decide +kernel
theorem dX4_clear_58 : decode cX4_clear 58 = .ok (.iastore, 1) := by decide +kernel
theorem dX4_clear_59 : decode cX4_clear 59 = .ok (.aload_n 0, 1) := by decide +kernel
theorem dX4_clear_60 : decode cX4_clear 60 = .ok (.getfield 24, 3) := by decide +kernel
theorem dX4_clear_63 : decode cX4_clear 63 = .ok (.iconst 1, 1) := by decide +kernel
theorem dX4_clear_64 : decode cX4_clear 64 = .ok (.iconst 2, 1) := by decide +kernel
theorem dX4_clear_65 : decode cX4_clear 65 = .ok (.iastore, 1) := by decide +kernel
theorem dX4_clear_66 : decode cX4_clear 66 = .ok (.aload_n 0, 1) := by decide +kernel
theorem dX4_clear_67 : decode cX4_clear 67 = .ok (.getfield 24, 3) := by decide +kernel
theorem dX4_clear_70 : decode cX4_clear 70 = .ok (.iconst 2, 1) := by decide +kernel
theorem dX4_clear_71 : decode cX4_clear 71 = .ok (.bipush 20, 2) := by decide +kernel
theorem dX4_clear_73 : decode cX4_clear 73 = .ok (.iastore, 1) := by decide +kernel
theorem dX4_clear_74 : decode cX4_clear 74 = .ok (.aload_n 0, 1) := by decide +kernel
theorem dX4_clear_75 : decode cX4_clear 75 = .ok (.getfield 24, 3) := by decide +kernel
theorem dX4_clear_78 : decode cX4_clear 78 = .ok (.iconst 4, 1) := by decide +kernel
theorem dX4_clear_79 : decode cX4_clear 79 = .ok (.iconst (-1), 1) := by decide +kernel
theorem dX4_clear_80 : decode cX4_clear 80 = .ok (.iastore, 1) := by decide +kernel
theorem dX4_clear_81 : decode cX4_clear 81 = .ok (.aload_n 0, 1) := by decide +kernel
theorem dX4_clear_82 : decode cX4_clear 82 = .ok (.getfield 30, 3) := by decide +kernel
theorem dX4_clear_85 : decode cX4_clear 85 = .ok (.invokevirtual 59, 3) := by decide +kernel
theorem dX4_clear_88 : decode cX4_clear 88 = .ok (.return_, 1) := by decide +kernel
def f_Sc_clear_21_L33  (a : Int32 × xS) : Option ((Int32 × xS) ⊕ (Int32 × xS)) :=
  let v1 := a.1; let σ := a.2;
  if (12 : Int32) ≤ v1 then
    some (.inl (v1, σ))
  else
    if v1 < 0 ∨ 12 ≤ v1.toNatClampNeg then none else
    let σ1 := x_pI σ 26 v1.toNatClampNeg (0 : Int32)
    let w2 := v1 + (1 : Int32)
    some (.inr (w2, σ1))
def f_Sc_clear_21  (σ : xS) : Option (Unit × xS) :=
  let σ3 := x_pI σ 21 0 (120 : Int32)
  let σ4 := x_pI σ3 21 1 (0 : Int32)
  let σ5 := x_pI σ4 21 4 (0 : Int32)
  let σ6 := x_pI σ5 21 5 (0 : Int32)
  let σ7 := x_pI σ6 21 8 (0 : Int32)
  let σ8 := x_pI σ7 21 9 (0 : Int32)
  (x_it (f_Sc_clear_21_L33 ) 10000 ((0 : Int32), σ8)).bind fun b9 =>
  let σ10 := x_pI b9.2 26 0 (3 : Int32)
  let σ11 := x_pI σ10 26 1 (2 : Int32)
  let σ12 := x_pI σ11 26 2 (20 : Int32)
  let σ13 := x_pI σ12 26 4 (-1 : Int32)
  (f_Ru_clear_27  σ13).bind fun q14 =>
  some ((), q14.2)
set_option maxHeartbeats 4000000 in
set_option maxRecDepth 100000 in
theorem b_Sc_clear_21_L33 {l : Launch} {s0 : State} {a0 : Array Value} {D : va_G} {cA : Nat → ClassId} {sp : Nat → Nat} (E : x_En CL l s0 a0 D cA sp)  {r : Unit} {σ1 : xS} (a : Int32 × xS) (o : (Int32 × xS) ⊕ (Int32 × xS)) (h : f_Sc_clear_21_L33  a = some o) (hK : ∀ b, o = .inl b → zW l s0 D cA sp (zQ s0 D cA sp none σ1) (x_rm 1 0 0) M_Sc_clear 0 0 52 [some (.ref 21), none] [] b.2) (hG : ∀ a', o = .inr a' → zW l s0 D cA sp (zQ s0 D cA sp none σ1) (x_rm 1 0 0) M_Sc_clear 0 0 33 [some (.ref 21), some (.int a'.1)] [] a'.2) : zW l s0 D cA sp (zQ s0 D cA sp none σ1) (x_rm 1 0 0) M_Sc_clear 0 0 33 [some (.ref 21), some (.int a.1)] [] a.2 := by
  obtain ⟨v1, σ⟩ := a
  unfold f_Sc_clear_21_L33 at h
  try dsimp only at h ⊢
  refine x_iload_n 34 rfl 1 dX4_clear_33 rfl rfl ?_
  refine x_bipush 36 rfl (v := 12) dX4_clear_34 (by decide) ?_
  refine x_icmp_ge 39 rfl 52 dX4_clear_36 (by decide) (fun hc => ?_) (fun hc => ?_)
  · replace h := x_ifT hc h
    cases h
    exact x_wk (x_le_s (x_le_n x_le_0)) (hK (_, _) rfl)
  · replace h := x_ifF hc h
    refine x_aload_n 40 rfl 0 dX4_clear_39 rfl rfl ?_
    refine x_getR E dX4_clear_40 F_RX4_24 sh_21 rf_21_10 43 rfl ?_
    refine x_iload_n 44 rfl 1 dX4_clear_43 rfl rfl ?_
    refine x_iconst 45 rfl (v := 0) dX4_clear_44 (by decide) ?_
    obtain ⟨hz, h⟩ := x_ifn h
    refine x_iast E dX4_clear_45 sh_26 _ rfl hz 46 rfl ?_
    refine x_iinc 49 rfl (1) dX4_clear_46 rfl (by decide) (by decide) [some (.ref 21), some (.int _)] rfl ?_
    refine x_goto 33 dX4_clear_49 (by decide) ?_
    cases h
    exact x_wk (x_le_s (x_le_s x_le_0)) (hG (_, _) rfl)
set_option maxHeartbeats 4000000 in
set_option maxRecDepth 100000 in
theorem c_Sc_clear_21 {l : Launch} {s0 : State} {a0 : Array Value} {D : va_G} {cA : Nat → ClassId} {sp : Nat → Nat} (E : x_En CL l s0 a0 D cA sp)  {σ : xS} {r : Unit} {σ1 : xS} (h : f_Sc_clear_21  σ = some (r, σ1)) : zC l s0 D cA sp 1 M_Sc_clear [.ref 21] σ none σ1 := by
  unfold f_Sc_clear_21 at h
  try dsimp only at h
  refine x_enter [some (.ref 21), none] rfl (Nat.le_of_ble_eq_true rfl) (by decide +kernel) rfl ?_
  refine x_aload_n 1 rfl 0 dX4_clear_0 rfl rfl ?_
  refine x_bipush 3 rfl (v := 120) dX4_clear_1 (by decide) ?_
  refine x_putI E dX4_clear_3 F_RX4_40 sh_21 6 rfl ?_
  refine x_aload_n 7 rfl 0 dX4_clear_6 rfl rfl ?_
  refine x_iconst 8 rfl (v := 0) dX4_clear_7 (by decide) ?_
  refine x_putI E dX4_clear_8 F_RX4_44 sh_21 11 rfl ?_
  refine x_aload_n 12 rfl 0 dX4_clear_11 rfl rfl ?_
  refine x_iconst 13 rfl (v := 0) dX4_clear_12 (by decide) ?_
  refine x_putI E dX4_clear_13 F_RX4_47 sh_21 16 rfl ?_
  refine x_aload_n 17 rfl 0 dX4_clear_16 rfl rfl ?_
  refine x_iconst 18 rfl (v := 0) dX4_clear_17 (by decide) ?_
  refine x_putI E dX4_clear_18 F_RX4_50 sh_21 21 rfl ?_
  refine x_aload_n 22 rfl 0 dX4_clear_21 rfl rfl ?_
  refine x_iconst 23 rfl (v := 0) dX4_clear_22 (by decide) ?_
  refine x_putI E dX4_clear_23 F_RX4_53 sh_21 26 rfl ?_
  refine x_aload_n 27 rfl 0 dX4_clear_26 rfl rfl ?_
  refine x_iconst 28 rfl (v := 0) dX4_clear_27 (by decide) ?_
  refine x_putI E dX4_clear_28 F_RX4_56 sh_21 31 rfl ?_
  refine x_iconst 32 rfl (v := 0) dX4_clear_31 (by decide) ?_
  refine x_istore_n 33 rfl 1 dX4_clear_32 rfl (by decide) [some (.ref 21), some (.int _)] rfl ?_
  obtain ⟨b9, b9h, h⟩ := x_bind h
  try dsimp only at h
  refine x_wk (x_le_s (x_le_s x_le_0)) (x_loop (fun a o h hK hG => b_Sc_clear_21_L33 (r := r) (σ1 := σ1) E  a o h hK hG) _ _ _ b9h ?_)
  refine x_aload_n 53 rfl 0 dX4_clear_52 rfl rfl ?_
  refine x_getR E dX4_clear_53 F_RX4_24 sh_21 rf_21_10 56 rfl ?_
  refine x_iconst 57 rfl (v := 0) dX4_clear_56 (by decide) ?_
  refine x_iconst 58 rfl (v := 3) dX4_clear_57 (by decide) ?_
  refine x_iast E dX4_clear_58 sh_26 0 (by decide) (by decide) 59 rfl ?_
  refine x_aload_n 60 rfl 0 dX4_clear_59 rfl rfl ?_
  refine x_getR E dX4_clear_60 F_RX4_24 sh_21 rf_21_10 63 rfl ?_
  refine x_iconst 64 rfl (v := 1) dX4_clear_63 (by decide) ?_
  refine x_iconst 65 rfl (v := 2) dX4_clear_64 (by decide) ?_
  refine x_iast E dX4_clear_65 sh_26 1 (by decide) (by decide) 66 rfl ?_
  refine x_aload_n 67 rfl 0 dX4_clear_66 rfl rfl ?_
  refine x_getR E dX4_clear_67 F_RX4_24 sh_21 rf_21_10 70 rfl ?_
  refine x_iconst 71 rfl (v := 2) dX4_clear_70 (by decide) ?_
  refine x_bipush 73 rfl (v := 20) dX4_clear_71 (by decide) ?_
  refine x_iast E dX4_clear_73 sh_26 2 (by decide) (by decide) 74 rfl ?_
  refine x_aload_n 75 rfl 0 dX4_clear_74 rfl rfl ?_
  refine x_getR E dX4_clear_75 F_RX4_24 sh_21 rf_21_10 78 rfl ?_
  refine x_iconst 79 rfl (v := 4) dX4_clear_78 (by decide) ?_
  refine x_iconst 80 rfl (v := -1) dX4_clear_79 (by decide) ?_
  refine x_iast E dX4_clear_80 sh_26 4 (by decide) (by decide) 81 rfl ?_
  refine x_aload_n 82 rfl 0 dX4_clear_81 rfl rfl ?_
  refine x_getR E dX4_clear_82 F_RX4_30 sh_21 rf_21_11 85 rfl ?_
  obtain ⟨⟨q14r, q14s⟩, q14h, h⟩ := x_bind h
  try dsimp only at h
  refine z_callV E [] [] dX4_clear_85 K_RX4_59 ⟨Nat.le_of_ble_eq_true rfl, Nat.le_of_ble_eq_true rfl⟩ sh_27 (by decide) rfl (c_Ru_clear_27 E  q14h) rfl rfl (Nat.le_of_ble_eq_true rfl) 88 rfl [] rfl ?_
  cases h
  exact x_vret dX4_clear_88 rfl rfl rfl
abbrev M_Re_readFrom : xM := (yX2_readFrom, cX2_readFrom, 2, some .boolean, [])
theorem dX2_readFrom_0 : decode cX2_readFrom 0 = .ok (.aload_n 0, 1) := by decide +kernel
theorem dX2_readFrom_1 : decode cX2_readFrom 1 = .ok (.invokevirtual 118, 3) := by decide +kernel
theorem dX2_readFrom_4 : decode cX2_readFrom 4 = .ok (.aload_n 0, 1) := by decide +kernel
theorem dX2_readFrom_5 : decode cX2_readFrom 5 = .ok (.bipush 12, 2) := by decide +kernel
theorem dX2_readFrom_7 : decode cX2_readFrom 7 = .ok (.sipush 480, 3) := by decide +kernel
theorem dX2_readFrom_10 : decode cX2_readFrom 10 = .ok (.invokevirtual 125, 3) := by decide +kernel
theorem dX2_readFrom_13 : decode cX2_readFrom 13 = .ok (.ifCond .ne 5, 3) := by decide +kernel
theorem dX2_readFrom_16 : decode cX2_readFrom 16 = .ok (.iconst 0, 1) := by decide +kernel
theorem dX2_readFrom_17 : decode cX2_readFrom 17 = .ok (.ireturn, 1) := by decide +kernel
theorem dX2_readFrom_18 : decode cX2_readFrom 18 = .ok (.aload_n 1, 1) := by decide +kernel
theorem dX2_readFrom_19 : decode cX2_readFrom 19 = .ok (.aload_n 0, 1) := by decide +kernel
theorem dX2_readFrom_20 : decode cX2_readFrom 20 = .ok (.invokevirtual 129, 3) := by decide +kernel
theorem dX2_readFrom_23 : decode cX2_readFrom 23 = .ok (.putfield 133, 3) := by decide +kernel
theorem dX2_readFrom_26 : decode cX2_readFrom 26 = .ok (.aload_n 0, 1) := by decide +kernel
theorem dX2_readFrom_27 : decode cX2_readFrom 27 = .ok (.invokevirtual 136, 3) := by decide +kernel
theorem dX2_readFrom_30 : decode cX2_readFrom 30 = .ok (.ireturn, 1) := by decide +kernel
def f_Re_readFrom_2_21  (σ : xS) : Option (Int32 × xS) :=
  (f_Re_advance_2  σ).bind fun q1 =>
  (f_Re_isNumber_2 (12 : Int32) (480 : Int32) q1.2).bind fun q2 =>
  if q2.1 = 0 then
    some ((0 : Int32), q2.2)
  else
    (f_Re_takeNumber_2  q2.2).bind fun q3 =>
    let σ4 := x_pI q3.2 21 0 q3.1
    (f_Re_readEnd_2  σ4).bind fun q5 =>
    x_ok (q5.1 = 0 ∨ q5.1 = 1) <|
    some (q5.1, q5.2)
set_option maxHeartbeats 4000000 in
set_option maxRecDepth 100000 in
theorem c_Re_readFrom_2_21 {l : Launch} {s0 : State} {a0 : Array Value} {D : va_G} {cA : Nat → ClassId} {sp : Nat → Nat} (E : x_En CL l s0 a0 D cA sp)  {σ : xS} {r : Int32} {σ1 : xS} (h : f_Re_readFrom_2_21  σ = some (r, σ1)) : zC l s0 D cA sp 3 M_Re_readFrom [.ref 2, .ref 21] σ (some (.int r)) σ1 := by
  unfold f_Re_readFrom_2_21 at h
  try dsimp only at h
  refine x_enter [some (.ref 2), some (.ref 21)] rfl (Nat.le_of_ble_eq_true rfl) (by decide +kernel) rfl ?_
  refine x_aload_n 1 rfl 0 dX2_readFrom_0 rfl rfl ?_
  obtain ⟨⟨q1r, q1s⟩, q1h, h⟩ := x_bind h
  try dsimp only at h
  refine z_callV E [] [] dX2_readFrom_1 K_RX2_118 ⟨Nat.le_of_ble_eq_true rfl, Nat.le_of_ble_eq_true rfl⟩ sh_2 (by decide) rfl (c_Re_advance_2 E  q1h) rfl rfl (Nat.le_of_ble_eq_true rfl) 4 rfl [] rfl ?_
  refine x_aload_n 5 rfl 0 dX2_readFrom_4 rfl rfl ?_
  refine x_bipush 7 rfl (v := 12) dX2_readFrom_5 (by decide) ?_
  refine x_sipush 10 rfl (v := 480) dX2_readFrom_7 (by decide) ?_
  obtain ⟨⟨q2r, q2s⟩, q2h, h⟩ := x_bind h
  try dsimp only at h
  refine z_callV E [.int _, .int _] [] dX2_readFrom_10 K_RX2_125 ⟨Nat.le_of_ble_eq_true rfl, Nat.le_of_ble_eq_true rfl⟩ sh_2 (by decide) rfl (c_Re_isNumber_2 E _ _ q2h) rfl rfl (Nat.le_of_ble_eq_true rfl) 13 rfl [.int _] rfl ?_
  refine x_if_ne 16 rfl 18 dX2_readFrom_13 (by decide) (fun hc => ?_) (fun hc => ?_)
  · replace h := x_ifF hc h
    refine x_aload_n 19 rfl 1 dX2_readFrom_18 rfl rfl ?_
    refine x_aload_n 20 rfl 0 dX2_readFrom_19 rfl rfl ?_
    obtain ⟨⟨q3r, q3s⟩, q3h, h⟩ := x_bind h
    try dsimp only at h
    refine z_callV E [] [.ref 21] dX2_readFrom_20 K_RX2_129 ⟨Nat.le_of_ble_eq_true rfl, Nat.le_of_ble_eq_true rfl⟩ sh_2 (by decide) rfl (c_Re_takeNumber_2 E  q3h) rfl rfl (Nat.le_of_ble_eq_true rfl) 23 rfl [.int _, .ref 21] rfl ?_
    refine x_putI E dX2_readFrom_23 F_RX2_133 sh_21 26 rfl ?_
    refine x_aload_n 27 rfl 0 dX2_readFrom_26 rfl rfl ?_
    obtain ⟨⟨q5r, q5s⟩, q5h, h⟩ := x_bind h
    try dsimp only at h
    refine z_callV E [] [] dX2_readFrom_27 K_RX2_136 ⟨Nat.le_of_ble_eq_true rfl, Nat.le_of_ble_eq_true rfl⟩ sh_2 (by decide) rfl (c_Re_readEnd_2 E  q5h) rfl rfl (Nat.le_of_ble_eq_true rfl) 30 rfl [.int _] rfl ?_
    obtain ⟨hz, h⟩ := x_ift h
    cases h
    exact x_zret hz dX2_readFrom_30 rfl rfl rfl
  · replace h := x_ifT hc h
    refine x_iconst 17 rfl (v := 0) dX2_readFrom_16 (by decide) ?_
    cases h
    exact x_zret (Or.inl rfl) dX2_readFrom_17 rfl rfl rfl
theorem K_RX2_38 : x_KV RX2 38 M_Re_split 2 := ⟨⟨(List.mem_append_right _ (List.mem_of_getElem? (i := 615) (by decide +kernel))), (List.mem_append_right _ (List.mem_of_getElem? (i := 618) (by decide +kernel))), (List.mem_append_right _ (List.mem_of_getElem? (i := 2) (by decide +kernel))), ⟨by decide +kernel, by decide +kernel⟩, by decide +kernel⟩, (List.mem_append_right _ (List.mem_of_getElem? (i := 617) (by decide +kernel))), (List.mem_append_left _ (List.mem_of_getElem? (i := 12) (by decide +kernel)))⟩
theorem K_RX2_42 : x_KV RX2 42 M_Sc_clear 0 := ⟨⟨(List.mem_append_right _ (List.mem_of_getElem? (i := 699) (by decide +kernel))), (List.mem_append_right _ (List.mem_of_getElem? (i := 272) (by decide +kernel))), (List.mem_append_right _ (List.mem_of_getElem? (i := 3) (by decide +kernel))), ⟨by decide +kernel, by decide +kernel⟩, by decide +kernel⟩, (List.mem_append_right _ (List.mem_of_getElem? (i := 270) (by decide +kernel))), (List.mem_append_right _ (List.mem_of_getElem? (i := 271) (by decide +kernel)))⟩
theorem K_RX2_57 : x_KV RX2 57 M_Re_readFrom 1 := ⟨⟨(List.mem_append_right _ (List.mem_of_getElem? (i := 712) (by decide +kernel))), (List.mem_append_right _ (List.mem_of_getElem? (i := 715) (by decide +kernel))), (List.mem_append_right _ (List.mem_of_getElem? (i := 2) (by decide +kernel))), ⟨by decide +kernel, by decide +kernel⟩, by decide +kernel⟩, (List.mem_append_right _ (List.mem_of_getElem? (i := 714) (by decide +kernel))), (List.mem_append_left _ (List.mem_of_getElem? (i := 16) (by decide +kernel)))⟩
theorem K_RX2_65 : x_KV RX2 65 M_Re_readLine 1 := ⟨⟨(List.mem_append_right _ (List.mem_of_getElem? (i := 744) (by decide +kernel))), (List.mem_append_right _ (List.mem_of_getElem? (i := 747) (by decide +kernel))), (List.mem_append_right _ (List.mem_of_getElem? (i := 2) (by decide +kernel))), ⟨by decide +kernel, by decide +kernel⟩, by decide +kernel⟩, (List.mem_append_right _ (List.mem_of_getElem? (i := 746) (by decide +kernel))), (List.mem_append_left _ (List.mem_of_getElem? (i := 24) (by decide +kernel)))⟩
abbrev M_Re_read : xM := (yX2_read, cX2_read, 5, some .boolean, [])
theorem dX2_read_0 : decode cX2_read 0 = .ok (.aload_n 0, 1) := by decide +kernel
theorem dX2_read_1 : decode cX2_read 1 = .ok (.aload_n 1, 1) := by decide +kernel
theorem dX2_read_2 : decode cX2_read 2 = .ok (.iload_n 2, 1) := by decide +kernel
theorem dX2_read_3 : decode cX2_read 3 = .ok (.invokevirtual 38, 3) := by decide +kernel
theorem dX2_read_6 : decode cX2_read 6 = .ok (.aload_n 0, 1) := by decide +kernel
theorem dX2_read_7 : decode cX2_read 7 = .ok (.iconst 0, 1) := by decide +kernel
theorem dX2_read_8 : decode cX2_read 8 = .ok (.putfield 25, 3) := by decide +kernel
theorem dX2_read_11 : decode cX2_read 11 = .ok (.aload_n 0, 1) := by decide +kernel
theorem dX2_read_12 : decode cX2_read 12 = .ok (.iconst 0, 1) := by decide +kernel
theorem dX2_read_13 : decode cX2_read 13 = .ok (.putfield 32, 3) := by decide +kernel
theorem dX2_read_16 : decode cX2_read 16 = .ok (.aload_n 0, 1) := by decide +kernel
theorem dX2_read_17 : decode cX2_read 17 = .ok (.iconst (-1), 1) := by decide +kernel
theorem dX2_read_18 : decode cX2_read 18 = .ok (.putfield 35, 3) := by decide +kernel
theorem dX2_read_21 : decode cX2_read 21 = .ok (.iconst 0, 1) := by decide +kernel
theorem dX2_read_22 : decode cX2_read 22 = .ok (.istore 4, 2) := by decide +kernel
theorem dX2_read_24 : decode cX2_read 24 = .ok (.iload 4, 2) := by decide +kernel
theorem dX2_read_26 : decode cX2_read 26 = .ok (.bipush 12, 2) := by decide +kernel
theorem dX2_read_28 : decode cX2_read 28 = .ok (.if_icmp .ge 17, 3) := by decide +kernel
theorem dX2_read_31 : decode cX2_read 31 = .ok (.aload_n 0, 1) := by decide +kernel
theorem dX2_read_32 : decode cX2_read 32 = .ok (.getfield 28, 3) := by decide +kernel
theorem dX2_read_35 : decode cX2_read 35 = .ok (.iload 4, 2) := by decide +kernel
theorem dX2_read_37 : decode cX2_read 37 = .ok (.iconst 0, 1) := by decide +kernel
theorem dX2_read_38 : decode cX2_read 38 = .ok (.bastore, 1) := by decide +kernel
theorem dX2_read_39 : decode cX2_read 39 = .ok (.iinc 4 1, 3) := by decide +kernel
theorem dX2_read_42 : decode cX2_read 42 = .ok (.goto (-18), 3) := by decide +kernel
theorem dX2_read_45 : decode cX2_read 45 = .ok (.aload_n 3, 1) := by decide +kernel
theorem dX2_read_46 : decode cX2_read 46 = .ok (.invokevirtual 42, 3) := by decide +kernel
theorem dX2_read_49 : decode cX2_read 49 = .ok (.aload_n 0, 1) := by decide +kernel
theorem dX2_read_50 : decode cX2_read 50 = .ok (.getstatic 47, 3) := by decide +kernel
theorem dX2_read_53 : decode cX2_read 53 = .ok (.invokevirtual 53, 3) := by decide +kernel
theorem dX2_read_56 : decode cX2_read 56 = .ok (.ifCond .eq 13, 3) := by decide +kernel
theorem dX2_read_59 : decode cX2_read 59 = .ok (.aload_n 0, 1) := by decide +kernel
theorem dX2_read_60 : decode cX2_read 60 = .ok (.aload_n 3, 1) := by decide +kernel
theorem dX2_read_61 : decode cX2_read 61 = .ok (.invokevirtual 57, 3) := by decide +kernel
theorem dX2_read_64 : decode cX2_read 64 = .ok (.ifCond .ne 5, 3) := by decide +kernel
theorem dX2_read_67 : decode cX2_read 67 = .ok (.iconst 0, 1) := by decide +kernel
theorem dX2_read_68 : decode cX2_read 68 = .ok (.ireturn, 1) := by decide +kernel
theorem dX2_read_69 : decode cX2_read 69 = .ok (.iconst 0, 1) := by decide +kernel
theorem dX2_read_70 : decode cX2_read 70 = .ok (.istore 4, 2) := by decide +kernel
theorem dX2_read_72 : decode cX2_read 72 = .ok (.iload 4, 2) := by decide +kernel
theorem dX2_read_74 : decode cX2_read 74 = .ok (.aload_n 0, 1) := by decide +kernel
theorem dX2_read_75 : decode cX2_read 75 = .ok (.getfield 21, 3) := by decide +kernel
theorem dX2_read_78 : decode cX2_read 78 = .ok (.if_icmp .ge 27, 3) := by decide +kernel
theorem dX2_read_81 : decode cX2_read 81 = .ok (.aload_n 0, 1) := by decide +kernel
theorem dX2_read_82 : decode cX2_read 82 = .ok (.iconst 0, 1) := by decide +kernel
theorem dX2_read_83 : decode cX2_read 83 = .ok (.invokevirtual 61, 3) := by decide +kernel
theorem dX2_read_86 : decode cX2_read 86 = .ok (.ifCond .ne 19, 3) := by decide +kernel
theorem dX2_read_89 : decode cX2_read 89 = .ok (.aload_n 0, 1) := by decide +kernel
theorem dX2_read_90 : decode cX2_read 90 = .ok (.aload_n 3, 1) := by decide +kernel
theorem dX2_read_91 : decode cX2_read 91 = .ok (.invokevirtual 65, 3) := by decide +kernel
theorem dX2_read_94 : decode cX2_read 94 = .ok (.ifCond .ne 5, 3) := by decide +kernel
theorem dX2_read_97 : decode cX2_read 97 = .ok (.iconst 0, 1) := by decide +kernel
theorem dX2_read_98 : decode cX2_read 98 = .ok (.ireturn, 1) := by decide +kernel
theorem dX2_read_99 : decode cX2_read 99 = .ok (.iinc 4 1, 3) := by decide +kernel
theorem dX2_read_102 : decode cX2_read 102 = .ok (.goto (-30), 3) := by decide +kernel
theorem dX2_read_105 : decode cX2_read 105 = .ok (.iconst 1, 1) := by decide +kernel
theorem dX2_read_106 : decode cX2_read 106 = .ok (.ireturn, 1) := by decide +kernel
def f_Re_read_2_1_21_L24  (a : Int32 × xS) : Option ((Int32 × xS) ⊕ (Int32 × xS)) :=
  let v4 := a.1; let σ := a.2;
  if (12 : Int32) ≤ v4 then
    some (.inl (v4, σ))
  else
    if v4 < 0 ∨ 12 ≤ v4.toNatClampNeg then none else
    let σ1 := x_pI σ 6 v4.toNatClampNeg (0 : Int32)
    let w2 := v4 + (1 : Int32)
    some (.inr (w2, σ1))
def f_Re_read_2_1_21_L72  (a : Int32 × xS) : Option (((Int32 × xS) ⊕ (Int32 × xS)) ⊕ (Int32 × xS)) :=
  let v4 := a.1; let σ := a.2;
  if σ.1 2 3 ≤ v4 then
    some (.inl (.inr (v4, σ)))
  else
    (f_Re_isKind_2 (0 : Int32) σ).bind fun q3 =>
    if q3.1 = 0 then
      (f_Re_readLine_2_21  q3.2).bind fun q4 =>
      if q4.1 = 0 then
        some (.inl (.inl ((0 : Int32), q4.2)))
      else
        let w5 := v4 + (1 : Int32)
        some (.inr (w5, q4.2))
    else
      some (.inl (.inr (v4, q3.2)))
def f_Re_read_2_1_21_J69  (σ : xS) : Option (Int32 × xS) :=
  (x_it (f_Re_read_2_1_21_L72 ) 10000 ((0 : Int32), σ)).bind fun b6 =>
  match b6 with
  | .inl b6r => some b6r
  | .inr b6e =>
    some ((1 : Int32), b6e.2)
def f_Re_read_2_1_21 (v2 : Int32) (σ : xS) : Option (Int32 × xS) :=
  (f_Re_split_2_1 v2 σ).bind fun q7 =>
  let σ8 := x_pI q7.2 2 4 (0 : Int32)
  let σ9 := x_pI σ8 2 6 (0 : Int32)
  let σ10 := x_pI σ9 2 7 (-1 : Int32)
  (x_it (f_Re_read_2_1_21_L24 ) 10000 ((0 : Int32), σ10)).bind fun b11 =>
  (f_Sc_clear_21  b11.2).bind fun q12 =>
  (f_Re_isWord_2 1001 q12.2).bind fun q13 =>
  if q13.1 = 0 then
    f_Re_read_2_1_21_J69  q13.2
  else
    (f_Re_readFrom_2_21  q13.2).bind fun q14 =>
    if q14.1 = 0 then
      some ((0 : Int32), q14.2)
    else
      f_Re_read_2_1_21_J69  q14.2
set_option maxHeartbeats 4000000 in
set_option maxRecDepth 100000 in
theorem b_Re_read_2_1_21_L24 {l : Launch} {s0 : State} {a0 : Array Value} {D : va_G} {cA : Nat → ClassId} {sp : Nat → Nat} (E : x_En CL l s0 a0 D cA sp) (S : x_Sw s0 sp)  {r : Int32} {σ1 : xS} (a : Int32 × xS) (o : (Int32 × xS) ⊕ (Int32 × xS)) (h : f_Re_read_2_1_21_L24  a = some o) (hK : ∀ b, o = .inl b → zW l s0 D cA sp (zQ s0 D cA sp (some (.int r)) σ1) (x_rm 75 0 0) M_Re_read 0 0 45 [some (.ref 2), none, none, some (.ref 21), none] [] b.2) (hG : ∀ a', o = .inr a' → zW l s0 D cA sp (zQ s0 D cA sp (some (.int r)) σ1) (x_rm 75 0 0) M_Re_read 0 0 24 [some (.ref 2), none, none, some (.ref 21), some (.int a'.1)] [] a'.2) : zW l s0 D cA sp (zQ s0 D cA sp (some (.int r)) σ1) (x_rm 75 0 0) M_Re_read 0 0 24 [some (.ref 2), none, none, some (.ref 21), some (.int a.1)] [] a.2 := by
  obtain ⟨v4, σ⟩ := a
  unfold f_Re_read_2_1_21_L24 at h
  try dsimp only at h ⊢
  refine x_iload 26 rfl dX2_read_24 rfl ?_
  refine x_bipush 28 rfl (v := 12) dX2_read_26 (by decide) ?_
  refine x_icmp_ge 31 rfl 45 dX2_read_28 (by decide) (fun hc => ?_) (fun hc => ?_)
  · replace h := x_ifT hc h
    cases h
    exact x_wk (x_le_s (x_le_n (x_le_n (x_le_s (x_le_n x_le_0))))) (hK (_, _) rfl)
  · replace h := x_ifF hc h
    refine x_aload_n 32 rfl 0 dX2_read_31 rfl rfl ?_
    refine x_getR E dX2_read_32 F_RX2_28 sh_2 rf_2_5 35 rfl ?_
    refine x_iload 37 rfl dX2_read_35 rfl ?_
    refine x_iconst 38 rfl (v := 0) dX2_read_37 (by decide) ?_
    obtain ⟨hz, h⟩ := x_ifn h
    refine x_zast E (Or.inl rfl) dX2_read_38 sh_6 _ rfl hz 39 rfl ?_
    refine x_iinc 42 rfl (1) dX2_read_39 rfl (by decide) (by decide) [some (.ref 2), none, none, some (.ref 21), some (.int _)] rfl ?_
    refine x_goto 24 dX2_read_42 (by decide) ?_
    cases h
    exact x_wk (x_le_s (x_le_n (x_le_n (x_le_s (x_le_s x_le_0))))) (hG (_, _) rfl)
set_option maxHeartbeats 4000000 in
set_option maxRecDepth 100000 in
theorem b_Re_read_2_1_21_L72 {l : Launch} {s0 : State} {a0 : Array Value} {D : va_G} {cA : Nat → ClassId} {sp : Nat → Nat} (E : x_En CL l s0 a0 D cA sp) (S : x_Sw s0 sp)  {r : Int32} {σ1 : xS} (a : Int32 × xS) (o : ((Int32 × xS) ⊕ (Int32 × xS)) ⊕ (Int32 × xS)) (h : f_Re_read_2_1_21_L72  a = some o) (hK : ∀ b, o = .inl b → (∀ q, b = .inl q → q = (r, σ1)) ∧ ∀ e, b = .inr e → zW l s0 D cA sp (zQ s0 D cA sp (some (.int r)) σ1) (x_rm 75 0 0) M_Re_read 0 0 105 [none, none, none, none, none] [] e.2) (hG : ∀ a', o = .inr a' → zW l s0 D cA sp (zQ s0 D cA sp (some (.int r)) σ1) (x_rm 75 0 0) M_Re_read 0 0 72 [some (.ref 2), none, none, some (.ref 21), some (.int a'.1)] [] a'.2) : zW l s0 D cA sp (zQ s0 D cA sp (some (.int r)) σ1) (x_rm 75 0 0) M_Re_read 0 0 72 [some (.ref 2), none, none, some (.ref 21), some (.int a.1)] [] a.2 := by
  obtain ⟨v4, σ⟩ := a
  unfold f_Re_read_2_1_21_L72 at h
  try dsimp only at h ⊢
  refine x_iload 74 rfl dX2_read_72 rfl ?_
  refine x_aload_n 75 rfl 0 dX2_read_74 rfl rfl ?_
  refine x_getI E dX2_read_75 F_RX2_21 sh_2 78 rfl ?_
  refine x_icmp_ge 81 rfl 105 dX2_read_78 (by decide) (fun hc => ?_) (fun hc => ?_)
  · replace h := x_ifT hc h
    cases h
    exact x_wk (x_le_n (x_le_n (x_le_n (x_le_n (x_le_n x_le_0))))) ((hK (.inr (_, _)) rfl).2 (_, _) rfl)
  · replace h := x_ifF hc h
    refine x_aload_n 82 rfl 0 dX2_read_81 rfl rfl ?_
    refine x_iconst 83 rfl (v := 0) dX2_read_82 (by decide) ?_
    obtain ⟨⟨q3r, q3s⟩, q3h, h⟩ := x_bind h
    try dsimp only at h
    refine z_callV E [.int _] [] dX2_read_83 K_RX2_61 ⟨Nat.le_of_ble_eq_true rfl, Nat.le_of_ble_eq_true rfl⟩ sh_2 (by decide) rfl (c_Re_isKind_2 E _ q3h) rfl rfl (Nat.le_of_ble_eq_true rfl) 86 rfl [.int _] rfl ?_
    refine x_if_ne 89 rfl 105 dX2_read_86 (by decide) (fun hc => ?_) (fun hc => ?_)
    · replace h := x_ifF hc h
      cases h
      exact x_wk (x_le_n (x_le_n (x_le_n (x_le_n (x_le_n x_le_0))))) ((hK (.inr (_, _)) rfl).2 (_, _) rfl)
    · replace h := x_ifT hc h
      refine x_aload_n 90 rfl 0 dX2_read_89 rfl rfl ?_
      refine x_aload_n 91 rfl 3 dX2_read_90 rfl rfl ?_
      obtain ⟨⟨q4r, q4s⟩, q4h, h⟩ := x_bind h
      try dsimp only at h
      refine z_callV E [.ref 21] [] dX2_read_91 K_RX2_65 ⟨Nat.le_of_ble_eq_true rfl, Nat.le_of_ble_eq_true rfl⟩ sh_2 (by decide) rfl (c_Re_readLine_2_21 E S  q4h) rfl rfl (Nat.le_of_ble_eq_true rfl) 94 rfl [.int _] rfl ?_
      refine x_if_ne 97 rfl 99 dX2_read_94 (by decide) (fun hc => ?_) (fun hc => ?_)
      · replace h := x_ifF hc h
        refine x_iinc 102 rfl (1) dX2_read_99 rfl (by decide) (by decide) [some (.ref 2), none, none, some (.ref 21), some (.int _)] rfl ?_
        refine x_goto 72 dX2_read_102 (by decide) ?_
        cases h
        exact x_wk (x_le_s (x_le_n (x_le_n (x_le_s (x_le_s x_le_0))))) (hG (_, _) rfl)
      · replace h := x_ifT hc h
        refine x_iconst 98 rfl (v := 0) dX2_read_97 (by decide) ?_
        cases h
        cases (hK (.inl (_, _)) rfl).1 (_, _) rfl
        exact x_zret (Or.inl rfl) dX2_read_98 rfl rfl rfl
set_option maxHeartbeats 4000000 in
set_option maxRecDepth 100000 in
theorem j_Re_read_2_1_21_J69 {l : Launch} {s0 : State} {a0 : Array Value} {D : va_G} {cA : Nat → ClassId} {sp : Nat → Nat} (E : x_En CL l s0 a0 D cA sp) (S : x_Sw s0 sp)  (σ : xS) {r : Int32} {σ1 : xS} (h : f_Re_read_2_1_21_J69  σ = some (r, σ1)) : zW l s0 D cA sp (zQ s0 D cA sp (some (.int r)) σ1) (x_rm 75 0 0) M_Re_read 0 0 69 [some (.ref 2), none, none, some (.ref 21), none] [] σ := by
  unfold f_Re_read_2_1_21_J69 at h
  try dsimp only at h
  refine x_iconst 70 rfl (v := 0) dX2_read_69 (by decide) ?_
  refine x_istore 72 rfl dX2_read_70 (by decide) [some (.ref 2), none, none, some (.ref 21), some (.int _)] rfl ?_
  obtain ⟨b6, b6h, h⟩ := x_bind h
  try dsimp only at h
  refine x_wk (x_le_s (x_le_n (x_le_n (x_le_s (x_le_s x_le_0))))) (x_loop (fun a o h hK hG => b_Re_read_2_1_21_L72 (r := r) (σ1 := σ1) E S  a o h hK hG) _ _ _ b6h ?_)
  cases b6 with
  | inl b6r =>
    try dsimp only at h
    cases h
    exact ⟨fun q e => (by cases e; rfl), fun e he => (by cases he)⟩
  | inr b6e =>
    try dsimp only at h
    refine ⟨fun q e => (by cases e), fun e he => ?_⟩
    cases he
    refine x_iconst 106 rfl (v := 1) dX2_read_105 (by decide) ?_
    cases h
    exact x_zret (Or.inr rfl) dX2_read_106 rfl rfl rfl
set_option maxHeartbeats 4000000 in
set_option maxRecDepth 100000 in
theorem c_Re_read_2_1_21 {l : Launch} {s0 : State} {a0 : Array Value} {D : va_G} {cA : Nat → ClassId} {sp : Nat → Nat} (E : x_En CL l s0 a0 D cA sp) (S : x_Sw s0 sp) (v2 : Int32) {σ : xS} {r : Int32} {σ1 : xS} (h : f_Re_read_2_1_21 v2 σ = some (r, σ1)) : zC l s0 D cA sp 75 M_Re_read [.ref 2, .ref 1, .int v2, .ref 21] σ (some (.int r)) σ1 := by
  unfold f_Re_read_2_1_21 at h
  try dsimp only at h
  refine x_enter [some (.ref 2), some (.ref 1), some (.int v2), some (.ref 21), none] rfl (Nat.le_of_ble_eq_true rfl) (by decide +kernel) rfl ?_
  refine x_aload_n 1 rfl 0 dX2_read_0 rfl rfl ?_
  refine x_aload_n 2 rfl 1 dX2_read_1 rfl rfl ?_
  refine x_iload_n 3 rfl 2 dX2_read_2 rfl rfl ?_
  obtain ⟨⟨q7r, q7s⟩, q7h, h⟩ := x_bind h
  try dsimp only at h
  refine z_callV E [.ref 1, .int _] [] dX2_read_3 K_RX2_38 ⟨Nat.le_of_ble_eq_true rfl, Nat.le_of_ble_eq_true rfl⟩ sh_2 (by decide) rfl (c_Re_split_2_1 E S _ q7h) rfl rfl (Nat.le_of_ble_eq_true rfl) 6 rfl [] rfl ?_
  refine x_aload_n 7 rfl 0 dX2_read_6 rfl rfl ?_
  refine x_iconst 8 rfl (v := 0) dX2_read_7 (by decide) ?_
  refine x_putI E dX2_read_8 F_RX2_25 sh_2 11 rfl ?_
  refine x_aload_n 12 rfl 0 dX2_read_11 rfl rfl ?_
  refine x_iconst 13 rfl (v := 0) dX2_read_12 (by decide) ?_
  refine x_putI E dX2_read_13 F_RX2_32 sh_2 16 rfl ?_
  refine x_aload_n 17 rfl 0 dX2_read_16 rfl rfl ?_
  refine x_iconst 18 rfl (v := -1) dX2_read_17 (by decide) ?_
  refine x_putI E dX2_read_18 F_RX2_35 sh_2 21 rfl ?_
  refine x_iconst 22 rfl (v := 0) dX2_read_21 (by decide) ?_
  refine x_istore 24 rfl dX2_read_22 (by decide) [some (.ref 2), some (.ref 1), some (.int _), some (.ref 21), some (.int _)] rfl ?_
  obtain ⟨b11, b11h, h⟩ := x_bind h
  try dsimp only at h
  refine x_wk (x_le_s (x_le_n (x_le_n (x_le_s (x_le_s x_le_0))))) (x_loop (fun a o h hK hG => b_Re_read_2_1_21_L24 (r := r) (σ1 := σ1) E S  a o h hK hG) _ _ _ b11h ?_)
  refine x_aload_n 46 rfl 3 dX2_read_45 rfl rfl ?_
  obtain ⟨⟨q12r, q12s⟩, q12h, h⟩ := x_bind h
  try dsimp only at h
  refine z_callV E [] [] dX2_read_46 K_RX2_42 ⟨Nat.le_of_ble_eq_true rfl, Nat.le_of_ble_eq_true rfl⟩ sh_21 (by decide) rfl (c_Sc_clear_21 E  q12h) rfl rfl (Nat.le_of_ble_eq_true rfl) 49 rfl [] rfl ?_
  refine x_aload_n 50 rfl 0 dX2_read_49 rfl rfl ?_
  refine z_word E S (n := "FROM") 1 1001 (by decide) rfl rfl dX2_read_50 (List.mem_append_right _ (List.mem_of_getElem? (i := 700) (by decide +kernel))) 53 rfl ?_
  obtain ⟨⟨q13r, q13s⟩, q13h, h⟩ := x_bind h
  try dsimp only at h
  refine z_callV E [.ref _] [] dX2_read_53 K_RX2_53 ⟨Nat.le_of_ble_eq_true rfl, Nat.le_of_ble_eq_true rfl⟩ sh_2 (by decide) rfl (c_Re_isWord_2 E S _ q13h) rfl rfl (Nat.le_of_ble_eq_true rfl) 56 rfl [.int _] rfl ?_
  refine x_if_eq 59 rfl 69 dX2_read_56 (by decide) (fun hc => ?_) (fun hc => ?_)
  · replace h := x_ifT hc h
    exact x_wk (x_le_s (x_le_n (x_le_n (x_le_s (x_le_n x_le_0))))) (j_Re_read_2_1_21_J69 E S  _ h)
  · replace h := x_ifF hc h
    refine x_aload_n 60 rfl 0 dX2_read_59 rfl rfl ?_
    refine x_aload_n 61 rfl 3 dX2_read_60 rfl rfl ?_
    obtain ⟨⟨q14r, q14s⟩, q14h, h⟩ := x_bind h
    try dsimp only at h
    refine z_callV E [.ref 21] [] dX2_read_61 K_RX2_57 ⟨Nat.le_of_ble_eq_true rfl, Nat.le_of_ble_eq_true rfl⟩ sh_2 (by decide) rfl (c_Re_readFrom_2_21 E  q14h) rfl rfl (Nat.le_of_ble_eq_true rfl) 64 rfl [.int _] rfl ?_
    refine x_if_ne 67 rfl 69 dX2_read_64 (by decide) (fun hc => ?_) (fun hc => ?_)
    · replace h := x_ifF hc h
      exact x_wk (x_le_s (x_le_n (x_le_n (x_le_s (x_le_n x_le_0))))) (j_Re_read_2_1_21_J69 E S  _ h)
    · replace h := x_ifT hc h
      refine x_iconst 68 rfl (v := 0) dX2_read_67 (by decide) ?_
      cases h
      exact x_zret (Or.inl rfl) dX2_read_68 rfl rfl rfl
