/-! The reference's methods: functions and contracts. Written by wip/gen/emit.py. -/
theorem K_RX9_353 : x_KS RX9 353 M_Mo_works 3 := ⟨⟨(List.mem_append_right _ (List.mem_of_getElem? (i := 1673) (by decide +kernel))), (List.mem_append_right _ (List.mem_of_getElem? (i := 1675) (by decide +kernel))), (List.mem_append_right _ (List.mem_of_getElem? (i := 9) (by decide +kernel))), ⟨by decide +kernel, by decide +kernel⟩, by decide +kernel⟩, (List.mem_append_right _ (List.mem_of_getElem? (i := 1674) (by decide +kernel)))⟩
abbrev M_Mo_reckons : xM := (yX9_reckons, cX9_reckons, 5, some .int, [])
theorem dX9_reckons_0 : decode cX9_reckons 0 = .ok (.iconst 0, 1) := by decide +kernel
theorem dX9_reckons_1 : decode cX9_reckons 1 = .ok (.istore_n 2, 1) := by decide +kernel
theorem dX9_reckons_2 : decode cX9_reckons 2 = .ok (.iload_n 1, 1) := by decide +kernel
theorem dX9_reckons_3 : decode cX9_reckons 3 = .ok (.istore_n 3, 1) := by decide +kernel
theorem dX9_reckons_4 : decode cX9_reckons 4 = .ok (.aload_n 0, 1) := by decide +kernel
theorem dX9_reckons_5 : decode cX9_reckons 5 = .ok (.getfield 35, 3) := by decide +kernel
theorem dX9_reckons_8 : decode cX9_reckons 8 = .ok (.iload_n 3, 1) := by decide +kernel
theorem dX9_reckons_9 : decode cX9_reckons 9 = .ok (.iaload, 1) := by decide +kernel
theorem dX9_reckons_10 : decode cX9_reckons 10 = .ok (.ifCond .eq 133, 3) := by decide +kernel
theorem dX9_reckons_13 : decode cX9_reckons 13 = .ok (.aload_n 0, 1) := by decide +kernel
theorem dX9_reckons_14 : decode cX9_reckons 14 = .ok (.getfield 35, 3) := by decide +kernel
theorem dX9_reckons_17 : decode cX9_reckons 17 = .ok (.iload_n 3, 1) := by decide +kernel
theorem dX9_reckons_18 : decode cX9_reckons 18 = .ok (.iaload, 1) := by decide +kernel
theorem dX9_reckons_19 : decode cX9_reckons 19 = .ok (.istore 4, 2) := by decide +kernel
theorem dX9_reckons_21 : decode cX9_reckons 21 = .ok (.iinc 3 1, 3) := by decide +kernel
theorem dX9_reckons_24 : decode cX9_reckons 24 = .ok (.iload 4, 2) := by decide +kernel
theorem dX9_reckons_26 : decode cX9_reckons 26 = .ok (.iconst 1, 1) := by decide +kernel
theorem dX9_reckons_27 : decode cX9_reckons 27 = .ok (.if_icmp .eq 9, 3) := by decide +kernel
theorem dX9_reckons_30 : decode cX9_reckons 30 = .ok (.iload 4, 2) := by decide +kernel
theorem dX9_reckons_32 : decode cX9_reckons 32 = .ok (.iconst 2, 1) := by decide +kernel
theorem dX9_reckons_33 : decode cX9_reckons 33 = .ok (.if_icmp .ne 44, 3) := by decide +kernel
theorem dX9_reckons_36 : decode cX9_reckons 36 = .ok (.aload_n 0, 1) := by decide +kernel
theorem dX9_reckons_37 : decode cX9_reckons 37 = .ok (.getfield 90, 3) := by decide +kernel
theorem dX9_reckons_40 : decode cX9_reckons 40 = .ok (.iload_n 2, 1) := by decide +kernel
theorem dX9_reckons_41 : decode cX9_reckons 41 = .ok (.iload 4, 2) := by decide +kernel
theorem dX9_reckons_43 : decode cX9_reckons 43 = .ok (.iconst 1, 1) := by decide +kernel
theorem dX9_reckons_44 : decode cX9_reckons 44 = .ok (.if_icmp .ne 12, 3) := by decide +kernel
theorem dX9_reckons_47 : decode cX9_reckons 47 = .ok (.aload_n 0, 1) := by decide +kernel
theorem dX9_reckons_48 : decode cX9_reckons 48 = .ok (.getfield 35, 3) := by decide +kernel
theorem dX9_reckons_51 : decode cX9_reckons 51 = .ok (.iload_n 3, 1) := by decide +kernel
theorem dX9_reckons_52 : decode cX9_reckons 52 = .ok (.iaload, 1) := by decide +kernel
theorem dX9_reckons_53 : decode cX9_reckons 53 = .ok (.goto 14, 3) := by decide +kernel
theorem dX9_reckons_56 : decode cX9_reckons 56 = .ok (.aload_n 0, 1) := by decide +kernel
theorem dX9_reckons_57 : decode cX9_reckons 57 = .ok (.getfield 87, 3) := by decide +kernel
theorem dX9_reckons_60 : decode cX9_reckons 60 = .ok (.aload_n 0, 1) := by decide +kernel
theorem dX9_reckons_61 : decode cX9_reckons 61 = .ok (.getfield 35, 3) := by decide +kernel
theorem dX9_reckons_64 : decode cX9_reckons 64 = .ok (.iload_n 3, 1) := by decide +kernel
theorem dX9_reckons_65 : decode cX9_reckons 65 = .ok (.iaload, 1) := by decide +kernel
theorem dX9_reckons_66 : decode cX9_reckons 66 = .ok (.iaload, 1) := by decide +kernel
theorem dX9_reckons_67 : decode cX9_reckons 67 = .ok (.iastore, 1) := by decide +kernel
theorem dX9_reckons_68 : decode cX9_reckons 68 = .ok (.iinc 3 1, 3) := by decide +kernel
theorem dX9_reckons_71 : decode cX9_reckons 71 = .ok (.iinc 2 1, 3) := by decide +kernel
theorem dX9_reckons_74 : decode cX9_reckons 74 = .ok (.goto 66, 3) := by decide +kernel
theorem dX9_reckons_77 : decode cX9_reckons 77 = .ok (.iload 4, 2) := by decide +kernel
theorem dX9_reckons_79 : decode cX9_reckons 79 = .ok (.iconst 3, 1) := by decide +kernel
theorem dX9_reckons_80 : decode cX9_reckons 80 = .ok (.if_icmp .ne 30, 3) := by decide +kernel
theorem dX9_reckons_83 : decode cX9_reckons 83 = .ok (.aload_n 0, 1) := by decide +kernel
theorem dX9_reckons_84 : decode cX9_reckons 84 = .ok (.getfield 90, 3) := by decide +kernel
theorem dX9_reckons_87 : decode cX9_reckons 87 = .ok (.iload_n 2, 1) := by decide +kernel
theorem dX9_reckons_88 : decode cX9_reckons 88 = .ok (.iconst 1, 1) := by decide +kernel
theorem dX9_reckons_89 : decode cX9_reckons 89 = .ok (.isub, 1) := by decide +kernel
theorem dX9_reckons_90 : decode cX9_reckons 90 = .ok (.aload_n 0, 1) := by decide +kernel
theorem dX9_reckons_91 : decode cX9_reckons 91 = .ok (.getfield 90, 3) := by decide +kernel
theorem dX9_reckons_94 : decode cX9_reckons 94 = .ok (.iload_n 2, 1) := by decide +kernel
theorem dX9_reckons_95 : decode cX9_reckons 95 = .ok (.iconst 1, 1) := by decide +kernel
theorem dX9_reckons_96 : decode cX9_reckons 96 = .ok (.isub, 1) := by decide +kernel
theorem dX9_reckons_97 : decode cX9_reckons 97 = .ok (.iaload, 1) := by decide +kernel
theorem dX9_reckons_98 : decode cX9_reckons 98 = .ok (.ifCond .ne 7, 3) := by decide +kernel
theorem dX9_reckons_101 : decode cX9_reckons 101 = .ok (.iconst 1, 1) := by decide +kernel
theorem dX9_reckons_102 : decode cX9_reckons 102 = .ok (.goto 4, 3) := by decide +kernel
theorem dX9_reckons_105 : decode cX9_reckons 105 = .ok (.iconst 0, 1) := by decide +kernel
theorem dX9_reckons_106 : decode cX9_reckons 106 = .ok (.iastore, 1) := by decide +kernel
theorem dX9_reckons_107 : decode cX9_reckons 107 = .ok (.goto 33, 3) := by decide +kernel
theorem dX9_reckons_110 : decode cX9_reckons 110 = .ok (.iinc 2 (-1), 3) := by decide +kernel
theorem dX9_reckons_113 : decode cX9_reckons 113 = .ok (.aload_n 0, 1) := by decide +kernel
theorem dX9_reckons_114 : decode cX9_reckons 114 = .ok (.getfield 90, 3) := by decide +kernel
theorem dX9_reckons_117 : decode cX9_reckons 117 = .ok (.iload_n 2, 1) := by decide +kernel
theorem dX9_reckons_118 : decode cX9_reckons 118 = .ok (.iconst 1, 1) := by decide +kernel
theorem dX9_reckons_119 : decode cX9_reckons 119 = .ok (.isub, 1) := by decide +kernel
theorem dX9_reckons_120 : decode cX9_reckons 120 = .ok (.iload 4, 2) := by decide +kernel
theorem dX9_reckons_122 : decode cX9_reckons 122 = .ok (.aload_n 0, 1) := by decide +kernel
theorem dX9_reckons_123 : decode cX9_reckons 123 = .ok (.getfield 90, 3) := by decide +kernel
theorem dX9_reckons_126 : decode cX9_reckons 126 = .ok (.iload_n 2, 1) := by decide +kernel
theorem dX9_reckons_127 : decode cX9_reckons 127 = .ok (.iconst 1, 1) := by decide +kernel
theorem dX9_reckons_128 : decode cX9_reckons 128 = .ok (.isub, 1) := by decide +kernel
theorem dX9_reckons_129 : decode cX9_reckons 129 = .ok (.iaload, 1) := by decide +kernel
theorem dX9_reckons_130 : decode cX9_reckons 130 = .ok (.aload_n 0, 1) := by decide +kernel
theorem dX9_reckons_131 : decode cX9_reckons 131 = .ok (.getfield 90, 3) := by decide +kernel
theorem dX9_reckons_134 : decode cX9_reckons 134 = .ok (.iload_n 2, 1) := by decide +kernel
theorem dX9_reckons_135 : decode cX9_reckons 135 = .ok (.iaload, 1) := by decide +kernel
theorem dX9_reckons_136 : decode cX9_reckons 136 = .ok (.invokestatic 353, 3) := by decide +kernel
theorem dX9_reckons_139 : decode cX9_reckons 139 = .ok (.iastore, 1) := by decide +kernel
theorem dX9_reckons_140 : decode cX9_reckons 140 = .ok (.goto (-136), 3) := by decide +kernel
theorem dX9_reckons_143 : decode cX9_reckons 143 = .ok (.aload_n 0, 1) := by decide +kernel
theorem dX9_reckons_144 : decode cX9_reckons 144 = .ok (.getfield 90, 3) := by decide +kernel
theorem dX9_reckons_147 : decode cX9_reckons 147 = .ok (.iconst 0, 1) := by decide +kernel
theorem dX9_reckons_148 : decode cX9_reckons 148 = .ok (.iaload, 1) := by decide +kernel
theorem dX9_reckons_149 : decode cX9_reckons 149 = .ok (.ireturn, 1) := by decide +kernel
def f_Mo_reckons_60_J36 (v2 : Int32) (v3 : Int32) (v4 : Int32) (σ : xS) : Option ((Int32 × Int32 × xS) ⊕ (Int32 × Int32 × xS)) :=
  if v4 = (1 : Int32) then
    if v3 < 0 ∨ 4200 ≤ v3.toNatClampNeg then none else
    if v2 < 0 ∨ 950 ≤ v2.toNatClampNeg then none else
    let σ4 := x_pI σ 83 v2.toNatClampNeg (σ.1 66 v3.toNatClampNeg)
    let w5 := v3 + (1 : Int32)
    let w6 := v2 + (1 : Int32)
    some (.inr (w6, w5, σ4))
  else
    if v3 < 0 ∨ 4200 ≤ v3.toNatClampNeg then none else
    if σ.1 66 v3.toNatClampNeg < 0 ∨ 8 ≤ (σ.1 66 v3.toNatClampNeg).toNatClampNeg then none else
    if v2 < 0 ∨ 950 ≤ v2.toNatClampNeg then none else
    let σ1 := x_pI σ 83 v2.toNatClampNeg (σ.1 82 (σ.1 66 v3.toNatClampNeg).toNatClampNeg)
    let w2 := v3 + (1 : Int32)
    let w3 := v2 + (1 : Int32)
    some (.inr (w3, w2, σ1))
def f_Mo_reckons_60_L4  (a : Int32 × Int32 × xS) : Option ((Int32 × Int32 × xS) ⊕ (Int32 × Int32 × xS)) :=
  let v2 := a.1; let v3 := a.2.1; let σ := a.2.2;
  if v3 < 0 ∨ 4200 ≤ v3.toNatClampNeg then none else
  if σ.1 66 v3.toNatClampNeg = 0 then
    some (.inl (v2, v3, σ))
  else
    if v3 < 0 ∨ 4200 ≤ v3.toNatClampNeg then none else
    let w7 := σ.1 66 v3.toNatClampNeg
    let w8 := v3 + (1 : Int32)
    if w7 = (1 : Int32) then
      f_Mo_reckons_60_J36 v2 w8 w7 σ
    else
      if w7 = (2 : Int32) then
        f_Mo_reckons_60_J36 v2 w8 w7 σ
      else
        if w7 = (3 : Int32) then
          if (v2 - (1 : Int32)) < 0 ∨ 950 ≤ (v2 - (1 : Int32)).toNatClampNeg then none else
          if σ.1 83 (v2 - (1 : Int32)).toNatClampNeg = 0 then
            if (v2 - (1 : Int32)) < 0 ∨ 950 ≤ (v2 - (1 : Int32)).toNatClampNeg then none else
            let σ13 := x_pI σ 83 (v2 - (1 : Int32)).toNatClampNeg (1 : Int32)
            some (.inr (v2, w8, σ13))
          else
            if (v2 - (1 : Int32)) < 0 ∨ 950 ≤ (v2 - (1 : Int32)).toNatClampNeg then none else
            let σ12 := x_pI σ 83 (v2 - (1 : Int32)).toNatClampNeg (0 : Int32)
            some (.inr (v2, w8, σ12))
        else
          let w9 := v2 + (-1 : Int32)
          if (w9 - (1 : Int32)) < 0 ∨ 950 ≤ (w9 - (1 : Int32)).toNatClampNeg then none else
          if w9 < 0 ∨ 950 ≤ w9.toNatClampNeg then none else
          (f_Mo_works w7 (σ.1 83 (w9 - (1 : Int32)).toNatClampNeg) (σ.1 83 w9.toNatClampNeg) σ).bind fun q10 =>
          if (w9 - (1 : Int32)) < 0 ∨ 950 ≤ (w9 - (1 : Int32)).toNatClampNeg then none else
          let σ11 := x_pI q10.2 83 (w9 - (1 : Int32)).toNatClampNeg q10.1
          some (.inr (w9, w8, σ11))
def f_Mo_reckons_60 (v1 : Int32) (σ : xS) : Option (Int32 × xS) :=
  (x_it (f_Mo_reckons_60_L4 ) 10000 ((0 : Int32), v1, σ)).bind fun b14 =>
  some (b14.2.2.1 83 0, b14.2.2)
set_option maxHeartbeats 4000000 in
set_option maxRecDepth 100000 in
theorem j_Mo_reckons_60_J36 {l : Launch} {s0 : State} {a0 : Array Value} {D : va_G} {cA : Nat → ClassId} {sp : Nat → Nat} (E : x_En CL l s0 a0 D cA sp) (v2 : Int32) (v3 : Int32) (v4 : Int32)  (σ : xS) {r : Int32} {σ1 : xS} (o : (Int32 × Int32 × xS) ⊕ (Int32 × Int32 × xS)) (h : f_Mo_reckons_60_J36 v2 v3 v4 σ = some o) (hK : ∀ b, o = .inl b → zW l s0 D cA sp (zQ s0 D cA sp (some (.int r)) σ1) (x_rm 1 0 0) M_Mo_reckons 0 0 143 [some (.ref 60), none, none, none, none] [] b.2.2) (hG : ∀ a', o = .inr a' → zW l s0 D cA sp (zQ s0 D cA sp (some (.int r)) σ1) (x_rm 1 0 0) M_Mo_reckons 0 0 4 [some (.ref 60), none, some (.int a'.1), some (.int a'.2.1), none] [] a'.2.2) : zW l s0 D cA sp (zQ s0 D cA sp (some (.int r)) σ1) (x_rm 1 0 0) M_Mo_reckons 0 0 36 [some (.ref 60), none, some (.int v2), some (.int v3), some (.int v4)] [] σ := by
  unfold f_Mo_reckons_60_J36 at h
  try dsimp only at h
  refine x_aload_n 37 rfl 0 dX9_reckons_36 rfl rfl ?_
  refine x_getR E dX9_reckons_37 F_RX9_90 sh_60 rf_60_58 40 rfl ?_
  refine x_iload_n 41 rfl 2 dX9_reckons_40 rfl rfl ?_
  refine x_iload 43 rfl dX9_reckons_41 rfl ?_
  refine x_iconst 44 rfl (v := 1) dX9_reckons_43 (by decide) ?_
  refine x_icmp_ne 47 rfl 56 dX9_reckons_44 (by decide) (fun hc => ?_) (fun hc => ?_)
  · replace h := x_ifF hc h
    refine x_aload_n 57 rfl 0 dX9_reckons_56 rfl rfl ?_
    refine x_getR E dX9_reckons_57 F_RX9_87 sh_60 rf_60_57 60 rfl ?_
    refine x_aload_n 61 rfl 0 dX9_reckons_60 rfl rfl ?_
    refine x_getR E dX9_reckons_61 F_RX9_35 sh_60 rf_60_13 64 rfl ?_
    refine x_iload_n 65 rfl 3 dX9_reckons_64 rfl rfl ?_
    obtain ⟨hz, h⟩ := x_ifn h
    refine x_iald E dX9_reckons_65 sh_66 _ rfl hz 66 rfl ?_
    obtain ⟨hz, h⟩ := x_ifn h
    refine x_iald E dX9_reckons_66 sh_82 _ rfl hz 67 rfl ?_
    obtain ⟨hz, h⟩ := x_ifn h
    refine x_iast E dX9_reckons_67 sh_83 _ rfl hz 68 rfl ?_
    refine x_iinc 71 rfl (1) dX9_reckons_68 rfl (by decide) (by decide) [some (.ref 60), none, some (.int _), some (.int _), some (.int _)] rfl ?_
    refine x_iinc 74 rfl (1) dX9_reckons_71 rfl (by decide) (by decide) [some (.ref 60), none, some (.int _), some (.int _), some (.int _)] rfl ?_
    refine x_goto 140 dX9_reckons_74 (by decide) ?_
    refine x_goto 4 dX9_reckons_140 (by decide) ?_
    cases h
    exact x_wk (x_le_s (x_le_n (x_le_s (x_le_s (x_le_n x_le_0))))) (hG (_, _, _) rfl)
  · replace h := x_ifT hc h
    refine x_aload_n 48 rfl 0 dX9_reckons_47 rfl rfl ?_
    refine x_getR E dX9_reckons_48 F_RX9_35 sh_60 rf_60_13 51 rfl ?_
    refine x_iload_n 52 rfl 3 dX9_reckons_51 rfl rfl ?_
    obtain ⟨hz, h⟩ := x_ifn h
    refine x_iald E dX9_reckons_52 sh_66 _ rfl hz 53 rfl ?_
    refine x_goto 67 dX9_reckons_53 (by decide) ?_
    obtain ⟨hz, h⟩ := x_ifn h
    refine x_iast E dX9_reckons_67 sh_83 _ rfl hz 68 rfl ?_
    refine x_iinc 71 rfl (1) dX9_reckons_68 rfl (by decide) (by decide) [some (.ref 60), none, some (.int _), some (.int _), some (.int _)] rfl ?_
    refine x_iinc 74 rfl (1) dX9_reckons_71 rfl (by decide) (by decide) [some (.ref 60), none, some (.int _), some (.int _), some (.int _)] rfl ?_
    refine x_goto 140 dX9_reckons_74 (by decide) ?_
    refine x_goto 4 dX9_reckons_140 (by decide) ?_
    cases h
    exact x_wk (x_le_s (x_le_n (x_le_s (x_le_s (x_le_n x_le_0))))) (hG (_, _, _) rfl)
set_option maxHeartbeats 4000000 in
set_option maxRecDepth 100000 in
theorem b_Mo_reckons_60_L4 {l : Launch} {s0 : State} {a0 : Array Value} {D : va_G} {cA : Nat → ClassId} {sp : Nat → Nat} (E : x_En CL l s0 a0 D cA sp)  {r : Int32} {σ1 : xS} (a : Int32 × Int32 × xS) (o : (Int32 × Int32 × xS) ⊕ (Int32 × Int32 × xS)) (h : f_Mo_reckons_60_L4  a = some o) (hK : ∀ b, o = .inl b → zW l s0 D cA sp (zQ s0 D cA sp (some (.int r)) σ1) (x_rm 1 0 0) M_Mo_reckons 0 0 143 [some (.ref 60), none, none, none, none] [] b.2.2) (hG : ∀ a', o = .inr a' → zW l s0 D cA sp (zQ s0 D cA sp (some (.int r)) σ1) (x_rm 1 0 0) M_Mo_reckons 0 0 4 [some (.ref 60), none, some (.int a'.1), some (.int a'.2.1), none] [] a'.2.2) : zW l s0 D cA sp (zQ s0 D cA sp (some (.int r)) σ1) (x_rm 1 0 0) M_Mo_reckons 0 0 4 [some (.ref 60), none, some (.int a.1), some (.int a.2.1), none] [] a.2.2 := by
  obtain ⟨v2, v3, σ⟩ := a
  unfold f_Mo_reckons_60_L4 at h
  try dsimp only at h ⊢
  refine x_aload_n 5 rfl 0 dX9_reckons_4 rfl rfl ?_
  refine x_getR E dX9_reckons_5 F_RX9_35 sh_60 rf_60_13 8 rfl ?_
  refine x_iload_n 9 rfl 3 dX9_reckons_8 rfl rfl ?_
  obtain ⟨hz, h⟩ := x_ifn h
  refine x_iald E dX9_reckons_9 sh_66 _ rfl hz 10 rfl ?_
  refine x_if_eq 13 rfl 143 dX9_reckons_10 (by decide) (fun hc => ?_) (fun hc => ?_)
  · replace h := x_ifT hc h
    cases h
    exact x_wk (x_le_s (x_le_n (x_le_n (x_le_n (x_le_n x_le_0))))) (hK (_, _, _) rfl)
  · replace h := x_ifF hc h
    refine x_aload_n 14 rfl 0 dX9_reckons_13 rfl rfl ?_
    refine x_getR E dX9_reckons_14 F_RX9_35 sh_60 rf_60_13 17 rfl ?_
    refine x_iload_n 18 rfl 3 dX9_reckons_17 rfl rfl ?_
    obtain ⟨hz, h⟩ := x_ifn h
    refine x_iald E dX9_reckons_18 sh_66 _ rfl hz 19 rfl ?_
    refine x_istore 21 rfl dX9_reckons_19 (by decide) [some (.ref 60), none, some (.int _), some (.int _), some (.int _)] rfl ?_
    refine x_iinc 24 rfl (1) dX9_reckons_21 rfl (by decide) (by decide) [some (.ref 60), none, some (.int _), some (.int _), some (.int _)] rfl ?_
    refine x_iload 26 rfl dX9_reckons_24 rfl ?_
    refine x_iconst 27 rfl (v := 1) dX9_reckons_26 (by decide) ?_
    refine x_icmp_eq 30 rfl 36 dX9_reckons_27 (by decide) (fun hc => ?_) (fun hc => ?_)
    · replace h := x_ifT hc h
      exact x_wk (x_le_s (x_le_n (x_le_s (x_le_s (x_le_s x_le_0))))) (j_Mo_reckons_60_J36 (r := r) (σ1 := σ1) E _ _ _  _ _ h hK hG)
    · replace h := x_ifF hc h
      refine x_iload 32 rfl dX9_reckons_30 rfl ?_
      refine x_iconst 33 rfl (v := 2) dX9_reckons_32 (by decide) ?_
      refine x_icmp_ne 36 rfl 77 dX9_reckons_33 (by decide) (fun hc => ?_) (fun hc => ?_)
      · replace h := x_ifF hc h
        refine x_iload 79 rfl dX9_reckons_77 rfl ?_
        refine x_iconst 80 rfl (v := 3) dX9_reckons_79 (by decide) ?_
        refine x_icmp_ne 83 rfl 110 dX9_reckons_80 (by decide) (fun hc => ?_) (fun hc => ?_)
        · replace h := x_ifF hc h
          refine x_iinc 113 rfl (-1) dX9_reckons_110 rfl (by decide) (by decide) [some (.ref 60), none, some (.int _), some (.int _), some (.int _)] rfl ?_
          refine x_aload_n 114 rfl 0 dX9_reckons_113 rfl rfl ?_
          refine x_getR E dX9_reckons_114 F_RX9_90 sh_60 rf_60_58 117 rfl ?_
          refine x_iload_n 118 rfl 2 dX9_reckons_117 rfl rfl ?_
          refine x_iconst 119 rfl (v := 1) dX9_reckons_118 (by decide) ?_
          refine x_isub 120 rfl dX9_reckons_119 ?_
          refine x_iload 122 rfl dX9_reckons_120 rfl ?_
          refine x_aload_n 123 rfl 0 dX9_reckons_122 rfl rfl ?_
          refine x_getR E dX9_reckons_123 F_RX9_90 sh_60 rf_60_58 126 rfl ?_
          refine x_iload_n 127 rfl 2 dX9_reckons_126 rfl rfl ?_
          refine x_iconst 128 rfl (v := 1) dX9_reckons_127 (by decide) ?_
          refine x_isub 129 rfl dX9_reckons_128 ?_
          obtain ⟨hz, h⟩ := x_ifn h
          refine x_iald E dX9_reckons_129 sh_83 _ rfl hz 130 rfl ?_
          refine x_aload_n 131 rfl 0 dX9_reckons_130 rfl rfl ?_
          refine x_getR E dX9_reckons_131 F_RX9_90 sh_60 rf_60_58 134 rfl ?_
          refine x_iload_n 135 rfl 2 dX9_reckons_134 rfl rfl ?_
          obtain ⟨hz, h⟩ := x_ifn h
          refine x_iald E dX9_reckons_135 sh_83 _ rfl hz 136 rfl ?_
          obtain ⟨⟨q10r, q10s⟩, q10h, h⟩ := x_bind h
          try dsimp only at h
          refine z_callS E [.int _, .int _, .int _] [.int _, .ref 83] dX9_reckons_136 K_RX9_353 ⟨Nat.le_of_ble_eq_true rfl, Nat.le_of_ble_eq_true rfl⟩ (c_Mo_works E _ _ _ q10h) rfl rfl (Nat.le_of_ble_eq_true rfl) 139 rfl [.int _, .int _, .ref 83] rfl ?_
          obtain ⟨hz, h⟩ := x_ifn h
          refine x_iast E dX9_reckons_139 sh_83 _ rfl hz 140 rfl ?_
          refine x_goto 4 dX9_reckons_140 (by decide) ?_
          cases h
          exact x_wk (x_le_s (x_le_n (x_le_s (x_le_s (x_le_n x_le_0))))) (hG (_, _, _) rfl)
        · replace h := x_ifT hc h
          refine x_aload_n 84 rfl 0 dX9_reckons_83 rfl rfl ?_
          refine x_getR E dX9_reckons_84 F_RX9_90 sh_60 rf_60_58 87 rfl ?_
          refine x_iload_n 88 rfl 2 dX9_reckons_87 rfl rfl ?_
          refine x_iconst 89 rfl (v := 1) dX9_reckons_88 (by decide) ?_
          refine x_isub 90 rfl dX9_reckons_89 ?_
          refine x_aload_n 91 rfl 0 dX9_reckons_90 rfl rfl ?_
          refine x_getR E dX9_reckons_91 F_RX9_90 sh_60 rf_60_58 94 rfl ?_
          refine x_iload_n 95 rfl 2 dX9_reckons_94 rfl rfl ?_
          refine x_iconst 96 rfl (v := 1) dX9_reckons_95 (by decide) ?_
          refine x_isub 97 rfl dX9_reckons_96 ?_
          obtain ⟨hz, h⟩ := x_ifn h
          refine x_iald E dX9_reckons_97 sh_83 _ rfl hz 98 rfl ?_
          refine x_if_ne 101 rfl 105 dX9_reckons_98 (by decide) (fun hc => ?_) (fun hc => ?_)
          · replace h := x_ifF hc h
            refine x_iconst 106 rfl (v := 0) dX9_reckons_105 (by decide) ?_
            obtain ⟨hz, h⟩ := x_ifn h
            refine x_iast E dX9_reckons_106 sh_83 _ rfl hz 107 rfl ?_
            refine x_goto 140 dX9_reckons_107 (by decide) ?_
            refine x_goto 4 dX9_reckons_140 (by decide) ?_
            cases h
            exact x_wk (x_le_s (x_le_n (x_le_s (x_le_s (x_le_n x_le_0))))) (hG (_, _, _) rfl)
          · replace h := x_ifT hc h
            refine x_iconst 102 rfl (v := 1) dX9_reckons_101 (by decide) ?_
            refine x_goto 106 dX9_reckons_102 (by decide) ?_
            obtain ⟨hz, h⟩ := x_ifn h
            refine x_iast E dX9_reckons_106 sh_83 _ rfl hz 107 rfl ?_
            refine x_goto 140 dX9_reckons_107 (by decide) ?_
            refine x_goto 4 dX9_reckons_140 (by decide) ?_
            cases h
            exact x_wk (x_le_s (x_le_n (x_le_s (x_le_s (x_le_n x_le_0))))) (hG (_, _, _) rfl)
      · replace h := x_ifT hc h
        exact x_wk (x_le_s (x_le_n (x_le_s (x_le_s (x_le_s x_le_0))))) (j_Mo_reckons_60_J36 (r := r) (σ1 := σ1) E _ _ _  _ _ h hK hG)
set_option maxHeartbeats 4000000 in
set_option maxRecDepth 100000 in
theorem c_Mo_reckons_60 {l : Launch} {s0 : State} {a0 : Array Value} {D : va_G} {cA : Nat → ClassId} {sp : Nat → Nat} (E : x_En CL l s0 a0 D cA sp) (v1 : Int32) {σ : xS} {r : Int32} {σ1 : xS} (h : f_Mo_reckons_60 v1 σ = some (r, σ1)) : zC l s0 D cA sp 1 M_Mo_reckons [.ref 60, .int v1] σ (some (.int r)) σ1 := by
  unfold f_Mo_reckons_60 at h
  try dsimp only at h
  refine x_enter [some (.ref 60), some (.int v1), none, none, none] rfl (Nat.le_of_ble_eq_true rfl) (by decide +kernel) rfl ?_
  refine x_iconst 1 rfl (v := 0) dX9_reckons_0 (by decide) ?_
  refine x_istore_n 2 rfl 2 dX9_reckons_1 rfl (by decide) [some (.ref 60), some (.int _), some (.int _), none, none] rfl ?_
  refine x_iload_n 3 rfl 1 dX9_reckons_2 rfl rfl ?_
  refine x_istore_n 4 rfl 3 dX9_reckons_3 rfl (by decide) [some (.ref 60), some (.int _), some (.int _), some (.int _), none] rfl ?_
  obtain ⟨b14, b14h, h⟩ := x_bind h
  try dsimp only at h
  refine x_wk (x_le_s (x_le_n (x_le_s (x_le_s (x_le_n x_le_0))))) (x_loop (fun a o h hK hG => b_Mo_reckons_60_L4 (r := r) (σ1 := σ1) E  a o h hK hG) _ _ _ b14h ?_)
  refine x_aload_n 144 rfl 0 dX9_reckons_143 rfl rfl ?_
  refine x_getR E dX9_reckons_144 F_RX9_90 sh_60 rf_60_58 147 rfl ?_
  refine x_iconst 148 rfl (v := 0) dX9_reckons_147 (by decide) ?_
  refine x_iald E dX9_reckons_148 sh_83 0 (by decide) (by decide) 149 rfl ?_
  cases h
  exact x_iret dX9_reckons_149 rfl rfl rfl
abbrev M_Mo_last : xM := (yX9_last, cX9_last, 3, some .int, [])
theorem dX9_last_0 : decode cX9_last 0 = .ok (.iconst 0, 1) := by decide +kernel
theorem dX9_last_1 : decode cX9_last 1 = .ok (.istore_n 1, 1) := by decide +kernel
theorem dX9_last_2 : decode cX9_last 2 = .ok (.iconst 0, 1) := by decide +kernel
theorem dX9_last_3 : decode cX9_last 3 = .ok (.istore_n 2, 1) := by decide +kernel
theorem dX9_last_4 : decode cX9_last 4 = .ok (.iload_n 2, 1) := by decide +kernel
theorem dX9_last_5 : decode cX9_last 5 = .ok (.aload_n 0, 1) := by decide +kernel
theorem dX9_last_6 : decode cX9_last 6 = .ok (.getfield 324, 3) := by decide +kernel
theorem dX9_last_9 : decode cX9_last 9 = .ok (.if_icmp .ge 18, 3) := by decide +kernel
theorem dX9_last_12 : decode cX9_last 12 = .ok (.iload_n 1, 1) := by decide +kernel
theorem dX9_last_13 : decode cX9_last 13 = .ok (.aload_n 0, 1) := by decide +kernel
theorem dX9_last_14 : decode cX9_last 14 = .ok (.getfield 23, 3) := by decide +kernel
theorem dX9_last_17 : decode cX9_last 17 = .ok (.iload_n 2, 1) := by decide +kernel
theorem dX9_last_18 : decode cX9_last 18 = .ok (.iaload, 1) := by decide +kernel
theorem dX9_last_19 : decode cX9_last 19 = .ok (.iadd, 1) := by decide +kernel
theorem dX9_last_20 : decode cX9_last 20 = .ok (.istore_n 1, 1) := by decide +kernel
theorem dX9_last_21 : decode cX9_last 21 = .ok (.iinc 2 1, 3) := by decide +kernel
theorem dX9_last_24 : decode cX9_last 24 = .ok (.goto (-20), 3) := by decide +kernel
theorem dX9_last_27 : decode cX9_last 27 = .ok (.iload_n 1, 1) := by decide +kernel
theorem dX9_last_28 : decode cX9_last 28 = .ok (.ireturn, 1) := by decide +kernel
def f_Mo_last_60_L4  (a : Int32 × Int32 × xS) : Option ((Int32 × Int32 × xS) ⊕ (Int32 × Int32 × xS)) :=
  let v1 := a.1; let v2 := a.2.1; let σ := a.2.2;
  if σ.1 60 2 ≤ v2 then
    some (.inl (v1, v2, σ))
  else
    if v2 < 0 ∨ 12 ≤ v2.toNatClampNeg then none else
    let w1 := (v1 + σ.1 62 v2.toNatClampNeg)
    let w2 := v2 + (1 : Int32)
    some (.inr (w1, w2, σ))
def f_Mo_last_60  (σ : xS) : Option (Int32 × xS) :=
  (x_it (f_Mo_last_60_L4 ) 10000 ((0 : Int32), (0 : Int32), σ)).bind fun b3 =>
  some (b3.1, b3.2.2)
set_option maxHeartbeats 4000000 in
set_option maxRecDepth 100000 in
theorem b_Mo_last_60_L4 {l : Launch} {s0 : State} {a0 : Array Value} {D : va_G} {cA : Nat → ClassId} {sp : Nat → Nat} (E : x_En CL l s0 a0 D cA sp)  {r : Int32} {σ1 : xS} (a : Int32 × Int32 × xS) (o : (Int32 × Int32 × xS) ⊕ (Int32 × Int32 × xS)) (h : f_Mo_last_60_L4  a = some o) (hK : ∀ b, o = .inl b → zW l s0 D cA sp (zQ s0 D cA sp (some (.int r)) σ1) (x_rm 0 0 0) M_Mo_last 0 0 27 [none, some (.int b.1), none] [] b.2.2) (hG : ∀ a', o = .inr a' → zW l s0 D cA sp (zQ s0 D cA sp (some (.int r)) σ1) (x_rm 0 0 0) M_Mo_last 0 0 4 [some (.ref 60), some (.int a'.1), some (.int a'.2.1)] [] a'.2.2) : zW l s0 D cA sp (zQ s0 D cA sp (some (.int r)) σ1) (x_rm 0 0 0) M_Mo_last 0 0 4 [some (.ref 60), some (.int a.1), some (.int a.2.1)] [] a.2.2 := by
  obtain ⟨v1, v2, σ⟩ := a
  unfold f_Mo_last_60_L4 at h
  try dsimp only at h ⊢
  refine x_iload_n 5 rfl 2 dX9_last_4 rfl rfl ?_
  refine x_aload_n 6 rfl 0 dX9_last_5 rfl rfl ?_
  refine x_getI E dX9_last_6 F_RX9_324 sh_60 9 rfl ?_
  refine x_icmp_ge 12 rfl 27 dX9_last_9 (by decide) (fun hc => ?_) (fun hc => ?_)
  · replace h := x_ifT hc h
    cases h
    exact x_wk (x_le_n (x_le_s (x_le_n x_le_0))) (hK (_, _, _) rfl)
  · replace h := x_ifF hc h
    refine x_iload_n 13 rfl 1 dX9_last_12 rfl rfl ?_
    refine x_aload_n 14 rfl 0 dX9_last_13 rfl rfl ?_
    refine x_getR E dX9_last_14 F_RX9_23 sh_60 rf_60_9 17 rfl ?_
    refine x_iload_n 18 rfl 2 dX9_last_17 rfl rfl ?_
    obtain ⟨hz, h⟩ := x_ifn h
    refine x_iald E dX9_last_18 sh_62 _ rfl hz 19 rfl ?_
    refine x_iadd 20 rfl dX9_last_19 ?_
    refine x_istore_n 21 rfl 1 dX9_last_20 rfl (by decide) [some (.ref 60), some (.int _), some (.int _)] rfl ?_
    refine x_iinc 24 rfl (1) dX9_last_21 rfl (by decide) (by decide) [some (.ref 60), some (.int _), some (.int _)] rfl ?_
    refine x_goto 4 dX9_last_24 (by decide) ?_
    cases h
    exact x_wk (x_le_s (x_le_s (x_le_s x_le_0))) (hG (_, _, _) rfl)
set_option maxHeartbeats 4000000 in
set_option maxRecDepth 100000 in
theorem c_Mo_last_60 {l : Launch} {s0 : State} {a0 : Array Value} {D : va_G} {cA : Nat → ClassId} {sp : Nat → Nat} (E : x_En CL l s0 a0 D cA sp)  {σ : xS} {r : Int32} {σ1 : xS} (h : f_Mo_last_60  σ = some (r, σ1)) : zC l s0 D cA sp 0 M_Mo_last [.ref 60] σ (some (.int r)) σ1 := by
  unfold f_Mo_last_60 at h
  try dsimp only at h
  refine x_enter [some (.ref 60), none, none] rfl (Nat.le_of_ble_eq_true rfl) (by decide +kernel) rfl ?_
  refine x_iconst 1 rfl (v := 0) dX9_last_0 (by decide) ?_
  refine x_istore_n 2 rfl 1 dX9_last_1 rfl (by decide) [some (.ref 60), some (.int _), none] rfl ?_
  refine x_iconst 3 rfl (v := 0) dX9_last_2 (by decide) ?_
  refine x_istore_n 4 rfl 2 dX9_last_3 rfl (by decide) [some (.ref 60), some (.int _), some (.int _)] rfl ?_
  obtain ⟨b3, b3h, h⟩ := x_bind h
  try dsimp only at h
  refine x_wk (x_le_s (x_le_s (x_le_s x_le_0))) (x_loop (fun a o h hK hG => b_Mo_last_60_L4 (r := r) (σ1 := σ1) E  a o h hK hG) _ _ _ b3h ?_)
  refine x_iload_n 28 rfl 1 dX9_last_27 rfl rfl ?_
  cases h
  exact x_iret dX9_last_28 rfl rfl rfl
abbrev M_Mo_herIn : xM := (yX9_herIn, cX9_herIn, 5, some .int, [])
theorem dX9_herIn_0 : decode cX9_herIn 0 = .ok (.aload_n 0, 1) := by decide +kernel
theorem dX9_herIn_1 : decode cX9_herIn 1 = .ok (.getfield 7, 3) := by decide +kernel
theorem dX9_herIn_4 : decode cX9_herIn 4 = .ok (.istore_n 2, 1) := by decide +kernel
theorem dX9_herIn_5 : decode cX9_herIn 5 = .ok (.iload_n 1, 1) := by decide +kernel
theorem dX9_herIn_6 : decode cX9_herIn 6 = .ok (.istore_n 3, 1) := by decide +kernel
theorem dX9_herIn_7 : decode cX9_herIn 7 = .ok (.iconst 0, 1) := by decide +kernel
theorem dX9_herIn_8 : decode cX9_herIn 8 = .ok (.istore 4, 2) := by decide +kernel
theorem dX9_herIn_10 : decode cX9_herIn 10 = .ok (.iload 4, 2) := by decide +kernel
theorem dX9_herIn_12 : decode cX9_herIn 12 = .ok (.aload_n 0, 1) := by decide +kernel
theorem dX9_herIn_13 : decode cX9_herIn 13 = .ok (.getfield 324, 3) := by decide +kernel
theorem dX9_herIn_16 : decode cX9_herIn 16 = .ok (.if_icmp .ge 60, 3) := by decide +kernel
theorem dX9_herIn_19 : decode cX9_herIn 19 = .ok (.iload_n 3, 1) := by decide +kernel
theorem dX9_herIn_20 : decode cX9_herIn 20 = .ok (.aload_n 0, 1) := by decide +kernel
theorem dX9_herIn_21 : decode cX9_herIn 21 = .ok (.getfield 23, 3) := by decide +kernel
theorem dX9_herIn_24 : decode cX9_herIn 24 = .ok (.iload 4, 2) := by decide +kernel
theorem dX9_herIn_26 : decode cX9_herIn 26 = .ok (.iaload, 1) := by decide +kernel
theorem dX9_herIn_27 : decode cX9_herIn 27 = .ok (.if_icmp .gt 25, 3) := by decide +kernel
theorem dX9_herIn_30 : decode cX9_herIn 30 = .ok (.iload_n 2, 1) := by decide +kernel
theorem dX9_herIn_31 : decode cX9_herIn 31 = .ok (.aload_n 0, 1) := by decide +kernel
theorem dX9_herIn_32 : decode cX9_herIn 32 = .ok (.getfield 19, 3) := by decide +kernel
theorem dX9_herIn_35 : decode cX9_herIn 35 = .ok (.iload 4, 2) := by decide +kernel
theorem dX9_herIn_37 : decode cX9_herIn 37 = .ok (.iaload, 1) := by decide +kernel
theorem dX9_herIn_38 : decode cX9_herIn 38 = .ok (.iload_n 2, 1) := by decide +kernel
theorem dX9_herIn_39 : decode cX9_herIn 39 = .ok (.isub, 1) := by decide +kernel
theorem dX9_herIn_40 : decode cX9_herIn 40 = .ok (.iload_n 3, 1) := by decide +kernel
theorem dX9_herIn_41 : decode cX9_herIn 41 = .ok (.imul, 1) := by decide +kernel
theorem dX9_herIn_42 : decode cX9_herIn 42 = .ok (.aload_n 0, 1) := by decide +kernel
theorem dX9_herIn_43 : decode cX9_herIn 43 = .ok (.getfield 23, 3) := by decide +kernel
theorem dX9_herIn_46 : decode cX9_herIn 46 = .ok (.iload 4, 2) := by decide +kernel
theorem dX9_herIn_48 : decode cX9_herIn 48 = .ok (.iaload, 1) := by decide +kernel
theorem dX9_herIn_49 : decode cX9_herIn 49 = .ok (.idiv, 1) := by decide +kernel
theorem dX9_herIn_50 : decode cX9_herIn 50 = .ok (.iadd, 1) := by decide +kernel
theorem dX9_herIn_51 : decode cX9_herIn 51 = .ok (.ireturn, 1) := by decide +kernel
theorem dX9_herIn_52 : decode cX9_herIn 52 = .ok (.iload_n 3, 1) := by decide +kernel
theorem dX9_herIn_53 : decode cX9_herIn 53 = .ok (.aload_n 0, 1) := by decide +kernel
theorem dX9_herIn_54 : decode cX9_herIn 54 = .ok (.getfield 23, 3) := by decide +kernel
theorem dX9_herIn_57 : decode cX9_herIn 57 = .ok (.iload 4, 2) := by decide +kernel
theorem dX9_herIn_59 : decode cX9_herIn 59 = .ok (.iaload, 1) := by decide +kernel
theorem dX9_herIn_60 : decode cX9_herIn 60 = .ok (.isub, 1) := by decide +kernel
theorem dX9_herIn_61 : decode cX9_herIn 61 = .ok (.istore_n 3, 1) := by decide +kernel
theorem dX9_herIn_62 : decode cX9_herIn 62 = .ok (.aload_n 0, 1) := by decide +kernel
theorem dX9_herIn_63 : decode cX9_herIn 63 = .ok (.getfield 19, 3) := by decide +kernel
theorem dX9_herIn_66 : decode cX9_herIn 66 = .ok (.iload 4, 2) := by decide +kernel
theorem dX9_herIn_68 : decode cX9_herIn 68 = .ok (.iaload, 1) := by decide +kernel
theorem dX9_herIn_69 : decode cX9_herIn 69 = .ok (.istore_n 2, 1) := by decide +kernel
theorem dX9_herIn_70 : decode cX9_herIn 70 = .ok (.iinc 4 1, 3) := by decide +kernel
theorem dX9_herIn_73 : decode cX9_herIn 73 = .ok (.goto (-63), 3) := by decide +kernel
theorem dX9_herIn_76 : decode cX9_herIn 76 = .ok (.iload_n 2, 1) := by decide +kernel
theorem dX9_herIn_77 : decode cX9_herIn 77 = .ok (.ireturn, 1) := by decide +kernel
def f_Mo_herIn_60_L10  (a : Int32 × Int32 × Int32 × xS) : Option (((Int32 × xS) ⊕ (Int32 × Int32 × Int32 × xS)) ⊕ (Int32 × Int32 × Int32 × xS)) :=
  let v2 := a.1; let v3 := a.2.1; let v4 := a.2.2.1; let σ := a.2.2.2;
  if σ.1 60 2 ≤ v4 then
    some (.inl (.inr (v2, v3, v4, σ)))
  else
    if v4 < 0 ∨ 12 ≤ v4.toNatClampNeg then none else
    if σ.1 62 v4.toNatClampNeg < v3 then
      if v4 < 0 ∨ 12 ≤ v4.toNatClampNeg then none else
      let w1 := (v3 - σ.1 62 v4.toNatClampNeg)
      if v4 < 0 ∨ 12 ≤ v4.toNatClampNeg then none else
      let w2 := σ.1 61 v4.toNatClampNeg
      let w3 := v4 + (1 : Int32)
      some (.inr (w2, w1, w3, σ))
    else
      if v4 < 0 ∨ 12 ≤ v4.toNatClampNeg then none else
      if v4 < 0 ∨ 12 ≤ v4.toNatClampNeg then none else
      if σ.1 62 v4.toNatClampNeg = 0 then none else
      some (.inl (.inl ((v2 + (((σ.1 61 v4.toNatClampNeg - v2) * v3) / σ.1 62 v4.toNatClampNeg)), σ)))
def f_Mo_herIn_60 (v1 : Int32) (σ : xS) : Option (Int32 × xS) :=
  let w4 := σ.1 60 1
  (x_it (f_Mo_herIn_60_L10 ) 10000 (w4, v1, (0 : Int32), σ)).bind fun b5 =>
  match b5 with
  | .inl b5r => some b5r
  | .inr b5e =>
    some (b5e.1, b5e.2.2.2)
set_option maxHeartbeats 4000000 in
set_option maxRecDepth 100000 in
theorem b_Mo_herIn_60_L10 {l : Launch} {s0 : State} {a0 : Array Value} {D : va_G} {cA : Nat → ClassId} {sp : Nat → Nat} (E : x_En CL l s0 a0 D cA sp)  {r : Int32} {σ1 : xS} (a : Int32 × Int32 × Int32 × xS) (o : ((Int32 × xS) ⊕ (Int32 × Int32 × Int32 × xS)) ⊕ (Int32 × Int32 × Int32 × xS)) (h : f_Mo_herIn_60_L10  a = some o) (hK : ∀ b, o = .inl b → (∀ q, b = .inl q → q = (r, σ1)) ∧ ∀ e, b = .inr e → zW l s0 D cA sp (zQ s0 D cA sp (some (.int r)) σ1) (x_rm 0 0 0) M_Mo_herIn 0 0 76 [none, none, some (.int e.1), none, none] [] e.2.2.2) (hG : ∀ a', o = .inr a' → zW l s0 D cA sp (zQ s0 D cA sp (some (.int r)) σ1) (x_rm 0 0 0) M_Mo_herIn 0 0 10 [some (.ref 60), none, some (.int a'.1), some (.int a'.2.1), some (.int a'.2.2.1)] [] a'.2.2.2) : zW l s0 D cA sp (zQ s0 D cA sp (some (.int r)) σ1) (x_rm 0 0 0) M_Mo_herIn 0 0 10 [some (.ref 60), none, some (.int a.1), some (.int a.2.1), some (.int a.2.2.1)] [] a.2.2.2 := by
  obtain ⟨v2, v3, v4, σ⟩ := a
  unfold f_Mo_herIn_60_L10 at h
  try dsimp only at h ⊢
  refine x_iload 12 rfl dX9_herIn_10 rfl ?_
  refine x_aload_n 13 rfl 0 dX9_herIn_12 rfl rfl ?_
  refine x_getI E dX9_herIn_13 F_RX9_324 sh_60 16 rfl ?_
  refine x_icmp_ge 19 rfl 76 dX9_herIn_16 (by decide) (fun hc => ?_) (fun hc => ?_)
  · replace h := x_ifT hc h
    cases h
    exact x_wk (x_le_n (x_le_n (x_le_s (x_le_n (x_le_n x_le_0))))) ((hK (.inr (_, _, _, _)) rfl).2 (_, _, _, _) rfl)
  · replace h := x_ifF hc h
    refine x_iload_n 20 rfl 3 dX9_herIn_19 rfl rfl ?_
    refine x_aload_n 21 rfl 0 dX9_herIn_20 rfl rfl ?_
    refine x_getR E dX9_herIn_21 F_RX9_23 sh_60 rf_60_9 24 rfl ?_
    refine x_iload 26 rfl dX9_herIn_24 rfl ?_
    obtain ⟨hz, h⟩ := x_ifn h
    refine x_iald E dX9_herIn_26 sh_62 _ rfl hz 27 rfl ?_
    refine x_icmp_gt 30 rfl 52 dX9_herIn_27 (by decide) (fun hc => ?_) (fun hc => ?_)
    · replace h := x_ifT hc h
      refine x_iload_n 53 rfl 3 dX9_herIn_52 rfl rfl ?_
      refine x_aload_n 54 rfl 0 dX9_herIn_53 rfl rfl ?_
      refine x_getR E dX9_herIn_54 F_RX9_23 sh_60 rf_60_9 57 rfl ?_
      refine x_iload 59 rfl dX9_herIn_57 rfl ?_
      obtain ⟨hz, h⟩ := x_ifn h
      refine x_iald E dX9_herIn_59 sh_62 _ rfl hz 60 rfl ?_
      refine x_isub 61 rfl dX9_herIn_60 ?_
      refine x_istore_n 62 rfl 3 dX9_herIn_61 rfl (by decide) [some (.ref 60), none, some (.int _), some (.int _), some (.int _)] rfl ?_
      refine x_aload_n 63 rfl 0 dX9_herIn_62 rfl rfl ?_
      refine x_getR E dX9_herIn_63 F_RX9_19 sh_60 rf_60_8 66 rfl ?_
      refine x_iload 68 rfl dX9_herIn_66 rfl ?_
      obtain ⟨hz, h⟩ := x_ifn h
      refine x_iald E dX9_herIn_68 sh_61 _ rfl hz 69 rfl ?_
      refine x_istore_n 70 rfl 2 dX9_herIn_69 rfl (by decide) [some (.ref 60), none, some (.int _), some (.int _), some (.int _)] rfl ?_
      refine x_iinc 73 rfl (1) dX9_herIn_70 rfl (by decide) (by decide) [some (.ref 60), none, some (.int _), some (.int _), some (.int _)] rfl ?_
      refine x_goto 10 dX9_herIn_73 (by decide) ?_
      cases h
      exact x_wk (x_le_s (x_le_n (x_le_s (x_le_s (x_le_s x_le_0))))) (hG (_, _, _, _) rfl)
    · replace h := x_ifF hc h
      refine x_iload_n 31 rfl 2 dX9_herIn_30 rfl rfl ?_
      refine x_aload_n 32 rfl 0 dX9_herIn_31 rfl rfl ?_
      refine x_getR E dX9_herIn_32 F_RX9_19 sh_60 rf_60_8 35 rfl ?_
      refine x_iload 37 rfl dX9_herIn_35 rfl ?_
      obtain ⟨hz, h⟩ := x_ifn h
      refine x_iald E dX9_herIn_37 sh_61 _ rfl hz 38 rfl ?_
      refine x_iload_n 39 rfl 2 dX9_herIn_38 rfl rfl ?_
      refine x_isub 40 rfl dX9_herIn_39 ?_
      refine x_iload_n 41 rfl 3 dX9_herIn_40 rfl rfl ?_
      refine x_imul 42 rfl dX9_herIn_41 ?_
      refine x_aload_n 43 rfl 0 dX9_herIn_42 rfl rfl ?_
      refine x_getR E dX9_herIn_43 F_RX9_23 sh_60 rf_60_9 46 rfl ?_
      refine x_iload 48 rfl dX9_herIn_46 rfl ?_
      obtain ⟨hz, h⟩ := x_ifn h
      refine x_iald E dX9_herIn_48 sh_62 _ rfl hz 49 rfl ?_
      obtain ⟨hz, h⟩ := x_ifn h
      refine x_idiv 50 rfl dX9_herIn_49 hz ?_
      refine x_iadd 51 rfl dX9_herIn_50 ?_
      cases h
      cases (hK (.inl (_, _)) rfl).1 (_, _) rfl
      exact x_iret dX9_herIn_51 rfl rfl rfl
set_option maxHeartbeats 4000000 in
set_option maxRecDepth 100000 in
theorem c_Mo_herIn_60 {l : Launch} {s0 : State} {a0 : Array Value} {D : va_G} {cA : Nat → ClassId} {sp : Nat → Nat} (E : x_En CL l s0 a0 D cA sp) (v1 : Int32) {σ : xS} {r : Int32} {σ1 : xS} (h : f_Mo_herIn_60 v1 σ = some (r, σ1)) : zC l s0 D cA sp 0 M_Mo_herIn [.ref 60, .int v1] σ (some (.int r)) σ1 := by
  unfold f_Mo_herIn_60 at h
  try dsimp only at h
  refine x_enter [some (.ref 60), some (.int v1), none, none, none] rfl (Nat.le_of_ble_eq_true rfl) (by decide +kernel) rfl ?_
  refine x_aload_n 1 rfl 0 dX9_herIn_0 rfl rfl ?_
  refine x_getI E dX9_herIn_1 F_RX9_7 sh_60 4 rfl ?_
  refine x_istore_n 5 rfl 2 dX9_herIn_4 rfl (by decide) [some (.ref 60), some (.int _), some (.int _), none, none] rfl ?_
  refine x_iload_n 6 rfl 1 dX9_herIn_5 rfl rfl ?_
  refine x_istore_n 7 rfl 3 dX9_herIn_6 rfl (by decide) [some (.ref 60), some (.int _), some (.int _), some (.int _), none] rfl ?_
  refine x_iconst 8 rfl (v := 0) dX9_herIn_7 (by decide) ?_
  refine x_istore 10 rfl dX9_herIn_8 (by decide) [some (.ref 60), some (.int _), some (.int _), some (.int _), some (.int _)] rfl ?_
  obtain ⟨b5, b5h, h⟩ := x_bind h
  try dsimp only at h
  refine x_wk (x_le_s (x_le_n (x_le_s (x_le_s (x_le_s x_le_0))))) (x_loop (fun a o h hK hG => b_Mo_herIn_60_L10 (r := r) (σ1 := σ1) E  a o h hK hG) _ _ _ b5h ?_)
  cases b5 with
  | inl b5r =>
    try dsimp only at h
    cases h
    exact ⟨fun q e => (by cases e; rfl), fun e he => (by cases he)⟩
  | inr b5e =>
    try dsimp only at h
    refine ⟨fun q e => (by cases e), fun e he => ?_⟩
    cases he
    refine x_iload_n 77 rfl 2 dX9_herIn_76 rfl rfl ?_
    cases h
    exact x_iret dX9_herIn_77 rfl rfl rfl
theorem K_RX9_360 : x_KV RX9 360 M_Mo_herIn 1 := ⟨⟨(List.mem_append_right _ (List.mem_of_getElem? (i := 1657) (by decide +kernel))), (List.mem_append_right _ (List.mem_of_getElem? (i := 1660) (by decide +kernel))), (List.mem_append_right _ (List.mem_of_getElem? (i := 9) (by decide +kernel))), ⟨by decide +kernel, by decide +kernel⟩, by decide +kernel⟩, (List.mem_append_right _ (List.mem_of_getElem? (i := 1659) (by decide +kernel))), (List.mem_append_left _ (List.mem_of_getElem? (i := 80) (by decide +kernel)))⟩
abbrev M_Mo_inchesOf : xM := (yX9_inchesOf, cX9_inchesOf, 4, some .int, [])
theorem dX9_inchesOf_0 : decode cX9_inchesOf 0 = .ok (.aload_n 0, 1) := by decide +kernel
theorem dX9_inchesOf_1 : decode cX9_inchesOf 1 = .ok (.iload_n 1, 1) := by decide +kernel
theorem dX9_inchesOf_2 : decode cX9_inchesOf 2 = .ok (.aload_n 0, 1) := by decide +kernel
theorem dX9_inchesOf_3 : decode cX9_inchesOf 3 = .ok (.getfield 357, 3) := by decide +kernel
theorem dX9_inchesOf_6 : decode cX9_inchesOf 6 = .ok (.if_icmp .ge 7, 3) := by decide +kernel
theorem dX9_inchesOf_9 : decode cX9_inchesOf 9 = .ok (.iconst 0, 1) := by decide +kernel
theorem dX9_inchesOf_10 : decode cX9_inchesOf 10 = .ok (.goto 9, 3) := by decide +kernel
theorem dX9_inchesOf_13 : decode cX9_inchesOf 13 = .ok (.iload_n 1, 1) := by decide +kernel
theorem dX9_inchesOf_14 : decode cX9_inchesOf 14 = .ok (.aload_n 0, 1) := by decide +kernel
theorem dX9_inchesOf_15 : decode cX9_inchesOf 15 = .ok (.getfield 357, 3) := by decide +kernel
theorem dX9_inchesOf_18 : decode cX9_inchesOf 18 = .ok (.isub, 1) := by decide +kernel
theorem dX9_inchesOf_19 : decode cX9_inchesOf 19 = .ok (.invokevirtual 360, 3) := by decide +kernel
theorem dX9_inchesOf_22 : decode cX9_inchesOf 22 = .ok (.istore_n 3, 1) := by decide +kernel
theorem dX9_inchesOf_23 : decode cX9_inchesOf 23 = .ok (.iload_n 2, 1) := by decide +kernel
theorem dX9_inchesOf_24 : decode cX9_inchesOf 24 = .ok (.ifCond .ne 7, 3) := by decide +kernel
theorem dX9_inchesOf_27 : decode cX9_inchesOf 27 = .ok (.iload_n 3, 1) := by decide +kernel
theorem dX9_inchesOf_28 : decode cX9_inchesOf 28 = .ok (.goto 31, 3) := by decide +kernel
theorem dX9_inchesOf_31 : decode cX9_inchesOf 31 = .ok (.iload_n 3, 1) := by decide +kernel
theorem dX9_inchesOf_32 : decode cX9_inchesOf 32 = .ok (.aload_n 0, 1) := by decide +kernel
theorem dX9_inchesOf_33 : decode cX9_inchesOf 33 = .ok (.getfield 78, 3) := by decide +kernel
theorem dX9_inchesOf_36 : decode cX9_inchesOf 36 = .ok (.iconst 4, 1) := by decide +kernel
theorem dX9_inchesOf_37 : decode cX9_inchesOf 37 = .ok (.iaload, 1) := by decide +kernel
theorem dX9_inchesOf_38 : decode cX9_inchesOf 38 = .ok (.iadd, 1) := by decide +kernel
theorem dX9_inchesOf_39 : decode cX9_inchesOf 39 = .ok (.sipush 480, 3) := by decide +kernel
theorem dX9_inchesOf_42 : decode cX9_inchesOf 42 = .ok (.if_icmp .le 9, 3) := by decide +kernel
theorem dX9_inchesOf_45 : decode cX9_inchesOf 45 = .ok (.sipush 480, 3) := by decide +kernel
theorem dX9_inchesOf_48 : decode cX9_inchesOf 48 = .ok (.goto 11, 3) := by decide +kernel
theorem dX9_inchesOf_51 : decode cX9_inchesOf 51 = .ok (.iload_n 3, 1) := by decide +kernel
theorem dX9_inchesOf_52 : decode cX9_inchesOf 52 = .ok (.aload_n 0, 1) := by decide +kernel
theorem dX9_inchesOf_53 : decode cX9_inchesOf 53 = .ok (.getfield 78, 3) := by decide +kernel
theorem dX9_inchesOf_56 : decode cX9_inchesOf 56 = .ok (.iconst 4, 1) := by decide +kernel
theorem dX9_inchesOf_57 : decode cX9_inchesOf 57 = .ok (.iaload, 1) := by decide +kernel
theorem dX9_inchesOf_58 : decode cX9_inchesOf 58 = .ok (.iadd, 1) := by decide +kernel
theorem dX9_inchesOf_59 : decode cX9_inchesOf 59 = .ok (.ireturn, 1) := by decide +kernel
def f_Mo_inchesOf_60_J19 (v2 : Int32) (y1 : Int32) (σ : xS) : Option (Int32 × xS) :=
  (f_Mo_herIn_60 y1 σ).bind fun q1 =>
  let w2 := q1.1
  if v2 = 0 then
    some (w2, q1.2)
  else
    if (w2 + q1.2.1 79 4) ≤ (480 : Int32) then
      some ((w2 + q1.2.1 79 4), q1.2)
    else
      some ((480 : Int32), q1.2)
def f_Mo_inchesOf_60 (v1 : Int32) (v2 : Int32) (σ : xS) : Option (Int32 × xS) :=
  if σ.1 60 59 ≤ v1 then
    f_Mo_inchesOf_60_J19 v2 (v1 - σ.1 60 59) σ
  else
    f_Mo_inchesOf_60_J19 v2 (0 : Int32) σ
set_option maxHeartbeats 4000000 in
set_option maxRecDepth 100000 in
theorem j_Mo_inchesOf_60_J19 {l : Launch} {s0 : State} {a0 : Array Value} {D : va_G} {cA : Nat → ClassId} {sp : Nat → Nat} (E : x_En CL l s0 a0 D cA sp) (v2 : Int32) (y1 : Int32) (σ : xS) {r : Int32} {σ1 : xS} (h : f_Mo_inchesOf_60_J19 v2 y1 σ = some (r, σ1)) : zW l s0 D cA sp (zQ s0 D cA sp (some (.int r)) σ1) (x_rm 1 0 0) M_Mo_inchesOf 0 0 19 [some (.ref 60), none, some (.int v2), none] [.int y1, .ref 60] σ := by
  unfold f_Mo_inchesOf_60_J19 at h
  try dsimp only at h
  obtain ⟨⟨q1r, q1s⟩, q1h, h⟩ := x_bind h
  try dsimp only at h
  refine z_callV E [.int _] [] dX9_inchesOf_19 K_RX9_360 ⟨Nat.le_of_ble_eq_true rfl, Nat.le_of_ble_eq_true rfl⟩ sh_60 (by decide) rfl (c_Mo_herIn_60 E _ q1h) rfl rfl (Nat.le_of_ble_eq_true rfl) 22 rfl [.int _] rfl ?_
  refine x_istore_n 23 rfl 3 dX9_inchesOf_22 rfl (by decide) [some (.ref 60), none, some (.int _), some (.int _)] rfl ?_
  refine x_iload_n 24 rfl 2 dX9_inchesOf_23 rfl rfl ?_
  refine x_if_ne 27 rfl 31 dX9_inchesOf_24 (by decide) (fun hc => ?_) (fun hc => ?_)
  · replace h := x_ifF hc h
    refine x_iload_n 32 rfl 3 dX9_inchesOf_31 rfl rfl ?_
    refine x_aload_n 33 rfl 0 dX9_inchesOf_32 rfl rfl ?_
    refine x_getR E dX9_inchesOf_33 F_RX9_78 sh_60 rf_60_53 36 rfl ?_
    refine x_iconst 37 rfl (v := 4) dX9_inchesOf_36 (by decide) ?_
    refine x_iald E dX9_inchesOf_37 sh_79 4 (by decide) (by decide) 38 rfl ?_
    refine x_iadd 39 rfl dX9_inchesOf_38 ?_
    refine x_sipush 42 rfl (v := 480) dX9_inchesOf_39 (by decide) ?_
    refine x_icmp_le 45 rfl 51 dX9_inchesOf_42 (by decide) (fun hc => ?_) (fun hc => ?_)
    · replace h := x_ifT hc h
      refine x_iload_n 52 rfl 3 dX9_inchesOf_51 rfl rfl ?_
      refine x_aload_n 53 rfl 0 dX9_inchesOf_52 rfl rfl ?_
      refine x_getR E dX9_inchesOf_53 F_RX9_78 sh_60 rf_60_53 56 rfl ?_
      refine x_iconst 57 rfl (v := 4) dX9_inchesOf_56 (by decide) ?_
      refine x_iald E dX9_inchesOf_57 sh_79 4 (by decide) (by decide) 58 rfl ?_
      refine x_iadd 59 rfl dX9_inchesOf_58 ?_
      cases h
      exact x_iret dX9_inchesOf_59 rfl rfl rfl
    · replace h := x_ifF hc h
      refine x_sipush 48 rfl (v := 480) dX9_inchesOf_45 (by decide) ?_
      refine x_goto 59 dX9_inchesOf_48 (by decide) ?_
      cases h
      exact x_iret dX9_inchesOf_59 rfl rfl rfl
  · replace h := x_ifT hc h
    refine x_iload_n 28 rfl 3 dX9_inchesOf_27 rfl rfl ?_
    refine x_goto 59 dX9_inchesOf_28 (by decide) ?_
    cases h
    exact x_iret dX9_inchesOf_59 rfl rfl rfl
set_option maxHeartbeats 4000000 in
set_option maxRecDepth 100000 in
theorem c_Mo_inchesOf_60 {l : Launch} {s0 : State} {a0 : Array Value} {D : va_G} {cA : Nat → ClassId} {sp : Nat → Nat} (E : x_En CL l s0 a0 D cA sp) (v1 : Int32) (v2 : Int32) {σ : xS} {r : Int32} {σ1 : xS} (h : f_Mo_inchesOf_60 v1 v2 σ = some (r, σ1)) : zC l s0 D cA sp 1 M_Mo_inchesOf [.ref 60, .int v1, .int v2] σ (some (.int r)) σ1 := by
  unfold f_Mo_inchesOf_60 at h
  try dsimp only at h
  refine x_enter [some (.ref 60), some (.int v1), some (.int v2), none] rfl (Nat.le_of_ble_eq_true rfl) (by decide +kernel) rfl ?_
  refine x_aload_n 1 rfl 0 dX9_inchesOf_0 rfl rfl ?_
  refine x_iload_n 2 rfl 1 dX9_inchesOf_1 rfl rfl ?_
  refine x_aload_n 3 rfl 0 dX9_inchesOf_2 rfl rfl ?_
  refine x_getI E dX9_inchesOf_3 F_RX9_357 sh_60 6 rfl ?_
  refine x_icmp_ge 9 rfl 13 dX9_inchesOf_6 (by decide) (fun hc => ?_) (fun hc => ?_)
  · replace h := x_ifT hc h
    refine x_iload_n 14 rfl 1 dX9_inchesOf_13 rfl rfl ?_
    refine x_aload_n 15 rfl 0 dX9_inchesOf_14 rfl rfl ?_
    refine x_getI E dX9_inchesOf_15 F_RX9_357 sh_60 18 rfl ?_
    refine x_isub 19 rfl dX9_inchesOf_18 ?_
    exact x_wk (x_le_s (x_le_n (x_le_s (x_le_n x_le_0)))) (j_Mo_inchesOf_60_J19 E _ _ _ h)
  · replace h := x_ifF hc h
    refine x_iconst 10 rfl (v := 0) dX9_inchesOf_9 (by decide) ?_
    refine x_goto 19 dX9_inchesOf_10 (by decide) ?_
    exact x_wk (x_le_s (x_le_n (x_le_s (x_le_n x_le_0)))) (j_Mo_inchesOf_60_J19 E _ _ _ h)
abbrev M_Mo_whoseBy : xM := (yX9_whoseBy, cX9_whoseBy, 5, some .int, [])
theorem dX9_whoseBy_0 : decode cX9_whoseBy 0 = .ok (.iconst 0, 1) := by decide +kernel
theorem dX9_whoseBy_1 : decode cX9_whoseBy 1 = .ok (.istore_n 3, 1) := by decide +kernel
theorem dX9_whoseBy_2 : decode cX9_whoseBy 2 = .ok (.iconst 0, 1) := by decide +kernel
theorem dX9_whoseBy_3 : decode cX9_whoseBy 3 = .ok (.istore 4, 2) := by decide +kernel
theorem dX9_whoseBy_5 : decode cX9_whoseBy 5 = .ok (.iload 4, 2) := by decide +kernel
theorem dX9_whoseBy_7 : decode cX9_whoseBy 7 = .ok (.aload_n 0, 1) := by decide +kernel
theorem dX9_whoseBy_8 : decode cX9_whoseBy 8 = .ok (.getfield 327, 3) := by decide +kernel
theorem dX9_whoseBy_11 : decode cX9_whoseBy 11 = .ok (.if_icmp .ge 30, 3) := by decide +kernel
theorem dX9_whoseBy_14 : decode cX9_whoseBy 14 = .ok (.aload_n 0, 1) := by decide +kernel
theorem dX9_whoseBy_15 : decode cX9_whoseBy 15 = .ok (.getfield 26, 3) := by decide +kernel
theorem dX9_whoseBy_18 : decode cX9_whoseBy 18 = .ok (.iload 4, 2) := by decide +kernel
theorem dX9_whoseBy_20 : decode cX9_whoseBy 20 = .ok (.iaload, 1) := by decide +kernel
theorem dX9_whoseBy_21 : decode cX9_whoseBy 21 = .ok (.iload_n 2, 1) := by decide +kernel
theorem dX9_whoseBy_22 : decode cX9_whoseBy 22 = .ok (.iadd, 1) := by decide +kernel
theorem dX9_whoseBy_23 : decode cX9_whoseBy 23 = .ok (.iload_n 1, 1) := by decide +kernel
theorem dX9_whoseBy_24 : decode cX9_whoseBy 24 = .ok (.if_icmp .gt 11, 3) := by decide +kernel
theorem dX9_whoseBy_27 : decode cX9_whoseBy 27 = .ok (.aload_n 0, 1) := by decide +kernel
theorem dX9_whoseBy_28 : decode cX9_whoseBy 28 = .ok (.getfield 29, 3) := by decide +kernel
theorem dX9_whoseBy_31 : decode cX9_whoseBy 31 = .ok (.iload 4, 2) := by decide +kernel
theorem dX9_whoseBy_33 : decode cX9_whoseBy 33 = .ok (.iaload, 1) := by decide +kernel
theorem dX9_whoseBy_34 : decode cX9_whoseBy 34 = .ok (.istore_n 3, 1) := by decide +kernel
theorem dX9_whoseBy_35 : decode cX9_whoseBy 35 = .ok (.iinc 4 1, 3) := by decide +kernel
theorem dX9_whoseBy_38 : decode cX9_whoseBy 38 = .ok (.goto (-33), 3) := by decide +kernel
theorem dX9_whoseBy_41 : decode cX9_whoseBy 41 = .ok (.iload_n 3, 1) := by decide +kernel
theorem dX9_whoseBy_42 : decode cX9_whoseBy 42 = .ok (.ireturn, 1) := by decide +kernel
def f_Mo_whoseBy_60_L5 (v1 : Int32) (v2 : Int32) (a : Int32 × Int32 × xS) : Option ((Int32 × Int32 × xS) ⊕ (Int32 × Int32 × xS)) :=
  let v3 := a.1; let v4 := a.2.1; let σ := a.2.2;
  if σ.1 60 3 ≤ v4 then
    some (.inl (v3, v4, σ))
  else
    if v4 < 0 ∨ 6 ≤ v4.toNatClampNeg then none else
    if v1 < (σ.1 63 v4.toNatClampNeg + v2) then
      let w1 := v4 + (1 : Int32)
      some (.inr (v3, w1, σ))
    else
      if v4 < 0 ∨ 6 ≤ v4.toNatClampNeg then none else
      let w2 := σ.1 64 v4.toNatClampNeg
      let w3 := v4 + (1 : Int32)
      some (.inr (w2, w3, σ))
def f_Mo_whoseBy_60 (v1 : Int32) (v2 : Int32) (σ : xS) : Option (Int32 × xS) :=
  (x_it (f_Mo_whoseBy_60_L5 v1 v2) 10000 ((0 : Int32), (0 : Int32), σ)).bind fun b4 =>
  some (b4.1, b4.2.2)
set_option maxHeartbeats 4000000 in
set_option maxRecDepth 100000 in
theorem b_Mo_whoseBy_60_L5 {l : Launch} {s0 : State} {a0 : Array Value} {D : va_G} {cA : Nat → ClassId} {sp : Nat → Nat} (E : x_En CL l s0 a0 D cA sp) (v1 : Int32) (v2 : Int32) {r : Int32} {σ1 : xS} (a : Int32 × Int32 × xS) (o : (Int32 × Int32 × xS) ⊕ (Int32 × Int32 × xS)) (h : f_Mo_whoseBy_60_L5 v1 v2 a = some o) (hK : ∀ b, o = .inl b → zW l s0 D cA sp (zQ s0 D cA sp (some (.int r)) σ1) (x_rm 0 0 0) M_Mo_whoseBy 0 0 41 [none, none, none, some (.int b.1), none] [] b.2.2) (hG : ∀ a', o = .inr a' → zW l s0 D cA sp (zQ s0 D cA sp (some (.int r)) σ1) (x_rm 0 0 0) M_Mo_whoseBy 0 0 5 [some (.ref 60), some (.int v1), some (.int v2), some (.int a'.1), some (.int a'.2.1)] [] a'.2.2) : zW l s0 D cA sp (zQ s0 D cA sp (some (.int r)) σ1) (x_rm 0 0 0) M_Mo_whoseBy 0 0 5 [some (.ref 60), some (.int v1), some (.int v2), some (.int a.1), some (.int a.2.1)] [] a.2.2 := by
  obtain ⟨v3, v4, σ⟩ := a
  unfold f_Mo_whoseBy_60_L5 at h
  try dsimp only at h ⊢
  refine x_iload 7 rfl dX9_whoseBy_5 rfl ?_
  refine x_aload_n 8 rfl 0 dX9_whoseBy_7 rfl rfl ?_
  refine x_getI E dX9_whoseBy_8 F_RX9_327 sh_60 11 rfl ?_
  refine x_icmp_ge 14 rfl 41 dX9_whoseBy_11 (by decide) (fun hc => ?_) (fun hc => ?_)
  · replace h := x_ifT hc h
    cases h
    exact x_wk (x_le_n (x_le_n (x_le_n (x_le_s (x_le_n x_le_0))))) (hK (_, _, _) rfl)
  · replace h := x_ifF hc h
    refine x_aload_n 15 rfl 0 dX9_whoseBy_14 rfl rfl ?_
    refine x_getR E dX9_whoseBy_15 F_RX9_26 sh_60 rf_60_10 18 rfl ?_
    refine x_iload 20 rfl dX9_whoseBy_18 rfl ?_
    obtain ⟨hz, h⟩ := x_ifn h
    refine x_iald E dX9_whoseBy_20 sh_63 _ rfl hz 21 rfl ?_
    refine x_iload_n 22 rfl 2 dX9_whoseBy_21 rfl rfl ?_
    refine x_iadd 23 rfl dX9_whoseBy_22 ?_
    refine x_iload_n 24 rfl 1 dX9_whoseBy_23 rfl rfl ?_
    refine x_icmp_gt 27 rfl 35 dX9_whoseBy_24 (by decide) (fun hc => ?_) (fun hc => ?_)
    · replace h := x_ifT hc h
      refine x_iinc 38 rfl (1) dX9_whoseBy_35 rfl (by decide) (by decide) [some (.ref 60), some (.int _), some (.int _), some (.int _), some (.int _)] rfl ?_
      refine x_goto 5 dX9_whoseBy_38 (by decide) ?_
      cases h
      exact x_wk (x_le_s (x_le_s (x_le_s (x_le_s (x_le_s x_le_0))))) (hG (_, _, _) rfl)
    · replace h := x_ifF hc h
      refine x_aload_n 28 rfl 0 dX9_whoseBy_27 rfl rfl ?_
      refine x_getR E dX9_whoseBy_28 F_RX9_29 sh_60 rf_60_11 31 rfl ?_
      refine x_iload 33 rfl dX9_whoseBy_31 rfl ?_
      obtain ⟨hz, h⟩ := x_ifn h
      refine x_iald E dX9_whoseBy_33 sh_64 _ rfl hz 34 rfl ?_
      refine x_istore_n 35 rfl 3 dX9_whoseBy_34 rfl (by decide) [some (.ref 60), some (.int _), some (.int _), some (.int _), some (.int _)] rfl ?_
      refine x_iinc 38 rfl (1) dX9_whoseBy_35 rfl (by decide) (by decide) [some (.ref 60), some (.int _), some (.int _), some (.int _), some (.int _)] rfl ?_
      refine x_goto 5 dX9_whoseBy_38 (by decide) ?_
      cases h
      exact x_wk (x_le_s (x_le_s (x_le_s (x_le_s (x_le_s x_le_0))))) (hG (_, _, _) rfl)
set_option maxHeartbeats 4000000 in
set_option maxRecDepth 100000 in
theorem c_Mo_whoseBy_60 {l : Launch} {s0 : State} {a0 : Array Value} {D : va_G} {cA : Nat → ClassId} {sp : Nat → Nat} (E : x_En CL l s0 a0 D cA sp) (v1 : Int32) (v2 : Int32) {σ : xS} {r : Int32} {σ1 : xS} (h : f_Mo_whoseBy_60 v1 v2 σ = some (r, σ1)) : zC l s0 D cA sp 0 M_Mo_whoseBy [.ref 60, .int v1, .int v2] σ (some (.int r)) σ1 := by
  unfold f_Mo_whoseBy_60 at h
  try dsimp only at h
  refine x_enter [some (.ref 60), some (.int v1), some (.int v2), none, none] rfl (Nat.le_of_ble_eq_true rfl) (by decide +kernel) rfl ?_
  refine x_iconst 1 rfl (v := 0) dX9_whoseBy_0 (by decide) ?_
  refine x_istore_n 2 rfl 3 dX9_whoseBy_1 rfl (by decide) [some (.ref 60), some (.int _), some (.int _), some (.int _), none] rfl ?_
  refine x_iconst 3 rfl (v := 0) dX9_whoseBy_2 (by decide) ?_
  refine x_istore 5 rfl dX9_whoseBy_3 (by decide) [some (.ref 60), some (.int _), some (.int _), some (.int _), some (.int _)] rfl ?_
  obtain ⟨b4, b4h, h⟩ := x_bind h
  try dsimp only at h
  refine x_wk (x_le_s (x_le_s (x_le_s (x_le_s (x_le_s x_le_0))))) (x_loop (fun a o h hK hG => b_Mo_whoseBy_60_L5 (r := r) (σ1 := σ1) E _ _ a o h hK hG) _ _ _ b4h ?_)
  refine x_iload_n 42 rfl 3 dX9_whoseBy_41 rfl rfl ?_
  cases h
  exact x_iret dX9_whoseBy_42 rfl rfl rfl
theorem K_RX9_363 : x_KV RX9 363 M_Mo_whoseBy 2 := ⟨⟨(List.mem_append_right _ (List.mem_of_getElem? (i := 1691) (by decide +kernel))), (List.mem_append_right _ (List.mem_of_getElem? (i := 1694) (by decide +kernel))), (List.mem_append_right _ (List.mem_of_getElem? (i := 9) (by decide +kernel))), ⟨by decide +kernel, by decide +kernel⟩, by decide +kernel⟩, (List.mem_append_right _ (List.mem_of_getElem? (i := 1693) (by decide +kernel))), (List.mem_append_left _ (List.mem_of_getElem? (i := 85) (by decide +kernel)))⟩
abbrev M_Mo_whoseIn : xM := (yX9_whoseIn, cX9_whoseIn, 2, some .int, [])
theorem dX9_whoseIn_0 : decode cX9_whoseIn 0 = .ok (.aload_n 0, 1) := by decide +kernel
theorem dX9_whoseIn_1 : decode cX9_whoseIn 1 = .ok (.iload_n 1, 1) := by decide +kernel
theorem dX9_whoseIn_2 : decode cX9_whoseIn 2 = .ok (.iconst 0, 1) := by decide +kernel
theorem dX9_whoseIn_3 : decode cX9_whoseIn 3 = .ok (.invokevirtual 363, 3) := by decide +kernel
theorem dX9_whoseIn_6 : decode cX9_whoseIn 6 = .ok (.ireturn, 1) := by decide +kernel
def f_Mo_whoseIn_60 (v1 : Int32) (σ : xS) : Option (Int32 × xS) :=
  (f_Mo_whoseBy_60 v1 (0 : Int32) σ).bind fun q1 =>
  some (q1.1, q1.2)
set_option maxHeartbeats 4000000 in
set_option maxRecDepth 100000 in
theorem c_Mo_whoseIn_60 {l : Launch} {s0 : State} {a0 : Array Value} {D : va_G} {cA : Nat → ClassId} {sp : Nat → Nat} (E : x_En CL l s0 a0 D cA sp) (v1 : Int32) {σ : xS} {r : Int32} {σ1 : xS} (h : f_Mo_whoseIn_60 v1 σ = some (r, σ1)) : zC l s0 D cA sp 1 M_Mo_whoseIn [.ref 60, .int v1] σ (some (.int r)) σ1 := by
  unfold f_Mo_whoseIn_60 at h
  try dsimp only at h
  refine x_enter [some (.ref 60), some (.int v1)] rfl (Nat.le_of_ble_eq_true rfl) (by decide +kernel) rfl ?_
  refine x_aload_n 1 rfl 0 dX9_whoseIn_0 rfl rfl ?_
  refine x_iload_n 2 rfl 1 dX9_whoseIn_1 rfl rfl ?_
  refine x_iconst 3 rfl (v := 0) dX9_whoseIn_2 (by decide) ?_
  obtain ⟨⟨q1r, q1s⟩, q1h, h⟩ := x_bind h
  try dsimp only at h
  refine z_callV E [.int _, .int _] [] dX9_whoseIn_3 K_RX9_363 ⟨Nat.le_of_ble_eq_true rfl, Nat.le_of_ble_eq_true rfl⟩ sh_60 (by decide) rfl (c_Mo_whoseBy_60 E _ _ q1h) rfl rfl (Nat.le_of_ble_eq_true rfl) 6 rfl [.int _] rfl ?_
  cases h
  exact x_iret dX9_whoseIn_6 rfl rfl rfl
theorem K_RX9_366 : x_KV RX9 366 M_Mo_reckons 1 := ⟨⟨(List.mem_append_right _ (List.mem_of_getElem? (i := 1669) (by decide +kernel))), (List.mem_append_right _ (List.mem_of_getElem? (i := 1672) (by decide +kernel))), (List.mem_append_right _ (List.mem_of_getElem? (i := 9) (by decide +kernel))), ⟨by decide +kernel, by decide +kernel⟩, by decide +kernel⟩, (List.mem_append_right _ (List.mem_of_getElem? (i := 1671) (by decide +kernel))), (List.mem_append_left _ (List.mem_of_getElem? (i := 82) (by decide +kernel)))⟩
theorem K_RX9_369 : x_KS RX9 369 M_Mo_bounded 3 := ⟨⟨(List.mem_append_right _ (List.mem_of_getElem? (i := 1676) (by decide +kernel))), (List.mem_append_right _ (List.mem_of_getElem? (i := 1678) (by decide +kernel))), (List.mem_append_right _ (List.mem_of_getElem? (i := 9) (by decide +kernel))), ⟨by decide +kernel, by decide +kernel⟩, by decide +kernel⟩, (List.mem_append_right _ (List.mem_of_getElem? (i := 1677) (by decide +kernel)))⟩
abbrev M_Mo_turnOf : xM := (yX9_turnOf, cX9_turnOf, 2, some .int, [])
theorem dX9_turnOf_0 : decode cX9_turnOf 0 = .ok (.aload_n 0, 1) := by decide +kernel
theorem dX9_turnOf_1 : decode cX9_turnOf 1 = .ok (.getfield 13, 3) := by decide +kernel
theorem dX9_turnOf_4 : decode cX9_turnOf 4 = .ok (.iconst (-1), 1) := by decide +kernel
theorem dX9_turnOf_5 : decode cX9_turnOf 5 = .ok (.if_icmp .ne 9, 3) := by decide +kernel
theorem dX9_turnOf_8 : decode cX9_turnOf 8 = .ok (.sipush 4320, 3) := by decide +kernel
theorem dX9_turnOf_11 : decode cX9_turnOf 11 = .ok (.iload_n 1, 1) := by decide +kernel
theorem dX9_turnOf_12 : decode cX9_turnOf 12 = .ok (.idiv, 1) := by decide +kernel
theorem dX9_turnOf_13 : decode cX9_turnOf 13 = .ok (.ireturn, 1) := by decide +kernel
theorem dX9_turnOf_14 : decode cX9_turnOf 14 = .ok (.aload_n 0, 1) := by decide +kernel
theorem dX9_turnOf_15 : decode cX9_turnOf 15 = .ok (.getfield 87, 3) := by decide +kernel
theorem dX9_turnOf_18 : decode cX9_turnOf 18 = .ok (.iconst 5, 1) := by decide +kernel
theorem dX9_turnOf_19 : decode cX9_turnOf 19 = .ok (.iload_n 1, 1) := by decide +kernel
theorem dX9_turnOf_20 : decode cX9_turnOf 20 = .ok (.iastore, 1) := by decide +kernel
theorem dX9_turnOf_21 : decode cX9_turnOf 21 = .ok (.aload_n 0, 1) := by decide +kernel
theorem dX9_turnOf_22 : decode cX9_turnOf 22 = .ok (.aload_n 0, 1) := by decide +kernel
theorem dX9_turnOf_23 : decode cX9_turnOf 23 = .ok (.getfield 13, 3) := by decide +kernel
theorem dX9_turnOf_26 : decode cX9_turnOf 26 = .ok (.invokevirtual 366, 3) := by decide +kernel
theorem dX9_turnOf_29 : decode cX9_turnOf 29 = .ok (.iconst 0, 1) := by decide +kernel
theorem dX9_turnOf_30 : decode cX9_turnOf 30 = .ok (.sipush 999, 3) := by decide +kernel
theorem dX9_turnOf_33 : decode cX9_turnOf 33 = .ok (.invokestatic 369, 3) := by decide +kernel
theorem dX9_turnOf_36 : decode cX9_turnOf 36 = .ok (.ireturn, 1) := by decide +kernel
def f_Mo_turnOf_60 (v1 : Int32) (σ : xS) : Option (Int32 × xS) :=
  if σ.1 60 6 = (-1 : Int32) then
    if v1 = 0 then none else
    some (((4320 : Int32) / v1), σ)
  else
    let σ1 := x_pI σ 82 5 v1
    (f_Mo_reckons_60 (σ1.1 60 6) σ1).bind fun q2 =>
    (f_Mo_bounded q2.1 (0 : Int32) (999 : Int32) q2.2).bind fun q3 =>
    some (q3.1, q3.2)
set_option maxHeartbeats 4000000 in
set_option maxRecDepth 100000 in
theorem c_Mo_turnOf_60 {l : Launch} {s0 : State} {a0 : Array Value} {D : va_G} {cA : Nat → ClassId} {sp : Nat → Nat} (E : x_En CL l s0 a0 D cA sp) (v1 : Int32) {σ : xS} {r : Int32} {σ1 : xS} (h : f_Mo_turnOf_60 v1 σ = some (r, σ1)) : zC l s0 D cA sp 2 M_Mo_turnOf [.ref 60, .int v1] σ (some (.int r)) σ1 := by
  unfold f_Mo_turnOf_60 at h
  try dsimp only at h
  refine x_enter [some (.ref 60), some (.int v1)] rfl (Nat.le_of_ble_eq_true rfl) (by decide +kernel) rfl ?_
  refine x_aload_n 1 rfl 0 dX9_turnOf_0 rfl rfl ?_
  refine x_getI E dX9_turnOf_1 F_RX9_13 sh_60 4 rfl ?_
  refine x_iconst 5 rfl (v := -1) dX9_turnOf_4 (by decide) ?_
  refine x_icmp_ne 8 rfl 14 dX9_turnOf_5 (by decide) (fun hc => ?_) (fun hc => ?_)
  · replace h := x_ifF hc h
    refine x_aload_n 15 rfl 0 dX9_turnOf_14 rfl rfl ?_
    refine x_getR E dX9_turnOf_15 F_RX9_87 sh_60 rf_60_57 18 rfl ?_
    refine x_iconst 19 rfl (v := 5) dX9_turnOf_18 (by decide) ?_
    refine x_iload_n 20 rfl 1 dX9_turnOf_19 rfl rfl ?_
    refine x_iast E dX9_turnOf_20 sh_82 5 (by decide) (by decide) 21 rfl ?_
    refine x_aload_n 22 rfl 0 dX9_turnOf_21 rfl rfl ?_
    refine x_aload_n 23 rfl 0 dX9_turnOf_22 rfl rfl ?_
    refine x_getI E dX9_turnOf_23 F_RX9_13 sh_60 26 rfl ?_
    obtain ⟨⟨q2r, q2s⟩, q2h, h⟩ := x_bind h
    try dsimp only at h
    refine z_callV E [.int _] [] dX9_turnOf_26 K_RX9_366 ⟨Nat.le_of_ble_eq_true rfl, Nat.le_of_ble_eq_true rfl⟩ sh_60 (by decide) rfl (c_Mo_reckons_60 E _ q2h) rfl rfl (Nat.le_of_ble_eq_true rfl) 29 rfl [.int _] rfl ?_
    refine x_iconst 30 rfl (v := 0) dX9_turnOf_29 (by decide) ?_
    refine x_sipush 33 rfl (v := 999) dX9_turnOf_30 (by decide) ?_
    obtain ⟨⟨q3r, q3s⟩, q3h, h⟩ := x_bind h
    try dsimp only at h
    refine z_callS E [.int _, .int _, .int _] [] dX9_turnOf_33 K_RX9_369 ⟨Nat.le_of_ble_eq_true rfl, Nat.le_of_ble_eq_true rfl⟩ (c_Mo_bounded E _ _ _ q3h) rfl rfl (Nat.le_of_ble_eq_true rfl) 36 rfl [.int _] rfl ?_
    cases h
    exact x_iret dX9_turnOf_36 rfl rfl rfl
  · replace h := x_ifT hc h
    refine x_sipush 11 rfl (v := 4320) dX9_turnOf_8 (by decide) ?_
    refine x_iload_n 12 rfl 1 dX9_turnOf_11 rfl rfl ?_
    obtain ⟨hz, h⟩ := x_ifn h
    refine x_idiv 13 rfl dX9_turnOf_12 hz ?_
    cases h
    exact x_iret dX9_turnOf_13 rfl rfl rfl
theorem K_RX9_372 : x_KS RX9 372 M_Mo_off 2 := ⟨⟨(List.mem_append_right _ (List.mem_of_getElem? (i := 1703) (by decide +kernel))), (List.mem_append_right _ (List.mem_of_getElem? (i := 1705) (by decide +kernel))), (List.mem_append_right _ (List.mem_of_getElem? (i := 9) (by decide +kernel))), ⟨by decide +kernel, by decide +kernel⟩, by decide +kernel⟩, (List.mem_append_right _ (List.mem_of_getElem? (i := 1704) (by decide +kernel)))⟩
abbrev M_Mo_isByMark : xM := (yX9_isByMark, cX9_isByMark, 3, some .boolean, [])
theorem dX9_isByMark_0 : decode cX9_isByMark 0 = .ok (.iconst 0, 1) := by decide +kernel
theorem dX9_isByMark_1 : decode cX9_isByMark 1 = .ok (.istore_n 2, 1) := by decide +kernel
theorem dX9_isByMark_2 : decode cX9_isByMark 2 = .ok (.iload_n 2, 1) := by decide +kernel
theorem dX9_isByMark_3 : decode cX9_isByMark 3 = .ok (.aload_n 0, 1) := by decide +kernel
theorem dX9_isByMark_4 : decode cX9_isByMark 4 = .ok (.getfield 330, 3) := by decide +kernel
theorem dX9_isByMark_7 : decode cX9_isByMark 7 = .ok (.if_icmp .ge 29, 3) := by decide +kernel
theorem dX9_isByMark_10 : decode cX9_isByMark 10 = .ok (.iload_n 1, 1) := by decide +kernel
theorem dX9_isByMark_11 : decode cX9_isByMark 11 = .ok (.aload_n 0, 1) := by decide +kernel
theorem dX9_isByMark_12 : decode cX9_isByMark 12 = .ok (.getfield 78, 3) := by decide +kernel
theorem dX9_isByMark_15 : decode cX9_isByMark 15 = .ok (.bipush 6, 2) := by decide +kernel
theorem dX9_isByMark_17 : decode cX9_isByMark 17 = .ok (.iload_n 2, 1) := by decide +kernel
theorem dX9_isByMark_18 : decode cX9_isByMark 18 = .ok (.iadd, 1) := by decide +kernel
theorem dX9_isByMark_19 : decode cX9_isByMark 19 = .ok (.iaload, 1) := by decide +kernel
theorem dX9_isByMark_20 : decode cX9_isByMark 20 = .ok (.invokestatic 372, 3) := by decide +kernel
theorem dX9_isByMark_23 : decode cX9_isByMark 23 = .ok (.bipush 6, 2) := by decide +kernel
theorem dX9_isByMark_25 : decode cX9_isByMark 25 = .ok (.if_icmp .gt 5, 3) := by decide +kernel
theorem dX9_isByMark_28 : decode cX9_isByMark 28 = .ok (.iconst 1, 1) := by decide +kernel
theorem dX9_isByMark_29 : decode cX9_isByMark 29 = .ok (.ireturn, 1) := by decide +kernel
theorem dX9_isByMark_30 : decode cX9_isByMark 30 = .ok (.iinc 2 1, 3) := by decide +kernel
theorem dX9_isByMark_33 : decode cX9_isByMark 33 = .ok (.goto (-31), 3) := by decide +kernel
theorem dX9_isByMark_36 : decode cX9_isByMark 36 = .ok (.iconst 0, 1) := by decide +kernel
theorem dX9_isByMark_37 : decode cX9_isByMark 37 = .ok (.ireturn, 1) := by decide +kernel
def f_Mo_isByMark_60_L2 (v1 : Int32) (a : Int32 × xS) : Option (((Int32 × xS) ⊕ (Int32 × xS)) ⊕ (Int32 × xS)) :=
  let v2 := a.1; let σ := a.2;
  if σ.1 60 4 ≤ v2 then
    some (.inl (.inr (v2, σ)))
  else
    if ((6 : Int32) + v2) < 0 ∨ 12 ≤ ((6 : Int32) + v2).toNatClampNeg then none else
    (f_Mo_off v1 (σ.1 79 ((6 : Int32) + v2).toNatClampNeg) σ).bind fun q1 =>
    if (6 : Int32) < q1.1 then
      let w2 := v2 + (1 : Int32)
      some (.inr (w2, q1.2))
    else
      some (.inl (.inl ((1 : Int32), q1.2)))
def f_Mo_isByMark_60 (v1 : Int32) (σ : xS) : Option (Int32 × xS) :=
  (x_it (f_Mo_isByMark_60_L2 v1) 10000 ((0 : Int32), σ)).bind fun b3 =>
  match b3 with
  | .inl b3r => some b3r
  | .inr b3e =>
    some ((0 : Int32), b3e.2)
set_option maxHeartbeats 4000000 in
set_option maxRecDepth 100000 in
theorem b_Mo_isByMark_60_L2 {l : Launch} {s0 : State} {a0 : Array Value} {D : va_G} {cA : Nat → ClassId} {sp : Nat → Nat} (E : x_En CL l s0 a0 D cA sp) (v1 : Int32) {r : Int32} {σ1 : xS} (a : Int32 × xS) (o : ((Int32 × xS) ⊕ (Int32 × xS)) ⊕ (Int32 × xS)) (h : f_Mo_isByMark_60_L2 v1 a = some o) (hK : ∀ b, o = .inl b → (∀ q, b = .inl q → q = (r, σ1)) ∧ ∀ e, b = .inr e → zW l s0 D cA sp (zQ s0 D cA sp (some (.int r)) σ1) (x_rm 1 0 0) M_Mo_isByMark 0 0 36 [none, none, none] [] e.2) (hG : ∀ a', o = .inr a' → zW l s0 D cA sp (zQ s0 D cA sp (some (.int r)) σ1) (x_rm 1 0 0) M_Mo_isByMark 0 0 2 [some (.ref 60), some (.int v1), some (.int a'.1)] [] a'.2) : zW l s0 D cA sp (zQ s0 D cA sp (some (.int r)) σ1) (x_rm 1 0 0) M_Mo_isByMark 0 0 2 [some (.ref 60), some (.int v1), some (.int a.1)] [] a.2 := by
  obtain ⟨v2, σ⟩ := a
  unfold f_Mo_isByMark_60_L2 at h
  try dsimp only at h ⊢
  refine x_iload_n 3 rfl 2 dX9_isByMark_2 rfl rfl ?_
  refine x_aload_n 4 rfl 0 dX9_isByMark_3 rfl rfl ?_
  refine x_getI E dX9_isByMark_4 F_RX9_330 sh_60 7 rfl ?_
  refine x_icmp_ge 10 rfl 36 dX9_isByMark_7 (by decide) (fun hc => ?_) (fun hc => ?_)
  · replace h := x_ifT hc h
    cases h
    exact x_wk (x_le_n (x_le_n (x_le_n x_le_0))) ((hK (.inr (_, _)) rfl).2 (_, _) rfl)
  · replace h := x_ifF hc h
    refine x_iload_n 11 rfl 1 dX9_isByMark_10 rfl rfl ?_
    refine x_aload_n 12 rfl 0 dX9_isByMark_11 rfl rfl ?_
    refine x_getR E dX9_isByMark_12 F_RX9_78 sh_60 rf_60_53 15 rfl ?_
    refine x_bipush 17 rfl (v := 6) dX9_isByMark_15 (by decide) ?_
    refine x_iload_n 18 rfl 2 dX9_isByMark_17 rfl rfl ?_
    refine x_iadd 19 rfl dX9_isByMark_18 ?_
    obtain ⟨hz, h⟩ := x_ifn h
    refine x_iald E dX9_isByMark_19 sh_79 _ rfl hz 20 rfl ?_
    obtain ⟨⟨q1r, q1s⟩, q1h, h⟩ := x_bind h
    try dsimp only at h
    refine z_callS E [.int _, .int _] [] dX9_isByMark_20 K_RX9_372 ⟨Nat.le_of_ble_eq_true rfl, Nat.le_of_ble_eq_true rfl⟩ (c_Mo_off E _ _ q1h) rfl rfl (Nat.le_of_ble_eq_true rfl) 23 rfl [.int _] rfl ?_
    refine x_bipush 25 rfl (v := 6) dX9_isByMark_23 (by decide) ?_
    refine x_icmp_gt 28 rfl 30 dX9_isByMark_25 (by decide) (fun hc => ?_) (fun hc => ?_)
    · replace h := x_ifT hc h
      refine x_iinc 33 rfl (1) dX9_isByMark_30 rfl (by decide) (by decide) [some (.ref 60), some (.int _), some (.int _)] rfl ?_
      refine x_goto 2 dX9_isByMark_33 (by decide) ?_
      cases h
      exact x_wk (x_le_s (x_le_s (x_le_s x_le_0))) (hG (_, _) rfl)
    · replace h := x_ifF hc h
      refine x_iconst 29 rfl (v := 1) dX9_isByMark_28 (by decide) ?_
      cases h
      cases (hK (.inl (_, _)) rfl).1 (_, _) rfl
      exact x_zret (Or.inr rfl) dX9_isByMark_29 rfl rfl rfl
set_option maxHeartbeats 4000000 in
set_option maxRecDepth 100000 in
theorem c_Mo_isByMark_60 {l : Launch} {s0 : State} {a0 : Array Value} {D : va_G} {cA : Nat → ClassId} {sp : Nat → Nat} (E : x_En CL l s0 a0 D cA sp) (v1 : Int32) {σ : xS} {r : Int32} {σ1 : xS} (h : f_Mo_isByMark_60 v1 σ = some (r, σ1)) : zC l s0 D cA sp 1 M_Mo_isByMark [.ref 60, .int v1] σ (some (.int r)) σ1 := by
  unfold f_Mo_isByMark_60 at h
  try dsimp only at h
  refine x_enter [some (.ref 60), some (.int v1), none] rfl (Nat.le_of_ble_eq_true rfl) (by decide +kernel) rfl ?_
  refine x_iconst 1 rfl (v := 0) dX9_isByMark_0 (by decide) ?_
  refine x_istore_n 2 rfl 2 dX9_isByMark_1 rfl (by decide) [some (.ref 60), some (.int _), some (.int _)] rfl ?_
  obtain ⟨b3, b3h, h⟩ := x_bind h
  try dsimp only at h
  refine x_wk (x_le_s (x_le_s (x_le_s x_le_0))) (x_loop (fun a o h hK hG => b_Mo_isByMark_60_L2 (r := r) (σ1 := σ1) E _ a o h hK hG) _ _ _ b3h ?_)
  cases b3 with
  | inl b3r =>
    try dsimp only at h
    cases h
    exact ⟨fun q e => (by cases e; rfl), fun e he => (by cases he)⟩
  | inr b3e =>
    try dsimp only at h
    refine ⟨fun q e => (by cases e), fun e he => ?_⟩
    cases he
    refine x_iconst 37 rfl (v := 0) dX9_isByMark_36 (by decide) ?_
    cases h
    exact x_zret (Or.inl rfl) dX9_isByMark_37 rfl rfl rfl
theorem K_RX9_375 : x_KV RX9 375 M_Mo_isByMark 1 := ⟨⟨(List.mem_append_right _ (List.mem_of_getElem? (i := 1699) (by decide +kernel))), (List.mem_append_right _ (List.mem_of_getElem? (i := 1702) (by decide +kernel))), (List.mem_append_right _ (List.mem_of_getElem? (i := 9) (by decide +kernel))), ⟨by decide +kernel, by decide +kernel⟩, by decide +kernel⟩, (List.mem_append_right _ (List.mem_of_getElem? (i := 1701) (by decide +kernel))), (List.mem_append_left _ (List.mem_of_getElem? (i := 87) (by decide +kernel)))⟩
abbrev M_Mo_judged : xM := (yX9_judged, cX9_judged, 2, some .int, [])
theorem dX9_judged_0 : decode cX9_judged 0 = .ok (.aload_n 0, 1) := by decide +kernel
theorem dX9_judged_1 : decode cX9_judged 1 = .ok (.iload_n 1, 1) := by decide +kernel
theorem dX9_judged_2 : decode cX9_judged 2 = .ok (.invokevirtual 375, 3) := by decide +kernel
theorem dX9_judged_5 : decode cX9_judged 5 = .ok (.ifCond .eq 7, 3) := by decide +kernel
theorem dX9_judged_8 : decode cX9_judged 8 = .ok (.iload_n 1, 1) := by decide +kernel
theorem dX9_judged_9 : decode cX9_judged 9 = .ok (.goto 24, 3) := by decide +kernel
theorem dX9_judged_12 : decode cX9_judged 12 = .ok (.iload_n 1, 1) := by decide +kernel
theorem dX9_judged_13 : decode cX9_judged 13 = .ok (.iload_n 1, 1) := by decide +kernel
theorem dX9_judged_14 : decode cX9_judged 14 = .ok (.aload_n 0, 1) := by decide +kernel
theorem dX9_judged_15 : decode cX9_judged 15 = .ok (.getfield 78, 3) := by decide +kernel
theorem dX9_judged_18 : decode cX9_judged 18 = .ok (.iconst 3, 1) := by decide +kernel
theorem dX9_judged_19 : decode cX9_judged 19 = .ok (.iaload, 1) := by decide +kernel
theorem dX9_judged_20 : decode cX9_judged 20 = .ok (.imul, 1) := by decide +kernel
theorem dX9_judged_21 : decode cX9_judged 21 = .ok (.bipush 100, 2) := by decide +kernel
theorem dX9_judged_23 : decode cX9_judged 23 = .ok (.idiv, 1) := by decide +kernel
theorem dX9_judged_24 : decode cX9_judged 24 = .ok (.iadd, 1) := by decide +kernel
theorem dX9_judged_25 : decode cX9_judged 25 = .ok (.bipush 12, 2) := by decide +kernel
theorem dX9_judged_27 : decode cX9_judged 27 = .ok (.sipush 480, 3) := by decide +kernel
theorem dX9_judged_30 : decode cX9_judged 30 = .ok (.invokestatic 369, 3) := by decide +kernel
theorem dX9_judged_33 : decode cX9_judged 33 = .ok (.ireturn, 1) := by decide +kernel
def f_Mo_judged_60 (v1 : Int32) (σ : xS) : Option (Int32 × xS) :=
  (f_Mo_isByMark_60 v1 σ).bind fun q1 =>
  if q1.1 = 0 then
    (f_Mo_bounded (v1 + ((v1 * q1.2.1 79 3) / (100 : Int32))) (12 : Int32) (480 : Int32) q1.2).bind fun q2 =>
    some (q2.1, q2.2)
  else
    some (v1, q1.2)
set_option maxHeartbeats 4000000 in
set_option maxRecDepth 100000 in
theorem c_Mo_judged_60 {l : Launch} {s0 : State} {a0 : Array Value} {D : va_G} {cA : Nat → ClassId} {sp : Nat → Nat} (E : x_En CL l s0 a0 D cA sp) (v1 : Int32) {σ : xS} {r : Int32} {σ1 : xS} (h : f_Mo_judged_60 v1 σ = some (r, σ1)) : zC l s0 D cA sp 2 M_Mo_judged [.ref 60, .int v1] σ (some (.int r)) σ1 := by
  unfold f_Mo_judged_60 at h
  try dsimp only at h
  refine x_enter [some (.ref 60), some (.int v1)] rfl (Nat.le_of_ble_eq_true rfl) (by decide +kernel) rfl ?_
  refine x_aload_n 1 rfl 0 dX9_judged_0 rfl rfl ?_
  refine x_iload_n 2 rfl 1 dX9_judged_1 rfl rfl ?_
  obtain ⟨⟨q1r, q1s⟩, q1h, h⟩ := x_bind h
  try dsimp only at h
  refine z_callV E [.int _] [] dX9_judged_2 K_RX9_375 ⟨Nat.le_of_ble_eq_true rfl, Nat.le_of_ble_eq_true rfl⟩ sh_60 (by decide) rfl (c_Mo_isByMark_60 E _ q1h) rfl rfl (Nat.le_of_ble_eq_true rfl) 5 rfl [.int _] rfl ?_
  refine x_if_eq 8 rfl 12 dX9_judged_5 (by decide) (fun hc => ?_) (fun hc => ?_)
  · replace h := x_ifT hc h
    refine x_iload_n 13 rfl 1 dX9_judged_12 rfl rfl ?_
    refine x_iload_n 14 rfl 1 dX9_judged_13 rfl rfl ?_
    refine x_aload_n 15 rfl 0 dX9_judged_14 rfl rfl ?_
    refine x_getR E dX9_judged_15 F_RX9_78 sh_60 rf_60_53 18 rfl ?_
    refine x_iconst 19 rfl (v := 3) dX9_judged_18 (by decide) ?_
    refine x_iald E dX9_judged_19 sh_79 3 (by decide) (by decide) 20 rfl ?_
    refine x_imul 21 rfl dX9_judged_20 ?_
    refine x_bipush 23 rfl (v := 100) dX9_judged_21 (by decide) ?_
    refine x_idiv 24 rfl dX9_judged_23 (by decide) ?_
    refine x_iadd 25 rfl dX9_judged_24 ?_
    refine x_bipush 27 rfl (v := 12) dX9_judged_25 (by decide) ?_
    refine x_sipush 30 rfl (v := 480) dX9_judged_27 (by decide) ?_
    obtain ⟨⟨q2r, q2s⟩, q2h, h⟩ := x_bind h
    try dsimp only at h
    refine z_callS E [.int _, .int _, .int _] [] dX9_judged_30 K_RX9_369 ⟨Nat.le_of_ble_eq_true rfl, Nat.le_of_ble_eq_true rfl⟩ (c_Mo_bounded E _ _ _ q2h) rfl rfl (Nat.le_of_ble_eq_true rfl) 33 rfl [.int _] rfl ?_
    cases h
    exact x_iret dX9_judged_33 rfl rfl rfl
  · replace h := x_ifF hc h
    refine x_iload_n 9 rfl 1 dX9_judged_8 rfl rfl ?_
    refine x_goto 33 dX9_judged_9 (by decide) ?_
    cases h
    exact x_iret dX9_judged_33 rfl rfl rfl
theorem K_RX9_381 : x_KV RX9 381 M_Mo_inchesOf 2 := ⟨⟨(List.mem_append_right _ (List.mem_of_getElem? (i := 1653) (by decide +kernel))), (List.mem_append_right _ (List.mem_of_getElem? (i := 1656) (by decide +kernel))), (List.mem_append_right _ (List.mem_of_getElem? (i := 9) (by decide +kernel))), ⟨by decide +kernel, by decide +kernel⟩, by decide +kernel⟩, (List.mem_append_right _ (List.mem_of_getElem? (i := 1655) (by decide +kernel))), (List.mem_append_left _ (List.mem_of_getElem? (i := 79) (by decide +kernel)))⟩
abbrev M_Mo_sawAt : xM := (yX9_sawAt, cX9_sawAt, 2, some .int, [])
theorem dX9_sawAt_0 : decode cX9_sawAt 0 = .ok (.aload_n 0, 1) := by decide +kernel
theorem dX9_sawAt_1 : decode cX9_sawAt 1 = .ok (.iload_n 1, 1) := by decide +kernel
theorem dX9_sawAt_2 : decode cX9_sawAt 2 = .ok (.aload_n 0, 1) := by decide +kernel
theorem dX9_sawAt_3 : decode cX9_sawAt 3 = .ok (.getfield 78, 3) := by decide +kernel
theorem dX9_sawAt_6 : decode cX9_sawAt 6 = .ok (.iconst 1, 1) := by decide +kernel
theorem dX9_sawAt_7 : decode cX9_sawAt 7 = .ok (.iaload, 1) := by decide +kernel
theorem dX9_sawAt_8 : decode cX9_sawAt 8 = .ok (.if_icmp .ge 7, 3) := by decide +kernel
theorem dX9_sawAt_11 : decode cX9_sawAt 11 = .ok (.iconst 0, 1) := by decide +kernel
theorem dX9_sawAt_12 : decode cX9_sawAt 12 = .ok (.goto 11, 3) := by decide +kernel
theorem dX9_sawAt_15 : decode cX9_sawAt 15 = .ok (.iload_n 1, 1) := by decide +kernel
theorem dX9_sawAt_16 : decode cX9_sawAt 16 = .ok (.aload_n 0, 1) := by decide +kernel
theorem dX9_sawAt_17 : decode cX9_sawAt 17 = .ok (.getfield 78, 3) := by decide +kernel
theorem dX9_sawAt_20 : decode cX9_sawAt 20 = .ok (.iconst 1, 1) := by decide +kernel
theorem dX9_sawAt_21 : decode cX9_sawAt 21 = .ok (.iaload, 1) := by decide +kernel
theorem dX9_sawAt_22 : decode cX9_sawAt 22 = .ok (.isub, 1) := by decide +kernel
theorem dX9_sawAt_23 : decode cX9_sawAt 23 = .ok (.aload_n 0, 1) := by decide +kernel
theorem dX9_sawAt_24 : decode cX9_sawAt 24 = .ok (.iload_n 1, 1) := by decide +kernel
theorem dX9_sawAt_25 : decode cX9_sawAt 25 = .ok (.aload_n 0, 1) := by decide +kernel
theorem dX9_sawAt_26 : decode cX9_sawAt 26 = .ok (.getfield 378, 3) := by decide +kernel
theorem dX9_sawAt_29 : decode cX9_sawAt 29 = .ok (.invokevirtual 363, 3) := by decide +kernel
theorem dX9_sawAt_32 : decode cX9_sawAt 32 = .ok (.invokevirtual 381, 3) := by decide +kernel
theorem dX9_sawAt_35 : decode cX9_sawAt 35 = .ok (.ireturn, 1) := by decide +kernel
def f_Mo_sawAt_60 (v1 : Int32) (σ : xS) : Option (Int32 × xS) :=
  if σ.1 79 1 ≤ v1 then
    (f_Mo_whoseBy_60 v1 (σ.1 60 60) σ).bind fun q1 =>
    (f_Mo_inchesOf_60 (v1 - σ.1 79 1) q1.1 q1.2).bind fun q2 =>
    some (q2.1, q2.2)
  else
    (f_Mo_whoseBy_60 v1 (σ.1 60 60) σ).bind fun q3 =>
    (f_Mo_inchesOf_60 (0 : Int32) q3.1 q3.2).bind fun q4 =>
    some (q4.1, q4.2)
set_option maxHeartbeats 4000000 in
set_option maxRecDepth 100000 in
theorem c_Mo_sawAt_60 {l : Launch} {s0 : State} {a0 : Array Value} {D : va_G} {cA : Nat → ClassId} {sp : Nat → Nat} (E : x_En CL l s0 a0 D cA sp) (v1 : Int32) {σ : xS} {r : Int32} {σ1 : xS} (h : f_Mo_sawAt_60 v1 σ = some (r, σ1)) : zC l s0 D cA sp 2 M_Mo_sawAt [.ref 60, .int v1] σ (some (.int r)) σ1 := by
  unfold f_Mo_sawAt_60 at h
  try dsimp only at h
  refine x_enter [some (.ref 60), some (.int v1)] rfl (Nat.le_of_ble_eq_true rfl) (by decide +kernel) rfl ?_
  refine x_aload_n 1 rfl 0 dX9_sawAt_0 rfl rfl ?_
  refine x_iload_n 2 rfl 1 dX9_sawAt_1 rfl rfl ?_
  refine x_aload_n 3 rfl 0 dX9_sawAt_2 rfl rfl ?_
  refine x_getR E dX9_sawAt_3 F_RX9_78 sh_60 rf_60_53 6 rfl ?_
  refine x_iconst 7 rfl (v := 1) dX9_sawAt_6 (by decide) ?_
  refine x_iald E dX9_sawAt_7 sh_79 1 (by decide) (by decide) 8 rfl ?_
  refine x_icmp_ge 11 rfl 15 dX9_sawAt_8 (by decide) (fun hc => ?_) (fun hc => ?_)
  · replace h := x_ifT hc h
    refine x_iload_n 16 rfl 1 dX9_sawAt_15 rfl rfl ?_
    refine x_aload_n 17 rfl 0 dX9_sawAt_16 rfl rfl ?_
    refine x_getR E dX9_sawAt_17 F_RX9_78 sh_60 rf_60_53 20 rfl ?_
    refine x_iconst 21 rfl (v := 1) dX9_sawAt_20 (by decide) ?_
    refine x_iald E dX9_sawAt_21 sh_79 1 (by decide) (by decide) 22 rfl ?_
    refine x_isub 23 rfl dX9_sawAt_22 ?_
    refine x_aload_n 24 rfl 0 dX9_sawAt_23 rfl rfl ?_
    refine x_iload_n 25 rfl 1 dX9_sawAt_24 rfl rfl ?_
    refine x_aload_n 26 rfl 0 dX9_sawAt_25 rfl rfl ?_
    refine x_getI E dX9_sawAt_26 F_RX9_378 sh_60 29 rfl ?_
    obtain ⟨⟨q1r, q1s⟩, q1h, h⟩ := x_bind h
    try dsimp only at h
    refine z_callV E [.int _, .int _] [.int _, .ref 60] dX9_sawAt_29 K_RX9_363 ⟨Nat.le_of_ble_eq_true rfl, Nat.le_of_ble_eq_true rfl⟩ sh_60 (by decide) rfl (c_Mo_whoseBy_60 E _ _ q1h) rfl rfl (Nat.le_of_ble_eq_true rfl) 32 rfl [.int _, .int _, .ref 60] rfl ?_
    obtain ⟨⟨q2r, q2s⟩, q2h, h⟩ := x_bind h
    try dsimp only at h
    refine z_callV E [.int _, .int _] [] dX9_sawAt_32 K_RX9_381 ⟨Nat.le_of_ble_eq_true rfl, Nat.le_of_ble_eq_true rfl⟩ sh_60 (by decide) rfl (c_Mo_inchesOf_60 E _ _ q2h) rfl rfl (Nat.le_of_ble_eq_true rfl) 35 rfl [.int _] rfl ?_
    cases h
    exact x_iret dX9_sawAt_35 rfl rfl rfl
  · replace h := x_ifF hc h
    refine x_iconst 12 rfl (v := 0) dX9_sawAt_11 (by decide) ?_
    refine x_goto 23 dX9_sawAt_12 (by decide) ?_
    refine x_aload_n 24 rfl 0 dX9_sawAt_23 rfl rfl ?_
    refine x_iload_n 25 rfl 1 dX9_sawAt_24 rfl rfl ?_
    refine x_aload_n 26 rfl 0 dX9_sawAt_25 rfl rfl ?_
    refine x_getI E dX9_sawAt_26 F_RX9_378 sh_60 29 rfl ?_
    obtain ⟨⟨q3r, q3s⟩, q3h, h⟩ := x_bind h
    try dsimp only at h
    refine z_callV E [.int _, .int _] [.int _, .ref 60] dX9_sawAt_29 K_RX9_363 ⟨Nat.le_of_ble_eq_true rfl, Nat.le_of_ble_eq_true rfl⟩ sh_60 (by decide) rfl (c_Mo_whoseBy_60 E _ _ q3h) rfl rfl (Nat.le_of_ble_eq_true rfl) 32 rfl [.int _, .int _, .ref 60] rfl ?_
    obtain ⟨⟨q4r, q4s⟩, q4h, h⟩ := x_bind h
    try dsimp only at h
    refine z_callV E [.int _, .int _] [] dX9_sawAt_32 K_RX9_381 ⟨Nat.le_of_ble_eq_true rfl, Nat.le_of_ble_eq_true rfl⟩ sh_60 (by decide) rfl (c_Mo_inchesOf_60 E _ _ q4h) rfl rfl (Nat.le_of_ble_eq_true rfl) 35 rfl [.int _] rfl ?_
    cases h
    exact x_iret dX9_sawAt_35 rfl rfl rfl
theorem K_RX9_387 : x_KV RX9 387 M_Mo_sawAt 1 := ⟨⟨(List.mem_append_right _ (List.mem_of_getElem? (i := 1687) (by decide +kernel))), (List.mem_append_right _ (List.mem_of_getElem? (i := 1690) (by decide +kernel))), (List.mem_append_right _ (List.mem_of_getElem? (i := 9) (by decide +kernel))), ⟨by decide +kernel, by decide +kernel⟩, by decide +kernel⟩, (List.mem_append_right _ (List.mem_of_getElem? (i := 1689) (by decide +kernel))), (List.mem_append_left _ (List.mem_of_getElem? (i := 84) (by decide +kernel)))⟩
abbrev M_Mo_shouldBe : xM := (yX9_shouldBe, cX9_shouldBe, 3, some .int, [])
theorem dX9_shouldBe_0 : decode cX9_shouldBe 0 = .ok (.aload_n 0, 1) := by decide +kernel
theorem dX9_shouldBe_1 : decode cX9_shouldBe 1 = .ok (.getfield 93, 3) := by decide +kernel
theorem dX9_shouldBe_4 : decode cX9_shouldBe 4 = .ok (.iload_n 1, 1) := by decide +kernel
theorem dX9_shouldBe_5 : decode cX9_shouldBe 5 = .ok (.iaload, 1) := by decide +kernel
theorem dX9_shouldBe_6 : decode cX9_shouldBe 6 = .ok (.aload_n 0, 1) := by decide +kernel
theorem dX9_shouldBe_7 : decode cX9_shouldBe 7 = .ok (.getfield 384, 3) := by decide +kernel
theorem dX9_shouldBe_10 : decode cX9_shouldBe 10 = .ok (.aload_n 0, 1) := by decide +kernel
theorem dX9_shouldBe_11 : decode cX9_shouldBe 11 = .ok (.getfield 93, 3) := by decide +kernel
theorem dX9_shouldBe_14 : decode cX9_shouldBe 14 = .ok (.iload_n 1, 1) := by decide +kernel
theorem dX9_shouldBe_15 : decode cX9_shouldBe 15 = .ok (.iaload, 1) := by decide +kernel
theorem dX9_shouldBe_16 : decode cX9_shouldBe 16 = .ok (.aload_n 0, 1) := by decide +kernel
theorem dX9_shouldBe_17 : decode cX9_shouldBe 17 = .ok (.getfield 93, 3) := by decide +kernel
theorem dX9_shouldBe_20 : decode cX9_shouldBe 20 = .ok (.iload_n 1, 1) := by decide +kernel
theorem dX9_shouldBe_21 : decode cX9_shouldBe 21 = .ok (.iconst 1, 1) := by decide +kernel
theorem dX9_shouldBe_22 : decode cX9_shouldBe 22 = .ok (.isub, 1) := by decide +kernel
theorem dX9_shouldBe_23 : decode cX9_shouldBe 23 = .ok (.iaload, 1) := by decide +kernel
theorem dX9_shouldBe_24 : decode cX9_shouldBe 24 = .ok (.isub, 1) := by decide +kernel
theorem dX9_shouldBe_25 : decode cX9_shouldBe 25 = .ok (.imul, 1) := by decide +kernel
theorem dX9_shouldBe_26 : decode cX9_shouldBe 26 = .ok (.iadd, 1) := by decide +kernel
theorem dX9_shouldBe_27 : decode cX9_shouldBe 27 = .ok (.iconst 0, 1) := by decide +kernel
theorem dX9_shouldBe_28 : decode cX9_shouldBe 28 = .ok (.sipush 999, 3) := by decide +kernel
theorem dX9_shouldBe_31 : decode cX9_shouldBe 31 = .ok (.invokestatic 369, 3) := by decide +kernel
theorem dX9_shouldBe_34 : decode cX9_shouldBe 34 = .ok (.istore_n 2, 1) := by decide +kernel
theorem dX9_shouldBe_35 : decode cX9_shouldBe 35 = .ok (.aload_n 0, 1) := by decide +kernel
theorem dX9_shouldBe_36 : decode cX9_shouldBe 36 = .ok (.getfield 78, 3) := by decide +kernel
theorem dX9_shouldBe_39 : decode cX9_shouldBe 39 = .ok (.iconst 5, 1) := by decide +kernel
theorem dX9_shouldBe_40 : decode cX9_shouldBe 40 = .ok (.iaload, 1) := by decide +kernel
theorem dX9_shouldBe_41 : decode cX9_shouldBe 41 = .ok (.iconst (-1), 1) := by decide +kernel
theorem dX9_shouldBe_42 : decode cX9_shouldBe 42 = .ok (.if_icmp .ne 5, 3) := by decide +kernel
theorem dX9_shouldBe_45 : decode cX9_shouldBe 45 = .ok (.iload_n 2, 1) := by decide +kernel
theorem dX9_shouldBe_46 : decode cX9_shouldBe 46 = .ok (.ireturn, 1) := by decide +kernel
theorem dX9_shouldBe_47 : decode cX9_shouldBe 47 = .ok (.aload_n 0, 1) := by decide +kernel
theorem dX9_shouldBe_48 : decode cX9_shouldBe 48 = .ok (.getfield 87, 3) := by decide +kernel
theorem dX9_shouldBe_51 : decode cX9_shouldBe 51 = .ok (.iconst 0, 1) := by decide +kernel
theorem dX9_shouldBe_52 : decode cX9_shouldBe 52 = .ok (.iload_n 2, 1) := by decide +kernel
theorem dX9_shouldBe_53 : decode cX9_shouldBe 53 = .ok (.iastore, 1) := by decide +kernel
theorem dX9_shouldBe_54 : decode cX9_shouldBe 54 = .ok (.aload_n 0, 1) := by decide +kernel
theorem dX9_shouldBe_55 : decode cX9_shouldBe 55 = .ok (.getfield 87, 3) := by decide +kernel
theorem dX9_shouldBe_58 : decode cX9_shouldBe 58 = .ok (.iconst 1, 1) := by decide +kernel
theorem dX9_shouldBe_59 : decode cX9_shouldBe 59 = .ok (.aload_n 0, 1) := by decide +kernel
theorem dX9_shouldBe_60 : decode cX9_shouldBe 60 = .ok (.getfield 93, 3) := by decide +kernel
theorem dX9_shouldBe_63 : decode cX9_shouldBe 63 = .ok (.iload_n 1, 1) := by decide +kernel
theorem dX9_shouldBe_64 : decode cX9_shouldBe 64 = .ok (.iconst 1, 1) := by decide +kernel
theorem dX9_shouldBe_65 : decode cX9_shouldBe 65 = .ok (.isub, 1) := by decide +kernel
theorem dX9_shouldBe_66 : decode cX9_shouldBe 66 = .ok (.iaload, 1) := by decide +kernel
theorem dX9_shouldBe_67 : decode cX9_shouldBe 67 = .ok (.iastore, 1) := by decide +kernel
theorem dX9_shouldBe_68 : decode cX9_shouldBe 68 = .ok (.aload_n 0, 1) := by decide +kernel
theorem dX9_shouldBe_69 : decode cX9_shouldBe 69 = .ok (.getfield 87, 3) := by decide +kernel
theorem dX9_shouldBe_72 : decode cX9_shouldBe 72 = .ok (.iconst 2, 1) := by decide +kernel
theorem dX9_shouldBe_73 : decode cX9_shouldBe 73 = .ok (.aload_n 0, 1) := by decide +kernel
theorem dX9_shouldBe_74 : decode cX9_shouldBe 74 = .ok (.getfield 96, 3) := by decide +kernel
theorem dX9_shouldBe_77 : decode cX9_shouldBe 77 = .ok (.iload_n 1, 1) := by decide +kernel
theorem dX9_shouldBe_78 : decode cX9_shouldBe 78 = .ok (.iconst 1, 1) := by decide +kernel
theorem dX9_shouldBe_79 : decode cX9_shouldBe 79 = .ok (.isub, 1) := by decide +kernel
theorem dX9_shouldBe_80 : decode cX9_shouldBe 80 = .ok (.iaload, 1) := by decide +kernel
theorem dX9_shouldBe_81 : decode cX9_shouldBe 81 = .ok (.iastore, 1) := by decide +kernel
theorem dX9_shouldBe_82 : decode cX9_shouldBe 82 = .ok (.aload_n 0, 1) := by decide +kernel
theorem dX9_shouldBe_83 : decode cX9_shouldBe 83 = .ok (.getfield 87, 3) := by decide +kernel
theorem dX9_shouldBe_86 : decode cX9_shouldBe 86 = .ok (.iconst 3, 1) := by decide +kernel
theorem dX9_shouldBe_87 : decode cX9_shouldBe 87 = .ok (.iload_n 1, 1) := by decide +kernel
theorem dX9_shouldBe_88 : decode cX9_shouldBe 88 = .ok (.iastore, 1) := by decide +kernel
theorem dX9_shouldBe_89 : decode cX9_shouldBe 89 = .ok (.aload_n 0, 1) := by decide +kernel
theorem dX9_shouldBe_90 : decode cX9_shouldBe 90 = .ok (.getfield 87, 3) := by decide +kernel
theorem dX9_shouldBe_93 : decode cX9_shouldBe 93 = .ok (.iconst 4, 1) := by decide +kernel
theorem dX9_shouldBe_94 : decode cX9_shouldBe 94 = .ok (.aload_n 0, 1) := by decide +kernel
theorem dX9_shouldBe_95 : decode cX9_shouldBe 95 = .ok (.aload_n 0, 1) := by decide +kernel
theorem dX9_shouldBe_96 : decode cX9_shouldBe 96 = .ok (.iload_n 1, 1) := by decide +kernel
theorem dX9_shouldBe_97 : decode cX9_shouldBe 97 = .ok (.invokevirtual 387, 3) := by decide +kernel
theorem dX9_shouldBe_100 : decode cX9_shouldBe 100 = .ok (.invokevirtual 375, 3) := by decide +kernel
theorem dX9_shouldBe_103 : decode cX9_shouldBe 103 = .ok (.ifCond .eq 7, 3) := by decide +kernel
theorem dX9_shouldBe_106 : decode cX9_shouldBe 106 = .ok (.iconst 1, 1) := by decide +kernel
theorem dX9_shouldBe_107 : decode cX9_shouldBe 107 = .ok (.goto 4, 3) := by decide +kernel
theorem dX9_shouldBe_110 : decode cX9_shouldBe 110 = .ok (.iconst 0, 1) := by decide +kernel
theorem dX9_shouldBe_111 : decode cX9_shouldBe 111 = .ok (.iastore, 1) := by decide +kernel
theorem dX9_shouldBe_112 : decode cX9_shouldBe 112 = .ok (.aload_n 0, 1) := by decide +kernel
theorem dX9_shouldBe_113 : decode cX9_shouldBe 113 = .ok (.aload_n 0, 1) := by decide +kernel
theorem dX9_shouldBe_114 : decode cX9_shouldBe 114 = .ok (.getfield 32, 3) := by decide +kernel
theorem dX9_shouldBe_117 : decode cX9_shouldBe 117 = .ok (.aload_n 0, 1) := by decide +kernel
theorem dX9_shouldBe_118 : decode cX9_shouldBe 118 = .ok (.getfield 78, 3) := by decide +kernel
theorem dX9_shouldBe_121 : decode cX9_shouldBe 121 = .ok (.iconst 5, 1) := by decide +kernel
theorem dX9_shouldBe_122 : decode cX9_shouldBe 122 = .ok (.iaload, 1) := by decide +kernel
theorem dX9_shouldBe_123 : decode cX9_shouldBe 123 = .ok (.iaload, 1) := by decide +kernel
theorem dX9_shouldBe_124 : decode cX9_shouldBe 124 = .ok (.invokevirtual 366, 3) := by decide +kernel
theorem dX9_shouldBe_127 : decode cX9_shouldBe 127 = .ok (.iconst 0, 1) := by decide +kernel
theorem dX9_shouldBe_128 : decode cX9_shouldBe 128 = .ok (.sipush 999, 3) := by decide +kernel
theorem dX9_shouldBe_131 : decode cX9_shouldBe 131 = .ok (.invokestatic 369, 3) := by decide +kernel
theorem dX9_shouldBe_134 : decode cX9_shouldBe 134 = .ok (.ireturn, 1) := by decide +kernel
def f_Mo_shouldBe_60_J111 (y1 : Int32) (y2 : Int32) (σ : xS) : Option (Int32 × xS) :=
  if y1 < 0 ∨ 8 ≤ y1.toNatClampNeg then none else
  let σ1 := x_pI σ 82 y1.toNatClampNeg y2
  if σ1.1 79 5 < 0 ∨ 4 ≤ (σ1.1 79 5).toNatClampNeg then none else
  (f_Mo_reckons_60 (σ1.1 65 (σ1.1 79 5).toNatClampNeg) σ1).bind fun q2 =>
  (f_Mo_bounded q2.1 (0 : Int32) (999 : Int32) q2.2).bind fun q3 =>
  some (q3.1, q3.2)
def f_Mo_shouldBe_60 (v1 : Int32) (σ : xS) : Option (Int32 × xS) :=
  if v1 < 0 ∨ 601 ≤ v1.toNatClampNeg then none else
  if v1 < 0 ∨ 601 ≤ v1.toNatClampNeg then none else
  if (v1 - (1 : Int32)) < 0 ∨ 601 ≤ (v1 - (1 : Int32)).toNatClampNeg then none else
  (f_Mo_bounded (σ.1 84 v1.toNatClampNeg + (σ.1 60 64 * (σ.1 84 v1.toNatClampNeg - σ.1 84 (v1 - (1 : Int32)).toNatClampNeg))) (0 : Int32) (999 : Int32) σ).bind fun q4 =>
  let w5 := q4.1
  if q4.2.1 79 5 = (-1 : Int32) then
    some (w5, q4.2)
  else
    let σ6 := x_pI q4.2 82 0 w5
    if (v1 - (1 : Int32)) < 0 ∨ 601 ≤ (v1 - (1 : Int32)).toNatClampNeg then none else
    let σ7 := x_pI σ6 82 1 (σ6.1 84 (v1 - (1 : Int32)).toNatClampNeg)
    if (v1 - (1 : Int32)) < 0 ∨ 601 ≤ (v1 - (1 : Int32)).toNatClampNeg then none else
    let σ8 := x_pI σ7 82 2 (σ7.1 85 (v1 - (1 : Int32)).toNatClampNeg)
    let σ9 := x_pI σ8 82 3 v1
    (f_Mo_sawAt_60 v1 σ9).bind fun q10 =>
    (f_Mo_isByMark_60 q10.1 q10.2).bind fun q11 =>
    if q11.1 = 0 then
      f_Mo_shouldBe_60_J111 (4 : Int32) (0 : Int32) q11.2
    else
      f_Mo_shouldBe_60_J111 (4 : Int32) (1 : Int32) q11.2
set_option maxHeartbeats 4000000 in
set_option maxRecDepth 100000 in
theorem j_Mo_shouldBe_60_J111 {l : Launch} {s0 : State} {a0 : Array Value} {D : va_G} {cA : Nat → ClassId} {sp : Nat → Nat} (E : x_En CL l s0 a0 D cA sp) (y1 : Int32) (y2 : Int32) (σ : xS) {r : Int32} {σ1 : xS} (h : f_Mo_shouldBe_60_J111 y1 y2 σ = some (r, σ1)) : zW l s0 D cA sp (zQ s0 D cA sp (some (.int r)) σ1) (x_rm 3 0 0) M_Mo_shouldBe 0 0 111 [some (.ref 60), none, none] [.int y2, .int y1, .ref 82] σ := by
  unfold f_Mo_shouldBe_60_J111 at h
  try dsimp only at h
  obtain ⟨hz, h⟩ := x_ifn h
  refine x_iast E dX9_shouldBe_111 sh_82 _ rfl hz 112 rfl ?_
  refine x_aload_n 113 rfl 0 dX9_shouldBe_112 rfl rfl ?_
  refine x_aload_n 114 rfl 0 dX9_shouldBe_113 rfl rfl ?_
  refine x_getR E dX9_shouldBe_114 F_RX9_32 sh_60 rf_60_12 117 rfl ?_
  refine x_aload_n 118 rfl 0 dX9_shouldBe_117 rfl rfl ?_
  refine x_getR E dX9_shouldBe_118 F_RX9_78 sh_60 rf_60_53 121 rfl ?_
  refine x_iconst 122 rfl (v := 5) dX9_shouldBe_121 (by decide) ?_
  refine x_iald E dX9_shouldBe_122 sh_79 5 (by decide) (by decide) 123 rfl ?_
  obtain ⟨hz, h⟩ := x_ifn h
  refine x_iald E dX9_shouldBe_123 sh_65 _ rfl hz 124 rfl ?_
  obtain ⟨⟨q2r, q2s⟩, q2h, h⟩ := x_bind h
  try dsimp only at h
  refine z_callV E [.int _] [] dX9_shouldBe_124 K_RX9_366 ⟨Nat.le_of_ble_eq_true rfl, Nat.le_of_ble_eq_true rfl⟩ sh_60 (by decide) rfl (c_Mo_reckons_60 E _ q2h) rfl rfl (Nat.le_of_ble_eq_true rfl) 127 rfl [.int _] rfl ?_
  refine x_iconst 128 rfl (v := 0) dX9_shouldBe_127 (by decide) ?_
  refine x_sipush 131 rfl (v := 999) dX9_shouldBe_128 (by decide) ?_
  obtain ⟨⟨q3r, q3s⟩, q3h, h⟩ := x_bind h
  try dsimp only at h
  refine z_callS E [.int _, .int _, .int _] [] dX9_shouldBe_131 K_RX9_369 ⟨Nat.le_of_ble_eq_true rfl, Nat.le_of_ble_eq_true rfl⟩ (c_Mo_bounded E _ _ _ q3h) rfl rfl (Nat.le_of_ble_eq_true rfl) 134 rfl [.int _] rfl ?_
  cases h
  exact x_iret dX9_shouldBe_134 rfl rfl rfl
set_option maxHeartbeats 4000000 in
set_option maxRecDepth 100000 in
theorem c_Mo_shouldBe_60 {l : Launch} {s0 : State} {a0 : Array Value} {D : va_G} {cA : Nat → ClassId} {sp : Nat → Nat} (E : x_En CL l s0 a0 D cA sp) (v1 : Int32) {σ : xS} {r : Int32} {σ1 : xS} (h : f_Mo_shouldBe_60 v1 σ = some (r, σ1)) : zC l s0 D cA sp 3 M_Mo_shouldBe [.ref 60, .int v1] σ (some (.int r)) σ1 := by
  unfold f_Mo_shouldBe_60 at h
  try dsimp only at h
  refine x_enter [some (.ref 60), some (.int v1), none] rfl (Nat.le_of_ble_eq_true rfl) (by decide +kernel) rfl ?_
  refine x_aload_n 1 rfl 0 dX9_shouldBe_0 rfl rfl ?_
  refine x_getR E dX9_shouldBe_1 F_RX9_93 sh_60 rf_60_61 4 rfl ?_
  refine x_iload_n 5 rfl 1 dX9_shouldBe_4 rfl rfl ?_
  obtain ⟨hz, h⟩ := x_ifn h
  refine x_iald E dX9_shouldBe_5 sh_84 _ rfl hz 6 rfl ?_
  refine x_aload_n 7 rfl 0 dX9_shouldBe_6 rfl rfl ?_
  refine x_getI E dX9_shouldBe_7 F_RX9_384 sh_60 10 rfl ?_
  refine x_aload_n 11 rfl 0 dX9_shouldBe_10 rfl rfl ?_
  refine x_getR E dX9_shouldBe_11 F_RX9_93 sh_60 rf_60_61 14 rfl ?_
  refine x_iload_n 15 rfl 1 dX9_shouldBe_14 rfl rfl ?_
  obtain ⟨hz, h⟩ := x_ifn h
  refine x_iald E dX9_shouldBe_15 sh_84 _ rfl hz 16 rfl ?_
  refine x_aload_n 17 rfl 0 dX9_shouldBe_16 rfl rfl ?_
  refine x_getR E dX9_shouldBe_17 F_RX9_93 sh_60 rf_60_61 20 rfl ?_
  refine x_iload_n 21 rfl 1 dX9_shouldBe_20 rfl rfl ?_
  refine x_iconst 22 rfl (v := 1) dX9_shouldBe_21 (by decide) ?_
  refine x_isub 23 rfl dX9_shouldBe_22 ?_
  obtain ⟨hz, h⟩ := x_ifn h
  refine x_iald E dX9_shouldBe_23 sh_84 _ rfl hz 24 rfl ?_
  refine x_isub 25 rfl dX9_shouldBe_24 ?_
  refine x_imul 26 rfl dX9_shouldBe_25 ?_
  refine x_iadd 27 rfl dX9_shouldBe_26 ?_
  refine x_iconst 28 rfl (v := 0) dX9_shouldBe_27 (by decide) ?_
  refine x_sipush 31 rfl (v := 999) dX9_shouldBe_28 (by decide) ?_
  obtain ⟨⟨q4r, q4s⟩, q4h, h⟩ := x_bind h
  try dsimp only at h
  refine z_callS E [.int _, .int _, .int _] [] dX9_shouldBe_31 K_RX9_369 ⟨Nat.le_of_ble_eq_true rfl, Nat.le_of_ble_eq_true rfl⟩ (c_Mo_bounded E _ _ _ q4h) rfl rfl (Nat.le_of_ble_eq_true rfl) 34 rfl [.int _] rfl ?_
  refine x_istore_n 35 rfl 2 dX9_shouldBe_34 rfl (by decide) [some (.ref 60), some (.int _), some (.int _)] rfl ?_
  refine x_aload_n 36 rfl 0 dX9_shouldBe_35 rfl rfl ?_
  refine x_getR E dX9_shouldBe_36 F_RX9_78 sh_60 rf_60_53 39 rfl ?_
  refine x_iconst 40 rfl (v := 5) dX9_shouldBe_39 (by decide) ?_
  refine x_iald E dX9_shouldBe_40 sh_79 5 (by decide) (by decide) 41 rfl ?_
  refine x_iconst 42 rfl (v := -1) dX9_shouldBe_41 (by decide) ?_
  refine x_icmp_ne 45 rfl 47 dX9_shouldBe_42 (by decide) (fun hc => ?_) (fun hc => ?_)
  · replace h := x_ifF hc h
    refine x_aload_n 48 rfl 0 dX9_shouldBe_47 rfl rfl ?_
    refine x_getR E dX9_shouldBe_48 F_RX9_87 sh_60 rf_60_57 51 rfl ?_
    refine x_iconst 52 rfl (v := 0) dX9_shouldBe_51 (by decide) ?_
    refine x_iload_n 53 rfl 2 dX9_shouldBe_52 rfl rfl ?_
    refine x_iast E dX9_shouldBe_53 sh_82 0 (by decide) (by decide) 54 rfl ?_
    refine x_aload_n 55 rfl 0 dX9_shouldBe_54 rfl rfl ?_
    refine x_getR E dX9_shouldBe_55 F_RX9_87 sh_60 rf_60_57 58 rfl ?_
    refine x_iconst 59 rfl (v := 1) dX9_shouldBe_58 (by decide) ?_
    refine x_aload_n 60 rfl 0 dX9_shouldBe_59 rfl rfl ?_
    refine x_getR E dX9_shouldBe_60 F_RX9_93 sh_60 rf_60_61 63 rfl ?_
    refine x_iload_n 64 rfl 1 dX9_shouldBe_63 rfl rfl ?_
    refine x_iconst 65 rfl (v := 1) dX9_shouldBe_64 (by decide) ?_
    refine x_isub 66 rfl dX9_shouldBe_65 ?_
    obtain ⟨hz, h⟩ := x_ifn h
    refine x_iald E dX9_shouldBe_66 sh_84 _ rfl hz 67 rfl ?_
    refine x_iast E dX9_shouldBe_67 sh_82 1 (by decide) (by decide) 68 rfl ?_
    refine x_aload_n 69 rfl 0 dX9_shouldBe_68 rfl rfl ?_
    refine x_getR E dX9_shouldBe_69 F_RX9_87 sh_60 rf_60_57 72 rfl ?_
    refine x_iconst 73 rfl (v := 2) dX9_shouldBe_72 (by decide) ?_
    refine x_aload_n 74 rfl 0 dX9_shouldBe_73 rfl rfl ?_
    refine x_getR E dX9_shouldBe_74 F_RX9_96 sh_60 rf_60_62 77 rfl ?_
    refine x_iload_n 78 rfl 1 dX9_shouldBe_77 rfl rfl ?_
    refine x_iconst 79 rfl (v := 1) dX9_shouldBe_78 (by decide) ?_
    refine x_isub 80 rfl dX9_shouldBe_79 ?_
    obtain ⟨hz, h⟩ := x_ifn h
    refine x_iald E dX9_shouldBe_80 sh_85 _ rfl hz 81 rfl ?_
    refine x_iast E dX9_shouldBe_81 sh_82 2 (by decide) (by decide) 82 rfl ?_
    refine x_aload_n 83 rfl 0 dX9_shouldBe_82 rfl rfl ?_
    refine x_getR E dX9_shouldBe_83 F_RX9_87 sh_60 rf_60_57 86 rfl ?_
    refine x_iconst 87 rfl (v := 3) dX9_shouldBe_86 (by decide) ?_
    refine x_iload_n 88 rfl 1 dX9_shouldBe_87 rfl rfl ?_
    refine x_iast E dX9_shouldBe_88 sh_82 3 (by decide) (by decide) 89 rfl ?_
    refine x_aload_n 90 rfl 0 dX9_shouldBe_89 rfl rfl ?_
    refine x_getR E dX9_shouldBe_90 F_RX9_87 sh_60 rf_60_57 93 rfl ?_
    refine x_iconst 94 rfl (v := 4) dX9_shouldBe_93 (by decide) ?_
    refine x_aload_n 95 rfl 0 dX9_shouldBe_94 rfl rfl ?_
    refine x_aload_n 96 rfl 0 dX9_shouldBe_95 rfl rfl ?_
    refine x_iload_n 97 rfl 1 dX9_shouldBe_96 rfl rfl ?_
    obtain ⟨⟨q10r, q10s⟩, q10h, h⟩ := x_bind h
    try dsimp only at h
    refine z_callV E [.int _] [.ref 60, .int _, .ref 82] dX9_shouldBe_97 K_RX9_387 ⟨Nat.le_of_ble_eq_true rfl, Nat.le_of_ble_eq_true rfl⟩ sh_60 (by decide) rfl (c_Mo_sawAt_60 E _ q10h) rfl rfl (Nat.le_of_ble_eq_true rfl) 100 rfl [.int _, .ref 60, .int _, .ref 82] rfl ?_
    obtain ⟨⟨q11r, q11s⟩, q11h, h⟩ := x_bind h
    try dsimp only at h
    refine z_callV E [.int _] [.int _, .ref 82] dX9_shouldBe_100 K_RX9_375 ⟨Nat.le_of_ble_eq_true rfl, Nat.le_of_ble_eq_true rfl⟩ sh_60 (by decide) rfl (c_Mo_isByMark_60 E _ q11h) rfl rfl (Nat.le_of_ble_eq_true rfl) 103 rfl [.int _, .int _, .ref 82] rfl ?_
    refine x_if_eq 106 rfl 110 dX9_shouldBe_103 (by decide) (fun hc => ?_) (fun hc => ?_)
    · replace h := x_ifT hc h
      refine x_iconst 111 rfl (v := 0) dX9_shouldBe_110 (by decide) ?_
      exact x_wk (x_le_s (x_le_n (x_le_n x_le_0))) (j_Mo_shouldBe_60_J111 E _ _ _ h)
    · replace h := x_ifF hc h
      refine x_iconst 107 rfl (v := 1) dX9_shouldBe_106 (by decide) ?_
      refine x_goto 111 dX9_shouldBe_107 (by decide) ?_
      exact x_wk (x_le_s (x_le_n (x_le_n x_le_0))) (j_Mo_shouldBe_60_J111 E _ _ _ h)
  · replace h := x_ifT hc h
    refine x_iload_n 46 rfl 2 dX9_shouldBe_45 rfl rfl ?_
    cases h
    exact x_iret dX9_shouldBe_46 rfl rfl rfl
