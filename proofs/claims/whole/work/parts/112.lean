/-! The reference's methods: functions and contracts. Written by wip/gen/emit.py. -/
theorem K_RX9_469 : x_KV RX9 469 M_Mo_addsSpot 1 := ⟨⟨(List.mem_append_right _ (List.mem_of_getElem? (i := 1862) (by decide +kernel))), (List.mem_append_right _ (List.mem_of_getElem? (i := 1865) (by decide +kernel))), (List.mem_append_right _ (List.mem_of_getElem? (i := 9) (by decide +kernel))), ⟨by decide +kernel, by decide +kernel⟩, by decide +kernel⟩, (List.mem_append_right _ (List.mem_of_getElem? (i := 1864) (by decide +kernel))), (List.mem_append_left _ (List.mem_of_getElem? (i := 103) (by decide +kernel)))⟩
theorem K_RX9_472 : x_KV RX9 472 M_Mo_nextNumbers 1 := ⟨⟨(List.mem_append_right _ (List.mem_of_getElem? (i := 1866) (by decide +kernel))), (List.mem_append_right _ (List.mem_of_getElem? (i := 1869) (by decide +kernel))), (List.mem_append_right _ (List.mem_of_getElem? (i := 9) (by decide +kernel))), ⟨by decide +kernel, by decide +kernel⟩, by decide +kernel⟩, (List.mem_append_right _ (List.mem_of_getElem? (i := 1868) (by decide +kernel))), (List.mem_append_left _ (List.mem_of_getElem? (i := 104) (by decide +kernel)))⟩
abbrev M_Mo_marks : xM := (yX9_marks, cX9_marks, 7, some .int, [])
theorem dX9_marks_0 : decode cX9_marks 0 = .ok (.aload_n 0, 1) := by decide +kernel
theorem dX9_marks_1 : decode cX9_marks 1 = .ok (.iconst 0, 1) := by decide +kernel
theorem dX9_marks_2 : decode cX9_marks 2 = .ok (.putfield 132, 3) := by decide +kernel
theorem dX9_marks_5 : decode cX9_marks 5 = .ok (.aload_n 0, 1) := by decide +kernel
theorem dX9_marks_6 : decode cX9_marks 6 = .ok (.iload_n 1, 1) := by decide +kernel
theorem dX9_marks_7 : decode cX9_marks 7 = .ok (.iconst 0, 1) := by decide +kernel
theorem dX9_marks_8 : decode cX9_marks 8 = .ok (.iconst 3, 1) := by decide +kernel
theorem dX9_marks_9 : decode cX9_marks 9 = .ok (.invokestatic 414, 3) := by decide +kernel
theorem dX9_marks_12 : decode cX9_marks 12 = .ok (.iconst 1, 1) := by decide +kernel
theorem dX9_marks_13 : decode cX9_marks 13 = .ok (.invokevirtual 311, 3) := by decide +kernel
theorem dX9_marks_16 : decode cX9_marks 16 = .ok (.ifCond .ne 5, 3) := by decide +kernel
theorem dX9_marks_19 : decode cX9_marks 19 = .ok (.iconst 0, 1) := by decide +kernel
theorem dX9_marks_20 : decode cX9_marks 20 = .ok (.ireturn, 1) := by decide +kernel
theorem dX9_marks_21 : decode cX9_marks 21 = .ok (.aload_n 0, 1) := by decide +kernel
theorem dX9_marks_22 : decode cX9_marks 22 = .ok (.iconst 0, 1) := by decide +kernel
theorem dX9_marks_23 : decode cX9_marks 23 = .ok (.putfield 466, 3) := by decide +kernel
theorem dX9_marks_26 : decode cX9_marks 26 = .ok (.aload_n 0, 1) := by decide +kernel
theorem dX9_marks_27 : decode cX9_marks 27 = .ok (.aload_n 0, 1) := by decide +kernel
theorem dX9_marks_28 : decode cX9_marks 28 = .ok (.getfield 7, 3) := by decide +kernel
theorem dX9_marks_31 : decode cX9_marks 31 = .ok (.invokevirtual 469, 3) := by decide +kernel
theorem dX9_marks_34 : decode cX9_marks 34 = .ok (.iconst 0, 1) := by decide +kernel
theorem dX9_marks_35 : decode cX9_marks 35 = .ok (.istore_n 2, 1) := by decide +kernel
theorem dX9_marks_36 : decode cX9_marks 36 = .ok (.iload_n 2, 1) := by decide +kernel
theorem dX9_marks_37 : decode cX9_marks 37 = .ok (.aload_n 0, 1) := by decide +kernel
theorem dX9_marks_38 : decode cX9_marks 38 = .ok (.getfield 324, 3) := by decide +kernel
theorem dX9_marks_41 : decode cX9_marks 41 = .ok (.if_icmp .ge 19, 3) := by decide +kernel
theorem dX9_marks_44 : decode cX9_marks 44 = .ok (.aload_n 0, 1) := by decide +kernel
theorem dX9_marks_45 : decode cX9_marks 45 = .ok (.aload_n 0, 1) := by decide +kernel
theorem dX9_marks_46 : decode cX9_marks 46 = .ok (.getfield 19, 3) := by decide +kernel
theorem dX9_marks_49 : decode cX9_marks 49 = .ok (.iload_n 2, 1) := by decide +kernel
theorem dX9_marks_50 : decode cX9_marks 50 = .ok (.iaload, 1) := by decide +kernel
theorem dX9_marks_51 : decode cX9_marks 51 = .ok (.invokevirtual 469, 3) := by decide +kernel
theorem dX9_marks_54 : decode cX9_marks 54 = .ok (.iinc 2 1, 3) := by decide +kernel
theorem dX9_marks_57 : decode cX9_marks 57 = .ok (.goto (-21), 3) := by decide +kernel
theorem dX9_marks_60 : decode cX9_marks 60 = .ok (.iload_n 1, 1) := by decide +kernel
theorem dX9_marks_61 : decode cX9_marks 61 = .ok (.aload_n 0, 1) := by decide +kernel
theorem dX9_marks_62 : decode cX9_marks 62 = .ok (.getfield 466, 3) := by decide +kernel
theorem dX9_marks_65 : decode cX9_marks 65 = .ok (.if_icmp .le 5, 3) := by decide +kernel
theorem dX9_marks_68 : decode cX9_marks 68 = .ok (.iconst (-1), 1) := by decide +kernel
theorem dX9_marks_69 : decode cX9_marks 69 = .ok (.ireturn, 1) := by decide +kernel
theorem dX9_marks_70 : decode cX9_marks 70 = .ok (.aload_n 0, 1) := by decide +kernel
theorem dX9_marks_71 : decode cX9_marks 71 = .ok (.aload_n 0, 1) := by decide +kernel
theorem dX9_marks_72 : decode cX9_marks 72 = .ok (.getfield 78, 3) := by decide +kernel
theorem dX9_marks_75 : decode cX9_marks 75 = .ok (.aload_n 0, 1) := by decide +kernel
theorem dX9_marks_76 : decode cX9_marks 76 = .ok (.getfield 81, 3) := by decide +kernel
theorem dX9_marks_79 : decode cX9_marks 79 = .ok (.invokevirtual 336, 3) := by decide +kernel
theorem dX9_marks_82 : decode cX9_marks 82 = .ok (.aload_n 0, 1) := by decide +kernel
theorem dX9_marks_83 : decode cX9_marks 83 = .ok (.getfield 330, 3) := by decide +kernel
theorem dX9_marks_86 : decode cX9_marks 86 = .ok (.istore_n 2, 1) := by decide +kernel
theorem dX9_marks_87 : decode cX9_marks 87 = .ok (.aload_n 0, 1) := by decide +kernel
theorem dX9_marks_88 : decode cX9_marks 88 = .ok (.iload_n 1, 1) := by decide +kernel
theorem dX9_marks_89 : decode cX9_marks 89 = .ok (.putfield 330, 3) := by decide +kernel
theorem dX9_marks_92 : decode cX9_marks 92 = .ok (.iconst 0, 1) := by decide +kernel
theorem dX9_marks_93 : decode cX9_marks 93 = .ok (.istore_n 3, 1) := by decide +kernel
theorem dX9_marks_94 : decode cX9_marks 94 = .ok (.iload_n 3, 1) := by decide +kernel
theorem dX9_marks_95 : decode cX9_marks 95 = .ok (.iload_n 1, 1) := by decide +kernel
theorem dX9_marks_96 : decode cX9_marks 96 = .ok (.if_icmp .ge 16, 3) := by decide +kernel
theorem dX9_marks_99 : decode cX9_marks 99 = .ok (.aload_n 0, 1) := by decide +kernel
theorem dX9_marks_100 : decode cX9_marks 100 = .ok (.getfield 111, 3) := by decide +kernel
theorem dX9_marks_103 : decode cX9_marks 103 = .ok (.iload_n 3, 1) := by decide +kernel
theorem dX9_marks_104 : decode cX9_marks 104 = .ok (.iload_n 3, 1) := by decide +kernel
theorem dX9_marks_105 : decode cX9_marks 105 = .ok (.iastore, 1) := by decide +kernel
theorem dX9_marks_106 : decode cX9_marks 106 = .ok (.iinc 3 1, 3) := by decide +kernel
theorem dX9_marks_109 : decode cX9_marks 109 = .ok (.goto (-15), 3) := by decide +kernel
theorem dX9_marks_112 : decode cX9_marks 112 = .ok (.iconst (-1), 1) := by decide +kernel
theorem dX9_marks_113 : decode cX9_marks 113 = .ok (.istore_n 3, 1) := by decide +kernel
theorem dX9_marks_114 : decode cX9_marks 114 = .ok (.iconst 1, 1) := by decide +kernel
theorem dX9_marks_115 : decode cX9_marks 115 = .ok (.istore 4, 2) := by decide +kernel
theorem dX9_marks_117 : decode cX9_marks 117 = .ok (.iload 4, 2) := by decide +kernel
theorem dX9_marks_119 : decode cX9_marks 119 = .ok (.ifCond .eq 99, 3) := by decide +kernel
theorem dX9_marks_122 : decode cX9_marks 122 = .ok (.iconst 0, 1) := by decide +kernel
theorem dX9_marks_123 : decode cX9_marks 123 = .ok (.istore 5, 2) := by decide +kernel
theorem dX9_marks_125 : decode cX9_marks 125 = .ok (.iload 5, 2) := by decide +kernel
theorem dX9_marks_127 : decode cX9_marks 127 = .ok (.iload_n 1, 1) := by decide +kernel
theorem dX9_marks_128 : decode cX9_marks 128 = .ok (.if_icmp .ge 31, 3) := by decide +kernel
theorem dX9_marks_131 : decode cX9_marks 131 = .ok (.aload_n 0, 1) := by decide +kernel
theorem dX9_marks_132 : decode cX9_marks 132 = .ok (.getfield 78, 3) := by decide +kernel
theorem dX9_marks_135 : decode cX9_marks 135 = .ok (.bipush 6, 2) := by decide +kernel
theorem dX9_marks_137 : decode cX9_marks 137 = .ok (.iload 5, 2) := by decide +kernel
theorem dX9_marks_139 : decode cX9_marks 139 = .ok (.iadd, 1) := by decide +kernel
theorem dX9_marks_140 : decode cX9_marks 140 = .ok (.aload_n 0, 1) := by decide +kernel
theorem dX9_marks_141 : decode cX9_marks 141 = .ok (.getfield 108, 3) := by decide +kernel
theorem dX9_marks_144 : decode cX9_marks 144 = .ok (.aload_n 0, 1) := by decide +kernel
theorem dX9_marks_145 : decode cX9_marks 145 = .ok (.getfield 111, 3) := by decide +kernel
theorem dX9_marks_148 : decode cX9_marks 148 = .ok (.iload 5, 2) := by decide +kernel
theorem dX9_marks_150 : decode cX9_marks 150 = .ok (.iaload, 1) := by decide +kernel
theorem dX9_marks_151 : decode cX9_marks 151 = .ok (.iaload, 1) := by decide +kernel
theorem dX9_marks_152 : decode cX9_marks 152 = .ok (.iastore, 1) := by decide +kernel
theorem dX9_marks_153 : decode cX9_marks 153 = .ok (.iinc 5 1, 3) := by decide +kernel
theorem dX9_marks_156 : decode cX9_marks 156 = .ok (.goto (-31), 3) := by decide +kernel
theorem dX9_marks_159 : decode cX9_marks 159 = .ok (.aload_n 0, 1) := by decide +kernel
theorem dX9_marks_160 : decode cX9_marks 160 = .ok (.invokevirtual 445, 3) := by decide +kernel
theorem dX9_marks_163 : decode cX9_marks 163 = .ok (.istore 5, 2) := by decide +kernel
theorem dX9_marks_165 : decode cX9_marks 165 = .ok (.iload 5, 2) := by decide +kernel
theorem dX9_marks_167 : decode cX9_marks 167 = .ok (.iload_n 3, 1) := by decide +kernel
theorem dX9_marks_168 : decode cX9_marks 168 = .ok (.if_icmp .le 40, 3) := by decide +kernel
theorem dX9_marks_171 : decode cX9_marks 171 = .ok (.iload 5, 2) := by decide +kernel
theorem dX9_marks_173 : decode cX9_marks 173 = .ok (.istore_n 3, 1) := by decide +kernel
theorem dX9_marks_174 : decode cX9_marks 174 = .ok (.iconst 0, 1) := by decide +kernel
theorem dX9_marks_175 : decode cX9_marks 175 = .ok (.istore 6, 2) := by decide +kernel
theorem dX9_marks_177 : decode cX9_marks 177 = .ok (.iload 6, 2) := by decide +kernel
theorem dX9_marks_179 : decode cX9_marks 179 = .ok (.iload_n 1, 1) := by decide +kernel
theorem dX9_marks_180 : decode cX9_marks 180 = .ok (.if_icmp .ge 28, 3) := by decide +kernel
theorem dX9_marks_183 : decode cX9_marks 183 = .ok (.aload_n 0, 1) := by decide +kernel
theorem dX9_marks_184 : decode cX9_marks 184 = .ok (.getfield 105, 3) := by decide +kernel
theorem dX9_marks_187 : decode cX9_marks 187 = .ok (.iload 6, 2) := by decide +kernel
theorem dX9_marks_189 : decode cX9_marks 189 = .ok (.aload_n 0, 1) := by decide +kernel
theorem dX9_marks_190 : decode cX9_marks 190 = .ok (.getfield 108, 3) := by decide +kernel
theorem dX9_marks_193 : decode cX9_marks 193 = .ok (.aload_n 0, 1) := by decide +kernel
theorem dX9_marks_194 : decode cX9_marks 194 = .ok (.getfield 111, 3) := by decide +kernel
theorem dX9_marks_197 : decode cX9_marks 197 = .ok (.iload 6, 2) := by decide +kernel
theorem dX9_marks_199 : decode cX9_marks 199 = .ok (.iaload, 1) := by decide +kernel
theorem dX9_marks_200 : decode cX9_marks 200 = .ok (.iaload, 1) := by decide +kernel
theorem dX9_marks_201 : decode cX9_marks 201 = .ok (.iastore, 1) := by decide +kernel
theorem dX9_marks_202 : decode cX9_marks 202 = .ok (.iinc 6 1, 3) := by decide +kernel
theorem dX9_marks_205 : decode cX9_marks 205 = .ok (.goto (-28), 3) := by decide +kernel
theorem dX9_marks_208 : decode cX9_marks 208 = .ok (.aload_n 0, 1) := by decide +kernel
theorem dX9_marks_209 : decode cX9_marks 209 = .ok (.iload_n 1, 1) := by decide +kernel
theorem dX9_marks_210 : decode cX9_marks 210 = .ok (.invokevirtual 472, 3) := by decide +kernel
theorem dX9_marks_213 : decode cX9_marks 213 = .ok (.istore 4, 2) := by decide +kernel
theorem dX9_marks_215 : decode cX9_marks 215 = .ok (.goto (-98), 3) := by decide +kernel
theorem dX9_marks_218 : decode cX9_marks 218 = .ok (.aload_n 0, 1) := by decide +kernel
theorem dX9_marks_219 : decode cX9_marks 219 = .ok (.iload_n 2, 1) := by decide +kernel
theorem dX9_marks_220 : decode cX9_marks 220 = .ok (.putfield 330, 3) := by decide +kernel
theorem dX9_marks_223 : decode cX9_marks 223 = .ok (.aload_n 0, 1) := by decide +kernel
theorem dX9_marks_224 : decode cX9_marks 224 = .ok (.aload_n 0, 1) := by decide +kernel
theorem dX9_marks_225 : decode cX9_marks 225 = .ok (.getfield 81, 3) := by decide +kernel
theorem dX9_marks_228 : decode cX9_marks 228 = .ok (.aload_n 0, 1) := by decide +kernel
theorem dX9_marks_229 : decode cX9_marks 229 = .ok (.getfield 78, 3) := by decide +kernel
theorem dX9_marks_232 : decode cX9_marks 232 = .ok (.invokevirtual 336, 3) := by decide +kernel
theorem dX9_marks_235 : decode cX9_marks 235 = .ok (.aload_n 0, 1) := by decide +kernel
theorem dX9_marks_236 : decode cX9_marks 236 = .ok (.iload_n 1, 1) := by decide +kernel
theorem dX9_marks_237 : decode cX9_marks 237 = .ok (.putfield 102, 3) := by decide +kernel
theorem dX9_marks_240 : decode cX9_marks 240 = .ok (.iload_n 3, 1) := by decide +kernel
theorem dX9_marks_241 : decode cX9_marks 241 = .ok (.ireturn, 1) := by decide +kernel
def f_Mo_marks_60_L94 (v1 : Int32) (v2 : Int32) (a : Int32 × xS) : Option ((Int32 × xS) ⊕ (Int32 × xS)) :=
  let v3 := a.1; let σ := a.2;
  if v1 ≤ v3 then
    some (.inl (v3, σ))
  else
    if v3 < 0 ∨ 3 ≤ v3.toNatClampNeg then none else
    let σ1 := x_pI σ 89 v3.toNatClampNeg v3
    let w2 := v3 + (1 : Int32)
    some (.inr (w2, σ1))
def f_Mo_marks_60_L36 (v1 : Int32) (a : Int32 × xS) : Option ((Int32 × xS) ⊕ (Int32 × xS)) :=
  let v2 := a.1; let σ := a.2;
  if σ.1 60 2 ≤ v2 then
    some (.inl (v2, σ))
  else
    if v2 < 0 ∨ 12 ≤ v2.toNatClampNeg then none else
    (f_Mo_addsSpot_60 (σ.1 61 v2.toNatClampNeg) σ).bind fun q3 =>
    let w4 := v2 + (1 : Int32)
    some (.inr (w4, q3.2))
def f_Mo_marks_60_L177 (v1 : Int32) (v2 : Int32) (v3 : Int32) (a : Int32 × xS) : Option ((Int32 × xS) ⊕ (Int32 × xS)) :=
  let v6 := a.1; let σ := a.2;
  if v1 ≤ v6 then
    some (.inl (v6, σ))
  else
    if v6 < 0 ∨ 3 ≤ v6.toNatClampNeg then none else
    if σ.1 89 v6.toNatClampNeg < 0 ∨ 13 ≤ (σ.1 89 v6.toNatClampNeg).toNatClampNeg then none else
    if v6 < 0 ∨ 3 ≤ v6.toNatClampNeg then none else
    let σ5 := x_pI σ 87 v6.toNatClampNeg (σ.1 88 (σ.1 89 v6.toNatClampNeg).toNatClampNeg)
    let w6 := v6 + (1 : Int32)
    some (.inr (w6, σ5))
def f_Mo_marks_60_L125 (v1 : Int32) (v2 : Int32) (v3 : Int32) (a : Int32 × xS) : Option ((Int32 × xS) ⊕ (Int32 × xS)) :=
  let v5 := a.1; let σ := a.2;
  if v1 ≤ v5 then
    some (.inl (v5, σ))
  else
    if v5 < 0 ∨ 3 ≤ v5.toNatClampNeg then none else
    if σ.1 89 v5.toNatClampNeg < 0 ∨ 13 ≤ (σ.1 89 v5.toNatClampNeg).toNatClampNeg then none else
    if ((6 : Int32) + v5) < 0 ∨ 12 ≤ ((6 : Int32) + v5).toNatClampNeg then none else
    let σ7 := x_pI σ 79 ((6 : Int32) + v5).toNatClampNeg (σ.1 88 (σ.1 89 v5.toNatClampNeg).toNatClampNeg)
    let w8 := v5 + (1 : Int32)
    some (.inr (w8, σ7))
def f_Mo_marks_60_L117 (v1 : Int32) (v2 : Int32) (a : Int32 × Int32 × xS) : Option ((Int32 × Int32 × xS) ⊕ (Int32 × Int32 × xS)) :=
  let v3 := a.1; let v4 := a.2.1; let σ := a.2.2;
  if v4 = 0 then
    some (.inl (v3, v4, σ))
  else
    (x_it (f_Mo_marks_60_L125 v1 v2 v3) 10000 ((0 : Int32), σ)).bind fun b9 =>
    (f_Mo_takesSharp_60  b9.2).bind fun q10 =>
    let w11 := q10.1
    if w11 ≤ v3 then
      (f_Mo_nextNumbers_60 v1 q10.2).bind fun q12 =>
      let w13 := q12.1
      some (.inr (v3, w13, q12.2))
    else
      (x_it (f_Mo_marks_60_L177 v1 v2 w11) 10000 ((0 : Int32), q10.2)).bind fun b14 =>
      (f_Mo_nextNumbers_60 v1 b14.2).bind fun q15 =>
      let w16 := q15.1
      some (.inr (w11, w16, q15.2))
def f_Mo_marks_60 (v1 : Int32) (σ : xS) : Option (Int32 × xS) :=
  let σ17 := x_pI σ 60 0 (0 : Int32)
  (f_Mo_within v1 (0 : Int32) (3 : Int32) σ17).bind fun q18 =>
  (f_Mo_right_60 q18.1 (1 : Int32) q18.2).bind fun q19 =>
  if q19.1 = 0 then
    some ((0 : Int32), q19.2)
  else
    let σ20 := x_pI q19.2 60 69 (0 : Int32)
    (f_Mo_addsSpot_60 (σ20.1 60 1) σ20).bind fun q21 =>
    (x_it (f_Mo_marks_60_L36 v1) 10000 ((0 : Int32), q21.2)).bind fun b22 =>
    if v1 ≤ b22.2.1 60 69 then
      (f_Mo_copies_60_79_80  b22.2).bind fun q23 =>
      let w24 := q23.2.1 60 4
      let σ25 := x_pI q23.2 60 4 v1
      (x_it (f_Mo_marks_60_L94 v1 w24) 10000 ((0 : Int32), σ25)).bind fun b26 =>
      (x_it (f_Mo_marks_60_L117 v1 w24) 10000 ((-1 : Int32), (1 : Int32), b26.2)).bind fun b27 =>
      let σ28 := x_pI b27.2.2 60 4 w24
      (f_Mo_copies_60_80_79  σ28).bind fun q29 =>
      let σ30 := x_pI q29.2 60 68 v1
      some (b27.1, σ30)
    else
      some ((-1 : Int32), b22.2)
set_option maxHeartbeats 4000000 in
set_option maxRecDepth 100000 in
theorem b_Mo_marks_60_L94 {l : Launch} {s0 : State} {a0 : Array Value} {D : va_G} {cA : Nat → ClassId} {sp : Nat → Nat} (E : x_En CL l s0 a0 D cA sp) (v1 : Int32) (v2 : Int32) {r : Int32} {σ1 : xS} (a : Int32 × xS) (o : (Int32 × xS) ⊕ (Int32 × xS)) (h : f_Mo_marks_60_L94 v1 v2 a = some o) (hK : ∀ b, o = .inl b → zW l s0 D cA sp (zQ s0 D cA sp (some (.int r)) σ1) (x_rm 6 0 0) M_Mo_marks 0 0 112 [some (.ref 60), some (.int v1), some (.int v2), none, none, none, none] [] b.2) (hG : ∀ a', o = .inr a' → zW l s0 D cA sp (zQ s0 D cA sp (some (.int r)) σ1) (x_rm 6 0 0) M_Mo_marks 0 0 94 [some (.ref 60), some (.int v1), some (.int v2), some (.int a'.1), none, none, none] [] a'.2) : zW l s0 D cA sp (zQ s0 D cA sp (some (.int r)) σ1) (x_rm 6 0 0) M_Mo_marks 0 0 94 [some (.ref 60), some (.int v1), some (.int v2), some (.int a.1), none, none, none] [] a.2 := by
  obtain ⟨v3, σ⟩ := a
  unfold f_Mo_marks_60_L94 at h
  try dsimp only at h ⊢
  refine x_iload_n 95 rfl 3 dX9_marks_94 rfl rfl ?_
  refine x_iload_n 96 rfl 1 dX9_marks_95 rfl rfl ?_
  refine x_icmp_ge 99 rfl 112 dX9_marks_96 (by decide) (fun hc => ?_) (fun hc => ?_)
  · replace h := x_ifT hc h
    cases h
    exact x_wk (x_le_s (x_le_s (x_le_s (x_le_n (x_le_n (x_le_n (x_le_n x_le_0))))))) (hK (_, _) rfl)
  · replace h := x_ifF hc h
    refine x_aload_n 100 rfl 0 dX9_marks_99 rfl rfl ?_
    refine x_getR E dX9_marks_100 F_RX9_111 sh_60 rf_60_72 103 rfl ?_
    refine x_iload_n 104 rfl 3 dX9_marks_103 rfl rfl ?_
    refine x_iload_n 105 rfl 3 dX9_marks_104 rfl rfl ?_
    obtain ⟨hz, h⟩ := x_ifn h
    refine x_iast E dX9_marks_105 sh_89 _ rfl hz 106 rfl ?_
    refine x_iinc 109 rfl (1) dX9_marks_106 rfl (by decide) (by decide) [some (.ref 60), some (.int _), some (.int _), some (.int _), none, none, none] rfl ?_
    refine x_goto 94 dX9_marks_109 (by decide) ?_
    cases h
    exact x_wk (x_le_s (x_le_s (x_le_s (x_le_s (x_le_n (x_le_n (x_le_n x_le_0))))))) (hG (_, _) rfl)
set_option maxHeartbeats 4000000 in
set_option maxRecDepth 100000 in
theorem b_Mo_marks_60_L36 {l : Launch} {s0 : State} {a0 : Array Value} {D : va_G} {cA : Nat → ClassId} {sp : Nat → Nat} (E : x_En CL l s0 a0 D cA sp) (v1 : Int32) {r : Int32} {σ1 : xS} (a : Int32 × xS) (o : (Int32 × xS) ⊕ (Int32 × xS)) (h : f_Mo_marks_60_L36 v1 a = some o) (hK : ∀ b, o = .inl b → zW l s0 D cA sp (zQ s0 D cA sp (some (.int r)) σ1) (x_rm 6 0 0) M_Mo_marks 0 0 60 [some (.ref 60), some (.int v1), none, none, none, none, none] [] b.2) (hG : ∀ a', o = .inr a' → zW l s0 D cA sp (zQ s0 D cA sp (some (.int r)) σ1) (x_rm 6 0 0) M_Mo_marks 0 0 36 [some (.ref 60), some (.int v1), some (.int a'.1), none, none, none, none] [] a'.2) : zW l s0 D cA sp (zQ s0 D cA sp (some (.int r)) σ1) (x_rm 6 0 0) M_Mo_marks 0 0 36 [some (.ref 60), some (.int v1), some (.int a.1), none, none, none, none] [] a.2 := by
  obtain ⟨v2, σ⟩ := a
  unfold f_Mo_marks_60_L36 at h
  try dsimp only at h ⊢
  refine x_iload_n 37 rfl 2 dX9_marks_36 rfl rfl ?_
  refine x_aload_n 38 rfl 0 dX9_marks_37 rfl rfl ?_
  refine x_getI E dX9_marks_38 F_RX9_324 sh_60 41 rfl ?_
  refine x_icmp_ge 44 rfl 60 dX9_marks_41 (by decide) (fun hc => ?_) (fun hc => ?_)
  · replace h := x_ifT hc h
    cases h
    exact x_wk (x_le_s (x_le_s (x_le_n (x_le_n (x_le_n (x_le_n (x_le_n x_le_0))))))) (hK (_, _) rfl)
  · replace h := x_ifF hc h
    refine x_aload_n 45 rfl 0 dX9_marks_44 rfl rfl ?_
    refine x_aload_n 46 rfl 0 dX9_marks_45 rfl rfl ?_
    refine x_getR E dX9_marks_46 F_RX9_19 sh_60 rf_60_8 49 rfl ?_
    refine x_iload_n 50 rfl 2 dX9_marks_49 rfl rfl ?_
    obtain ⟨hz, h⟩ := x_ifn h
    refine x_iald E dX9_marks_50 sh_61 _ rfl hz 51 rfl ?_
    obtain ⟨⟨q3r, q3s⟩, q3h, h⟩ := x_bind h
    try dsimp only at h
    refine z_callV E [.int _] [] dX9_marks_51 K_RX9_469 ⟨Nat.le_of_ble_eq_true rfl, Nat.le_of_ble_eq_true rfl⟩ sh_60 (by decide) rfl (c_Mo_addsSpot_60 E _ q3h) rfl rfl (Nat.le_of_ble_eq_true rfl) 54 rfl [] rfl ?_
    refine x_iinc 57 rfl (1) dX9_marks_54 rfl (by decide) (by decide) [some (.ref 60), some (.int _), some (.int _), none, none, none, none] rfl ?_
    refine x_goto 36 dX9_marks_57 (by decide) ?_
    cases h
    exact x_wk (x_le_s (x_le_s (x_le_s (x_le_n (x_le_n (x_le_n (x_le_n x_le_0))))))) (hG (_, _) rfl)
set_option maxHeartbeats 4000000 in
set_option maxRecDepth 100000 in
theorem b_Mo_marks_60_L177 {l : Launch} {s0 : State} {a0 : Array Value} {D : va_G} {cA : Nat → ClassId} {sp : Nat → Nat} (E : x_En CL l s0 a0 D cA sp) (v1 : Int32) (v2 : Int32) (v3 : Int32) {r : Int32} {σ1 : xS} (a : Int32 × xS) (o : (Int32 × xS) ⊕ (Int32 × xS)) (h : f_Mo_marks_60_L177 v1 v2 v3 a = some o) (hK : ∀ b, o = .inl b → zW l s0 D cA sp (zQ s0 D cA sp (some (.int r)) σ1) (x_rm 6 0 0) M_Mo_marks 0 0 208 [some (.ref 60), some (.int v1), some (.int v2), some (.int v3), none, none, none] [] b.2) (hG : ∀ a', o = .inr a' → zW l s0 D cA sp (zQ s0 D cA sp (some (.int r)) σ1) (x_rm 6 0 0) M_Mo_marks 0 0 177 [some (.ref 60), some (.int v1), some (.int v2), some (.int v3), none, none, some (.int a'.1)] [] a'.2) : zW l s0 D cA sp (zQ s0 D cA sp (some (.int r)) σ1) (x_rm 6 0 0) M_Mo_marks 0 0 177 [some (.ref 60), some (.int v1), some (.int v2), some (.int v3), none, none, some (.int a.1)] [] a.2 := by
  obtain ⟨v6, σ⟩ := a
  unfold f_Mo_marks_60_L177 at h
  try dsimp only at h ⊢
  refine x_iload 179 rfl dX9_marks_177 rfl ?_
  refine x_iload_n 180 rfl 1 dX9_marks_179 rfl rfl ?_
  refine x_icmp_ge 183 rfl 208 dX9_marks_180 (by decide) (fun hc => ?_) (fun hc => ?_)
  · replace h := x_ifT hc h
    cases h
    exact x_wk (x_le_s (x_le_s (x_le_s (x_le_s (x_le_n (x_le_n (x_le_n x_le_0))))))) (hK (_, _) rfl)
  · replace h := x_ifF hc h
    refine x_aload_n 184 rfl 0 dX9_marks_183 rfl rfl ?_
    refine x_getR E dX9_marks_184 F_RX9_105 sh_60 rf_60_70 187 rfl ?_
    refine x_iload 189 rfl dX9_marks_187 rfl ?_
    refine x_aload_n 190 rfl 0 dX9_marks_189 rfl rfl ?_
    refine x_getR E dX9_marks_190 F_RX9_108 sh_60 rf_60_71 193 rfl ?_
    refine x_aload_n 194 rfl 0 dX9_marks_193 rfl rfl ?_
    refine x_getR E dX9_marks_194 F_RX9_111 sh_60 rf_60_72 197 rfl ?_
    refine x_iload 199 rfl dX9_marks_197 rfl ?_
    obtain ⟨hz, h⟩ := x_ifn h
    refine x_iald E dX9_marks_199 sh_89 _ rfl hz 200 rfl ?_
    obtain ⟨hz, h⟩ := x_ifn h
    refine x_iald E dX9_marks_200 sh_88 _ rfl hz 201 rfl ?_
    obtain ⟨hz, h⟩ := x_ifn h
    refine x_iast E dX9_marks_201 sh_87 _ rfl hz 202 rfl ?_
    refine x_iinc 205 rfl (1) dX9_marks_202 rfl (by decide) (by decide) [some (.ref 60), some (.int _), some (.int _), some (.int _), none, none, some (.int _)] rfl ?_
    refine x_goto 177 dX9_marks_205 (by decide) ?_
    cases h
    exact x_wk (x_le_s (x_le_s (x_le_s (x_le_s (x_le_n (x_le_n (x_le_s x_le_0))))))) (hG (_, _) rfl)
set_option maxHeartbeats 4000000 in
set_option maxRecDepth 100000 in
theorem b_Mo_marks_60_L125 {l : Launch} {s0 : State} {a0 : Array Value} {D : va_G} {cA : Nat → ClassId} {sp : Nat → Nat} (E : x_En CL l s0 a0 D cA sp) (v1 : Int32) (v2 : Int32) (v3 : Int32) {r : Int32} {σ1 : xS} (a : Int32 × xS) (o : (Int32 × xS) ⊕ (Int32 × xS)) (h : f_Mo_marks_60_L125 v1 v2 v3 a = some o) (hK : ∀ b, o = .inl b → zW l s0 D cA sp (zQ s0 D cA sp (some (.int r)) σ1) (x_rm 6 0 0) M_Mo_marks 0 0 159 [some (.ref 60), some (.int v1), some (.int v2), some (.int v3), none, none, none] [] b.2) (hG : ∀ a', o = .inr a' → zW l s0 D cA sp (zQ s0 D cA sp (some (.int r)) σ1) (x_rm 6 0 0) M_Mo_marks 0 0 125 [some (.ref 60), some (.int v1), some (.int v2), some (.int v3), none, some (.int a'.1), none] [] a'.2) : zW l s0 D cA sp (zQ s0 D cA sp (some (.int r)) σ1) (x_rm 6 0 0) M_Mo_marks 0 0 125 [some (.ref 60), some (.int v1), some (.int v2), some (.int v3), none, some (.int a.1), none] [] a.2 := by
  obtain ⟨v5, σ⟩ := a
  unfold f_Mo_marks_60_L125 at h
  try dsimp only at h ⊢
  refine x_iload 127 rfl dX9_marks_125 rfl ?_
  refine x_iload_n 128 rfl 1 dX9_marks_127 rfl rfl ?_
  refine x_icmp_ge 131 rfl 159 dX9_marks_128 (by decide) (fun hc => ?_) (fun hc => ?_)
  · replace h := x_ifT hc h
    cases h
    exact x_wk (x_le_s (x_le_s (x_le_s (x_le_s (x_le_n (x_le_n (x_le_n x_le_0))))))) (hK (_, _) rfl)
  · replace h := x_ifF hc h
    refine x_aload_n 132 rfl 0 dX9_marks_131 rfl rfl ?_
    refine x_getR E dX9_marks_132 F_RX9_78 sh_60 rf_60_53 135 rfl ?_
    refine x_bipush 137 rfl (v := 6) dX9_marks_135 (by decide) ?_
    refine x_iload 139 rfl dX9_marks_137 rfl ?_
    refine x_iadd 140 rfl dX9_marks_139 ?_
    refine x_aload_n 141 rfl 0 dX9_marks_140 rfl rfl ?_
    refine x_getR E dX9_marks_141 F_RX9_108 sh_60 rf_60_71 144 rfl ?_
    refine x_aload_n 145 rfl 0 dX9_marks_144 rfl rfl ?_
    refine x_getR E dX9_marks_145 F_RX9_111 sh_60 rf_60_72 148 rfl ?_
    refine x_iload 150 rfl dX9_marks_148 rfl ?_
    obtain ⟨hz, h⟩ := x_ifn h
    refine x_iald E dX9_marks_150 sh_89 _ rfl hz 151 rfl ?_
    obtain ⟨hz, h⟩ := x_ifn h
    refine x_iald E dX9_marks_151 sh_88 _ rfl hz 152 rfl ?_
    obtain ⟨hz, h⟩ := x_ifn h
    refine x_iast E dX9_marks_152 sh_79 _ rfl hz 153 rfl ?_
    refine x_iinc 156 rfl (1) dX9_marks_153 rfl (by decide) (by decide) [some (.ref 60), some (.int _), some (.int _), some (.int _), none, some (.int _), none] rfl ?_
    refine x_goto 125 dX9_marks_156 (by decide) ?_
    cases h
    exact x_wk (x_le_s (x_le_s (x_le_s (x_le_s (x_le_n (x_le_s (x_le_n x_le_0))))))) (hG (_, _) rfl)
set_option maxHeartbeats 4000000 in
set_option maxRecDepth 100000 in
theorem b_Mo_marks_60_L117 {l : Launch} {s0 : State} {a0 : Array Value} {D : va_G} {cA : Nat → ClassId} {sp : Nat → Nat} (E : x_En CL l s0 a0 D cA sp) (v1 : Int32) (v2 : Int32) {r : Int32} {σ1 : xS} (a : Int32 × Int32 × xS) (o : (Int32 × Int32 × xS) ⊕ (Int32 × Int32 × xS)) (h : f_Mo_marks_60_L117 v1 v2 a = some o) (hK : ∀ b, o = .inl b → zW l s0 D cA sp (zQ s0 D cA sp (some (.int r)) σ1) (x_rm 6 0 0) M_Mo_marks 0 0 218 [some (.ref 60), some (.int v1), some (.int v2), some (.int b.1), none, none, none] [] b.2.2) (hG : ∀ a', o = .inr a' → zW l s0 D cA sp (zQ s0 D cA sp (some (.int r)) σ1) (x_rm 6 0 0) M_Mo_marks 0 0 117 [some (.ref 60), some (.int v1), some (.int v2), some (.int a'.1), some (.int a'.2.1), none, none] [] a'.2.2) : zW l s0 D cA sp (zQ s0 D cA sp (some (.int r)) σ1) (x_rm 6 0 0) M_Mo_marks 0 0 117 [some (.ref 60), some (.int v1), some (.int v2), some (.int a.1), some (.int a.2.1), none, none] [] a.2.2 := by
  obtain ⟨v3, v4, σ⟩ := a
  unfold f_Mo_marks_60_L117 at h
  try dsimp only at h ⊢
  refine x_iload 119 rfl dX9_marks_117 rfl ?_
  refine x_if_eq 122 rfl 218 dX9_marks_119 (by decide) (fun hc => ?_) (fun hc => ?_)
  · replace h := x_ifT hc h
    cases h
    exact x_wk (x_le_s (x_le_s (x_le_s (x_le_s (x_le_n (x_le_n (x_le_n x_le_0))))))) (hK (_, _, _) rfl)
  · replace h := x_ifF hc h
    refine x_iconst 123 rfl (v := 0) dX9_marks_122 (by decide) ?_
    refine x_istore 125 rfl dX9_marks_123 (by decide) [some (.ref 60), some (.int _), some (.int _), some (.int _), some (.int _), some (.int _), none] rfl ?_
    obtain ⟨b9, b9h, h⟩ := x_bind h
    try dsimp only at h
    refine x_wk (x_le_s (x_le_s (x_le_s (x_le_s (x_le_n (x_le_s (x_le_n x_le_0))))))) (x_loop (fun a o h hK hG => b_Mo_marks_60_L125 (r := r) (σ1 := σ1) E _ _ _ a o h hK hG) _ _ _ b9h ?_)
    refine x_aload_n 160 rfl 0 dX9_marks_159 rfl rfl ?_
    obtain ⟨⟨q10r, q10s⟩, q10h, h⟩ := x_bind h
    try dsimp only at h
    refine z_callV E [] [] dX9_marks_160 K_RX9_445 ⟨Nat.le_of_ble_eq_true rfl, Nat.le_of_ble_eq_true rfl⟩ sh_60 (by decide) rfl (c_Mo_takesSharp_60 E  q10h) rfl rfl (Nat.le_of_ble_eq_true rfl) 163 rfl [.int _] rfl ?_
    refine x_istore 165 rfl dX9_marks_163 (by decide) [some (.ref 60), some (.int _), some (.int _), some (.int _), none, some (.int _), none] rfl ?_
    refine x_iload 167 rfl dX9_marks_165 rfl ?_
    refine x_iload_n 168 rfl 3 dX9_marks_167 rfl rfl ?_
    refine x_icmp_le 171 rfl 208 dX9_marks_168 (by decide) (fun hc => ?_) (fun hc => ?_)
    · replace h := x_ifT hc h
      refine x_aload_n 209 rfl 0 dX9_marks_208 rfl rfl ?_
      refine x_iload_n 210 rfl 1 dX9_marks_209 rfl rfl ?_
      obtain ⟨⟨q12r, q12s⟩, q12h, h⟩ := x_bind h
      try dsimp only at h
      refine z_callV E [.int _] [] dX9_marks_210 K_RX9_472 ⟨Nat.le_of_ble_eq_true rfl, Nat.le_of_ble_eq_true rfl⟩ sh_60 (by decide) rfl (c_Mo_nextNumbers_60 E _ q12h) rfl rfl (Nat.le_of_ble_eq_true rfl) 213 rfl [.int _] rfl ?_
      refine x_istore 215 rfl dX9_marks_213 (by decide) [some (.ref 60), some (.int _), some (.int _), some (.int _), some (.int _), some (.int _), none] rfl ?_
      refine x_goto 117 dX9_marks_215 (by decide) ?_
      cases h
      exact x_wk (x_le_s (x_le_s (x_le_s (x_le_s (x_le_s (x_le_n (x_le_n x_le_0))))))) (hG (_, _, _) rfl)
    · replace h := x_ifF hc h
      refine x_iload 173 rfl dX9_marks_171 rfl ?_
      refine x_istore_n 174 rfl 3 dX9_marks_173 rfl (by decide) [some (.ref 60), some (.int _), some (.int _), some (.int _), none, some (.int _), none] rfl ?_
      refine x_iconst 175 rfl (v := 0) dX9_marks_174 (by decide) ?_
      refine x_istore 177 rfl dX9_marks_175 (by decide) [some (.ref 60), some (.int _), some (.int _), some (.int _), none, some (.int _), some (.int _)] rfl ?_
      obtain ⟨b14, b14h, h⟩ := x_bind h
      try dsimp only at h
      refine x_wk (x_le_s (x_le_s (x_le_s (x_le_s (x_le_n (x_le_n (x_le_s x_le_0))))))) (x_loop (fun a o h hK hG => b_Mo_marks_60_L177 (r := r) (σ1 := σ1) E _ _ _ a o h hK hG) _ _ _ b14h ?_)
      refine x_aload_n 209 rfl 0 dX9_marks_208 rfl rfl ?_
      refine x_iload_n 210 rfl 1 dX9_marks_209 rfl rfl ?_
      obtain ⟨⟨q15r, q15s⟩, q15h, h⟩ := x_bind h
      try dsimp only at h
      refine z_callV E [.int _] [] dX9_marks_210 K_RX9_472 ⟨Nat.le_of_ble_eq_true rfl, Nat.le_of_ble_eq_true rfl⟩ sh_60 (by decide) rfl (c_Mo_nextNumbers_60 E _ q15h) rfl rfl (Nat.le_of_ble_eq_true rfl) 213 rfl [.int _] rfl ?_
      refine x_istore 215 rfl dX9_marks_213 (by decide) [some (.ref 60), some (.int _), some (.int _), some (.int _), some (.int _), none, none] rfl ?_
      refine x_goto 117 dX9_marks_215 (by decide) ?_
      cases h
      exact x_wk (x_le_s (x_le_s (x_le_s (x_le_s (x_le_s (x_le_n (x_le_n x_le_0))))))) (hG (_, _, _) rfl)
set_option maxHeartbeats 4000000 in
set_option maxRecDepth 100000 in
theorem c_Mo_marks_60 {l : Launch} {s0 : State} {a0 : Array Value} {D : va_G} {cA : Nat → ClassId} {sp : Nat → Nat} (E : x_En CL l s0 a0 D cA sp) (v1 : Int32) {σ : xS} {r : Int32} {σ1 : xS} (h : f_Mo_marks_60 v1 σ = some (r, σ1)) : zC l s0 D cA sp 6 M_Mo_marks [.ref 60, .int v1] σ (some (.int r)) σ1 := by
  unfold f_Mo_marks_60 at h
  try dsimp only at h
  refine x_enter [some (.ref 60), some (.int v1), none, none, none, none, none] rfl (Nat.le_of_ble_eq_true rfl) (by decide +kernel) rfl ?_
  refine x_aload_n 1 rfl 0 dX9_marks_0 rfl rfl ?_
  refine x_iconst 2 rfl (v := 0) dX9_marks_1 (by decide) ?_
  refine x_putI E dX9_marks_2 F_RX9_132 sh_60 5 rfl ?_
  refine x_aload_n 6 rfl 0 dX9_marks_5 rfl rfl ?_
  refine x_iload_n 7 rfl 1 dX9_marks_6 rfl rfl ?_
  refine x_iconst 8 rfl (v := 0) dX9_marks_7 (by decide) ?_
  refine x_iconst 9 rfl (v := 3) dX9_marks_8 (by decide) ?_
  obtain ⟨⟨q18r, q18s⟩, q18h, h⟩ := x_bind h
  try dsimp only at h
  refine z_callS E [.int _, .int _, .int _] [.ref 60] dX9_marks_9 K_RX9_414 ⟨Nat.le_of_ble_eq_true rfl, Nat.le_of_ble_eq_true rfl⟩ (c_Mo_within E _ _ _ q18h) rfl rfl (Nat.le_of_ble_eq_true rfl) 12 rfl [.int _, .ref 60] rfl ?_
  refine x_iconst 13 rfl (v := 1) dX9_marks_12 (by decide) ?_
  obtain ⟨⟨q19r, q19s⟩, q19h, h⟩ := x_bind h
  try dsimp only at h
  refine z_callV E [.int _, .int _] [] dX9_marks_13 K_RX9_311 ⟨Nat.le_of_ble_eq_true rfl, Nat.le_of_ble_eq_true rfl⟩ sh_60 (by decide) rfl (c_Mo_right_60 E _ _ q19h) rfl rfl (Nat.le_of_ble_eq_true rfl) 16 rfl [.int _] rfl ?_
  refine x_if_ne 19 rfl 21 dX9_marks_16 (by decide) (fun hc => ?_) (fun hc => ?_)
  · replace h := x_ifF hc h
    refine x_aload_n 22 rfl 0 dX9_marks_21 rfl rfl ?_
    refine x_iconst 23 rfl (v := 0) dX9_marks_22 (by decide) ?_
    refine x_putI E dX9_marks_23 F_RX9_466 sh_60 26 rfl ?_
    refine x_aload_n 27 rfl 0 dX9_marks_26 rfl rfl ?_
    refine x_aload_n 28 rfl 0 dX9_marks_27 rfl rfl ?_
    refine x_getI E dX9_marks_28 F_RX9_7 sh_60 31 rfl ?_
    obtain ⟨⟨q21r, q21s⟩, q21h, h⟩ := x_bind h
    try dsimp only at h
    refine z_callV E [.int _] [] dX9_marks_31 K_RX9_469 ⟨Nat.le_of_ble_eq_true rfl, Nat.le_of_ble_eq_true rfl⟩ sh_60 (by decide) rfl (c_Mo_addsSpot_60 E _ q21h) rfl rfl (Nat.le_of_ble_eq_true rfl) 34 rfl [] rfl ?_
    refine x_iconst 35 rfl (v := 0) dX9_marks_34 (by decide) ?_
    refine x_istore_n 36 rfl 2 dX9_marks_35 rfl (by decide) [some (.ref 60), some (.int _), some (.int _), none, none, none, none] rfl ?_
    obtain ⟨b22, b22h, h⟩ := x_bind h
    try dsimp only at h
    refine x_wk (x_le_s (x_le_s (x_le_s (x_le_n (x_le_n (x_le_n (x_le_n x_le_0))))))) (x_loop (fun a o h hK hG => b_Mo_marks_60_L36 (r := r) (σ1 := σ1) E _ a o h hK hG) _ _ _ b22h ?_)
    refine x_iload_n 61 rfl 1 dX9_marks_60 rfl rfl ?_
    refine x_aload_n 62 rfl 0 dX9_marks_61 rfl rfl ?_
    refine x_getI E dX9_marks_62 F_RX9_466 sh_60 65 rfl ?_
    refine x_icmp_le 68 rfl 70 dX9_marks_65 (by decide) (fun hc => ?_) (fun hc => ?_)
    · replace h := x_ifT hc h
      refine x_aload_n 71 rfl 0 dX9_marks_70 rfl rfl ?_
      refine x_aload_n 72 rfl 0 dX9_marks_71 rfl rfl ?_
      refine x_getR E dX9_marks_72 F_RX9_78 sh_60 rf_60_53 75 rfl ?_
      refine x_aload_n 76 rfl 0 dX9_marks_75 rfl rfl ?_
      refine x_getR E dX9_marks_76 F_RX9_81 sh_60 rf_60_54 79 rfl ?_
      obtain ⟨⟨q23r, q23s⟩, q23h, h⟩ := x_bind h
      try dsimp only at h
      refine z_callV E [.ref 79, .ref 80] [] dX9_marks_79 K_RX9_336 ⟨Nat.le_of_ble_eq_true rfl, Nat.le_of_ble_eq_true rfl⟩ sh_60 (by decide) rfl (c_Mo_copies_60_79_80 E  q23h) rfl rfl (Nat.le_of_ble_eq_true rfl) 82 rfl [] rfl ?_
      refine x_aload_n 83 rfl 0 dX9_marks_82 rfl rfl ?_
      refine x_getI E dX9_marks_83 F_RX9_330 sh_60 86 rfl ?_
      refine x_istore_n 87 rfl 2 dX9_marks_86 rfl (by decide) [some (.ref 60), some (.int _), some (.int _), none, none, none, none] rfl ?_
      refine x_aload_n 88 rfl 0 dX9_marks_87 rfl rfl ?_
      refine x_iload_n 89 rfl 1 dX9_marks_88 rfl rfl ?_
      refine x_putI E dX9_marks_89 F_RX9_330 sh_60 92 rfl ?_
      refine x_iconst 93 rfl (v := 0) dX9_marks_92 (by decide) ?_
      refine x_istore_n 94 rfl 3 dX9_marks_93 rfl (by decide) [some (.ref 60), some (.int _), some (.int _), some (.int _), none, none, none] rfl ?_
      obtain ⟨b26, b26h, h⟩ := x_bind h
      try dsimp only at h
      refine x_wk (x_le_s (x_le_s (x_le_s (x_le_s (x_le_n (x_le_n (x_le_n x_le_0))))))) (x_loop (fun a o h hK hG => b_Mo_marks_60_L94 (r := r) (σ1 := σ1) E _ _ a o h hK hG) _ _ _ b26h ?_)
      refine x_iconst 113 rfl (v := -1) dX9_marks_112 (by decide) ?_
      refine x_istore_n 114 rfl 3 dX9_marks_113 rfl (by decide) [some (.ref 60), some (.int _), some (.int _), some (.int _), none, none, none] rfl ?_
      refine x_iconst 115 rfl (v := 1) dX9_marks_114 (by decide) ?_
      refine x_istore 117 rfl dX9_marks_115 (by decide) [some (.ref 60), some (.int _), some (.int _), some (.int _), some (.int _), none, none] rfl ?_
      obtain ⟨b27, b27h, h⟩ := x_bind h
      try dsimp only at h
      refine x_wk (x_le_s (x_le_s (x_le_s (x_le_s (x_le_s (x_le_n (x_le_n x_le_0))))))) (x_loop (fun a o h hK hG => b_Mo_marks_60_L117 (r := r) (σ1 := σ1) E _ _ a o h hK hG) _ _ _ b27h ?_)
      refine x_aload_n 219 rfl 0 dX9_marks_218 rfl rfl ?_
      refine x_iload_n 220 rfl 2 dX9_marks_219 rfl rfl ?_
      refine x_putI E dX9_marks_220 F_RX9_330 sh_60 223 rfl ?_
      refine x_aload_n 224 rfl 0 dX9_marks_223 rfl rfl ?_
      refine x_aload_n 225 rfl 0 dX9_marks_224 rfl rfl ?_
      refine x_getR E dX9_marks_225 F_RX9_81 sh_60 rf_60_54 228 rfl ?_
      refine x_aload_n 229 rfl 0 dX9_marks_228 rfl rfl ?_
      refine x_getR E dX9_marks_229 F_RX9_78 sh_60 rf_60_53 232 rfl ?_
      obtain ⟨⟨q29r, q29s⟩, q29h, h⟩ := x_bind h
      try dsimp only at h
      refine z_callV E [.ref 80, .ref 79] [] dX9_marks_232 K_RX9_336 ⟨Nat.le_of_ble_eq_true rfl, Nat.le_of_ble_eq_true rfl⟩ sh_60 (by decide) rfl (c_Mo_copies_60_80_79 E  q29h) rfl rfl (Nat.le_of_ble_eq_true rfl) 235 rfl [] rfl ?_
      refine x_aload_n 236 rfl 0 dX9_marks_235 rfl rfl ?_
      refine x_iload_n 237 rfl 1 dX9_marks_236 rfl rfl ?_
      refine x_putI E dX9_marks_237 F_RX9_102 sh_60 240 rfl ?_
      refine x_iload_n 241 rfl 3 dX9_marks_240 rfl rfl ?_
      cases h
      exact x_iret dX9_marks_241 rfl rfl rfl
    · replace h := x_ifF hc h
      refine x_iconst 69 rfl (v := -1) dX9_marks_68 (by decide) ?_
      cases h
      exact x_iret dX9_marks_69 rfl rfl rfl
  · replace h := x_ifT hc h
    refine x_iconst 20 rfl (v := 0) dX9_marks_19 (by decide) ?_
    cases h
    exact x_iret dX9_marks_20 rfl rfl rfl
abbrev M_Mo_kept : xM := (yX9_kept, cX9_kept, 2, some .int, [])
theorem dX9_kept_0 : decode cX9_kept 0 = .ok (.aload_n 0, 1) := by decide +kernel
theorem dX9_kept_1 : decode cX9_kept 1 = .ok (.iconst 0, 1) := by decide +kernel
theorem dX9_kept_2 : decode cX9_kept 2 = .ok (.putfield 132, 3) := by decide +kernel
theorem dX9_kept_5 : decode cX9_kept 5 = .ok (.aload_n 0, 1) := by decide +kernel
theorem dX9_kept_6 : decode cX9_kept 6 = .ok (.aload_n 0, 1) := by decide +kernel
theorem dX9_kept_7 : decode cX9_kept 7 = .ok (.getfield 102, 3) := by decide +kernel
theorem dX9_kept_10 : decode cX9_kept 10 = .ok (.iconst (-1), 1) := by decide +kernel
theorem dX9_kept_11 : decode cX9_kept 11 = .ok (.if_icmp .eq 19, 3) := by decide +kernel
theorem dX9_kept_14 : decode cX9_kept 14 = .ok (.iload_n 1, 1) := by decide +kernel
theorem dX9_kept_15 : decode cX9_kept 15 = .ok (.ifCond .lt 15, 3) := by decide +kernel
theorem dX9_kept_18 : decode cX9_kept 18 = .ok (.iload_n 1, 1) := by decide +kernel
theorem dX9_kept_19 : decode cX9_kept 19 = .ok (.aload_n 0, 1) := by decide +kernel
theorem dX9_kept_20 : decode cX9_kept 20 = .ok (.getfield 102, 3) := by decide +kernel
theorem dX9_kept_23 : decode cX9_kept 23 = .ok (.if_icmp .ge 7, 3) := by decide +kernel
theorem dX9_kept_26 : decode cX9_kept 26 = .ok (.iconst 1, 1) := by decide +kernel
theorem dX9_kept_27 : decode cX9_kept 27 = .ok (.goto 4, 3) := by decide +kernel
theorem dX9_kept_30 : decode cX9_kept 30 = .ok (.iconst 0, 1) := by decide +kernel
theorem dX9_kept_31 : decode cX9_kept 31 = .ok (.iconst 1, 1) := by decide +kernel
theorem dX9_kept_32 : decode cX9_kept 32 = .ok (.invokevirtual 311, 3) := by decide +kernel
theorem dX9_kept_35 : decode cX9_kept 35 = .ok (.ifCond .eq 12, 3) := by decide +kernel
theorem dX9_kept_38 : decode cX9_kept 38 = .ok (.aload_n 0, 1) := by decide +kernel
theorem dX9_kept_39 : decode cX9_kept 39 = .ok (.getfield 105, 3) := by decide +kernel
theorem dX9_kept_42 : decode cX9_kept 42 = .ok (.iload_n 1, 1) := by decide +kernel
theorem dX9_kept_43 : decode cX9_kept 43 = .ok (.iaload, 1) := by decide +kernel
theorem dX9_kept_44 : decode cX9_kept 44 = .ok (.goto 4, 3) := by decide +kernel
theorem dX9_kept_47 : decode cX9_kept 47 = .ok (.iconst 0, 1) := by decide +kernel
theorem dX9_kept_48 : decode cX9_kept 48 = .ok (.ireturn, 1) := by decide +kernel
def f_Mo_kept_60_J31 (v1 : Int32) (y1 : Int32) (σ : xS) : Option (Int32 × xS) :=
  (f_Mo_right_60 y1 (1 : Int32) σ).bind fun q1 =>
  if q1.1 = 0 then
    some ((0 : Int32), q1.2)
  else
    if v1 < 0 ∨ 3 ≤ v1.toNatClampNeg then none else
    some (q1.2.1 87 v1.toNatClampNeg, q1.2)
def f_Mo_kept_60_J30 (v1 : Int32) (σ : xS) : Option (Int32 × xS) :=
  f_Mo_kept_60_J31 v1 (0 : Int32) σ
def f_Mo_kept_60 (v1 : Int32) (σ : xS) : Option (Int32 × xS) :=
  let σ2 := x_pI σ 60 0 (0 : Int32)
  if σ2.1 60 68 = (-1 : Int32) then
    f_Mo_kept_60_J30 v1 σ2
  else
    if v1 < 0 then
      f_Mo_kept_60_J30 v1 σ2
    else
      if σ2.1 60 68 ≤ v1 then
        f_Mo_kept_60_J30 v1 σ2
      else
        f_Mo_kept_60_J31 v1 (1 : Int32) σ2
set_option maxHeartbeats 4000000 in
set_option maxRecDepth 100000 in
theorem j_Mo_kept_60_J31 {l : Launch} {s0 : State} {a0 : Array Value} {D : va_G} {cA : Nat → ClassId} {sp : Nat → Nat} (E : x_En CL l s0 a0 D cA sp) (v1 : Int32) (y1 : Int32) (σ : xS) {r : Int32} {σ1 : xS} (h : f_Mo_kept_60_J31 v1 y1 σ = some (r, σ1)) : zW l s0 D cA sp (zQ s0 D cA sp (some (.int r)) σ1) (x_rm 1 0 0) M_Mo_kept 0 0 31 [some (.ref 60), some (.int v1)] [.int y1, .ref 60] σ := by
  unfold f_Mo_kept_60_J31 at h
  try dsimp only at h
  refine x_iconst 32 rfl (v := 1) dX9_kept_31 (by decide) ?_
  obtain ⟨⟨q1r, q1s⟩, q1h, h⟩ := x_bind h
  try dsimp only at h
  refine z_callV E [.int _, .int _] [] dX9_kept_32 K_RX9_311 ⟨Nat.le_of_ble_eq_true rfl, Nat.le_of_ble_eq_true rfl⟩ sh_60 (by decide) rfl (c_Mo_right_60 E _ _ q1h) rfl rfl (Nat.le_of_ble_eq_true rfl) 35 rfl [.int _] rfl ?_
  refine x_if_eq 38 rfl 47 dX9_kept_35 (by decide) (fun hc => ?_) (fun hc => ?_)
  · replace h := x_ifT hc h
    refine x_iconst 48 rfl (v := 0) dX9_kept_47 (by decide) ?_
    cases h
    exact x_iret dX9_kept_48 rfl rfl rfl
  · replace h := x_ifF hc h
    refine x_aload_n 39 rfl 0 dX9_kept_38 rfl rfl ?_
    refine x_getR E dX9_kept_39 F_RX9_105 sh_60 rf_60_70 42 rfl ?_
    refine x_iload_n 43 rfl 1 dX9_kept_42 rfl rfl ?_
    obtain ⟨hz, h⟩ := x_ifn h
    refine x_iald E dX9_kept_43 sh_87 _ rfl hz 44 rfl ?_
    refine x_goto 48 dX9_kept_44 (by decide) ?_
    cases h
    exact x_iret dX9_kept_48 rfl rfl rfl
set_option maxHeartbeats 4000000 in
set_option maxRecDepth 100000 in
theorem j_Mo_kept_60_J30 {l : Launch} {s0 : State} {a0 : Array Value} {D : va_G} {cA : Nat → ClassId} {sp : Nat → Nat} (E : x_En CL l s0 a0 D cA sp) (v1 : Int32) (σ : xS) {r : Int32} {σ1 : xS} (h : f_Mo_kept_60_J30 v1 σ = some (r, σ1)) : zW l s0 D cA sp (zQ s0 D cA sp (some (.int r)) σ1) (x_rm 1 0 0) M_Mo_kept 0 0 30 [some (.ref 60), some (.int v1)] [.ref 60] σ := by
  unfold f_Mo_kept_60_J30 at h
  try dsimp only at h
  refine x_iconst 31 rfl (v := 0) dX9_kept_30 (by decide) ?_
  exact x_wk (x_le_s (x_le_s x_le_0)) (j_Mo_kept_60_J31 E _ _ _ h)
set_option maxHeartbeats 4000000 in
set_option maxRecDepth 100000 in
theorem c_Mo_kept_60 {l : Launch} {s0 : State} {a0 : Array Value} {D : va_G} {cA : Nat → ClassId} {sp : Nat → Nat} (E : x_En CL l s0 a0 D cA sp) (v1 : Int32) {σ : xS} {r : Int32} {σ1 : xS} (h : f_Mo_kept_60 v1 σ = some (r, σ1)) : zC l s0 D cA sp 1 M_Mo_kept [.ref 60, .int v1] σ (some (.int r)) σ1 := by
  unfold f_Mo_kept_60 at h
  try dsimp only at h
  refine x_enter [some (.ref 60), some (.int v1)] rfl (Nat.le_of_ble_eq_true rfl) (by decide +kernel) rfl ?_
  refine x_aload_n 1 rfl 0 dX9_kept_0 rfl rfl ?_
  refine x_iconst 2 rfl (v := 0) dX9_kept_1 (by decide) ?_
  refine x_putI E dX9_kept_2 F_RX9_132 sh_60 5 rfl ?_
  refine x_aload_n 6 rfl 0 dX9_kept_5 rfl rfl ?_
  refine x_aload_n 7 rfl 0 dX9_kept_6 rfl rfl ?_
  refine x_getI E dX9_kept_7 F_RX9_102 sh_60 10 rfl ?_
  refine x_iconst 11 rfl (v := -1) dX9_kept_10 (by decide) ?_
  refine x_icmp_eq 14 rfl 30 dX9_kept_11 (by decide) (fun hc => ?_) (fun hc => ?_)
  · replace h := x_ifT hc h
    exact x_wk (x_le_s (x_le_s x_le_0)) (j_Mo_kept_60_J30 E _ _ h)
  · replace h := x_ifF hc h
    refine x_iload_n 15 rfl 1 dX9_kept_14 rfl rfl ?_
    refine x_if_lt 18 rfl 30 dX9_kept_15 (by decide) (fun hc => ?_) (fun hc => ?_)
    · replace h := x_ifT hc h
      exact x_wk (x_le_s (x_le_s x_le_0)) (j_Mo_kept_60_J30 E _ _ h)
    · replace h := x_ifF hc h
      refine x_iload_n 19 rfl 1 dX9_kept_18 rfl rfl ?_
      refine x_aload_n 20 rfl 0 dX9_kept_19 rfl rfl ?_
      refine x_getI E dX9_kept_20 F_RX9_102 sh_60 23 rfl ?_
      refine x_icmp_ge 26 rfl 30 dX9_kept_23 (by decide) (fun hc => ?_) (fun hc => ?_)
      · replace h := x_ifT hc h
        exact x_wk (x_le_s (x_le_s x_le_0)) (j_Mo_kept_60_J30 E _ _ h)
      · replace h := x_ifF hc h
        refine x_iconst 27 rfl (v := 1) dX9_kept_26 (by decide) ?_
        refine x_goto 31 dX9_kept_27 (by decide) ?_
        exact x_wk (x_le_s (x_le_s x_le_0)) (j_Mo_kept_60_J31 E _ _ _ h)
abbrev M_Mo_draw : xM := (yX9_draw, cX9_draw, 2, some .int, [])
theorem dX9_draw_0 : decode cX9_draw 0 = .ok (.aload_n 0, 1) := by decide +kernel
theorem dX9_draw_1 : decode cX9_draw 1 = .ok (.aload_n 0, 1) := by decide +kernel
theorem dX9_draw_2 : decode cX9_draw 2 = .ok (.getfield 475, 3) := by decide +kernel
theorem dX9_draw_5 : decode cX9_draw 5 = .ok (.ldc_w 478, 3) := by decide +kernel
theorem dX9_draw_8 : decode cX9_draw 8 = .ok (.imul, 1) := by decide +kernel
theorem dX9_draw_9 : decode cX9_draw 9 = .ok (.sipush 12345, 3) := by decide +kernel
theorem dX9_draw_12 : decode cX9_draw 12 = .ok (.iadd, 1) := by decide +kernel
theorem dX9_draw_13 : decode cX9_draw 13 = .ok (.putfield 475, 3) := by decide +kernel
theorem dX9_draw_16 : decode cX9_draw 16 = .ok (.aload_n 0, 1) := by decide +kernel
theorem dX9_draw_17 : decode cX9_draw 17 = .ok (.getfield 475, 3) := by decide +kernel
theorem dX9_draw_20 : decode cX9_draw 20 = .ok (.bipush 16, 2) := by decide +kernel
theorem dX9_draw_22 : decode cX9_draw 22 = .ok (.ishr, 1) := by decide +kernel
theorem dX9_draw_23 : decode cX9_draw 23 = .ok (.sipush 32767, 3) := by decide +kernel
theorem dX9_draw_26 : decode cX9_draw 26 = .ok (.iand, 1) := by decide +kernel
theorem dX9_draw_27 : decode cX9_draw 27 = .ok (.iload_n 1, 1) := by decide +kernel
theorem dX9_draw_28 : decode cX9_draw 28 = .ok (.irem, 1) := by decide +kernel
theorem dX9_draw_29 : decode cX9_draw 29 = .ok (.ireturn, 1) := by decide +kernel
def f_Mo_draw_60 (v1 : Int32) (σ : xS) : Option (Int32 × xS) :=
  let σ1 := x_pI σ 60 73 ((σ.1 60 73 * (1103515245 : Int32)) + (12345 : Int32))
  if v1 = 0 then none else
  some ((((σ1.1 60 73 >>> ((16 : Int32) &&& 31)) &&& (32767 : Int32)) - ((σ1.1 60 73 >>> ((16 : Int32) &&& 31)) &&& (32767 : Int32)) / v1 * v1), σ1)
set_option maxHeartbeats 4000000 in
set_option maxRecDepth 100000 in
theorem c_Mo_draw_60 {l : Launch} {s0 : State} {a0 : Array Value} {D : va_G} {cA : Nat → ClassId} {sp : Nat → Nat} (E : x_En CL l s0 a0 D cA sp) (v1 : Int32) {σ : xS} {r : Int32} {σ1 : xS} (h : f_Mo_draw_60 v1 σ = some (r, σ1)) : zC l s0 D cA sp 0 M_Mo_draw [.ref 60, .int v1] σ (some (.int r)) σ1 := by
  unfold f_Mo_draw_60 at h
  try dsimp only at h
  refine x_enter [some (.ref 60), some (.int v1)] rfl (Nat.le_of_ble_eq_true rfl) (by decide +kernel) rfl ?_
  refine x_aload_n 1 rfl 0 dX9_draw_0 rfl rfl ?_
  refine x_aload_n 2 rfl 0 dX9_draw_1 rfl rfl ?_
  refine x_getI E dX9_draw_2 F_RX9_475 sh_60 5 rfl ?_
  refine x_ldcw 8 rfl E (v := 1103515245) dX9_draw_5 (List.mem_append_right _ (List.mem_of_getElem? (i := 1882) (by decide +kernel))) ?_
  refine x_imul 9 rfl dX9_draw_8 ?_
  refine x_sipush 12 rfl (v := 12345) dX9_draw_9 (by decide) ?_
  refine x_iadd 13 rfl dX9_draw_12 ?_
  refine x_putI E dX9_draw_13 F_RX9_475 sh_60 16 rfl ?_
  refine x_aload_n 17 rfl 0 dX9_draw_16 rfl rfl ?_
  refine x_getI E dX9_draw_17 F_RX9_475 sh_60 20 rfl ?_
  refine x_bipush 22 rfl (v := 16) dX9_draw_20 (by decide) ?_
  refine x_ishr 23 rfl dX9_draw_22 ?_
  refine x_sipush 26 rfl (v := 32767) dX9_draw_23 (by decide) ?_
  refine x_iand 27 rfl dX9_draw_26 ?_
  refine x_iload_n 28 rfl 1 dX9_draw_27 rfl rfl ?_
  obtain ⟨hz, h⟩ := x_ifn h
  refine x_irem 29 rfl dX9_draw_28 hz ?_
  cases h
  exact x_iret dX9_draw_29 rfl rfl rfl
theorem K_RX9_479 : x_KV RX9 479 M_Mo_draw 1 := ⟨⟨(List.mem_append_right _ (List.mem_of_getElem? (i := 1878) (by decide +kernel))), (List.mem_append_right _ (List.mem_of_getElem? (i := 1881) (by decide +kernel))), (List.mem_append_right _ (List.mem_of_getElem? (i := 9) (by decide +kernel))), ⟨by decide +kernel, by decide +kernel⟩, by decide +kernel⟩, (List.mem_append_right _ (List.mem_of_getElem? (i := 1880) (by decide +kernel))), (List.mem_append_left _ (List.mem_of_getElem? (i := 105) (by decide +kernel)))⟩
abbrev M_Mo_takes : xM := (yX9_takes, cX9_takes, 11, some .int, [])
theorem dX9_takes_0 : decode cX9_takes 0 = .ok (.aload_n 0, 1) := by decide +kernel
theorem dX9_takes_1 : decode cX9_takes 1 = .ok (.iconst 0, 1) := by decide +kernel
theorem dX9_takes_2 : decode cX9_takes 2 = .ok (.putfield 132, 3) := by decide +kernel
theorem dX9_takes_5 : decode cX9_takes 5 = .ok (.aload_n 0, 1) := by decide +kernel
theorem dX9_takes_6 : decode cX9_takes 6 = .ok (.iload 5, 2) := by decide +kernel
theorem dX9_takes_8 : decode cX9_takes 8 = .ok (.iconst 2, 1) := by decide +kernel
theorem dX9_takes_9 : decode cX9_takes 9 = .ok (.invokevirtual 421, 3) := by decide +kernel
theorem dX9_takes_12 : decode cX9_takes 12 = .ok (.ifCond .eq 48, 3) := by decide +kernel
theorem dX9_takes_15 : decode cX9_takes 15 = .ok (.aload_n 0, 1) := by decide +kernel
theorem dX9_takes_16 : decode cX9_takes 16 = .ok (.iload_n 2, 1) := by decide +kernel
theorem dX9_takes_17 : decode cX9_takes 17 = .ok (.iconst 0, 1) := by decide +kernel
theorem dX9_takes_18 : decode cX9_takes 18 = .ok (.bipush 40, 2) := by decide +kernel
theorem dX9_takes_20 : decode cX9_takes 20 = .ok (.invokestatic 414, 3) := by decide +kernel
theorem dX9_takes_23 : decode cX9_takes 23 = .ok (.ifCond .eq 29, 3) := by decide +kernel
theorem dX9_takes_26 : decode cX9_takes 26 = .ok (.iload_n 3, 1) := by decide +kernel
theorem dX9_takes_27 : decode cX9_takes 27 = .ok (.iconst 1, 1) := by decide +kernel
theorem dX9_takes_28 : decode cX9_takes 28 = .ok (.bipush 30, 2) := by decide +kernel
theorem dX9_takes_30 : decode cX9_takes 30 = .ok (.invokestatic 414, 3) := by decide +kernel
theorem dX9_takes_33 : decode cX9_takes 33 = .ok (.ifCond .eq 19, 3) := by decide +kernel
theorem dX9_takes_36 : decode cX9_takes 36 = .ok (.iload 4, 2) := by decide +kernel
theorem dX9_takes_38 : decode cX9_takes 38 = .ok (.iconst 0, 1) := by decide +kernel
theorem dX9_takes_39 : decode cX9_takes 39 = .ok (.sipush 601, 3) := by decide +kernel
theorem dX9_takes_42 : decode cX9_takes 42 = .ok (.invokestatic 414, 3) := by decide +kernel
theorem dX9_takes_45 : decode cX9_takes 45 = .ok (.ifCond .eq 7, 3) := by decide +kernel
theorem dX9_takes_48 : decode cX9_takes 48 = .ok (.iconst 1, 1) := by decide +kernel
theorem dX9_takes_49 : decode cX9_takes 49 = .ok (.goto 4, 3) := by decide +kernel
theorem dX9_takes_52 : decode cX9_takes 52 = .ok (.iconst 0, 1) := by decide +kernel
theorem dX9_takes_53 : decode cX9_takes 53 = .ok (.iconst 2, 1) := by decide +kernel
theorem dX9_takes_54 : decode cX9_takes 54 = .ok (.invokevirtual 311, 3) := by decide +kernel
theorem dX9_takes_57 : decode cX9_takes 57 = .ok (.ifCond .ne 5, 3) := by decide +kernel
theorem dX9_takes_60 : decode cX9_takes 60 = .ok (.iconst 0, 1) := by decide +kernel
theorem dX9_takes_61 : decode cX9_takes 61 = .ok (.ireturn, 1) := by decide +kernel
theorem dX9_takes_62 : decode cX9_takes 62 = .ok (.aload_n 0, 1) := by decide +kernel
theorem dX9_takes_63 : decode cX9_takes 63 = .ok (.iload_n 1, 1) := by decide +kernel
theorem dX9_takes_64 : decode cX9_takes 64 = .ok (.putfield 475, 3) := by decide +kernel
theorem dX9_takes_67 : decode cX9_takes 67 = .ok (.iconst 0, 1) := by decide +kernel
theorem dX9_takes_68 : decode cX9_takes 68 = .ok (.istore 6, 2) := by decide +kernel
theorem dX9_takes_70 : decode cX9_takes 70 = .ok (.iconst 0, 1) := by decide +kernel
theorem dX9_takes_71 : decode cX9_takes 71 = .ok (.istore 7, 2) := by decide +kernel
theorem dX9_takes_73 : decode cX9_takes 73 = .ok (.iconst 0, 1) := by decide +kernel
theorem dX9_takes_74 : decode cX9_takes 74 = .ok (.istore 8, 2) := by decide +kernel
theorem dX9_takes_76 : decode cX9_takes 76 = .ok (.iconst 0, 1) := by decide +kernel
theorem dX9_takes_77 : decode cX9_takes 77 = .ok (.istore 9, 2) := by decide +kernel
theorem dX9_takes_79 : decode cX9_takes 79 = .ok (.iload 9, 2) := by decide +kernel
theorem dX9_takes_81 : decode cX9_takes 81 = .ok (.iload_n 2, 1) := by decide +kernel
theorem dX9_takes_82 : decode cX9_takes 82 = .ok (.if_icmp .ge 69, 3) := by decide +kernel
theorem dX9_takes_85 : decode cX9_takes 85 = .ok (.aload_n 0, 1) := by decide +kernel
theorem dX9_takes_86 : decode cX9_takes 86 = .ok (.aload_n 0, 1) := by decide +kernel
theorem dX9_takes_87 : decode cX9_takes 87 = .ok (.iload_n 3, 1) := by decide +kernel
theorem dX9_takes_88 : decode cX9_takes 88 = .ok (.invokevirtual 479, 3) := by decide +kernel
theorem dX9_takes_91 : decode cX9_takes 91 = .ok (.putfield 357, 3) := by decide +kernel
theorem dX9_takes_94 : decode cX9_takes 94 = .ok (.aload_n 0, 1) := by decide +kernel
theorem dX9_takes_95 : decode cX9_takes 95 = .ok (.invokevirtual 445, 3) := by decide +kernel
theorem dX9_takes_98 : decode cX9_takes 98 = .ok (.istore 10, 2) := by decide +kernel
theorem dX9_takes_100 : decode cX9_takes 100 = .ok (.iload 6, 2) := by decide +kernel
theorem dX9_takes_102 : decode cX9_takes 102 = .ok (.iload 10, 2) := by decide +kernel
theorem dX9_takes_104 : decode cX9_takes 104 = .ok (.iload 4, 2) := by decide +kernel
theorem dX9_takes_106 : decode cX9_takes 106 = .ok (.if_icmp .lt 7, 3) := by decide +kernel
theorem dX9_takes_109 : decode cX9_takes 109 = .ok (.iconst 1, 1) := by decide +kernel
theorem dX9_takes_110 : decode cX9_takes 110 = .ok (.goto 4, 3) := by decide +kernel
theorem dX9_takes_113 : decode cX9_takes 113 = .ok (.iconst 0, 1) := by decide +kernel
theorem dX9_takes_114 : decode cX9_takes 114 = .ok (.iadd, 1) := by decide +kernel
theorem dX9_takes_115 : decode cX9_takes 115 = .ok (.istore 6, 2) := by decide +kernel
theorem dX9_takes_117 : decode cX9_takes 117 = .ok (.iload 7, 2) := by decide +kernel
theorem dX9_takes_119 : decode cX9_takes 119 = .ok (.iload 10, 2) := by decide +kernel
theorem dX9_takes_121 : decode cX9_takes 121 = .ok (.iadd, 1) := by decide +kernel
theorem dX9_takes_122 : decode cX9_takes 122 = .ok (.istore 7, 2) := by decide +kernel
theorem dX9_takes_124 : decode cX9_takes 124 = .ok (.iload 9, 2) := by decide +kernel
theorem dX9_takes_126 : decode cX9_takes 126 = .ok (.ifCond .eq 10, 3) := by decide +kernel
theorem dX9_takes_129 : decode cX9_takes 129 = .ok (.iload 10, 2) := by decide +kernel
theorem dX9_takes_131 : decode cX9_takes 131 = .ok (.iload 8, 2) := by decide +kernel
theorem dX9_takes_133 : decode cX9_takes 133 = .ok (.if_icmp .ge 8, 3) := by decide +kernel
theorem dX9_takes_136 : decode cX9_takes 136 = .ok (.iload 10, 2) := by decide +kernel
theorem dX9_takes_138 : decode cX9_takes 138 = .ok (.goto 5, 3) := by decide +kernel
theorem dX9_takes_141 : decode cX9_takes 141 = .ok (.iload 8, 2) := by decide +kernel
theorem dX9_takes_143 : decode cX9_takes 143 = .ok (.istore 8, 2) := by decide +kernel
theorem dX9_takes_145 : decode cX9_takes 145 = .ok (.iinc 9 1, 3) := by decide +kernel
theorem dX9_takes_148 : decode cX9_takes 148 = .ok (.goto (-69), 3) := by decide +kernel
theorem dX9_takes_151 : decode cX9_takes 151 = .ok (.aload_n 0, 1) := by decide +kernel
theorem dX9_takes_152 : decode cX9_takes 152 = .ok (.iconst 0, 1) := by decide +kernel
theorem dX9_takes_153 : decode cX9_takes 153 = .ok (.putfield 357, 3) := by decide +kernel
theorem dX9_takes_156 : decode cX9_takes 156 = .ok (.iload 5, 2) := by decide +kernel
theorem dX9_takes_158 : decode cX9_takes 158 = .ok (.ifCond .ne 8, 3) := by decide +kernel
theorem dX9_takes_161 : decode cX9_takes 161 = .ok (.iload 6, 2) := by decide +kernel
theorem dX9_takes_163 : decode cX9_takes 163 = .ok (.goto 16, 3) := by decide +kernel
theorem dX9_takes_166 : decode cX9_takes 166 = .ok (.iload 5, 2) := by decide +kernel
theorem dX9_takes_168 : decode cX9_takes 168 = .ok (.iconst 1, 1) := by decide +kernel
theorem dX9_takes_169 : decode cX9_takes 169 = .ok (.if_icmp .ne 8, 3) := by decide +kernel
theorem dX9_takes_172 : decode cX9_takes 172 = .ok (.iload 7, 2) := by decide +kernel
theorem dX9_takes_174 : decode cX9_takes 174 = .ok (.goto 5, 3) := by decide +kernel
theorem dX9_takes_177 : decode cX9_takes 177 = .ok (.iload 8, 2) := by decide +kernel
theorem dX9_takes_179 : decode cX9_takes 179 = .ok (.ireturn, 1) := by decide +kernel
def f_Mo_takes_60_J114 (v2 : Int32) (v3 : Int32) (v4 : Int32) (v5 : Int32) (v7 : Int32) (v8 : Int32) (v9 : Int32) (v10 : Int32) (y0 : Int32) (y1 : Int32) (σ : xS) : Option ((Int32 × Int32 × Int32 × Int32 × xS) ⊕ (Int32 × Int32 × Int32 × Int32 × xS)) :=
  let w1 := (y0 + y1)
  let w2 := (v7 + v10)
  if v9 = 0 then
    let w3 := v9 + (1 : Int32)
    some (.inr (w1, w2, v10, w3, σ))
  else
    if v8 ≤ v10 then
      let w4 := v9 + (1 : Int32)
      some (.inr (w1, w2, v8, w4, σ))
    else
      let w5 := v9 + (1 : Int32)
      some (.inr (w1, w2, v10, w5, σ))
def f_Mo_takes_60_L79 (v2 : Int32) (v3 : Int32) (v4 : Int32) (v5 : Int32) (a : Int32 × Int32 × Int32 × Int32 × xS) : Option ((Int32 × Int32 × Int32 × Int32 × xS) ⊕ (Int32 × Int32 × Int32 × Int32 × xS)) :=
  let v6 := a.1; let v7 := a.2.1; let v8 := a.2.2.1; let v9 := a.2.2.2.1; let σ := a.2.2.2.2;
  if v2 ≤ v9 then
    some (.inl (v6, v7, v8, v9, σ))
  else
    (f_Mo_draw_60 v3 σ).bind fun q6 =>
    let σ7 := x_pI q6.2 60 59 q6.1
    (f_Mo_takesSharp_60  σ7).bind fun q8 =>
    let w9 := q8.1
    if w9 < v4 then
      f_Mo_takes_60_J114 v2 v3 v4 v5 v7 v8 v9 w9 v6 (0 : Int32) q8.2
    else
      f_Mo_takes_60_J114 v2 v3 v4 v5 v7 v8 v9 w9 v6 (1 : Int32) q8.2
def f_Mo_takes_60_J53 (v1 : Int32) (v2 : Int32) (v3 : Int32) (v4 : Int32) (v5 : Int32) (y1 : Int32) (σ : xS) : Option (Int32 × xS) :=
  (f_Mo_right_60 y1 (2 : Int32) σ).bind fun q10 =>
  if q10.1 = 0 then
    some ((0 : Int32), q10.2)
  else
    let σ11 := x_pI q10.2 60 73 v1
    (x_it (f_Mo_takes_60_L79 v2 v3 v4 v5) 10000 ((0 : Int32), (0 : Int32), (0 : Int32), (0 : Int32), σ11)).bind fun b12 =>
    let σ13 := x_pI b12.2.2.2.2 60 59 (0 : Int32)
    if v5 = 0 then
      some (b12.1, σ13)
    else
      if v5 = (1 : Int32) then
        some (b12.2.1, σ13)
      else
        some (b12.2.2.1, σ13)
def f_Mo_takes_60_J52 (v1 : Int32) (v2 : Int32) (v3 : Int32) (v4 : Int32) (v5 : Int32) (σ : xS) : Option (Int32 × xS) :=
  f_Mo_takes_60_J53 v1 v2 v3 v4 v5 (0 : Int32) σ
def f_Mo_takes_60 (v1 : Int32) (v2 : Int32) (v3 : Int32) (v4 : Int32) (v5 : Int32) (σ : xS) : Option (Int32 × xS) :=
  let σ14 := x_pI σ 60 0 (0 : Int32)
  (f_Mo_isWhat_60 v5 (2 : Int32) σ14).bind fun q15 =>
  if q15.1 = 0 then
    some ((0 : Int32), q15.2)
  else
    (f_Mo_within v2 (0 : Int32) (40 : Int32) q15.2).bind fun q16 =>
    if q16.1 = 0 then
      f_Mo_takes_60_J52 v1 v2 v3 v4 v5 q16.2
    else
      (f_Mo_within v3 (1 : Int32) (30 : Int32) q16.2).bind fun q17 =>
      if q17.1 = 0 then
        f_Mo_takes_60_J52 v1 v2 v3 v4 v5 q17.2
      else
        (f_Mo_within v4 (0 : Int32) (601 : Int32) q17.2).bind fun q18 =>
        if q18.1 = 0 then
          f_Mo_takes_60_J52 v1 v2 v3 v4 v5 q18.2
        else
          f_Mo_takes_60_J53 v1 v2 v3 v4 v5 (1 : Int32) q18.2
set_option maxHeartbeats 4000000 in
set_option maxRecDepth 100000 in
theorem j_Mo_takes_60_J114 {l : Launch} {s0 : State} {a0 : Array Value} {D : va_G} {cA : Nat → ClassId} {sp : Nat → Nat} (E : x_En CL l s0 a0 D cA sp) (v2 : Int32) (v3 : Int32) (v4 : Int32) (v5 : Int32) (v7 : Int32) (v8 : Int32) (v9 : Int32) (v10 : Int32) (y0 : Int32) (y1 : Int32)  (σ : xS) {r : Int32} {σ1 : xS} (o : (Int32 × Int32 × Int32 × Int32 × xS) ⊕ (Int32 × Int32 × Int32 × Int32 × xS)) (h : f_Mo_takes_60_J114 v2 v3 v4 v5 v7 v8 v9 v10 y0 y1 σ = some o) (hK : ∀ b, o = .inl b → zW l s0 D cA sp (zQ s0 D cA sp (some (.int r)) σ1) (x_rm 6 0 0) M_Mo_takes 0 0 151 [some (.ref 60), none, none, none, none, some (.int v5), some (.int b.1), some (.int b.2.1), some (.int b.2.2.1), none, none] [] b.2.2.2.2) (hG : ∀ a', o = .inr a' → zW l s0 D cA sp (zQ s0 D cA sp (some (.int r)) σ1) (x_rm 6 0 0) M_Mo_takes 0 0 79 [some (.ref 60), none, some (.int v2), some (.int v3), some (.int v4), some (.int v5), some (.int a'.1), some (.int a'.2.1), some (.int a'.2.2.1), some (.int a'.2.2.2.1), none] [] a'.2.2.2.2) : zW l s0 D cA sp (zQ s0 D cA sp (some (.int r)) σ1) (x_rm 6 0 0) M_Mo_takes 0 0 114 [some (.ref 60), none, some (.int v2), some (.int v3), some (.int v4), some (.int v5), none, some (.int v7), some (.int v8), some (.int v9), some (.int v10)] [.int y1, .int y0] σ := by
  unfold f_Mo_takes_60_J114 at h
  try dsimp only at h
  refine x_iadd 115 rfl dX9_takes_114 ?_
  refine x_istore 117 rfl dX9_takes_115 (by decide) [some (.ref 60), none, some (.int _), some (.int _), some (.int _), some (.int _), some (.int _), some (.int _), some (.int _), some (.int _), some (.int _)] rfl ?_
  refine x_iload 119 rfl dX9_takes_117 rfl ?_
  refine x_iload 121 rfl dX9_takes_119 rfl ?_
  refine x_iadd 122 rfl dX9_takes_121 ?_
  refine x_istore 124 rfl dX9_takes_122 (by decide) [some (.ref 60), none, some (.int _), some (.int _), some (.int _), some (.int _), some (.int _), some (.int _), some (.int _), some (.int _), some (.int _)] rfl ?_
  refine x_iload 126 rfl dX9_takes_124 rfl ?_
  refine x_if_eq 129 rfl 136 dX9_takes_126 (by decide) (fun hc => ?_) (fun hc => ?_)
  · replace h := x_ifT hc h
    refine x_iload 138 rfl dX9_takes_136 rfl ?_
    refine x_goto 143 dX9_takes_138 (by decide) ?_
    refine x_istore 145 rfl dX9_takes_143 (by decide) [some (.ref 60), none, some (.int _), some (.int _), some (.int _), some (.int _), some (.int _), some (.int _), some (.int _), some (.int _), some (.int _)] rfl ?_
    refine x_iinc 148 rfl (1) dX9_takes_145 rfl (by decide) (by decide) [some (.ref 60), none, some (.int _), some (.int _), some (.int _), some (.int _), some (.int _), some (.int _), some (.int _), some (.int _), some (.int _)] rfl ?_
    refine x_goto 79 dX9_takes_148 (by decide) ?_
    cases h
    exact x_wk (x_le_s (x_le_n (x_le_s (x_le_s (x_le_s (x_le_s (x_le_s (x_le_s (x_le_s (x_le_s (x_le_n x_le_0))))))))))) (hG (_, _, _, _, _) rfl)
  · replace h := x_ifF hc h
    refine x_iload 131 rfl dX9_takes_129 rfl ?_
    refine x_iload 133 rfl dX9_takes_131 rfl ?_
    refine x_icmp_ge 136 rfl 141 dX9_takes_133 (by decide) (fun hc => ?_) (fun hc => ?_)
    · replace h := x_ifT hc h
      refine x_iload 143 rfl dX9_takes_141 rfl ?_
      refine x_istore 145 rfl dX9_takes_143 (by decide) [some (.ref 60), none, some (.int _), some (.int _), some (.int _), some (.int _), some (.int _), some (.int _), some (.int _), some (.int _), some (.int _)] rfl ?_
      refine x_iinc 148 rfl (1) dX9_takes_145 rfl (by decide) (by decide) [some (.ref 60), none, some (.int _), some (.int _), some (.int _), some (.int _), some (.int _), some (.int _), some (.int _), some (.int _), some (.int _)] rfl ?_
      refine x_goto 79 dX9_takes_148 (by decide) ?_
      cases h
      exact x_wk (x_le_s (x_le_n (x_le_s (x_le_s (x_le_s (x_le_s (x_le_s (x_le_s (x_le_s (x_le_s (x_le_n x_le_0))))))))))) (hG (_, _, _, _, _) rfl)
    · replace h := x_ifF hc h
      refine x_iload 138 rfl dX9_takes_136 rfl ?_
      refine x_goto 143 dX9_takes_138 (by decide) ?_
      refine x_istore 145 rfl dX9_takes_143 (by decide) [some (.ref 60), none, some (.int _), some (.int _), some (.int _), some (.int _), some (.int _), some (.int _), some (.int _), some (.int _), some (.int _)] rfl ?_
      refine x_iinc 148 rfl (1) dX9_takes_145 rfl (by decide) (by decide) [some (.ref 60), none, some (.int _), some (.int _), some (.int _), some (.int _), some (.int _), some (.int _), some (.int _), some (.int _), some (.int _)] rfl ?_
      refine x_goto 79 dX9_takes_148 (by decide) ?_
      cases h
      exact x_wk (x_le_s (x_le_n (x_le_s (x_le_s (x_le_s (x_le_s (x_le_s (x_le_s (x_le_s (x_le_s (x_le_n x_le_0))))))))))) (hG (_, _, _, _, _) rfl)
set_option maxHeartbeats 4000000 in
set_option maxRecDepth 100000 in
theorem b_Mo_takes_60_L79 {l : Launch} {s0 : State} {a0 : Array Value} {D : va_G} {cA : Nat → ClassId} {sp : Nat → Nat} (E : x_En CL l s0 a0 D cA sp) (v2 : Int32) (v3 : Int32) (v4 : Int32) (v5 : Int32) {r : Int32} {σ1 : xS} (a : Int32 × Int32 × Int32 × Int32 × xS) (o : (Int32 × Int32 × Int32 × Int32 × xS) ⊕ (Int32 × Int32 × Int32 × Int32 × xS)) (h : f_Mo_takes_60_L79 v2 v3 v4 v5 a = some o) (hK : ∀ b, o = .inl b → zW l s0 D cA sp (zQ s0 D cA sp (some (.int r)) σ1) (x_rm 6 0 0) M_Mo_takes 0 0 151 [some (.ref 60), none, none, none, none, some (.int v5), some (.int b.1), some (.int b.2.1), some (.int b.2.2.1), none, none] [] b.2.2.2.2) (hG : ∀ a', o = .inr a' → zW l s0 D cA sp (zQ s0 D cA sp (some (.int r)) σ1) (x_rm 6 0 0) M_Mo_takes 0 0 79 [some (.ref 60), none, some (.int v2), some (.int v3), some (.int v4), some (.int v5), some (.int a'.1), some (.int a'.2.1), some (.int a'.2.2.1), some (.int a'.2.2.2.1), none] [] a'.2.2.2.2) : zW l s0 D cA sp (zQ s0 D cA sp (some (.int r)) σ1) (x_rm 6 0 0) M_Mo_takes 0 0 79 [some (.ref 60), none, some (.int v2), some (.int v3), some (.int v4), some (.int v5), some (.int a.1), some (.int a.2.1), some (.int a.2.2.1), some (.int a.2.2.2.1), none] [] a.2.2.2.2 := by
  obtain ⟨v6, v7, v8, v9, σ⟩ := a
  unfold f_Mo_takes_60_L79 at h
  try dsimp only at h ⊢
  refine x_iload 81 rfl dX9_takes_79 rfl ?_
  refine x_iload_n 82 rfl 2 dX9_takes_81 rfl rfl ?_
  refine x_icmp_ge 85 rfl 151 dX9_takes_82 (by decide) (fun hc => ?_) (fun hc => ?_)
  · replace h := x_ifT hc h
    cases h
    exact x_wk (x_le_s (x_le_n (x_le_n (x_le_n (x_le_n (x_le_s (x_le_s (x_le_s (x_le_s (x_le_n (x_le_n x_le_0))))))))))) (hK (_, _, _, _, _) rfl)
  · replace h := x_ifF hc h
    refine x_aload_n 86 rfl 0 dX9_takes_85 rfl rfl ?_
    refine x_aload_n 87 rfl 0 dX9_takes_86 rfl rfl ?_
    refine x_iload_n 88 rfl 3 dX9_takes_87 rfl rfl ?_
    obtain ⟨⟨q6r, q6s⟩, q6h, h⟩ := x_bind h
    try dsimp only at h
    refine z_callV E [.int _] [.ref 60] dX9_takes_88 K_RX9_479 ⟨Nat.le_of_ble_eq_true rfl, Nat.le_of_ble_eq_true rfl⟩ sh_60 (by decide) rfl (c_Mo_draw_60 E _ q6h) rfl rfl (Nat.le_of_ble_eq_true rfl) 91 rfl [.int _, .ref 60] rfl ?_
    refine x_putI E dX9_takes_91 F_RX9_357 sh_60 94 rfl ?_
    refine x_aload_n 95 rfl 0 dX9_takes_94 rfl rfl ?_
    obtain ⟨⟨q8r, q8s⟩, q8h, h⟩ := x_bind h
    try dsimp only at h
    refine z_callV E [] [] dX9_takes_95 K_RX9_445 ⟨Nat.le_of_ble_eq_true rfl, Nat.le_of_ble_eq_true rfl⟩ sh_60 (by decide) rfl (c_Mo_takesSharp_60 E  q8h) rfl rfl (Nat.le_of_ble_eq_true rfl) 98 rfl [.int _] rfl ?_
    refine x_istore 100 rfl dX9_takes_98 (by decide) [some (.ref 60), none, some (.int _), some (.int _), some (.int _), some (.int _), some (.int _), some (.int _), some (.int _), some (.int _), some (.int _)] rfl ?_
    refine x_iload 102 rfl dX9_takes_100 rfl ?_
    refine x_iload 104 rfl dX9_takes_102 rfl ?_
    refine x_iload 106 rfl dX9_takes_104 rfl ?_
    refine x_icmp_lt 109 rfl 113 dX9_takes_106 (by decide) (fun hc => ?_) (fun hc => ?_)
    · replace h := x_ifT hc h
      refine x_iconst 114 rfl (v := 0) dX9_takes_113 (by decide) ?_
      exact x_wk (x_le_s (x_le_n (x_le_s (x_le_s (x_le_s (x_le_s (x_le_n (x_le_s (x_le_s (x_le_s (x_le_s x_le_0))))))))))) (j_Mo_takes_60_J114 (r := r) (σ1 := σ1) E _ _ _ _ _ _ _ _ _ _  _ _ h hK hG)
    · replace h := x_ifF hc h
      refine x_iconst 110 rfl (v := 1) dX9_takes_109 (by decide) ?_
      refine x_goto 114 dX9_takes_110 (by decide) ?_
      exact x_wk (x_le_s (x_le_n (x_le_s (x_le_s (x_le_s (x_le_s (x_le_n (x_le_s (x_le_s (x_le_s (x_le_s x_le_0))))))))))) (j_Mo_takes_60_J114 (r := r) (σ1 := σ1) E _ _ _ _ _ _ _ _ _ _  _ _ h hK hG)
set_option maxHeartbeats 4000000 in
set_option maxRecDepth 100000 in
theorem j_Mo_takes_60_J53 {l : Launch} {s0 : State} {a0 : Array Value} {D : va_G} {cA : Nat → ClassId} {sp : Nat → Nat} (E : x_En CL l s0 a0 D cA sp) (v1 : Int32) (v2 : Int32) (v3 : Int32) (v4 : Int32) (v5 : Int32) (y1 : Int32) (σ : xS) {r : Int32} {σ1 : xS} (h : f_Mo_takes_60_J53 v1 v2 v3 v4 v5 y1 σ = some (r, σ1)) : zW l s0 D cA sp (zQ s0 D cA sp (some (.int r)) σ1) (x_rm 6 0 0) M_Mo_takes 0 0 53 [some (.ref 60), some (.int v1), some (.int v2), some (.int v3), some (.int v4), some (.int v5), none, none, none, none, none] [.int y1, .ref 60] σ := by
  unfold f_Mo_takes_60_J53 at h
  try dsimp only at h
  refine x_iconst 54 rfl (v := 2) dX9_takes_53 (by decide) ?_
  obtain ⟨⟨q10r, q10s⟩, q10h, h⟩ := x_bind h
  try dsimp only at h
  refine z_callV E [.int _, .int _] [] dX9_takes_54 K_RX9_311 ⟨Nat.le_of_ble_eq_true rfl, Nat.le_of_ble_eq_true rfl⟩ sh_60 (by decide) rfl (c_Mo_right_60 E _ _ q10h) rfl rfl (Nat.le_of_ble_eq_true rfl) 57 rfl [.int _] rfl ?_
  refine x_if_ne 60 rfl 62 dX9_takes_57 (by decide) (fun hc => ?_) (fun hc => ?_)
  · replace h := x_ifF hc h
    refine x_aload_n 63 rfl 0 dX9_takes_62 rfl rfl ?_
    refine x_iload_n 64 rfl 1 dX9_takes_63 rfl rfl ?_
    refine x_putI E dX9_takes_64 F_RX9_475 sh_60 67 rfl ?_
    refine x_iconst 68 rfl (v := 0) dX9_takes_67 (by decide) ?_
    refine x_istore 70 rfl dX9_takes_68 (by decide) [some (.ref 60), some (.int _), some (.int _), some (.int _), some (.int _), some (.int _), some (.int _), none, none, none, none] rfl ?_
    refine x_iconst 71 rfl (v := 0) dX9_takes_70 (by decide) ?_
    refine x_istore 73 rfl dX9_takes_71 (by decide) [some (.ref 60), some (.int _), some (.int _), some (.int _), some (.int _), some (.int _), some (.int _), some (.int _), none, none, none] rfl ?_
    refine x_iconst 74 rfl (v := 0) dX9_takes_73 (by decide) ?_
    refine x_istore 76 rfl dX9_takes_74 (by decide) [some (.ref 60), some (.int _), some (.int _), some (.int _), some (.int _), some (.int _), some (.int _), some (.int _), some (.int _), none, none] rfl ?_
    refine x_iconst 77 rfl (v := 0) dX9_takes_76 (by decide) ?_
    refine x_istore 79 rfl dX9_takes_77 (by decide) [some (.ref 60), some (.int _), some (.int _), some (.int _), some (.int _), some (.int _), some (.int _), some (.int _), some (.int _), some (.int _), none] rfl ?_
    obtain ⟨b12, b12h, h⟩ := x_bind h
    try dsimp only at h
    refine x_wk (x_le_s (x_le_n (x_le_s (x_le_s (x_le_s (x_le_s (x_le_s (x_le_s (x_le_s (x_le_s (x_le_n x_le_0))))))))))) (x_loop (fun a o h hK hG => b_Mo_takes_60_L79 (r := r) (σ1 := σ1) E _ _ _ _ a o h hK hG) _ _ _ b12h ?_)
    refine x_aload_n 152 rfl 0 dX9_takes_151 rfl rfl ?_
    refine x_iconst 153 rfl (v := 0) dX9_takes_152 (by decide) ?_
    refine x_putI E dX9_takes_153 F_RX9_357 sh_60 156 rfl ?_
    refine x_iload 158 rfl dX9_takes_156 rfl ?_
    refine x_if_ne 161 rfl 166 dX9_takes_158 (by decide) (fun hc => ?_) (fun hc => ?_)
    · replace h := x_ifF hc h
      refine x_iload 168 rfl dX9_takes_166 rfl ?_
      refine x_iconst 169 rfl (v := 1) dX9_takes_168 (by decide) ?_
      refine x_icmp_ne 172 rfl 177 dX9_takes_169 (by decide) (fun hc => ?_) (fun hc => ?_)
      · replace h := x_ifF hc h
        refine x_iload 179 rfl dX9_takes_177 rfl ?_
        cases h
        exact x_iret dX9_takes_179 rfl rfl rfl
      · replace h := x_ifT hc h
        refine x_iload 174 rfl dX9_takes_172 rfl ?_
        refine x_goto 179 dX9_takes_174 (by decide) ?_
        cases h
        exact x_iret dX9_takes_179 rfl rfl rfl
    · replace h := x_ifT hc h
      refine x_iload 163 rfl dX9_takes_161 rfl ?_
      refine x_goto 179 dX9_takes_163 (by decide) ?_
      cases h
      exact x_iret dX9_takes_179 rfl rfl rfl
  · replace h := x_ifT hc h
    refine x_iconst 61 rfl (v := 0) dX9_takes_60 (by decide) ?_
    cases h
    exact x_iret dX9_takes_61 rfl rfl rfl
set_option maxHeartbeats 4000000 in
set_option maxRecDepth 100000 in
theorem j_Mo_takes_60_J52 {l : Launch} {s0 : State} {a0 : Array Value} {D : va_G} {cA : Nat → ClassId} {sp : Nat → Nat} (E : x_En CL l s0 a0 D cA sp) (v1 : Int32) (v2 : Int32) (v3 : Int32) (v4 : Int32) (v5 : Int32) (σ : xS) {r : Int32} {σ1 : xS} (h : f_Mo_takes_60_J52 v1 v2 v3 v4 v5 σ = some (r, σ1)) : zW l s0 D cA sp (zQ s0 D cA sp (some (.int r)) σ1) (x_rm 6 0 0) M_Mo_takes 0 0 52 [some (.ref 60), some (.int v1), some (.int v2), some (.int v3), some (.int v4), some (.int v5), none, none, none, none, none] [.ref 60] σ := by
  unfold f_Mo_takes_60_J52 at h
  try dsimp only at h
  refine x_iconst 53 rfl (v := 0) dX9_takes_52 (by decide) ?_
  exact x_wk (x_le_s (x_le_s (x_le_s (x_le_s (x_le_s (x_le_s (x_le_n (x_le_n (x_le_n (x_le_n (x_le_n x_le_0))))))))))) (j_Mo_takes_60_J53 E _ _ _ _ _ _ _ h)
set_option maxHeartbeats 4000000 in
set_option maxRecDepth 100000 in
theorem c_Mo_takes_60 {l : Launch} {s0 : State} {a0 : Array Value} {D : va_G} {cA : Nat → ClassId} {sp : Nat → Nat} (E : x_En CL l s0 a0 D cA sp) (v1 : Int32) (v2 : Int32) (v3 : Int32) (v4 : Int32) (v5 : Int32) {σ : xS} {r : Int32} {σ1 : xS} (h : f_Mo_takes_60 v1 v2 v3 v4 v5 σ = some (r, σ1)) : zC l s0 D cA sp 6 M_Mo_takes [.ref 60, .int v1, .int v2, .int v3, .int v4, .int v5] σ (some (.int r)) σ1 := by
  unfold f_Mo_takes_60 at h
  try dsimp only at h
  refine x_enter [some (.ref 60), some (.int v1), some (.int v2), some (.int v3), some (.int v4), some (.int v5), none, none, none, none, none] rfl (Nat.le_of_ble_eq_true rfl) (by decide +kernel) rfl ?_
  refine x_aload_n 1 rfl 0 dX9_takes_0 rfl rfl ?_
  refine x_iconst 2 rfl (v := 0) dX9_takes_1 (by decide) ?_
  refine x_putI E dX9_takes_2 F_RX9_132 sh_60 5 rfl ?_
  refine x_aload_n 6 rfl 0 dX9_takes_5 rfl rfl ?_
  refine x_iload 8 rfl dX9_takes_6 rfl ?_
  refine x_iconst 9 rfl (v := 2) dX9_takes_8 (by decide) ?_
  obtain ⟨⟨q15r, q15s⟩, q15h, h⟩ := x_bind h
  try dsimp only at h
  refine z_callV E [.int _, .int _] [] dX9_takes_9 K_RX9_421 ⟨Nat.le_of_ble_eq_true rfl, Nat.le_of_ble_eq_true rfl⟩ sh_60 (by decide) rfl (c_Mo_isWhat_60 E _ _ q15h) rfl rfl (Nat.le_of_ble_eq_true rfl) 12 rfl [.int _] rfl ?_
  refine x_if_eq 15 rfl 60 dX9_takes_12 (by decide) (fun hc => ?_) (fun hc => ?_)
  · replace h := x_ifT hc h
    refine x_iconst 61 rfl (v := 0) dX9_takes_60 (by decide) ?_
    cases h
    exact x_iret dX9_takes_61 rfl rfl rfl
  · replace h := x_ifF hc h
    refine x_aload_n 16 rfl 0 dX9_takes_15 rfl rfl ?_
    refine x_iload_n 17 rfl 2 dX9_takes_16 rfl rfl ?_
    refine x_iconst 18 rfl (v := 0) dX9_takes_17 (by decide) ?_
    refine x_bipush 20 rfl (v := 40) dX9_takes_18 (by decide) ?_
    obtain ⟨⟨q16r, q16s⟩, q16h, h⟩ := x_bind h
    try dsimp only at h
    refine z_callS E [.int _, .int _, .int _] [.ref 60] dX9_takes_20 K_RX9_414 ⟨Nat.le_of_ble_eq_true rfl, Nat.le_of_ble_eq_true rfl⟩ (c_Mo_within E _ _ _ q16h) rfl rfl (Nat.le_of_ble_eq_true rfl) 23 rfl [.int _, .ref 60] rfl ?_
    refine x_if_eq 26 rfl 52 dX9_takes_23 (by decide) (fun hc => ?_) (fun hc => ?_)
    · replace h := x_ifT hc h
      exact x_wk (x_le_s (x_le_s (x_le_s (x_le_s (x_le_s (x_le_s (x_le_n (x_le_n (x_le_n (x_le_n (x_le_n x_le_0))))))))))) (j_Mo_takes_60_J52 E _ _ _ _ _ _ h)
    · replace h := x_ifF hc h
      refine x_iload_n 27 rfl 3 dX9_takes_26 rfl rfl ?_
      refine x_iconst 28 rfl (v := 1) dX9_takes_27 (by decide) ?_
      refine x_bipush 30 rfl (v := 30) dX9_takes_28 (by decide) ?_
      obtain ⟨⟨q17r, q17s⟩, q17h, h⟩ := x_bind h
      try dsimp only at h
      refine z_callS E [.int _, .int _, .int _] [.ref 60] dX9_takes_30 K_RX9_414 ⟨Nat.le_of_ble_eq_true rfl, Nat.le_of_ble_eq_true rfl⟩ (c_Mo_within E _ _ _ q17h) rfl rfl (Nat.le_of_ble_eq_true rfl) 33 rfl [.int _, .ref 60] rfl ?_
      refine x_if_eq 36 rfl 52 dX9_takes_33 (by decide) (fun hc => ?_) (fun hc => ?_)
      · replace h := x_ifT hc h
        exact x_wk (x_le_s (x_le_s (x_le_s (x_le_s (x_le_s (x_le_s (x_le_n (x_le_n (x_le_n (x_le_n (x_le_n x_le_0))))))))))) (j_Mo_takes_60_J52 E _ _ _ _ _ _ h)
      · replace h := x_ifF hc h
        refine x_iload 38 rfl dX9_takes_36 rfl ?_
        refine x_iconst 39 rfl (v := 0) dX9_takes_38 (by decide) ?_
        refine x_sipush 42 rfl (v := 601) dX9_takes_39 (by decide) ?_
        obtain ⟨⟨q18r, q18s⟩, q18h, h⟩ := x_bind h
        try dsimp only at h
        refine z_callS E [.int _, .int _, .int _] [.ref 60] dX9_takes_42 K_RX9_414 ⟨Nat.le_of_ble_eq_true rfl, Nat.le_of_ble_eq_true rfl⟩ (c_Mo_within E _ _ _ q18h) rfl rfl (Nat.le_of_ble_eq_true rfl) 45 rfl [.int _, .ref 60] rfl ?_
        refine x_if_eq 48 rfl 52 dX9_takes_45 (by decide) (fun hc => ?_) (fun hc => ?_)
        · replace h := x_ifT hc h
          exact x_wk (x_le_s (x_le_s (x_le_s (x_le_s (x_le_s (x_le_s (x_le_n (x_le_n (x_le_n (x_le_n (x_le_n x_le_0))))))))))) (j_Mo_takes_60_J52 E _ _ _ _ _ _ h)
        · replace h := x_ifF hc h
          refine x_iconst 49 rfl (v := 1) dX9_takes_48 (by decide) ?_
          refine x_goto 53 dX9_takes_49 (by decide) ?_
          exact x_wk (x_le_s (x_le_s (x_le_s (x_le_s (x_le_s (x_le_s (x_le_n (x_le_n (x_le_n (x_le_n (x_le_n x_le_0))))))))))) (j_Mo_takes_60_J53 E _ _ _ _ _ _ _ h)
abbrev M_Mo_see : xM := (yX9_see, cX9_see, 3, some .int, [])
theorem dX9_see_0 : decode cX9_see 0 = .ok (.aload_n 0, 1) := by decide +kernel
theorem dX9_see_1 : decode cX9_see 1 = .ok (.iconst 0, 1) := by decide +kernel
theorem dX9_see_2 : decode cX9_see 2 = .ok (.putfield 132, 3) := by decide +kernel
theorem dX9_see_5 : decode cX9_see 5 = .ok (.aload_n 0, 1) := by decide +kernel
theorem dX9_see_6 : decode cX9_see 6 = .ok (.iload_n 1, 1) := by decide +kernel
theorem dX9_see_7 : decode cX9_see 7 = .ok (.invokevirtual 418, 3) := by decide +kernel
theorem dX9_see_10 : decode cX9_see 10 = .ok (.ifCond .ne 5, 3) := by decide +kernel
theorem dX9_see_13 : decode cX9_see 13 = .ok (.iconst 0, 1) := by decide +kernel
theorem dX9_see_14 : decode cX9_see 14 = .ok (.ireturn, 1) := by decide +kernel
theorem dX9_see_15 : decode cX9_see 15 = .ok (.aload_n 0, 1) := by decide +kernel
theorem dX9_see_16 : decode cX9_see 16 = .ok (.getfield 343, 3) := by decide +kernel
theorem dX9_see_19 : decode cX9_see 19 = .ok (.bipush 8, 2) := by decide +kernel
theorem dX9_see_21 : decode cX9_see 21 = .ok (.if_icmp .ne 10, 3) := by decide +kernel
theorem dX9_see_24 : decode cX9_see 24 = .ok (.aload_n 0, 1) := by decide +kernel
theorem dX9_see_25 : decode cX9_see 25 = .ok (.iconst 2, 1) := by decide +kernel
theorem dX9_see_26 : decode cX9_see 26 = .ok (.iconst (-1), 1) := by decide +kernel
theorem dX9_see_27 : decode cX9_see 27 = .ok (.invokevirtual 442, 3) := by decide +kernel
theorem dX9_see_30 : decode cX9_see 30 = .ok (.ireturn, 1) := by decide +kernel
theorem dX9_see_31 : decode cX9_see 31 = .ok (.aload_n 0, 1) := by decide +kernel
theorem dX9_see_32 : decode cX9_see 32 = .ok (.getfield 114, 3) := by decide +kernel
theorem dX9_see_35 : decode cX9_see 35 = .ok (.iconst 2, 1) := by decide +kernel
theorem dX9_see_36 : decode cX9_see 36 = .ok (.aload_n 0, 1) := by decide +kernel
theorem dX9_see_37 : decode cX9_see 37 = .ok (.getfield 343, 3) := by decide +kernel
theorem dX9_see_40 : decode cX9_see 40 = .ok (.imul, 1) := by decide +kernel
theorem dX9_see_41 : decode cX9_see 41 = .ok (.iload_n 1, 1) := by decide +kernel
theorem dX9_see_42 : decode cX9_see 42 = .ok (.iastore, 1) := by decide +kernel
theorem dX9_see_43 : decode cX9_see 43 = .ok (.aload_n 0, 1) := by decide +kernel
theorem dX9_see_44 : decode cX9_see 44 = .ok (.getfield 114, 3) := by decide +kernel
theorem dX9_see_47 : decode cX9_see 47 = .ok (.iconst 2, 1) := by decide +kernel
theorem dX9_see_48 : decode cX9_see 48 = .ok (.aload_n 0, 1) := by decide +kernel
theorem dX9_see_49 : decode cX9_see 49 = .ok (.getfield 343, 3) := by decide +kernel
theorem dX9_see_52 : decode cX9_see 52 = .ok (.imul, 1) := by decide +kernel
theorem dX9_see_53 : decode cX9_see 53 = .ok (.iconst 1, 1) := by decide +kernel
theorem dX9_see_54 : decode cX9_see 54 = .ok (.iadd, 1) := by decide +kernel
theorem dX9_see_55 : decode cX9_see 55 = .ok (.iload_n 2, 1) := by decide +kernel
theorem dX9_see_56 : decode cX9_see 56 = .ok (.ifCond .eq 7, 3) := by decide +kernel
theorem dX9_see_59 : decode cX9_see 59 = .ok (.iconst 1, 1) := by decide +kernel
theorem dX9_see_60 : decode cX9_see 60 = .ok (.goto 4, 3) := by decide +kernel
theorem dX9_see_63 : decode cX9_see 63 = .ok (.iconst 0, 1) := by decide +kernel
theorem dX9_see_64 : decode cX9_see 64 = .ok (.iastore, 1) := by decide +kernel
theorem dX9_see_65 : decode cX9_see 65 = .ok (.aload_n 0, 1) := by decide +kernel
theorem dX9_see_66 : decode cX9_see 66 = .ok (.dup, 1) := by decide +kernel
theorem dX9_see_67 : decode cX9_see 67 = .ok (.getfield 343, 3) := by decide +kernel
theorem dX9_see_70 : decode cX9_see 70 = .ok (.iconst 1, 1) := by decide +kernel
theorem dX9_see_71 : decode cX9_see 71 = .ok (.iadd, 1) := by decide +kernel
theorem dX9_see_72 : decode cX9_see 72 = .ok (.putfield 343, 3) := by decide +kernel
theorem dX9_see_75 : decode cX9_see 75 = .ok (.aload_n 0, 1) := by decide +kernel
theorem dX9_see_76 : decode cX9_see 76 = .ok (.getfield 343, 3) := by decide +kernel
theorem dX9_see_79 : decode cX9_see 79 = .ok (.ireturn, 1) := by decide +kernel
def f_Mo_see_60 (v1 : Int32) (v2 : Int32) (σ : xS) : Option (Int32 × xS) :=
  let σ1 := x_pI σ 60 0 (0 : Int32)
  (f_Mo_isTenth_60 v1 σ1).bind fun q2 =>
  if q2.1 = 0 then
    some ((0 : Int32), q2.2)
  else
    if q2.2.1 60 74 = (8 : Int32) then
      (f_Mo_refuses_60 (2 : Int32) (-1 : Int32) q2.2).bind fun q8 =>
      some (q8.1, q8.2)
    else
      if ((2 : Int32) * q2.2.1 60 74) < 0 ∨ 16 ≤ ((2 : Int32) * q2.2.1 60 74).toNatClampNeg then none else
      let σ3 := x_pI q2.2 90 ((2 : Int32) * q2.2.1 60 74).toNatClampNeg v1
      if v2 = 0 then
        if (((2 : Int32) * σ3.1 60 74) + (1 : Int32)) < 0 ∨ 16 ≤ (((2 : Int32) * σ3.1 60 74) + (1 : Int32)).toNatClampNeg then none else
        let σ4 := x_pI σ3 90 (((2 : Int32) * σ3.1 60 74) + (1 : Int32)).toNatClampNeg (0 : Int32)
        let σ5 := x_pI σ4 60 74 (σ4.1 60 74 + (1 : Int32))
        some (σ5.1 60 74, σ5)
      else
        if (((2 : Int32) * σ3.1 60 74) + (1 : Int32)) < 0 ∨ 16 ≤ (((2 : Int32) * σ3.1 60 74) + (1 : Int32)).toNatClampNeg then none else
        let σ6 := x_pI σ3 90 (((2 : Int32) * σ3.1 60 74) + (1 : Int32)).toNatClampNeg (1 : Int32)
        let σ7 := x_pI σ6 60 74 (σ6.1 60 74 + (1 : Int32))
        some (σ7.1 60 74, σ7)
set_option maxHeartbeats 4000000 in
set_option maxRecDepth 100000 in
theorem c_Mo_see_60 {l : Launch} {s0 : State} {a0 : Array Value} {D : va_G} {cA : Nat → ClassId} {sp : Nat → Nat} (E : x_En CL l s0 a0 D cA sp) (v1 : Int32) (v2 : Int32) {σ : xS} {r : Int32} {σ1 : xS} (h : f_Mo_see_60 v1 v2 σ = some (r, σ1)) : zC l s0 D cA sp 2 M_Mo_see [.ref 60, .int v1, .int v2] σ (some (.int r)) σ1 := by
  unfold f_Mo_see_60 at h
  try dsimp only at h
  refine x_enter [some (.ref 60), some (.int v1), some (.int v2)] rfl (Nat.le_of_ble_eq_true rfl) (by decide +kernel) rfl ?_
  refine x_aload_n 1 rfl 0 dX9_see_0 rfl rfl ?_
  refine x_iconst 2 rfl (v := 0) dX9_see_1 (by decide) ?_
  refine x_putI E dX9_see_2 F_RX9_132 sh_60 5 rfl ?_
  refine x_aload_n 6 rfl 0 dX9_see_5 rfl rfl ?_
  refine x_iload_n 7 rfl 1 dX9_see_6 rfl rfl ?_
  obtain ⟨⟨q2r, q2s⟩, q2h, h⟩ := x_bind h
  try dsimp only at h
  refine z_callV E [.int _] [] dX9_see_7 K_RX9_418 ⟨Nat.le_of_ble_eq_true rfl, Nat.le_of_ble_eq_true rfl⟩ sh_60 (by decide) rfl (c_Mo_isTenth_60 E _ q2h) rfl rfl (Nat.le_of_ble_eq_true rfl) 10 rfl [.int _] rfl ?_
  refine x_if_ne 13 rfl 15 dX9_see_10 (by decide) (fun hc => ?_) (fun hc => ?_)
  · replace h := x_ifF hc h
    refine x_aload_n 16 rfl 0 dX9_see_15 rfl rfl ?_
    refine x_getI E dX9_see_16 F_RX9_343 sh_60 19 rfl ?_
    refine x_bipush 21 rfl (v := 8) dX9_see_19 (by decide) ?_
    refine x_icmp_ne 24 rfl 31 dX9_see_21 (by decide) (fun hc => ?_) (fun hc => ?_)
    · replace h := x_ifF hc h
      refine x_aload_n 32 rfl 0 dX9_see_31 rfl rfl ?_
      refine x_getR E dX9_see_32 F_RX9_114 sh_60 rf_60_75 35 rfl ?_
      refine x_iconst 36 rfl (v := 2) dX9_see_35 (by decide) ?_
      refine x_aload_n 37 rfl 0 dX9_see_36 rfl rfl ?_
      refine x_getI E dX9_see_37 F_RX9_343 sh_60 40 rfl ?_
      refine x_imul 41 rfl dX9_see_40 ?_
      refine x_iload_n 42 rfl 1 dX9_see_41 rfl rfl ?_
      obtain ⟨hz, h⟩ := x_ifn h
      refine x_iast E dX9_see_42 sh_90 _ rfl hz 43 rfl ?_
      refine x_aload_n 44 rfl 0 dX9_see_43 rfl rfl ?_
      refine x_getR E dX9_see_44 F_RX9_114 sh_60 rf_60_75 47 rfl ?_
      refine x_iconst 48 rfl (v := 2) dX9_see_47 (by decide) ?_
      refine x_aload_n 49 rfl 0 dX9_see_48 rfl rfl ?_
      refine x_getI E dX9_see_49 F_RX9_343 sh_60 52 rfl ?_
      refine x_imul 53 rfl dX9_see_52 ?_
      refine x_iconst 54 rfl (v := 1) dX9_see_53 (by decide) ?_
      refine x_iadd 55 rfl dX9_see_54 ?_
      refine x_iload_n 56 rfl 2 dX9_see_55 rfl rfl ?_
      refine x_if_eq 59 rfl 63 dX9_see_56 (by decide) (fun hc => ?_) (fun hc => ?_)
      · replace h := x_ifT hc h
        refine x_iconst 64 rfl (v := 0) dX9_see_63 (by decide) ?_
        obtain ⟨hz, h⟩ := x_ifn h
        refine x_iast E dX9_see_64 sh_90 _ rfl hz 65 rfl ?_
        refine x_aload_n 66 rfl 0 dX9_see_65 rfl rfl ?_
        refine x_dup 67 rfl dX9_see_66 rfl ?_
        refine x_getI E dX9_see_67 F_RX9_343 sh_60 70 rfl ?_
        refine x_iconst 71 rfl (v := 1) dX9_see_70 (by decide) ?_
        refine x_iadd 72 rfl dX9_see_71 ?_
        refine x_putI E dX9_see_72 F_RX9_343 sh_60 75 rfl ?_
        refine x_aload_n 76 rfl 0 dX9_see_75 rfl rfl ?_
        refine x_getI E dX9_see_76 F_RX9_343 sh_60 79 rfl ?_
        cases h
        exact x_iret dX9_see_79 rfl rfl rfl
      · replace h := x_ifF hc h
        refine x_iconst 60 rfl (v := 1) dX9_see_59 (by decide) ?_
        refine x_goto 64 dX9_see_60 (by decide) ?_
        obtain ⟨hz, h⟩ := x_ifn h
        refine x_iast E dX9_see_64 sh_90 _ rfl hz 65 rfl ?_
        refine x_aload_n 66 rfl 0 dX9_see_65 rfl rfl ?_
        refine x_dup 67 rfl dX9_see_66 rfl ?_
        refine x_getI E dX9_see_67 F_RX9_343 sh_60 70 rfl ?_
        refine x_iconst 71 rfl (v := 1) dX9_see_70 (by decide) ?_
        refine x_iadd 72 rfl dX9_see_71 ?_
        refine x_putI E dX9_see_72 F_RX9_343 sh_60 75 rfl ?_
        refine x_aload_n 76 rfl 0 dX9_see_75 rfl rfl ?_
        refine x_getI E dX9_see_76 F_RX9_343 sh_60 79 rfl ?_
        cases h
        exact x_iret dX9_see_79 rfl rfl rfl
    · replace h := x_ifT hc h
      refine x_aload_n 25 rfl 0 dX9_see_24 rfl rfl ?_
      refine x_iconst 26 rfl (v := 2) dX9_see_25 (by decide) ?_
      refine x_iconst 27 rfl (v := -1) dX9_see_26 (by decide) ?_
      obtain ⟨⟨q8r, q8s⟩, q8h, h⟩ := x_bind h
      try dsimp only at h
      refine z_callV E [.int _, .int _] [] dX9_see_27 K_RX9_442 ⟨Nat.le_of_ble_eq_true rfl, Nat.le_of_ble_eq_true rfl⟩ sh_60 (by decide) rfl (c_Mo_refuses_60 E _ _ q8h) rfl rfl (Nat.le_of_ble_eq_true rfl) 30 rfl [.int _] rfl ?_
      cases h
      exact x_iret dX9_see_30 rfl rfl rfl
  · replace h := x_ifT hc h
    refine x_iconst 14 rfl (v := 0) dX9_see_13 (by decide) ?_
    cases h
    exact x_iret dX9_see_14 rfl rfl rfl
abbrev M_Mo_fits : xM := (yX9_fits, cX9_fits, 6, some .int, [])
theorem dX9_fits_0 : decode cX9_fits 0 = .ok (.aload_n 0, 1) := by decide +kernel
theorem dX9_fits_1 : decode cX9_fits 1 = .ok (.iconst 0, 1) := by decide +kernel
theorem dX9_fits_2 : decode cX9_fits 2 = .ok (.putfield 132, 3) := by decide +kernel
theorem dX9_fits_5 : decode cX9_fits 5 = .ok (.aload_n 0, 1) := by decide +kernel
theorem dX9_fits_6 : decode cX9_fits 6 = .ok (.iload_n 1, 1) := by decide +kernel
theorem dX9_fits_7 : decode cX9_fits 7 = .ok (.iconst 1, 1) := by decide +kernel
theorem dX9_fits_8 : decode cX9_fits 8 = .ok (.invokevirtual 421, 3) := by decide +kernel
theorem dX9_fits_11 : decode cX9_fits 11 = .ok (.ifCond .ne 5, 3) := by decide +kernel
theorem dX9_fits_14 : decode cX9_fits 14 = .ok (.iconst 0, 1) := by decide +kernel
theorem dX9_fits_15 : decode cX9_fits 15 = .ok (.ireturn, 1) := by decide +kernel
theorem dX9_fits_16 : decode cX9_fits 16 = .ok (.aload_n 0, 1) := by decide +kernel
theorem dX9_fits_17 : decode cX9_fits 17 = .ok (.getfield 78, 3) := by decide +kernel
theorem dX9_fits_20 : decode cX9_fits 20 = .ok (.iconst 5, 1) := by decide +kernel
theorem dX9_fits_21 : decode cX9_fits 21 = .ok (.iaload, 1) := by decide +kernel
theorem dX9_fits_22 : decode cX9_fits 22 = .ok (.istore_n 2, 1) := by decide +kernel
theorem dX9_fits_23 : decode cX9_fits 23 = .ok (.iconst 0, 1) := by decide +kernel
theorem dX9_fits_24 : decode cX9_fits 24 = .ok (.istore_n 3, 1) := by decide +kernel
theorem dX9_fits_25 : decode cX9_fits 25 = .ok (.iconst (-1), 1) := by decide +kernel
theorem dX9_fits_26 : decode cX9_fits 26 = .ok (.istore 4, 2) := by decide +kernel
theorem dX9_fits_28 : decode cX9_fits 28 = .ok (.iconst (-1), 1) := by decide +kernel
theorem dX9_fits_29 : decode cX9_fits 29 = .ok (.istore 5, 2) := by decide +kernel
theorem dX9_fits_31 : decode cX9_fits 31 = .ok (.iload 5, 2) := by decide +kernel
theorem dX9_fits_33 : decode cX9_fits 33 = .ok (.aload_n 0, 1) := by decide +kernel
theorem dX9_fits_34 : decode cX9_fits 34 = .ok (.getfield 333, 3) := by decide +kernel
theorem dX9_fits_37 : decode cX9_fits 37 = .ok (.if_icmp .ge 81, 3) := by decide +kernel
theorem dX9_fits_40 : decode cX9_fits 40 = .ok (.aload_n 0, 1) := by decide +kernel
theorem dX9_fits_41 : decode cX9_fits 41 = .ok (.getfield 78, 3) := by decide +kernel
theorem dX9_fits_44 : decode cX9_fits 44 = .ok (.iconst 5, 1) := by decide +kernel
theorem dX9_fits_45 : decode cX9_fits 45 = .ok (.iload 5, 2) := by decide +kernel
theorem dX9_fits_47 : decode cX9_fits 47 = .ok (.iastore, 1) := by decide +kernel
theorem dX9_fits_48 : decode cX9_fits 48 = .ok (.aload_n 0, 1) := by decide +kernel
theorem dX9_fits_49 : decode cX9_fits 49 = .ok (.iconst 0, 1) := by decide +kernel
theorem dX9_fits_50 : decode cX9_fits 50 = .ok (.putfield 357, 3) := by decide +kernel
theorem dX9_fits_53 : decode cX9_fits 53 = .ok (.aload_n 0, 1) := by decide +kernel
theorem dX9_fits_54 : decode cX9_fits 54 = .ok (.getfield 357, 3) := by decide +kernel
theorem dX9_fits_57 : decode cX9_fits 57 = .ok (.bipush 20, 2) := by decide +kernel
theorem dX9_fits_59 : decode cX9_fits 59 = .ok (.if_icmp .gt 53, 3) := by decide +kernel
theorem dX9_fits_62 : decode cX9_fits 62 = .ok (.aload_n 0, 1) := by decide +kernel
theorem dX9_fits_63 : decode cX9_fits 63 = .ok (.invokevirtual 408, 3) := by decide +kernel
theorem dX9_fits_66 : decode cX9_fits 66 = .ok (.aload_n 0, 1) := by decide +kernel
theorem dX9_fits_67 : decode cX9_fits 67 = .ok (.invokevirtual 463, 3) := by decide +kernel
theorem dX9_fits_70 : decode cX9_fits 70 = .ok (.ifCond .ne 6, 3) := by decide +kernel
theorem dX9_fits_73 : decode cX9_fits 73 = .ok (.goto 26, 3) := by decide +kernel
theorem dX9_fits_76 : decode cX9_fits 76 = .ok (.iinc 3 1, 3) := by decide +kernel
theorem dX9_fits_79 : decode cX9_fits 79 = .ok (.iload 4, 2) := by decide +kernel
theorem dX9_fits_81 : decode cX9_fits 81 = .ok (.iconst (-1), 1) := by decide +kernel
theorem dX9_fits_82 : decode cX9_fits 82 = .ok (.if_icmp .ne 17, 3) := by decide +kernel
theorem dX9_fits_85 : decode cX9_fits 85 = .ok (.bipush 100, 2) := by decide +kernel
theorem dX9_fits_87 : decode cX9_fits 87 = .ok (.iload 5, 2) := by decide +kernel
theorem dX9_fits_89 : decode cX9_fits 89 = .ok (.iconst 1, 1) := by decide +kernel
theorem dX9_fits_90 : decode cX9_fits 90 = .ok (.iadd, 1) := by decide +kernel
theorem dX9_fits_91 : decode cX9_fits 91 = .ok (.imul, 1) := by decide +kernel
theorem dX9_fits_92 : decode cX9_fits 92 = .ok (.aload_n 0, 1) := by decide +kernel
theorem dX9_fits_93 : decode cX9_fits 93 = .ok (.getfield 357, 3) := by decide +kernel
theorem dX9_fits_96 : decode cX9_fits 96 = .ok (.iadd, 1) := by decide +kernel
theorem dX9_fits_97 : decode cX9_fits 97 = .ok (.istore 4, 2) := by decide +kernel
theorem dX9_fits_99 : decode cX9_fits 99 = .ok (.aload_n 0, 1) := by decide +kernel
theorem dX9_fits_100 : decode cX9_fits 100 = .ok (.dup, 1) := by decide +kernel
theorem dX9_fits_101 : decode cX9_fits 101 = .ok (.getfield 357, 3) := by decide +kernel
theorem dX9_fits_104 : decode cX9_fits 104 = .ok (.iconst 1, 1) := by decide +kernel
theorem dX9_fits_105 : decode cX9_fits 105 = .ok (.iadd, 1) := by decide +kernel
theorem dX9_fits_106 : decode cX9_fits 106 = .ok (.putfield 357, 3) := by decide +kernel
theorem dX9_fits_109 : decode cX9_fits 109 = .ok (.goto (-56), 3) := by decide +kernel
theorem dX9_fits_112 : decode cX9_fits 112 = .ok (.iinc 5 1, 3) := by decide +kernel
theorem dX9_fits_115 : decode cX9_fits 115 = .ok (.goto (-84), 3) := by decide +kernel
theorem dX9_fits_118 : decode cX9_fits 118 = .ok (.aload_n 0, 1) := by decide +kernel
theorem dX9_fits_119 : decode cX9_fits 119 = .ok (.iconst 0, 1) := by decide +kernel
theorem dX9_fits_120 : decode cX9_fits 120 = .ok (.putfield 357, 3) := by decide +kernel
theorem dX9_fits_123 : decode cX9_fits 123 = .ok (.aload_n 0, 1) := by decide +kernel
theorem dX9_fits_124 : decode cX9_fits 124 = .ok (.getfield 78, 3) := by decide +kernel
theorem dX9_fits_127 : decode cX9_fits 127 = .ok (.iconst 5, 1) := by decide +kernel
theorem dX9_fits_128 : decode cX9_fits 128 = .ok (.iload_n 2, 1) := by decide +kernel
theorem dX9_fits_129 : decode cX9_fits 129 = .ok (.iastore, 1) := by decide +kernel
theorem dX9_fits_130 : decode cX9_fits 130 = .ok (.iload_n 1, 1) := by decide +kernel
theorem dX9_fits_131 : decode cX9_fits 131 = .ok (.ifCond .ne 7, 3) := by decide +kernel
theorem dX9_fits_134 : decode cX9_fits 134 = .ok (.iload_n 3, 1) := by decide +kernel
theorem dX9_fits_135 : decode cX9_fits 135 = .ok (.goto 5, 3) := by decide +kernel
theorem dX9_fits_138 : decode cX9_fits 138 = .ok (.iload 4, 2) := by decide +kernel
theorem dX9_fits_140 : decode cX9_fits 140 = .ok (.ireturn, 1) := by decide +kernel
def f_Mo_fits_60_L53 (v1 : Int32) (v2 : Int32) (v5 : Int32) (a : Int32 × Int32 × xS) : Option ((Int32 × Int32 × xS) ⊕ (Int32 × Int32 × xS)) :=
  let v3 := a.1; let v4 := a.2.1; let σ := a.2.2;
  if (20 : Int32) < σ.1 60 59 then
    some (.inl (v3, v4, σ))
  else
    (f_Mo_goesThrough_60  σ).bind fun q1 =>
    (f_Mo_isAsSeen_60  q1.2).bind fun q2 =>
    if q2.1 = 0 then
      let σ7 := x_pI q2.2 60 59 (q2.2.1 60 59 + (1 : Int32))
      some (.inr (v3, v4, σ7))
    else
      let w3 := v3 + (1 : Int32)
      if v4 = (-1 : Int32) then
        let w5 := (((100 : Int32) * (v5 + (1 : Int32))) + q2.2.1 60 59)
        let σ6 := x_pI q2.2 60 59 (q2.2.1 60 59 + (1 : Int32))
        some (.inr (w3, w5, σ6))
      else
        let σ4 := x_pI q2.2 60 59 (q2.2.1 60 59 + (1 : Int32))
        some (.inr (w3, v4, σ4))
def f_Mo_fits_60_L31 (v1 : Int32) (v2 : Int32) (a : Int32 × Int32 × Int32 × xS) : Option ((Int32 × Int32 × Int32 × xS) ⊕ (Int32 × Int32 × Int32 × xS)) :=
  let v3 := a.1; let v4 := a.2.1; let v5 := a.2.2.1; let σ := a.2.2.2;
  if σ.1 60 5 ≤ v5 then
    some (.inl (v3, v4, v5, σ))
  else
    let σ8 := x_pI σ 79 5 v5
    let σ9 := x_pI σ8 60 59 (0 : Int32)
    (x_it (f_Mo_fits_60_L53 v1 v2 v5) 10000 (v3, v4, σ9)).bind fun b10 =>
    let w11 := v5 + (1 : Int32)
    some (.inr (b10.1, b10.2.1, w11, b10.2.2))
def f_Mo_fits_60 (v1 : Int32) (σ : xS) : Option (Int32 × xS) :=
  let σ12 := x_pI σ 60 0 (0 : Int32)
  (f_Mo_isWhat_60 v1 (1 : Int32) σ12).bind fun q13 =>
  if q13.1 = 0 then
    some ((0 : Int32), q13.2)
  else
    let w14 := q13.2.1 79 5
    (x_it (f_Mo_fits_60_L31 v1 w14) 10000 ((0 : Int32), (-1 : Int32), (-1 : Int32), q13.2)).bind fun b15 =>
    let σ16 := x_pI b15.2.2.2 60 59 (0 : Int32)
    let σ17 := x_pI σ16 79 5 w14
    if v1 = 0 then
      some (b15.1, σ17)
    else
      some (b15.2.1, σ17)
set_option maxHeartbeats 4000000 in
set_option maxRecDepth 100000 in
theorem b_Mo_fits_60_L53 {l : Launch} {s0 : State} {a0 : Array Value} {D : va_G} {cA : Nat → ClassId} {sp : Nat → Nat} (E : x_En CL l s0 a0 D cA sp) (v1 : Int32) (v2 : Int32) (v5 : Int32) {r : Int32} {σ1 : xS} (a : Int32 × Int32 × xS) (o : (Int32 × Int32 × xS) ⊕ (Int32 × Int32 × xS)) (h : f_Mo_fits_60_L53 v1 v2 v5 a = some o) (hK : ∀ b, o = .inl b → zW l s0 D cA sp (zQ s0 D cA sp (some (.int r)) σ1) (x_rm 5 0 0) M_Mo_fits 0 0 112 [some (.ref 60), some (.int v1), some (.int v2), some (.int b.1), some (.int b.2.1), some (.int v5)] [] b.2.2) (hG : ∀ a', o = .inr a' → zW l s0 D cA sp (zQ s0 D cA sp (some (.int r)) σ1) (x_rm 5 0 0) M_Mo_fits 0 0 53 [some (.ref 60), some (.int v1), some (.int v2), some (.int a'.1), some (.int a'.2.1), some (.int v5)] [] a'.2.2) : zW l s0 D cA sp (zQ s0 D cA sp (some (.int r)) σ1) (x_rm 5 0 0) M_Mo_fits 0 0 53 [some (.ref 60), some (.int v1), some (.int v2), some (.int a.1), some (.int a.2.1), some (.int v5)] [] a.2.2 := by
  obtain ⟨v3, v4, σ⟩ := a
  unfold f_Mo_fits_60_L53 at h
  try dsimp only at h ⊢
  refine x_aload_n 54 rfl 0 dX9_fits_53 rfl rfl ?_
  refine x_getI E dX9_fits_54 F_RX9_357 sh_60 57 rfl ?_
  refine x_bipush 59 rfl (v := 20) dX9_fits_57 (by decide) ?_
  refine x_icmp_gt 62 rfl 112 dX9_fits_59 (by decide) (fun hc => ?_) (fun hc => ?_)
  · replace h := x_ifT hc h
    cases h
    exact x_wk (x_le_s (x_le_s (x_le_s (x_le_s (x_le_s (x_le_s x_le_0)))))) (hK (_, _, _) rfl)
  · replace h := x_ifF hc h
    refine x_aload_n 63 rfl 0 dX9_fits_62 rfl rfl ?_
    obtain ⟨⟨q1r, q1s⟩, q1h, h⟩ := x_bind h
    try dsimp only at h
    refine z_callV E [] [] dX9_fits_63 K_RX9_408 ⟨Nat.le_of_ble_eq_true rfl, Nat.le_of_ble_eq_true rfl⟩ sh_60 (by decide) rfl (c_Mo_goesThrough_60 E  q1h) rfl rfl (Nat.le_of_ble_eq_true rfl) 66 rfl [] rfl ?_
    refine x_aload_n 67 rfl 0 dX9_fits_66 rfl rfl ?_
    obtain ⟨⟨q2r, q2s⟩, q2h, h⟩ := x_bind h
    try dsimp only at h
    refine z_callV E [] [] dX9_fits_67 K_RX9_463 ⟨Nat.le_of_ble_eq_true rfl, Nat.le_of_ble_eq_true rfl⟩ sh_60 (by decide) rfl (c_Mo_isAsSeen_60 E  q2h) rfl rfl (Nat.le_of_ble_eq_true rfl) 70 rfl [.int _] rfl ?_
    refine x_if_ne 73 rfl 76 dX9_fits_70 (by decide) (fun hc => ?_) (fun hc => ?_)
    · replace h := x_ifF hc h
      refine x_iinc 79 rfl (1) dX9_fits_76 rfl (by decide) (by decide) [some (.ref 60), some (.int _), some (.int _), some (.int _), some (.int _), some (.int _)] rfl ?_
      refine x_iload 81 rfl dX9_fits_79 rfl ?_
      refine x_iconst 82 rfl (v := -1) dX9_fits_81 (by decide) ?_
      refine x_icmp_ne 85 rfl 99 dX9_fits_82 (by decide) (fun hc => ?_) (fun hc => ?_)
      · replace h := x_ifF hc h
        refine x_aload_n 100 rfl 0 dX9_fits_99 rfl rfl ?_
        refine x_dup 101 rfl dX9_fits_100 rfl ?_
        refine x_getI E dX9_fits_101 F_RX9_357 sh_60 104 rfl ?_
        refine x_iconst 105 rfl (v := 1) dX9_fits_104 (by decide) ?_
        refine x_iadd 106 rfl dX9_fits_105 ?_
        refine x_putI E dX9_fits_106 F_RX9_357 sh_60 109 rfl ?_
        refine x_goto 53 dX9_fits_109 (by decide) ?_
        cases h
        exact x_wk (x_le_s (x_le_s (x_le_s (x_le_s (x_le_s (x_le_s x_le_0)))))) (hG (_, _, _) rfl)
      · replace h := x_ifT hc h
        refine x_bipush 87 rfl (v := 100) dX9_fits_85 (by decide) ?_
        refine x_iload 89 rfl dX9_fits_87 rfl ?_
        refine x_iconst 90 rfl (v := 1) dX9_fits_89 (by decide) ?_
        refine x_iadd 91 rfl dX9_fits_90 ?_
        refine x_imul 92 rfl dX9_fits_91 ?_
        refine x_aload_n 93 rfl 0 dX9_fits_92 rfl rfl ?_
        refine x_getI E dX9_fits_93 F_RX9_357 sh_60 96 rfl ?_
        refine x_iadd 97 rfl dX9_fits_96 ?_
        refine x_istore 99 rfl dX9_fits_97 (by decide) [some (.ref 60), some (.int _), some (.int _), some (.int _), some (.int _), some (.int _)] rfl ?_
        refine x_aload_n 100 rfl 0 dX9_fits_99 rfl rfl ?_
        refine x_dup 101 rfl dX9_fits_100 rfl ?_
        refine x_getI E dX9_fits_101 F_RX9_357 sh_60 104 rfl ?_
        refine x_iconst 105 rfl (v := 1) dX9_fits_104 (by decide) ?_
        refine x_iadd 106 rfl dX9_fits_105 ?_
        refine x_putI E dX9_fits_106 F_RX9_357 sh_60 109 rfl ?_
        refine x_goto 53 dX9_fits_109 (by decide) ?_
        cases h
        exact x_wk (x_le_s (x_le_s (x_le_s (x_le_s (x_le_s (x_le_s x_le_0)))))) (hG (_, _, _) rfl)
    · replace h := x_ifT hc h
      refine x_goto 99 dX9_fits_73 (by decide) ?_
      refine x_aload_n 100 rfl 0 dX9_fits_99 rfl rfl ?_
      refine x_dup 101 rfl dX9_fits_100 rfl ?_
      refine x_getI E dX9_fits_101 F_RX9_357 sh_60 104 rfl ?_
      refine x_iconst 105 rfl (v := 1) dX9_fits_104 (by decide) ?_
      refine x_iadd 106 rfl dX9_fits_105 ?_
      refine x_putI E dX9_fits_106 F_RX9_357 sh_60 109 rfl ?_
      refine x_goto 53 dX9_fits_109 (by decide) ?_
      cases h
      exact x_wk (x_le_s (x_le_s (x_le_s (x_le_s (x_le_s (x_le_s x_le_0)))))) (hG (_, _, _) rfl)
set_option maxHeartbeats 4000000 in
set_option maxRecDepth 100000 in
theorem b_Mo_fits_60_L31 {l : Launch} {s0 : State} {a0 : Array Value} {D : va_G} {cA : Nat → ClassId} {sp : Nat → Nat} (E : x_En CL l s0 a0 D cA sp) (v1 : Int32) (v2 : Int32) {r : Int32} {σ1 : xS} (a : Int32 × Int32 × Int32 × xS) (o : (Int32 × Int32 × Int32 × xS) ⊕ (Int32 × Int32 × Int32 × xS)) (h : f_Mo_fits_60_L31 v1 v2 a = some o) (hK : ∀ b, o = .inl b → zW l s0 D cA sp (zQ s0 D cA sp (some (.int r)) σ1) (x_rm 5 0 0) M_Mo_fits 0 0 118 [some (.ref 60), some (.int v1), some (.int v2), some (.int b.1), some (.int b.2.1), none] [] b.2.2.2) (hG : ∀ a', o = .inr a' → zW l s0 D cA sp (zQ s0 D cA sp (some (.int r)) σ1) (x_rm 5 0 0) M_Mo_fits 0 0 31 [some (.ref 60), some (.int v1), some (.int v2), some (.int a'.1), some (.int a'.2.1), some (.int a'.2.2.1)] [] a'.2.2.2) : zW l s0 D cA sp (zQ s0 D cA sp (some (.int r)) σ1) (x_rm 5 0 0) M_Mo_fits 0 0 31 [some (.ref 60), some (.int v1), some (.int v2), some (.int a.1), some (.int a.2.1), some (.int a.2.2.1)] [] a.2.2.2 := by
  obtain ⟨v3, v4, v5, σ⟩ := a
  unfold f_Mo_fits_60_L31 at h
  try dsimp only at h ⊢
  refine x_iload 33 rfl dX9_fits_31 rfl ?_
  refine x_aload_n 34 rfl 0 dX9_fits_33 rfl rfl ?_
  refine x_getI E dX9_fits_34 F_RX9_333 sh_60 37 rfl ?_
  refine x_icmp_ge 40 rfl 118 dX9_fits_37 (by decide) (fun hc => ?_) (fun hc => ?_)
  · replace h := x_ifT hc h
    cases h
    exact x_wk (x_le_s (x_le_s (x_le_s (x_le_s (x_le_s (x_le_n x_le_0)))))) (hK (_, _, _, _) rfl)
  · replace h := x_ifF hc h
    refine x_aload_n 41 rfl 0 dX9_fits_40 rfl rfl ?_
    refine x_getR E dX9_fits_41 F_RX9_78 sh_60 rf_60_53 44 rfl ?_
    refine x_iconst 45 rfl (v := 5) dX9_fits_44 (by decide) ?_
    refine x_iload 47 rfl dX9_fits_45 rfl ?_
    refine x_iast E dX9_fits_47 sh_79 5 (by decide) (by decide) 48 rfl ?_
    refine x_aload_n 49 rfl 0 dX9_fits_48 rfl rfl ?_
    refine x_iconst 50 rfl (v := 0) dX9_fits_49 (by decide) ?_
    refine x_putI E dX9_fits_50 F_RX9_357 sh_60 53 rfl ?_
    obtain ⟨b10, b10h, h⟩ := x_bind h
    try dsimp only at h
    refine x_wk (x_le_s (x_le_s (x_le_s (x_le_s (x_le_s (x_le_s x_le_0)))))) (x_loop (fun a o h hK hG => b_Mo_fits_60_L53 (r := r) (σ1 := σ1) E _ _ _ a o h hK hG) _ _ _ b10h ?_)
    refine x_iinc 115 rfl (1) dX9_fits_112 rfl (by decide) (by decide) [some (.ref 60), some (.int _), some (.int _), some (.int _), some (.int _), some (.int _)] rfl ?_
    refine x_goto 31 dX9_fits_115 (by decide) ?_
    cases h
    exact x_wk (x_le_s (x_le_s (x_le_s (x_le_s (x_le_s (x_le_s x_le_0)))))) (hG (_, _, _, _) rfl)
set_option maxHeartbeats 4000000 in
set_option maxRecDepth 100000 in
theorem c_Mo_fits_60 {l : Launch} {s0 : State} {a0 : Array Value} {D : va_G} {cA : Nat → ClassId} {sp : Nat → Nat} (E : x_En CL l s0 a0 D cA sp) (v1 : Int32) {σ : xS} {r : Int32} {σ1 : xS} (h : f_Mo_fits_60 v1 σ = some (r, σ1)) : zC l s0 D cA sp 5 M_Mo_fits [.ref 60, .int v1] σ (some (.int r)) σ1 := by
  unfold f_Mo_fits_60 at h
  try dsimp only at h
  refine x_enter [some (.ref 60), some (.int v1), none, none, none, none] rfl (Nat.le_of_ble_eq_true rfl) (by decide +kernel) rfl ?_
  refine x_aload_n 1 rfl 0 dX9_fits_0 rfl rfl ?_
  refine x_iconst 2 rfl (v := 0) dX9_fits_1 (by decide) ?_
  refine x_putI E dX9_fits_2 F_RX9_132 sh_60 5 rfl ?_
  refine x_aload_n 6 rfl 0 dX9_fits_5 rfl rfl ?_
  refine x_iload_n 7 rfl 1 dX9_fits_6 rfl rfl ?_
  refine x_iconst 8 rfl (v := 1) dX9_fits_7 (by decide) ?_
  obtain ⟨⟨q13r, q13s⟩, q13h, h⟩ := x_bind h
  try dsimp only at h
  refine z_callV E [.int _, .int _] [] dX9_fits_8 K_RX9_421 ⟨Nat.le_of_ble_eq_true rfl, Nat.le_of_ble_eq_true rfl⟩ sh_60 (by decide) rfl (c_Mo_isWhat_60 E _ _ q13h) rfl rfl (Nat.le_of_ble_eq_true rfl) 11 rfl [.int _] rfl ?_
  refine x_if_ne 14 rfl 16 dX9_fits_11 (by decide) (fun hc => ?_) (fun hc => ?_)
  · replace h := x_ifF hc h
    refine x_aload_n 17 rfl 0 dX9_fits_16 rfl rfl ?_
    refine x_getR E dX9_fits_17 F_RX9_78 sh_60 rf_60_53 20 rfl ?_
    refine x_iconst 21 rfl (v := 5) dX9_fits_20 (by decide) ?_
    refine x_iald E dX9_fits_21 sh_79 5 (by decide) (by decide) 22 rfl ?_
    refine x_istore_n 23 rfl 2 dX9_fits_22 rfl (by decide) [some (.ref 60), some (.int _), some (.int _), none, none, none] rfl ?_
    refine x_iconst 24 rfl (v := 0) dX9_fits_23 (by decide) ?_
    refine x_istore_n 25 rfl 3 dX9_fits_24 rfl (by decide) [some (.ref 60), some (.int _), some (.int _), some (.int _), none, none] rfl ?_
    refine x_iconst 26 rfl (v := -1) dX9_fits_25 (by decide) ?_
    refine x_istore 28 rfl dX9_fits_26 (by decide) [some (.ref 60), some (.int _), some (.int _), some (.int _), some (.int _), none] rfl ?_
    refine x_iconst 29 rfl (v := -1) dX9_fits_28 (by decide) ?_
    refine x_istore 31 rfl dX9_fits_29 (by decide) [some (.ref 60), some (.int _), some (.int _), some (.int _), some (.int _), some (.int _)] rfl ?_
    obtain ⟨b15, b15h, h⟩ := x_bind h
    try dsimp only at h
    refine x_wk (x_le_s (x_le_s (x_le_s (x_le_s (x_le_s (x_le_s x_le_0)))))) (x_loop (fun a o h hK hG => b_Mo_fits_60_L31 (r := r) (σ1 := σ1) E _ _ a o h hK hG) _ _ _ b15h ?_)
    refine x_aload_n 119 rfl 0 dX9_fits_118 rfl rfl ?_
    refine x_iconst 120 rfl (v := 0) dX9_fits_119 (by decide) ?_
    refine x_putI E dX9_fits_120 F_RX9_357 sh_60 123 rfl ?_
    refine x_aload_n 124 rfl 0 dX9_fits_123 rfl rfl ?_
    refine x_getR E dX9_fits_124 F_RX9_78 sh_60 rf_60_53 127 rfl ?_
    refine x_iconst 128 rfl (v := 5) dX9_fits_127 (by decide) ?_
    refine x_iload_n 129 rfl 2 dX9_fits_128 rfl rfl ?_
    refine x_iast E dX9_fits_129 sh_79 5 (by decide) (by decide) 130 rfl ?_
    refine x_iload_n 131 rfl 1 dX9_fits_130 rfl rfl ?_
    refine x_if_ne 134 rfl 138 dX9_fits_131 (by decide) (fun hc => ?_) (fun hc => ?_)
    · replace h := x_ifF hc h
      refine x_iload 140 rfl dX9_fits_138 rfl ?_
      cases h
      exact x_iret dX9_fits_140 rfl rfl rfl
    · replace h := x_ifT hc h
      refine x_iload_n 135 rfl 3 dX9_fits_134 rfl rfl ?_
      refine x_goto 140 dX9_fits_135 (by decide) ?_
      cases h
      exact x_iret dX9_fits_140 rfl rfl rfl
  · replace h := x_ifT hc h
    refine x_iconst 15 rfl (v := 0) dX9_fits_14 (by decide) ?_
    cases h
    exact x_iret dX9_fits_15 rfl rfl rfl
