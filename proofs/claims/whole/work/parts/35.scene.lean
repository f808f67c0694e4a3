/-! RingHand.scene. Written by wip/gen/scene.py. -/
theorem KX_RX8_87 : x_KX RX8 85 87 89 (x_Xn 1) "the tape has not so many bytes" := ⟨by decide +kernel, (List.mem_append_right _ (List.mem_of_getElem? (i := 544) (by decide +kernel))), (List.mem_append_right _ (List.mem_of_getElem? (i := 13) (by decide +kernel))), (List.mem_append_right _ (List.mem_of_getElem? (i := 584) (by decide +kernel))), (List.mem_of_getElem? (i := 407) (by decide +kernel)), AX_89, AO_85_89⟩
theorem K_RX8_100 : x_KV RX8 100 M_Ch_drop 0 := ⟨⟨(List.mem_append_right _ (List.mem_of_getElem? (i := 869) (by decide +kernel))), (List.mem_append_right _ (List.mem_of_getElem? (i := 872) (by decide +kernel))), (List.mem_append_right _ (List.mem_of_getElem? (i := 7) (by decide +kernel))), ⟨by decide +kernel, by decide +kernel⟩, by decide +kernel⟩, (List.mem_append_right _ (List.mem_of_getElem? (i := 870) (by decide +kernel))), (List.mem_append_right _ (List.mem_of_getElem? (i := 871) (by decide +kernel)))⟩
theorem K_RX8_74 : x_KV RX8 74 M_Sc_finish 0 := ⟨⟨(List.mem_append_right _ (List.mem_of_getElem? (i := 277) (by decide +kernel))), (List.mem_append_right _ (List.mem_of_getElem? (i := 280) (by decide +kernel))), (List.mem_append_right _ (List.mem_of_getElem? (i := 3) (by decide +kernel))), ⟨by decide +kernel, by decide +kernel⟩, by decide +kernel⟩, (List.mem_append_right _ (List.mem_of_getElem? (i := 278) (by decide +kernel))), (List.mem_append_right _ (List.mem_of_getElem? (i := 279) (by decide +kernel)))⟩
theorem K_RX8_77 : x_KV RX8 77 M_Se_begin 1 := ⟨⟨(List.mem_append_right _ (List.mem_of_getElem? (i := 304) (by decide +kernel))), (List.mem_append_right _ (List.mem_of_getElem? (i := 307) (by decide +kernel))), (List.mem_append_right _ (List.mem_of_getElem? (i := 5) (by decide +kernel))), ⟨by decide +kernel, by decide +kernel⟩, by decide +kernel⟩, (List.mem_append_right _ (List.mem_of_getElem? (i := 305) (by decide +kernel))), (List.mem_append_right _ (List.mem_of_getElem? (i := 306) (by decide +kernel)))⟩
theorem K_RX8_92 : x_KV RX8 92 M_Re_read 3 := ⟨⟨(List.mem_append_right _ (List.mem_of_getElem? (i := 611) (by decide +kernel))), (List.mem_append_right _ (List.mem_of_getElem? (i := 614) (by decide +kernel))), (List.mem_append_right _ (List.mem_of_getElem? (i := 2) (by decide +kernel))), ⟨by decide +kernel, by decide +kernel⟩, by decide +kernel⟩, (List.mem_append_right _ (List.mem_of_getElem? (i := 612) (by decide +kernel))), (List.mem_append_right _ (List.mem_of_getElem? (i := 613) (by decide +kernel)))⟩
abbrev M_Ch_drop : xM := (yX1_drop, cX1_drop, 1, none, [])
abbrev M_RH_scene : xM := (yX8_scene, cX8_scene, 4, some .int, [])
abbrev M_Sc_finish : xM := (yX4_finish, cX4_finish, 6, none, [])
abbrev M_Se_begin : xM := (yX5_begin, cX5_begin, 2, none, [])
theorem dX8_scene_0 : decode cX8_scene 0 = .ok (.iload_n 1, 1) := by decide +kernel
theorem dX8_scene_1 : decode cX8_scene 1 = .ok (.ifCond .lt 11, 3) := by decide +kernel
theorem dX8_scene_4 : decode cX8_scene 4 = .ok (.iload_n 1, 1) := by decide +kernel
theorem dX8_scene_5 : decode cX8_scene 5 = .ok (.aload_n 0, 1) := by decide +kernel
theorem dX8_scene_6 : decode cX8_scene 6 = .ok (.getfield 13, 3) := by decide +kernel
theorem dX8_scene_9 : decode cX8_scene 9 = .ok (.if_icmp .le 13, 3) := by decide +kernel
theorem dX8_scene_12 : decode cX8_scene 12 = .ok (.new 85, 3) := by decide +kernel
theorem dX8_scene_15 : decode cX8_scene 15 = .ok (.dup, 1) := by decide +kernel
theorem dX8_scene_16 : decode cX8_scene 16 = .ok (.ldc 87, 2) := by decide +kernel
theorem dX8_scene_18 : decode cX8_scene 18 = .ok (.invokespecial 89, 3) := by decide +kernel
theorem dX8_scene_21 : decode cX8_scene 21 = .ok (.athrow, 1) := by decide +kernel
theorem dX8_scene_22 : decode cX8_scene 22 = .ok (.aload_n 0, 1) := by decide +kernel
theorem dX8_scene_23 : decode cX8_scene 23 = .ok (.getfield 20, 3) := by decide +kernel
theorem dX8_scene_26 : decode cX8_scene 26 = .ok (.aload_n 0, 1) := by decide +kernel
theorem dX8_scene_27 : decode cX8_scene 27 = .ok (.getfield 9, 3) := by decide +kernel
theorem dX8_scene_30 : decode cX8_scene 30 = .ok (.iload_n 1, 1) := by decide +kernel
theorem dX8_scene_31 : decode cX8_scene 31 = .ok (.aload_n 0, 1) := by decide +kernel
theorem dX8_scene_32 : decode cX8_scene 32 = .ok (.getfield 31, 3) := by decide +kernel
theorem dX8_scene_35 : decode cX8_scene 35 = .ok (.invokevirtual 92, 3) := by decide +kernel
theorem dX8_scene_38 : decode cX8_scene 38 = .ok (.istore_n 2, 1) := by decide +kernel
theorem dX8_scene_39 : decode cX8_scene 39 = .ok (.aload_n 0, 1) := by decide +kernel
theorem dX8_scene_40 : decode cX8_scene 40 = .ok (.iconst 0, 1) := by decide +kernel
theorem dX8_scene_41 : decode cX8_scene 41 = .ok (.putfield 13, 3) := by decide +kernel
theorem dX8_scene_44 : decode cX8_scene 44 = .ok (.iload_n 2, 1) := by decide +kernel
theorem dX8_scene_45 : decode cX8_scene 45 = .ok (.ifCond .ne 32, 3) := by decide +kernel
theorem dX8_scene_48 : decode cX8_scene 48 = .ok (.aload_n 0, 1) := by decide +kernel
theorem dX8_scene_49 : decode cX8_scene 49 = .ok (.getfield 68, 3) := by decide +kernel
theorem dX8_scene_52 : decode cX8_scene 52 = .ok (.iconst 0, 1) := by decide +kernel
theorem dX8_scene_53 : decode cX8_scene 53 = .ok (.dup2, 1) := by decide +kernel
theorem dX8_scene_54 : decode cX8_scene 54 = .ok (.iaload, 1) := by decide +kernel
theorem dX8_scene_55 : decode cX8_scene 55 = .ok (.iconst 1, 1) := by decide +kernel
theorem dX8_scene_56 : decode cX8_scene 56 = .ok (.iadd, 1) := by decide +kernel
theorem dX8_scene_57 : decode cX8_scene 57 = .ok (.iastore, 1) := by decide +kernel
theorem dX8_scene_58 : decode cX8_scene 58 = .ok (.aload_n 0, 1) := by decide +kernel
theorem dX8_scene_59 : decode cX8_scene 59 = .ok (.aload_n 0, 1) := by decide +kernel
theorem dX8_scene_60 : decode cX8_scene 60 = .ok (.getfield 20, 3) := by decide +kernel
theorem dX8_scene_63 : decode cX8_scene 63 = .ok (.getfield 96, 3) := by decide +kernel
theorem dX8_scene_66 : decode cX8_scene 66 = .ok (.putfield 65, 3) := by decide +kernel
theorem dX8_scene_69 : decode cX8_scene 69 = .ok (.aload_n 0, 1) := by decide +kernel
theorem dX8_scene_70 : decode cX8_scene 70 = .ok (.getfield 20, 3) := by decide +kernel
theorem dX8_scene_73 : decode cX8_scene 73 = .ok (.getfield 97, 3) := by decide +kernel
theorem dX8_scene_76 : decode cX8_scene 76 = .ok (.ireturn, 1) := by decide +kernel
theorem dX8_scene_77 : decode cX8_scene 77 = .ok (.aload_n 0, 1) := by decide +kernel
theorem dX8_scene_78 : decode cX8_scene 78 = .ok (.getfield 27, 3) := by decide +kernel
theorem dX8_scene_81 : decode cX8_scene 81 = .ok (.astore_n 3, 1) := by decide +kernel
theorem dX8_scene_82 : decode cX8_scene 82 = .ok (.aload_n 0, 1) := by decide +kernel
theorem dX8_scene_83 : decode cX8_scene 83 = .ok (.aload_n 0, 1) := by decide +kernel
theorem dX8_scene_84 : decode cX8_scene 84 = .ok (.getfield 31, 3) := by decide +kernel
theorem dX8_scene_87 : decode cX8_scene 87 = .ok (.putfield 27, 3) := by decide +kernel
theorem dX8_scene_90 : decode cX8_scene 90 = .ok (.aload_n 0, 1) := by decide +kernel
theorem dX8_scene_91 : decode cX8_scene 91 = .ok (.aload_n 3, 1) := by decide +kernel
theorem dX8_scene_92 : decode cX8_scene 92 = .ok (.putfield 31, 3) := by decide +kernel
theorem dX8_scene_95 : decode cX8_scene 95 = .ok (.aload_n 0, 1) := by decide +kernel
theorem dX8_scene_96 : decode cX8_scene 96 = .ok (.getfield 27, 3) := by decide +kernel
theorem dX8_scene_99 : decode cX8_scene 99 = .ok (.invokevirtual 74, 3) := by decide +kernel
theorem dX8_scene_102 : decode cX8_scene 102 = .ok (.aload_n 0, 1) := by decide +kernel
theorem dX8_scene_103 : decode cX8_scene 103 = .ok (.getfield 37, 3) := by decide +kernel
theorem dX8_scene_106 : decode cX8_scene 106 = .ok (.aload_n 0, 1) := by decide +kernel
theorem dX8_scene_107 : decode cX8_scene 107 = .ok (.getfield 27, 3) := by decide +kernel
theorem dX8_scene_110 : decode cX8_scene 110 = .ok (.invokevirtual 77, 3) := by decide +kernel
theorem dX8_scene_113 : decode cX8_scene 113 = .ok (.aload_n 0, 1) := by decide +kernel
theorem dX8_scene_114 : decode cX8_scene 114 = .ok (.iconst 0, 1) := by decide +kernel
theorem dX8_scene_115 : decode cX8_scene 115 = .ok (.putfield 44, 3) := by decide +kernel
theorem dX8_scene_118 : decode cX8_scene 118 = .ok (.aload_n 0, 1) := by decide +kernel
theorem dX8_scene_119 : decode cX8_scene 119 = .ok (.getfield 61, 3) := by decide +kernel
theorem dX8_scene_122 : decode cX8_scene 122 = .ok (.invokevirtual 100, 3) := by decide +kernel
theorem dX8_scene_125 : decode cX8_scene 125 = .ok (.aload_n 0, 1) := by decide +kernel
theorem dX8_scene_126 : decode cX8_scene 126 = .ok (.iconst 0, 1) := by decide +kernel
theorem dX8_scene_127 : decode cX8_scene 127 = .ok (.putfield 55, 3) := by decide +kernel
theorem dX8_scene_130 : decode cX8_scene 130 = .ok (.aload_n 0, 1) := by decide +kernel
theorem dX8_scene_131 : decode cX8_scene 131 = .ok (.iconst (-1), 1) := by decide +kernel
theorem dX8_scene_132 : decode cX8_scene 132 = .ok (.putfield 65, 3) := by decide +kernel
theorem dX8_scene_135 : decode cX8_scene 135 = .ok (.iconst 0, 1) := by decide +kernel
theorem dX8_scene_136 : decode cX8_scene 136 = .ok (.ireturn, 1) := by decide +kernel
def f_RH_scene_0 (v1 : Int32) (σ : xS) : Option ((Int32 ⊕ Nat) × xS) :=
  if v1 < 0 then
    some (.inr 1, σ)
  else
    if v1 ≤ σ.1 0 1 then
      (f_Re_read_2_1_21 v1 σ).bind fun q1 =>
      let w2 := q1.1
      let σ3 := x_pI q1.2 0 1 (0 : Int32)
      if w2 = 0 then
        let σ11 := x_pI σ3 59 0 (σ3.1 59 0 + (1 : Int32))
        let σ12 := x_pI σ11 0 11 (σ11.1 2 7)
        some (.inl (σ12.1 2 6), σ12)
      else
        let σ4 := x_sw σ3
        (f_Sc_finish_7  σ4).bind fun q5 =>
        (f_Se_begin_35_7  q5.2).bind fun q6 =>
        let σ7 := x_pI q6.2 0 7 (0 : Int32)
        (f_Ch_drop_55  σ7).bind fun q8 =>
        let σ9 := x_pI q8.2 0 9 (0 : Int32)
        let σ10 := x_pI σ9 0 11 (-1 : Int32)
        some (.inl (0 : Int32), σ10)
    else
      some (.inr 1, σ)
set_option maxHeartbeats 4000000 in
set_option maxRecDepth 100000 in
theorem c_RH_scene_0 {l : Launch} {s0 : State} {a0 : Array Value} {D : va_G} {cA : Nat → ClassId} {sp : Nat → Nat} (E : x_En CL l s0 a0 D cA sp) (S : x_Sw s0 sp) (v1 : Int32) {σ : xS} {r : Int32 ⊕ Nat} {σ1 : xS} (h : f_RH_scene_0 v1 σ = some (r, σ1)) : x_COX l s0 D cA sp 76 M_RH_scene [.ref 0, .int v1] σ (x_oi r) σ1 := by
  unfold f_RH_scene_0 at h
  try dsimp only at h
  refine x_enterX [some (.ref 0), some (.int v1), none, none] rfl (Nat.le_of_ble_eq_true rfl) (by decide +kernel) rfl ?_
  refine x_iload_n 1 rfl 1 dX8_scene_0 rfl rfl ?_
  refine x_if_lt 4 rfl 12 dX8_scene_1 (by decide) (fun hc => ?_) (fun hc => ?_)
  · replace h := x_ifT hc h
    cases h
    exact x_toX (x_throw E KU_ (k := 1) KX_RX8_87 rfl dX8_scene_12 dX8_scene_15 dX8_scene_16 dX8_scene_18 dX8_scene_21 (Nat.le_of_ble_eq_true rfl))
  · replace h := x_ifF hc h
    refine x_iload_n 5 rfl 1 dX8_scene_4 rfl rfl ?_
    refine x_aload_n 6 rfl 0 dX8_scene_5 rfl rfl ?_
    refine x_getI E dX8_scene_6 F_RX8_13 sh_0 9 rfl ?_
    refine x_icmp_le 12 rfl 22 dX8_scene_9 (by decide) (fun hc => ?_) (fun hc => ?_)
    · replace h := x_ifT hc h
      refine x_aload_n 23 rfl 0 dX8_scene_22 rfl rfl ?_
      refine x_getR E dX8_scene_23 F_RX8_20 sh_0 rf_0_2 26 rfl ?_
      refine x_aload_n 27 rfl 0 dX8_scene_26 rfl rfl ?_
      refine x_getR E dX8_scene_27 F_RX8_9 sh_0 rf_0_0 30 rfl ?_
      refine x_iload_n 31 rfl 1 dX8_scene_30 rfl rfl ?_
      refine x_aload_n 32 rfl 0 dX8_scene_31 rfl rfl ?_
      refine x_getR E dX8_scene_32 F_RX8_31 sh_0 rf_0_4 35 rfl ?_
      obtain ⟨⟨q1r, q1s⟩, q1h, h⟩ := x_bind h
      try dsimp only at h
      refine z_callV E [.ref 1, .int _, .ref 21] [] dX8_scene_35 K_RX8_92 ⟨Nat.le_of_ble_eq_true rfl, Nat.le_of_ble_eq_true rfl⟩ sh_2 (by decide) rfl (c_Re_read_2_1_21 E S _ q1h) rfl rfl (Nat.le_of_ble_eq_true rfl) 38 rfl [.int _] rfl ?_
      refine x_istore_n 39 rfl 2 dX8_scene_38 rfl (by decide) [some (.ref 0), some (.int _), some (.int _), none] rfl ?_
      refine x_aload_n 40 rfl 0 dX8_scene_39 rfl rfl ?_
      refine x_iconst 41 rfl (v := 0) dX8_scene_40 (by decide) ?_
      refine x_putI E dX8_scene_41 F_RX8_13 sh_0 44 rfl ?_
      refine x_iload_n 45 rfl 2 dX8_scene_44 rfl rfl ?_
      refine x_if_ne 48 rfl 77 dX8_scene_45 (by decide) (fun hc => ?_) (fun hc => ?_)
      · replace h := x_ifF hc h
        refine x_aload_n 78 rfl 0 dX8_scene_77 rfl rfl ?_
        refine x_getR E dX8_scene_78 F_RX8_27 sh_0 rf_0_3 81 rfl ?_
        refine x_astore_n 82 rfl 3 dX8_scene_81 rfl (by decide) [some (.ref 0), some (.int _), some (.int _), some (.ref 7)] rfl ?_
        refine x_aload_n 83 rfl 0 dX8_scene_82 rfl rfl ?_
        refine x_aload_n 84 rfl 0 dX8_scene_83 rfl rfl ?_
        refine x_getR E dX8_scene_84 F_RX8_31 sh_0 rf_0_4 87 rfl ?_
        refine x_putR E (fun h => by cases h) (Or.inl ⟨_, rfl⟩) dX8_scene_87 F_RX8_27 sh_0 90 rfl ?_
        refine x_aload_n 91 rfl 0 dX8_scene_90 rfl rfl ?_
        refine x_aload_n 92 rfl 3 dX8_scene_91 rfl rfl ?_
        refine x_putR E (fun h => by cases h) (Or.inl ⟨_, rfl⟩) dX8_scene_92 F_RX8_31 sh_0 95 rfl ?_
        refine x_wk (x_le_s (x_le_s (x_le_s (x_le_n x_le_0)))) ?_
        refine x_swap x_QX.cl rfl rfl ?_
        refine x_aload_n 96 rfl 0 dX8_scene_95 rfl rfl ?_
        refine x_getR E dX8_scene_96 F_RX8_27 sh_0 rf_0_3 99 rfl ?_
        obtain ⟨⟨q5r, q5s⟩, q5h, h⟩ := x_bind h
        try dsimp only at h
        refine z_callV E [] [] dX8_scene_99 K_RX8_74 ⟨Nat.le_of_ble_eq_true rfl, Nat.le_of_ble_eq_true rfl⟩ sh_7 (by decide) rfl (c_Sc_finish_7 E  q5h) rfl rfl (Nat.le_of_ble_eq_true rfl) 102 rfl [] rfl ?_
        refine x_aload_n 103 rfl 0 dX8_scene_102 rfl rfl ?_
        refine x_getR E dX8_scene_103 F_RX8_37 sh_0 rf_0_5 106 rfl ?_
        refine x_aload_n 107 rfl 0 dX8_scene_106 rfl rfl ?_
        refine x_getR E dX8_scene_107 F_RX8_27 sh_0 rf_0_3 110 rfl ?_
        obtain ⟨⟨q6r, q6s⟩, q6h, h⟩ := x_bind h
        try dsimp only at h
        refine z_callV E [.ref 7] [] dX8_scene_110 K_RX8_77 ⟨Nat.le_of_ble_eq_true rfl, Nat.le_of_ble_eq_true rfl⟩ sh_35 (by decide) rfl (c_Se_begin_35_7 E  q6h) rfl rfl (Nat.le_of_ble_eq_true rfl) 113 rfl [] rfl ?_
        refine x_aload_n 114 rfl 0 dX8_scene_113 rfl rfl ?_
        refine x_iconst 115 rfl (v := 0) dX8_scene_114 (by decide) ?_
        refine x_putZ E (Or.inl rfl) dX8_scene_115 F_RX8_44 sh_0 118 rfl ?_
        refine x_aload_n 119 rfl 0 dX8_scene_118 rfl rfl ?_
        refine x_getR E dX8_scene_119 F_RX8_61 sh_0 rf_0_10 122 rfl ?_
        obtain ⟨⟨q8r, q8s⟩, q8h, h⟩ := x_bind h
        try dsimp only at h
        refine z_callV E [] [] dX8_scene_122 K_RX8_100 ⟨Nat.le_of_ble_eq_true rfl, Nat.le_of_ble_eq_true rfl⟩ sh_55 (by decide) rfl (c_Ch_drop_55 E  q8h) rfl rfl (Nat.le_of_ble_eq_true rfl) 125 rfl [] rfl ?_
        refine x_aload_n 126 rfl 0 dX8_scene_125 rfl rfl ?_
        refine x_iconst 127 rfl (v := 0) dX8_scene_126 (by decide) ?_
        refine x_putZ E (Or.inl rfl) dX8_scene_127 F_RX8_55 sh_0 130 rfl ?_
        refine x_aload_n 131 rfl 0 dX8_scene_130 rfl rfl ?_
        refine x_iconst 132 rfl (v := -1) dX8_scene_131 (by decide) ?_
        refine x_putI E dX8_scene_132 F_RX8_65 sh_0 135 rfl ?_
        refine x_iconst 136 rfl (v := 0) dX8_scene_135 (by decide) ?_
        cases h
        exact x_toX (x_Oret (x_iret dX8_scene_136 rfl rfl rfl))
      · replace h := x_ifT hc h
        refine x_aload_n 49 rfl 0 dX8_scene_48 rfl rfl ?_
        refine x_getR E dX8_scene_49 F_RX8_68 sh_0 rf_0_12 52 rfl ?_
        refine x_iconst 53 rfl (v := 0) dX8_scene_52 (by decide) ?_
        refine x_dup2 54 rfl dX8_scene_53 rfl rfl ?_
        refine x_iald E dX8_scene_54 sh_59 0 (by decide) (by decide) 55 rfl ?_
        refine x_iconst 56 rfl (v := 1) dX8_scene_55 (by decide) ?_
        refine x_iadd 57 rfl dX8_scene_56 ?_
        refine x_iast E dX8_scene_57 sh_59 0 (by decide) (by decide) 58 rfl ?_
        refine x_aload_n 59 rfl 0 dX8_scene_58 rfl rfl ?_
        refine x_aload_n 60 rfl 0 dX8_scene_59 rfl rfl ?_
        refine x_getR E dX8_scene_60 F_RX8_20 sh_0 rf_0_2 63 rfl ?_
        refine x_getI E dX8_scene_63 F_RX8_96 sh_2 66 rfl ?_
        refine x_putI E dX8_scene_66 F_RX8_65 sh_0 69 rfl ?_
        refine x_aload_n 70 rfl 0 dX8_scene_69 rfl rfl ?_
        refine x_getR E dX8_scene_70 F_RX8_20 sh_0 rf_0_2 73 rfl ?_
        refine x_getI E dX8_scene_73 F_RX8_97 sh_2 76 rfl ?_
        cases h
        exact x_toX (x_Oret (x_iret dX8_scene_76 rfl rfl rfl))
    · replace h := x_ifF hc h
      cases h
      exact x_toX (x_throw E KU_ (k := 1) KX_RX8_87 rfl dX8_scene_12 dX8_scene_15 dX8_scene_16 dX8_scene_18 dX8_scene_21 (Nat.le_of_ble_eq_true rfl))
