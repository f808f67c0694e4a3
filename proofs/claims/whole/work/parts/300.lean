/-! The class's methods: functions and contracts. Written by wip/gen/emit.py. -/
abbrev M_Re_word : xM := (yX2_word, cX2_word, 1, some (.object "RingHand$Word"), [])
theorem dX2_word_0 : decode cX2_word 0 = .ok (.aload_n 0, 1) := by decide +kernel
theorem dX2_word_1 : decode cX2_word 1 = .ok (.getfield 25, 3) := by decide +kernel
theorem dX2_word_4 : decode cX2_word 4 = .ok (.aload_n 0, 1) := by decide +kernel
theorem dX2_word_5 : decode cX2_word 5 = .ok (.getfield 21, 3) := by decide +kernel
theorem dX2_word_8 : decode cX2_word 8 = .ok (.if_icmp .ge 44, 3) := by decide +kernel
theorem dX2_word_11 : decode cX2_word 11 = .ok (.aload_n 0, 1) := by decide +kernel
theorem dX2_word_12 : decode cX2_word 12 = .ok (.getfield 9, 3) := by decide +kernel
theorem dX2_word_15 : decode cX2_word 15 = .ok (.aload_n 0, 1) := by decide +kernel
theorem dX2_word_16 : decode cX2_word 16 = .ok (.getfield 25, 3) := by decide +kernel
theorem dX2_word_19 : decode cX2_word 19 = .ok (.iaload, 1) := by decide +kernel
theorem dX2_word_20 : decode cX2_word 20 = .ok (.iconst 1, 1) := by decide +kernel
theorem dX2_word_21 : decode cX2_word 21 = .ok (.if_icmp .ne 31, 3) := by decide +kernel
theorem dX2_word_24 : decode cX2_word 24 = .ok (.aload_n 0, 1) := by decide +kernel
theorem dX2_word_25 : decode cX2_word 25 = .ok (.getfield 15, 3) := by decide +kernel
theorem dX2_word_28 : decode cX2_word 28 = .ok (.aload_n 0, 1) := by decide +kernel
theorem dX2_word_29 : decode cX2_word 29 = .ok (.getfield 25, 3) := by decide +kernel
theorem dX2_word_32 : decode cX2_word 32 = .ok (.iaload, 1) := by decide +kernel
theorem dX2_word_33 : decode cX2_word 33 = .ok (.ifCond .lt 19, 3) := by decide +kernel
theorem dX2_word_36 : decode cX2_word 36 = .ok (.aload_n 0, 1) := by decide +kernel
theorem dX2_word_37 : decode cX2_word 37 = .ok (.getfield 15, 3) := by decide +kernel
theorem dX2_word_40 : decode cX2_word 40 = .ok (.aload_n 0, 1) := by decide +kernel
theorem dX2_word_41 : decode cX2_word 41 = .ok (.getfield 25, 3) := by decide +kernel
theorem dX2_word_44 : decode cX2_word 44 = .ok (.iaload, 1) := by decide +kernel
theorem dX2_word_45 : decode cX2_word 45 = .ok (.getstatic 100, 3) := by decide +kernel
theorem dX2_word_48 : decode cX2_word 48 = .ok (.arraylength, 1) := by decide +kernel
theorem dX2_word_49 : decode cX2_word 49 = .ok (.if_icmp .lt 7, 3) := by decide +kernel
theorem dX2_word_52 : decode cX2_word 52 = .ok (.getstatic 108, 3) := by decide +kernel
theorem dX2_word_55 : decode cX2_word 55 = .ok (.areturn, 1) := by decide +kernel
theorem dX2_word_56 : decode cX2_word 56 = .ok (.getstatic 100, 3) := by decide +kernel
theorem dX2_word_59 : decode cX2_word 59 = .ok (.aload_n 0, 1) := by decide +kernel
theorem dX2_word_60 : decode cX2_word 60 = .ok (.getfield 15, 3) := by decide +kernel
theorem dX2_word_63 : decode cX2_word 63 = .ok (.aload_n 0, 1) := by decide +kernel
theorem dX2_word_64 : decode cX2_word 64 = .ok (.getfield 25, 3) := by decide +kernel
theorem dX2_word_67 : decode cX2_word 67 = .ok (.iaload, 1) := by decide +kernel
theorem dX2_word_68 : decode cX2_word 68 = .ok (.aaload, 1) := by decide +kernel
theorem dX2_word_69 : decode cX2_word 69 = .ok (.areturn, 1) := by decide +kernel
def f_Re_word_2  (σ : xS) : Option (Nat × xS) :=
  if σ.1 2 3 ≤ σ.1 2 4 then
    some (1000, σ)
  else
    if σ.1 2 4 < 0 ∨ 701 ≤ (σ.1 2 4).toNatClampNeg then none else
    if σ.1 3 (σ.1 2 4).toNatClampNeg = (1 : Int32) then
      if σ.1 2 4 < 0 ∨ 701 ≤ (σ.1 2 4).toNatClampNeg then none else
      if σ.1 4 (σ.1 2 4).toNatClampNeg < 0 then
        some (1000, σ)
      else
        if σ.1 2 4 < 0 ∨ 701 ≤ (σ.1 2 4).toNatClampNeg then none else
        if σ.1 4 (σ.1 2 4).toNatClampNeg < (Int32.ofNat 23) then
          if σ.1 2 4 < 0 ∨ 701 ≤ (σ.1 2 4).toNatClampNeg then none else
          if σ.1 4 (σ.1 2 4).toNatClampNeg < 0 ∨ 23 ≤ (σ.1 4 (σ.1 2 4).toNatClampNeg).toNatClampNeg then none else
          some ((1000 + (σ.1 4 (σ.1 2 4).toNatClampNeg).toNatClampNeg), σ)
        else
          some (1000, σ)
    else
      some (1000, σ)
set_option maxHeartbeats 4000000 in
set_option maxRecDepth 100000 in
theorem c_Re_word_2 {l : Launch} {s0 : State} {a0 : Array Value} {D : va_G} {cA : Nat → ClassId} {sp : Nat → Nat} (E : x_En CL l s0 a0 D cA sp) (S : x_Sw s0 sp)  {σ : xS} {r : Nat} {σ1 : xS} (h : f_Re_word_2  σ = some (r, σ1)) : zC l s0 D cA sp 0 M_Re_word [.ref 2] σ (some (.ref r)) σ1 := by
  unfold f_Re_word_2 at h
  try dsimp only at h
  refine x_enter [some (.ref 2)] rfl (Nat.le_of_ble_eq_true rfl) (by decide +kernel) rfl ?_
  refine x_aload_n 1 rfl 0 dX2_word_0 rfl rfl ?_
  refine x_getI E dX2_word_1 F_RX2_25 sh_2 4 rfl ?_
  refine x_aload_n 5 rfl 0 dX2_word_4 rfl rfl ?_
  refine x_getI E dX2_word_5 F_RX2_21 sh_2 8 rfl ?_
  refine x_icmp_ge 11 rfl 52 dX2_word_8 (by decide) (fun hc => ?_) (fun hc => ?_)
  · replace h := x_ifT hc h
    refine z_word E S (n := "OTHER") 0 1000 (by decide) rfl rfl dX2_word_52 (List.mem_append_right _ (List.mem_of_getElem? (i := 710) (by decide +kernel))) 55 rfl ?_
    cases h
    exact x_aret (Or.inl ⟨_, rfl⟩) dX2_word_55 rfl rfl rfl
  · replace h := x_ifF hc h
    refine x_aload_n 12 rfl 0 dX2_word_11 rfl rfl ?_
    refine x_getR E dX2_word_12 F_RX2_9 sh_2 rf_2_0 15 rfl ?_
    refine x_aload_n 16 rfl 0 dX2_word_15 rfl rfl ?_
    refine x_getI E dX2_word_16 F_RX2_25 sh_2 19 rfl ?_
    obtain ⟨hz, h⟩ := x_ifn h
    refine x_iald E dX2_word_19 sh_3 _ rfl hz 20 rfl ?_
    refine x_iconst 21 rfl (v := 1) dX2_word_20 (by decide) ?_
    refine x_icmp_ne 24 rfl 52 dX2_word_21 (by decide) (fun hc => ?_) (fun hc => ?_)
    · replace h := x_ifF hc h
      refine z_word E S (n := "OTHER") 0 1000 (by decide) rfl rfl dX2_word_52 (List.mem_append_right _ (List.mem_of_getElem? (i := 710) (by decide +kernel))) 55 rfl ?_
      cases h
      exact x_aret (Or.inl ⟨_, rfl⟩) dX2_word_55 rfl rfl rfl
    · replace h := x_ifT hc h
      refine x_aload_n 25 rfl 0 dX2_word_24 rfl rfl ?_
      refine x_getR E dX2_word_25 F_RX2_15 sh_2 rf_2_1 28 rfl ?_
      refine x_aload_n 29 rfl 0 dX2_word_28 rfl rfl ?_
      refine x_getI E dX2_word_29 F_RX2_25 sh_2 32 rfl ?_
      obtain ⟨hz, h⟩ := x_ifn h
      refine x_iald E dX2_word_32 sh_4 _ rfl hz 33 rfl ?_
      refine x_if_lt 36 rfl 52 dX2_word_33 (by decide) (fun hc => ?_) (fun hc => ?_)
      · replace h := x_ifT hc h
        refine z_word E S (n := "OTHER") 0 1000 (by decide) rfl rfl dX2_word_52 (List.mem_append_right _ (List.mem_of_getElem? (i := 710) (by decide +kernel))) 55 rfl ?_
        cases h
        exact x_aret (Or.inl ⟨_, rfl⟩) dX2_word_55 rfl rfl rfl
      · replace h := x_ifF hc h
        refine x_aload_n 37 rfl 0 dX2_word_36 rfl rfl ?_
        refine x_getR E dX2_word_37 F_RX2_15 sh_2 rf_2_1 40 rfl ?_
        refine x_aload_n 41 rfl 0 dX2_word_40 rfl rfl ?_
        refine x_getI E dX2_word_41 F_RX2_25 sh_2 44 rfl ?_
        obtain ⟨hz, h⟩ := x_ifn h
        refine x_iald E dX2_word_44 sh_4 _ rfl hz 45 rfl ?_
        refine z_words (host := "RingHand") E S dX2_word_45 (List.mem_append_right _ (List.mem_of_getElem? (i := 629) (by decide +kernel))) 48 rfl ?_
        refine z_wlen S dX2_word_48 49 rfl ?_
        refine x_icmp_lt 52 rfl 56 dX2_word_49 (by decide) (fun hc => ?_) (fun hc => ?_)
        · replace h := x_ifT hc h
          refine z_words (host := "RingHand") E S dX2_word_56 (List.mem_append_right _ (List.mem_of_getElem? (i := 629) (by decide +kernel))) 59 rfl ?_
          refine x_aload_n 60 rfl 0 dX2_word_59 rfl rfl ?_
          refine x_getR E dX2_word_60 F_RX2_15 sh_2 rf_2_1 63 rfl ?_
          refine x_aload_n 64 rfl 0 dX2_word_63 rfl rfl ?_
          refine x_getI E dX2_word_64 F_RX2_25 sh_2 67 rfl ?_
          obtain ⟨hz, h⟩ := x_ifn h
          refine x_iald E dX2_word_67 sh_4 _ rfl hz 68 rfl ?_
          obtain ⟨hz, h⟩ := x_ifn h
          refine z_wald S dX2_word_68 hz 69 rfl ?_
          cases h
          exact x_aret (Or.inl ⟨_, rfl⟩) dX2_word_69 rfl rfl rfl
        · replace h := x_ifF hc h
          refine z_word E S (n := "OTHER") 0 1000 (by decide) rfl rfl dX2_word_52 (List.mem_append_right _ (List.mem_of_getElem? (i := 710) (by decide +kernel))) 55 rfl ?_
          cases h
          exact x_aret (Or.inl ⟨_, rfl⟩) dX2_word_55 rfl rfl rfl
abbrev M_Re_advance : xM := (yX2_advance, cX2_advance, 1, none, [])
theorem dX2_advance_0 : decode cX2_advance 0 = .ok (.aload_n 0, 1) := by decide +kernel
theorem dX2_advance_1 : decode cX2_advance 1 = .ok (.getfield 25, 3) := by decide +kernel
theorem dX2_advance_4 : decode cX2_advance 4 = .ok (.aload_n 0, 1) := by decide +kernel
theorem dX2_advance_5 : decode cX2_advance 5 = .ok (.getfield 21, 3) := by decide +kernel
theorem dX2_advance_8 : decode cX2_advance 8 = .ok (.iconst 1, 1) := by decide +kernel
theorem dX2_advance_9 : decode cX2_advance 9 = .ok (.isub, 1) := by decide +kernel
theorem dX2_advance_10 : decode cX2_advance 10 = .ok (.if_icmp .ge 13, 3) := by decide +kernel
theorem dX2_advance_13 : decode cX2_advance 13 = .ok (.aload_n 0, 1) := by decide +kernel
theorem dX2_advance_14 : decode cX2_advance 14 = .ok (.dup, 1) := by decide +kernel
theorem dX2_advance_15 : decode cX2_advance 15 = .ok (.getfield 25, 3) := by decide +kernel
theorem dX2_advance_18 : decode cX2_advance 18 = .ok (.iconst 1, 1) := by decide +kernel
theorem dX2_advance_19 : decode cX2_advance 19 = .ok (.iadd, 1) := by decide +kernel
theorem dX2_advance_20 : decode cX2_advance 20 = .ok (.putfield 25, 3) := by decide +kernel
theorem dX2_advance_23 : decode cX2_advance 23 = .ok (.return_, 1) := by decide +kernel
def f_Re_advance_2  (σ : xS) : Option (Unit × xS) :=
  if (σ.1 2 3 - (1 : Int32)) ≤ σ.1 2 4 then
    some ((), σ)
  else
    let σ1 := x_pI σ 2 4 (σ.1 2 4 + (1 : Int32))
    some ((), σ1)
set_option maxHeartbeats 4000000 in
set_option maxRecDepth 100000 in
theorem c_Re_advance_2 {l : Launch} {s0 : State} {a0 : Array Value} {D : va_G} {cA : Nat → ClassId} {sp : Nat → Nat} (E : x_En CL l s0 a0 D cA sp)  {σ : xS} {r : Unit} {σ1 : xS} (h : f_Re_advance_2  σ = some (r, σ1)) : zC l s0 D cA sp 0 M_Re_advance [.ref 2] σ none σ1 := by
  unfold f_Re_advance_2 at h
  try dsimp only at h
  refine x_enter [some (.ref 2)] rfl (Nat.le_of_ble_eq_true rfl) (by decide +kernel) rfl ?_
  refine x_aload_n 1 rfl 0 dX2_advance_0 rfl rfl ?_
  refine x_getI E dX2_advance_1 F_RX2_25 sh_2 4 rfl ?_
  refine x_aload_n 5 rfl 0 dX2_advance_4 rfl rfl ?_
  refine x_getI E dX2_advance_5 F_RX2_21 sh_2 8 rfl ?_
  refine x_iconst 9 rfl (v := 1) dX2_advance_8 (by decide) ?_
  refine x_isub 10 rfl dX2_advance_9 ?_
  refine x_icmp_ge 13 rfl 23 dX2_advance_10 (by decide) (fun hc => ?_) (fun hc => ?_)
  · replace h := x_ifT hc h
    cases h
    exact x_vret dX2_advance_23 rfl rfl rfl
  · replace h := x_ifF hc h
    refine x_aload_n 14 rfl 0 dX2_advance_13 rfl rfl ?_
    refine x_dup 15 rfl dX2_advance_14 rfl ?_
    refine x_getI E dX2_advance_15 F_RX2_25 sh_2 18 rfl ?_
    refine x_iconst 19 rfl (v := 1) dX2_advance_18 (by decide) ?_
    refine x_iadd 20 rfl dX2_advance_19 ?_
    refine x_putI E dX2_advance_20 F_RX2_25 sh_2 23 rfl ?_
    cases h
    exact x_vret dX2_advance_23 rfl rfl rfl
abbrev M_Re_refuse : xM := (yX2_refuse, cX2_refuse, 2, some .boolean, [])
theorem dX2_refuse_0 : decode cX2_refuse 0 = .ok (.aload_n 0, 1) := by decide +kernel
theorem dX2_refuse_1 : decode cX2_refuse 1 = .ok (.iload_n 1, 1) := by decide +kernel
theorem dX2_refuse_2 : decode cX2_refuse 2 = .ok (.putfield 32, 3) := by decide +kernel
theorem dX2_refuse_5 : decode cX2_refuse 5 = .ok (.aload_n 0, 1) := by decide +kernel
theorem dX2_refuse_6 : decode cX2_refuse 6 = .ok (.aload_n 0, 1) := by decide +kernel
theorem dX2_refuse_7 : decode cX2_refuse 7 = .ok (.getfield 25, 3) := by decide +kernel
theorem dX2_refuse_10 : decode cX2_refuse 10 = .ok (.aload_n 0, 1) := by decide +kernel
theorem dX2_refuse_11 : decode cX2_refuse 11 = .ok (.getfield 21, 3) := by decide +kernel
theorem dX2_refuse_14 : decode cX2_refuse 14 = .ok (.if_icmp .ge 15, 3) := by decide +kernel
theorem dX2_refuse_17 : decode cX2_refuse 17 = .ok (.aload_n 0, 1) := by decide +kernel
theorem dX2_refuse_18 : decode cX2_refuse 18 = .ok (.getfield 18, 3) := by decide +kernel
theorem dX2_refuse_21 : decode cX2_refuse 21 = .ok (.aload_n 0, 1) := by decide +kernel
theorem dX2_refuse_22 : decode cX2_refuse 22 = .ok (.getfield 25, 3) := by decide +kernel
theorem dX2_refuse_25 : decode cX2_refuse 25 = .ok (.iaload, 1) := by decide +kernel
theorem dX2_refuse_26 : decode cX2_refuse 26 = .ok (.goto 4, 3) := by decide +kernel
theorem dX2_refuse_29 : decode cX2_refuse 29 = .ok (.iconst 0, 1) := by decide +kernel
theorem dX2_refuse_30 : decode cX2_refuse 30 = .ok (.putfield 35, 3) := by decide +kernel
theorem dX2_refuse_33 : decode cX2_refuse 33 = .ok (.iconst 0, 1) := by decide +kernel
theorem dX2_refuse_34 : decode cX2_refuse 34 = .ok (.ireturn, 1) := by decide +kernel
def f_Re_refuse_2 (v1 : Int32) (σ : xS) : Option (Int32 × xS) :=
  let σ1 := x_pI σ 2 6 v1
  if σ1.1 2 3 ≤ σ1.1 2 4 then
    let σ2 := x_pI σ1 2 7 (0 : Int32)
    some ((0 : Int32), σ2)
  else
    if σ1.1 2 4 < 0 ∨ 701 ≤ (σ1.1 2 4).toNatClampNeg then none else
    let σ3 := x_pI σ1 2 7 (σ1.1 5 (σ1.1 2 4).toNatClampNeg)
    some ((0 : Int32), σ3)
set_option maxHeartbeats 4000000 in
set_option maxRecDepth 100000 in
theorem c_Re_refuse_2 {l : Launch} {s0 : State} {a0 : Array Value} {D : va_G} {cA : Nat → ClassId} {sp : Nat → Nat} (E : x_En CL l s0 a0 D cA sp) (v1 : Int32) {σ : xS} {r : Int32} {σ1 : xS} (h : f_Re_refuse_2 v1 σ = some (r, σ1)) : zC l s0 D cA sp 0 M_Re_refuse [.ref 2, .int v1] σ (some (.int r)) σ1 := by
  unfold f_Re_refuse_2 at h
  try dsimp only at h
  refine x_enter [some (.ref 2), some (.int v1)] rfl (Nat.le_of_ble_eq_true rfl) (by decide +kernel) rfl ?_
  refine x_aload_n 1 rfl 0 dX2_refuse_0 rfl rfl ?_
  refine x_iload_n 2 rfl 1 dX2_refuse_1 rfl rfl ?_
  refine x_putI E dX2_refuse_2 F_RX2_32 sh_2 5 rfl ?_
  refine x_aload_n 6 rfl 0 dX2_refuse_5 rfl rfl ?_
  refine x_aload_n 7 rfl 0 dX2_refuse_6 rfl rfl ?_
  refine x_getI E dX2_refuse_7 F_RX2_25 sh_2 10 rfl ?_
  refine x_aload_n 11 rfl 0 dX2_refuse_10 rfl rfl ?_
  refine x_getI E dX2_refuse_11 F_RX2_21 sh_2 14 rfl ?_
  refine x_icmp_ge 17 rfl 29 dX2_refuse_14 (by decide) (fun hc => ?_) (fun hc => ?_)
  · replace h := x_ifT hc h
    refine x_iconst 30 rfl (v := 0) dX2_refuse_29 (by decide) ?_
    refine x_putI E dX2_refuse_30 F_RX2_35 sh_2 33 rfl ?_
    refine x_iconst 34 rfl (v := 0) dX2_refuse_33 (by decide) ?_
    cases h
    exact x_zret (Or.inl rfl) dX2_refuse_34 rfl rfl rfl
  · replace h := x_ifF hc h
    refine x_aload_n 18 rfl 0 dX2_refuse_17 rfl rfl ?_
    refine x_getR E dX2_refuse_18 F_RX2_18 sh_2 rf_2_2 21 rfl ?_
    refine x_aload_n 22 rfl 0 dX2_refuse_21 rfl rfl ?_
    refine x_getI E dX2_refuse_22 F_RX2_25 sh_2 25 rfl ?_
    obtain ⟨hz, h⟩ := x_ifn h
    refine x_iald E dX2_refuse_25 sh_5 _ rfl hz 26 rfl ?_
    refine x_goto 30 dX2_refuse_26 (by decide) ?_
    refine x_putI E dX2_refuse_30 F_RX2_35 sh_2 33 rfl ?_
    refine x_iconst 34 rfl (v := 0) dX2_refuse_33 (by decide) ?_
    cases h
    exact x_zret (Or.inl rfl) dX2_refuse_34 rfl rfl rfl
theorem K_RX2_115 : x_KV RX2 115 M_Re_refuse 1 := ⟨⟨(List.mem_append_right _ (List.mem_of_getElem? (i := 728) (by decide +kernel))), (List.mem_append_right _ (List.mem_of_getElem? (i := 731) (by decide +kernel))), (List.mem_append_right _ (List.mem_of_getElem? (i := 2) (by decide +kernel))), ⟨by decide +kernel, by decide +kernel⟩, by decide +kernel⟩, (List.mem_append_right _ (List.mem_of_getElem? (i := 730) (by decide +kernel))), (List.mem_append_left _ (List.mem_of_getElem? (i := 20) (by decide +kernel)))⟩
theorem K_RX2_61 : x_KV RX2 61 M_Re_isKind 1 := ⟨⟨(List.mem_append_right _ (List.mem_of_getElem? (i := 724) (by decide +kernel))), (List.mem_append_right _ (List.mem_of_getElem? (i := 727) (by decide +kernel))), (List.mem_append_right _ (List.mem_of_getElem? (i := 2) (by decide +kernel))), ⟨by decide +kernel, by decide +kernel⟩, by decide +kernel⟩, (List.mem_append_right _ (List.mem_of_getElem? (i := 726) (by decide +kernel))), (List.mem_append_left _ (List.mem_of_getElem? (i := 19) (by decide +kernel)))⟩
abbrev M_Re_isNumber : xM := (yX2_isNumber, cX2_isNumber, 3, some .boolean, [])
theorem dX2_isNumber_0 : decode cX2_isNumber 0 = .ok (.aload_n 0, 1) := by decide +kernel
theorem dX2_isNumber_1 : decode cX2_isNumber 1 = .ok (.iconst 2, 1) := by decide +kernel
theorem dX2_isNumber_2 : decode cX2_isNumber 2 = .ok (.invokevirtual 61, 3) := by decide +kernel
theorem dX2_isNumber_5 : decode cX2_isNumber 5 = .ok (.ifCond .ne 9, 3) := by decide +kernel
theorem dX2_isNumber_8 : decode cX2_isNumber 8 = .ok (.aload_n 0, 1) := by decide +kernel
theorem dX2_isNumber_9 : decode cX2_isNumber 9 = .ok (.iconst 1, 1) := by decide +kernel
theorem dX2_isNumber_10 : decode cX2_isNumber 10 = .ok (.invokevirtual 115, 3) := by decide +kernel
theorem dX2_isNumber_13 : decode cX2_isNumber 13 = .ok (.ireturn, 1) := by decide +kernel
theorem dX2_isNumber_14 : decode cX2_isNumber 14 = .ok (.aload_n 0, 1) := by decide +kernel
theorem dX2_isNumber_15 : decode cX2_isNumber 15 = .ok (.getfield 15, 3) := by decide +kernel
theorem dX2_isNumber_18 : decode cX2_isNumber 18 = .ok (.aload_n 0, 1) := by decide +kernel
theorem dX2_isNumber_19 : decode cX2_isNumber 19 = .ok (.getfield 25, 3) := by decide +kernel
theorem dX2_isNumber_22 : decode cX2_isNumber 22 = .ok (.iaload, 1) := by decide +kernel
theorem dX2_isNumber_23 : decode cX2_isNumber 23 = .ok (.iload_n 1, 1) := by decide +kernel
theorem dX2_isNumber_24 : decode cX2_isNumber 24 = .ok (.if_icmp .lt 16, 3) := by decide +kernel
theorem dX2_isNumber_27 : decode cX2_isNumber 27 = .ok (.aload_n 0, 1) := by decide +kernel
theorem dX2_isNumber_28 : decode cX2_isNumber 28 = .ok (.getfield 15, 3) := by decide +kernel
theorem dX2_isNumber_31 : decode cX2_isNumber 31 = .ok (.aload_n 0, 1) := by decide +kernel
theorem dX2_isNumber_32 : decode cX2_isNumber 32 = .ok (.getfield 25, 3) := by decide +kernel
theorem dX2_isNumber_35 : decode cX2_isNumber 35 = .ok (.iaload, 1) := by decide +kernel
theorem dX2_isNumber_36 : decode cX2_isNumber 36 = .ok (.iload_n 2, 1) := by decide +kernel
theorem dX2_isNumber_37 : decode cX2_isNumber 37 = .ok (.if_icmp .le 11, 3) := by decide +kernel
theorem dX2_isNumber_40 : decode cX2_isNumber 40 = .ok (.aload_n 0, 1) := by decide +kernel
theorem dX2_isNumber_41 : decode cX2_isNumber 41 = .ok (.iconst 2, 1) := by decide +kernel
theorem dX2_isNumber_42 : decode cX2_isNumber 42 = .ok (.invokevirtual 115, 3) := by decide +kernel
theorem dX2_isNumber_45 : decode cX2_isNumber 45 = .ok (.ifCond .eq 7, 3) := by decide +kernel
theorem dX2_isNumber_48 : decode cX2_isNumber 48 = .ok (.iconst 1, 1) := by decide +kernel
theorem dX2_isNumber_49 : decode cX2_isNumber 49 = .ok (.goto 4, 3) := by decide +kernel
theorem dX2_isNumber_52 : decode cX2_isNumber 52 = .ok (.iconst 0, 1) := by decide +kernel
theorem dX2_isNumber_53 : decode cX2_isNumber 53 = .ok (.ireturn, 1) := by decide +kernel
def f_Re_isNumber_2 (v1 : Int32) (v2 : Int32) (σ : xS) : Option (Int32 × xS) :=
  (f_Re_isKind_2 (2 : Int32) σ).bind fun q1 =>
  if q1.1 = 0 then
    (f_Re_refuse_2 (1 : Int32) q1.2).bind fun q4 =>
    x_ok (q4.1 = 0 ∨ q4.1 = 1) <|
    some (q4.1, q4.2)
  else
    if q1.2.1 2 4 < 0 ∨ 701 ≤ (q1.2.1 2 4).toNatClampNeg then none else
    if q1.2.1 4 (q1.2.1 2 4).toNatClampNeg < v1 then
      (f_Re_refuse_2 (2 : Int32) q1.2).bind fun q2 =>
      if q2.1 = 0 then
        some ((0 : Int32), q2.2)
      else
        some ((1 : Int32), q2.2)
    else
      if q1.2.1 2 4 < 0 ∨ 701 ≤ (q1.2.1 2 4).toNatClampNeg then none else
      if q1.2.1 4 (q1.2.1 2 4).toNatClampNeg ≤ v2 then
        some ((1 : Int32), q1.2)
      else
        (f_Re_refuse_2 (2 : Int32) q1.2).bind fun q3 =>
        if q3.1 = 0 then
          some ((0 : Int32), q3.2)
        else
          some ((1 : Int32), q3.2)
set_option maxHeartbeats 4000000 in
set_option maxRecDepth 100000 in
theorem c_Re_isNumber_2 {l : Launch} {s0 : State} {a0 : Array Value} {D : va_G} {cA : Nat → ClassId} {sp : Nat → Nat} (E : x_En CL l s0 a0 D cA sp) (v1 : Int32) (v2 : Int32) {σ : xS} {r : Int32} {σ1 : xS} (h : f_Re_isNumber_2 v1 v2 σ = some (r, σ1)) : zC l s0 D cA sp 1 M_Re_isNumber [.ref 2, .int v1, .int v2] σ (some (.int r)) σ1 := by
  unfold f_Re_isNumber_2 at h
  try dsimp only at h
  refine x_enter [some (.ref 2), some (.int v1), some (.int v2)] rfl (Nat.le_of_ble_eq_true rfl) (by decide +kernel) rfl ?_
  refine x_aload_n 1 rfl 0 dX2_isNumber_0 rfl rfl ?_
  refine x_iconst 2 rfl (v := 2) dX2_isNumber_1 (by decide) ?_
  obtain ⟨⟨q1r, q1s⟩, q1h, h⟩ := x_bind h
  try dsimp only at h
  refine z_callV E [.int _] [] dX2_isNumber_2 K_RX2_61 ⟨Nat.le_of_ble_eq_true rfl, Nat.le_of_ble_eq_true rfl⟩ sh_2 (by decide) rfl (c_Re_isKind_2 E _ q1h) rfl rfl (Nat.le_of_ble_eq_true rfl) 5 rfl [.int _] rfl ?_
  refine x_if_ne 8 rfl 14 dX2_isNumber_5 (by decide) (fun hc => ?_) (fun hc => ?_)
  · replace h := x_ifF hc h
    refine x_aload_n 15 rfl 0 dX2_isNumber_14 rfl rfl ?_
    refine x_getR E dX2_isNumber_15 F_RX2_15 sh_2 rf_2_1 18 rfl ?_
    refine x_aload_n 19 rfl 0 dX2_isNumber_18 rfl rfl ?_
    refine x_getI E dX2_isNumber_19 F_RX2_25 sh_2 22 rfl ?_
    obtain ⟨hz, h⟩ := x_ifn h
    refine x_iald E dX2_isNumber_22 sh_4 _ rfl hz 23 rfl ?_
    refine x_iload_n 24 rfl 1 dX2_isNumber_23 rfl rfl ?_
    refine x_icmp_lt 27 rfl 40 dX2_isNumber_24 (by decide) (fun hc => ?_) (fun hc => ?_)
    · replace h := x_ifT hc h
      refine x_aload_n 41 rfl 0 dX2_isNumber_40 rfl rfl ?_
      refine x_iconst 42 rfl (v := 2) dX2_isNumber_41 (by decide) ?_
      obtain ⟨⟨q2r, q2s⟩, q2h, h⟩ := x_bind h
      try dsimp only at h
      refine z_callV E [.int _] [] dX2_isNumber_42 K_RX2_115 ⟨Nat.le_of_ble_eq_true rfl, Nat.le_of_ble_eq_true rfl⟩ sh_2 (by decide) rfl (c_Re_refuse_2 E _ q2h) rfl rfl (Nat.le_of_ble_eq_true rfl) 45 rfl [.int _] rfl ?_
      refine x_if_eq 48 rfl 52 dX2_isNumber_45 (by decide) (fun hc => ?_) (fun hc => ?_)
      · replace h := x_ifT hc h
        refine x_iconst 53 rfl (v := 0) dX2_isNumber_52 (by decide) ?_
        cases h
        exact x_zret (Or.inl rfl) dX2_isNumber_53 rfl rfl rfl
      · replace h := x_ifF hc h
        refine x_iconst 49 rfl (v := 1) dX2_isNumber_48 (by decide) ?_
        refine x_goto 53 dX2_isNumber_49 (by decide) ?_
        cases h
        exact x_zret (Or.inr rfl) dX2_isNumber_53 rfl rfl rfl
    · replace h := x_ifF hc h
      refine x_aload_n 28 rfl 0 dX2_isNumber_27 rfl rfl ?_
      refine x_getR E dX2_isNumber_28 F_RX2_15 sh_2 rf_2_1 31 rfl ?_
      refine x_aload_n 32 rfl 0 dX2_isNumber_31 rfl rfl ?_
      refine x_getI E dX2_isNumber_32 F_RX2_25 sh_2 35 rfl ?_
      obtain ⟨hz, h⟩ := x_ifn h
      refine x_iald E dX2_isNumber_35 sh_4 _ rfl hz 36 rfl ?_
      refine x_iload_n 37 rfl 2 dX2_isNumber_36 rfl rfl ?_
      refine x_icmp_le 40 rfl 48 dX2_isNumber_37 (by decide) (fun hc => ?_) (fun hc => ?_)
      · replace h := x_ifT hc h
        refine x_iconst 49 rfl (v := 1) dX2_isNumber_48 (by decide) ?_
        refine x_goto 53 dX2_isNumber_49 (by decide) ?_
        cases h
        exact x_zret (Or.inr rfl) dX2_isNumber_53 rfl rfl rfl
      · replace h := x_ifF hc h
        refine x_aload_n 41 rfl 0 dX2_isNumber_40 rfl rfl ?_
        refine x_iconst 42 rfl (v := 2) dX2_isNumber_41 (by decide) ?_
        obtain ⟨⟨q3r, q3s⟩, q3h, h⟩ := x_bind h
        try dsimp only at h
        refine z_callV E [.int _] [] dX2_isNumber_42 K_RX2_115 ⟨Nat.le_of_ble_eq_true rfl, Nat.le_of_ble_eq_true rfl⟩ sh_2 (by decide) rfl (c_Re_refuse_2 E _ q3h) rfl rfl (Nat.le_of_ble_eq_true rfl) 45 rfl [.int _] rfl ?_
        refine x_if_eq 48 rfl 52 dX2_isNumber_45 (by decide) (fun hc => ?_) (fun hc => ?_)
        · replace h := x_ifT hc h
          refine x_iconst 53 rfl (v := 0) dX2_isNumber_52 (by decide) ?_
          cases h
          exact x_zret (Or.inl rfl) dX2_isNumber_53 rfl rfl rfl
        · replace h := x_ifF hc h
          refine x_iconst 49 rfl (v := 1) dX2_isNumber_48 (by decide) ?_
          refine x_goto 53 dX2_isNumber_49 (by decide) ?_
          cases h
          exact x_zret (Or.inr rfl) dX2_isNumber_53 rfl rfl rfl
  · replace h := x_ifT hc h
    refine x_aload_n 9 rfl 0 dX2_isNumber_8 rfl rfl ?_
    refine x_iconst 10 rfl (v := 1) dX2_isNumber_9 (by decide) ?_
    obtain ⟨⟨q4r, q4s⟩, q4h, h⟩ := x_bind h
    try dsimp only at h
    refine z_callV E [.int _] [] dX2_isNumber_10 K_RX2_115 ⟨Nat.le_of_ble_eq_true rfl, Nat.le_of_ble_eq_true rfl⟩ sh_2 (by decide) rfl (c_Re_refuse_2 E _ q4h) rfl rfl (Nat.le_of_ble_eq_true rfl) 13 rfl [.int _] rfl ?_
    obtain ⟨hz, h⟩ := x_ift h
    cases h
    exact x_zret hz dX2_isNumber_13 rfl rfl rfl
theorem K_RX2_118 : x_KV RX2 118 M_Re_advance 0 := ⟨⟨(List.mem_append_right _ (List.mem_of_getElem? (i := 716) (by decide +kernel))), (List.mem_append_right _ (List.mem_of_getElem? (i := 719) (by decide +kernel))), (List.mem_append_right _ (List.mem_of_getElem? (i := 2) (by decide +kernel))), ⟨by decide +kernel, by decide +kernel⟩, by decide +kernel⟩, (List.mem_append_right _ (List.mem_of_getElem? (i := 718) (by decide +kernel))), (List.mem_append_left _ (List.mem_of_getElem? (i := 17) (by decide +kernel)))⟩
abbrev M_Re_takeNumber : xM := (yX2_takeNumber, cX2_takeNumber, 2, some .int, [])
theorem dX2_takeNumber_0 : decode cX2_takeNumber 0 = .ok (.aload_n 0, 1) := by decide +kernel
theorem dX2_takeNumber_1 : decode cX2_takeNumber 1 = .ok (.getfield 25, 3) := by decide +kernel
theorem dX2_takeNumber_4 : decode cX2_takeNumber 4 = .ok (.aload_n 0, 1) := by decide +kernel
theorem dX2_takeNumber_5 : decode cX2_takeNumber 5 = .ok (.getfield 21, 3) := by decide +kernel
theorem dX2_takeNumber_8 : decode cX2_takeNumber 8 = .ok (.if_icmp .ge 15, 3) := by decide +kernel
theorem dX2_takeNumber_11 : decode cX2_takeNumber 11 = .ok (.aload_n 0, 1) := by decide +kernel
theorem dX2_takeNumber_12 : decode cX2_takeNumber 12 = .ok (.getfield 15, 3) := by decide +kernel
theorem dX2_takeNumber_15 : decode cX2_takeNumber 15 = .ok (.aload_n 0, 1) := by decide +kernel
theorem dX2_takeNumber_16 : decode cX2_takeNumber 16 = .ok (.getfield 25, 3) := by decide +kernel
theorem dX2_takeNumber_19 : decode cX2_takeNumber 19 = .ok (.iaload, 1) := by decide +kernel
theorem dX2_takeNumber_20 : decode cX2_takeNumber 20 = .ok (.goto 4, 3) := by decide +kernel
theorem dX2_takeNumber_23 : decode cX2_takeNumber 23 = .ok (.iconst 0, 1) := by decide +kernel
theorem dX2_takeNumber_24 : decode cX2_takeNumber 24 = .ok (.istore_n 1, 1) := by decide +kernel
theorem dX2_takeNumber_25 : decode cX2_takeNumber 25 = .ok (.aload_n 0, 1) := by decide +kernel
theorem dX2_takeNumber_26 : decode cX2_takeNumber 26 = .ok (.invokevirtual 118, 3) := by decide +kernel
theorem dX2_takeNumber_29 : decode cX2_takeNumber 29 = .ok (.iload_n 1, 1) := by decide +kernel
theorem dX2_takeNumber_30 : decode cX2_takeNumber 30 = .ok (.ireturn, 1) := by decide +kernel
def f_Re_takeNumber_2  (σ : xS) : Option (Int32 × xS) :=
  if σ.1 2 3 ≤ σ.1 2 4 then
    (f_Re_advance_2  σ).bind fun q1 =>
    some ((0 : Int32), q1.2)
  else
    if σ.1 2 4 < 0 ∨ 701 ≤ (σ.1 2 4).toNatClampNeg then none else
    let w2 := σ.1 4 (σ.1 2 4).toNatClampNeg
    (f_Re_advance_2  σ).bind fun q3 =>
    some (w2, q3.2)
set_option maxHeartbeats 4000000 in
set_option maxRecDepth 100000 in
theorem c_Re_takeNumber_2 {l : Launch} {s0 : State} {a0 : Array Value} {D : va_G} {cA : Nat → ClassId} {sp : Nat → Nat} (E : x_En CL l s0 a0 D cA sp)  {σ : xS} {r : Int32} {σ1 : xS} (h : f_Re_takeNumber_2  σ = some (r, σ1)) : zC l s0 D cA sp 1 M_Re_takeNumber [.ref 2] σ (some (.int r)) σ1 := by
  unfold f_Re_takeNumber_2 at h
  try dsimp only at h
  refine x_enter [some (.ref 2), none] rfl (Nat.le_of_ble_eq_true rfl) (by decide +kernel) rfl ?_
  refine x_aload_n 1 rfl 0 dX2_takeNumber_0 rfl rfl ?_
  refine x_getI E dX2_takeNumber_1 F_RX2_25 sh_2 4 rfl ?_
  refine x_aload_n 5 rfl 0 dX2_takeNumber_4 rfl rfl ?_
  refine x_getI E dX2_takeNumber_5 F_RX2_21 sh_2 8 rfl ?_
  refine x_icmp_ge 11 rfl 23 dX2_takeNumber_8 (by decide) (fun hc => ?_) (fun hc => ?_)
  · replace h := x_ifT hc h
    refine x_iconst 24 rfl (v := 0) dX2_takeNumber_23 (by decide) ?_
    refine x_istore_n 25 rfl 1 dX2_takeNumber_24 rfl (by decide) [some (.ref 2), some (.int _)] rfl ?_
    refine x_aload_n 26 rfl 0 dX2_takeNumber_25 rfl rfl ?_
    obtain ⟨⟨q1r, q1s⟩, q1h, h⟩ := x_bind h
    try dsimp only at h
    refine z_callV E [] [] dX2_takeNumber_26 K_RX2_118 ⟨Nat.le_of_ble_eq_true rfl, Nat.le_of_ble_eq_true rfl⟩ sh_2 (by decide) rfl (c_Re_advance_2 E  q1h) rfl rfl (Nat.le_of_ble_eq_true rfl) 29 rfl [] rfl ?_
    refine x_iload_n 30 rfl 1 dX2_takeNumber_29 rfl rfl ?_
    cases h
    exact x_iret dX2_takeNumber_30 rfl rfl rfl
  · replace h := x_ifF hc h
    refine x_aload_n 12 rfl 0 dX2_takeNumber_11 rfl rfl ?_
    refine x_getR E dX2_takeNumber_12 F_RX2_15 sh_2 rf_2_1 15 rfl ?_
    refine x_aload_n 16 rfl 0 dX2_takeNumber_15 rfl rfl ?_
    refine x_getI E dX2_takeNumber_16 F_RX2_25 sh_2 19 rfl ?_
    obtain ⟨hz, h⟩ := x_ifn h
    refine x_iald E dX2_takeNumber_19 sh_4 _ rfl hz 20 rfl ?_
    refine x_goto 24 dX2_takeNumber_20 (by decide) ?_
    refine x_istore_n 25 rfl 1 dX2_takeNumber_24 rfl (by decide) [some (.ref 2), some (.int _)] rfl ?_
    refine x_aload_n 26 rfl 0 dX2_takeNumber_25 rfl rfl ?_
    obtain ⟨⟨q3r, q3s⟩, q3h, h⟩ := x_bind h
    try dsimp only at h
    refine z_callV E [] [] dX2_takeNumber_26 K_RX2_118 ⟨Nat.le_of_ble_eq_true rfl, Nat.le_of_ble_eq_true rfl⟩ sh_2 (by decide) rfl (c_Re_advance_2 E  q3h) rfl rfl (Nat.le_of_ble_eq_true rfl) 29 rfl [] rfl ?_
    refine x_iload_n 30 rfl 1 dX2_takeNumber_29 rfl rfl ?_
    cases h
    exact x_iret dX2_takeNumber_30 rfl rfl rfl
abbrev M_Sc_addMove : xM := (yX4_addMove, cX4_addMove, 3, none, [])
theorem dX4_addMove_0 : decode cX4_addMove 0 = .ok (.aload_n 0, 1) := by decide +kernel
theorem dX4_addMove_1 : decode cX4_addMove 1 = .ok (.getfield 44, 3) := by decide +kernel
theorem dX4_addMove_4 : decode cX4_addMove 4 = .ok (.bipush 12, 2) := by decide +kernel
theorem dX4_addMove_6 : decode cX4_addMove 6 = .ok (.if_icmp .ge 43, 3) := by decide +kernel
theorem dX4_addMove_9 : decode cX4_addMove 9 = .ok (.aload_n 0, 1) := by decide +kernel
theorem dX4_addMove_10 : decode cX4_addMove 10 = .ok (.getfield 9, 3) := by decide +kernel
theorem dX4_addMove_13 : decode cX4_addMove 13 = .ok (.aload_n 0, 1) := by decide +kernel
theorem dX4_addMove_14 : decode cX4_addMove 14 = .ok (.getfield 44, 3) := by decide +kernel
theorem dX4_addMove_17 : decode cX4_addMove 17 = .ok (.iload_n 1, 1) := by decide +kernel
theorem dX4_addMove_18 : decode cX4_addMove 18 = .ok (.iastore, 1) := by decide +kernel
theorem dX4_addMove_19 : decode cX4_addMove 19 = .ok (.aload_n 0, 1) := by decide +kernel
theorem dX4_addMove_20 : decode cX4_addMove 20 = .ok (.getfield 15, 3) := by decide +kernel
theorem dX4_addMove_23 : decode cX4_addMove 23 = .ok (.aload_n 0, 1) := by decide +kernel
theorem dX4_addMove_24 : decode cX4_addMove 24 = .ok (.getfield 44, 3) := by decide +kernel
theorem dX4_addMove_27 : decode cX4_addMove 27 = .ok (.iload_n 2, 1) := by decide +kernel
theorem dX4_addMove_28 : decode cX4_addMove 28 = .ok (.iastore, 1) := by decide +kernel
theorem dX4_addMove_29 : decode cX4_addMove 29 = .ok (.aload_n 0, 1) := by decide +kernel
theorem dX4_addMove_30 : decode cX4_addMove 30 = .ok (.dup, 1) := by decide +kernel
theorem dX4_addMove_31 : decode cX4_addMove 31 = .ok (.getfield 44, 3) := by decide +kernel
theorem dX4_addMove_34 : decode cX4_addMove 34 = .ok (.iconst 1, 1) := by decide +kernel
theorem dX4_addMove_35 : decode cX4_addMove 35 = .ok (.iadd, 1) := by decide +kernel
theorem dX4_addMove_36 : decode cX4_addMove 36 = .ok (.putfield 44, 3) := by decide +kernel
theorem dX4_addMove_39 : decode cX4_addMove 39 = .ok (.aload_n 0, 1) := by decide +kernel
theorem dX4_addMove_40 : decode cX4_addMove 40 = .ok (.dup, 1) := by decide +kernel
theorem dX4_addMove_41 : decode cX4_addMove 41 = .ok (.getfield 47, 3) := by decide +kernel
theorem dX4_addMove_44 : decode cX4_addMove 44 = .ok (.iload_n 2, 1) := by decide +kernel
theorem dX4_addMove_45 : decode cX4_addMove 45 = .ok (.iadd, 1) := by decide +kernel
theorem dX4_addMove_46 : decode cX4_addMove 46 = .ok (.putfield 47, 3) := by decide +kernel
theorem dX4_addMove_49 : decode cX4_addMove 49 = .ok (.return_, 1) := by decide +kernel
def f_Sc_addMove_21 (v1 : Int32) (v2 : Int32) (σ : xS) : Option (Unit × xS) :=
  if (12 : Int32) ≤ σ.1 21 1 then
    some ((), σ)
  else
    if σ.1 21 1 < 0 ∨ 12 ≤ (σ.1 21 1).toNatClampNeg then none else
    let σ1 := x_pI σ 22 (σ.1 21 1).toNatClampNeg v1
    if σ1.1 21 1 < 0 ∨ 12 ≤ (σ1.1 21 1).toNatClampNeg then none else
    let σ2 := x_pI σ1 23 (σ1.1 21 1).toNatClampNeg v2
    let σ3 := x_pI σ2 21 1 (σ2.1 21 1 + (1 : Int32))
    let σ4 := x_pI σ3 21 4 (σ3.1 21 4 + v2)
    some ((), σ4)
set_option maxHeartbeats 4000000 in
set_option maxRecDepth 100000 in
theorem c_Sc_addMove_21 {l : Launch} {s0 : State} {a0 : Array Value} {D : va_G} {cA : Nat → ClassId} {sp : Nat → Nat} (E : x_En CL l s0 a0 D cA sp) (v1 : Int32) (v2 : Int32) {σ : xS} {r : Unit} {σ1 : xS} (h : f_Sc_addMove_21 v1 v2 σ = some (r, σ1)) : zC l s0 D cA sp 0 M_Sc_addMove [.ref 21, .int v1, .int v2] σ none σ1 := by
  unfold f_Sc_addMove_21 at h
  try dsimp only at h
  refine x_enter [some (.ref 21), some (.int v1), some (.int v2)] rfl (Nat.le_of_ble_eq_true rfl) (by decide +kernel) rfl ?_
  refine x_aload_n 1 rfl 0 dX4_addMove_0 rfl rfl ?_
  refine x_getI E dX4_addMove_1 F_RX4_44 sh_21 4 rfl ?_
  refine x_bipush 6 rfl (v := 12) dX4_addMove_4 (by decide) ?_
  refine x_icmp_ge 9 rfl 49 dX4_addMove_6 (by decide) (fun hc => ?_) (fun hc => ?_)
  · replace h := x_ifT hc h
    cases h
    exact x_vret dX4_addMove_49 rfl rfl rfl
  · replace h := x_ifF hc h
    refine x_aload_n 10 rfl 0 dX4_addMove_9 rfl rfl ?_
    refine x_getR E dX4_addMove_10 F_RX4_9 sh_21 rf_21_2 13 rfl ?_
    refine x_aload_n 14 rfl 0 dX4_addMove_13 rfl rfl ?_
    refine x_getI E dX4_addMove_14 F_RX4_44 sh_21 17 rfl ?_
    refine x_iload_n 18 rfl 1 dX4_addMove_17 rfl rfl ?_
    obtain ⟨hz, h⟩ := x_ifn h
    refine x_iast E dX4_addMove_18 sh_22 _ rfl hz 19 rfl ?_
    refine x_aload_n 20 rfl 0 dX4_addMove_19 rfl rfl ?_
    refine x_getR E dX4_addMove_20 F_RX4_15 sh_21 rf_21_3 23 rfl ?_
    refine x_aload_n 24 rfl 0 dX4_addMove_23 rfl rfl ?_
    refine x_getI E dX4_addMove_24 F_RX4_44 sh_21 27 rfl ?_
    refine x_iload_n 28 rfl 2 dX4_addMove_27 rfl rfl ?_
    obtain ⟨hz, h⟩ := x_ifn h
    refine x_iast E dX4_addMove_28 sh_23 _ rfl hz 29 rfl ?_
    refine x_aload_n 30 rfl 0 dX4_addMove_29 rfl rfl ?_
    refine x_dup 31 rfl dX4_addMove_30 rfl ?_
    refine x_getI E dX4_addMove_31 F_RX4_44 sh_21 34 rfl ?_
    refine x_iconst 35 rfl (v := 1) dX4_addMove_34 (by decide) ?_
    refine x_iadd 36 rfl dX4_addMove_35 ?_
    refine x_putI E dX4_addMove_36 F_RX4_44 sh_21 39 rfl ?_
    refine x_aload_n 40 rfl 0 dX4_addMove_39 rfl rfl ?_
    refine x_dup 41 rfl dX4_addMove_40 rfl ?_
    refine x_getI E dX4_addMove_41 F_RX4_47 sh_21 44 rfl ?_
    refine x_iload_n 45 rfl 2 dX4_addMove_44 rfl rfl ?_
    refine x_iadd 46 rfl dX4_addMove_45 ?_
    refine x_putI E dX4_addMove_46 F_RX4_47 sh_21 49 rfl ?_
    cases h
    exact x_vret dX4_addMove_49 rfl rfl rfl
abbrev M_Re_isSign : xM := (yX2_isSign, cX2_isSign, 2, some .boolean, [])
theorem dX2_isSign_0 : decode cX2_isSign 0 = .ok (.aload_n 0, 1) := by decide +kernel
theorem dX2_isSign_1 : decode cX2_isSign 1 = .ok (.iconst 3, 1) := by decide +kernel
theorem dX2_isSign_2 : decode cX2_isSign 2 = .ok (.invokevirtual 61, 3) := by decide +kernel
theorem dX2_isSign_5 : decode cX2_isSign 5 = .ok (.ifCond .eq 20, 3) := by decide +kernel
theorem dX2_isSign_8 : decode cX2_isSign 8 = .ok (.aload_n 0, 1) := by decide +kernel
theorem dX2_isSign_9 : decode cX2_isSign 9 = .ok (.getfield 15, 3) := by decide +kernel
theorem dX2_isSign_12 : decode cX2_isSign 12 = .ok (.aload_n 0, 1) := by decide +kernel
theorem dX2_isSign_13 : decode cX2_isSign 13 = .ok (.getfield 25, 3) := by decide +kernel
theorem dX2_isSign_16 : decode cX2_isSign 16 = .ok (.iaload, 1) := by decide +kernel
theorem dX2_isSign_17 : decode cX2_isSign 17 = .ok (.iload_n 1, 1) := by decide +kernel
theorem dX2_isSign_18 : decode cX2_isSign 18 = .ok (.if_icmp .ne 7, 3) := by decide +kernel
theorem dX2_isSign_21 : decode cX2_isSign 21 = .ok (.iconst 1, 1) := by decide +kernel
theorem dX2_isSign_22 : decode cX2_isSign 22 = .ok (.goto 4, 3) := by decide +kernel
theorem dX2_isSign_25 : decode cX2_isSign 25 = .ok (.iconst 0, 1) := by decide +kernel
theorem dX2_isSign_26 : decode cX2_isSign 26 = .ok (.ireturn, 1) := by decide +kernel
def f_Re_isSign_2 (v1 : Int32) (σ : xS) : Option (Int32 × xS) :=
  (f_Re_isKind_2 (3 : Int32) σ).bind fun q1 =>
  if q1.1 = 0 then
    some ((0 : Int32), q1.2)
  else
    if q1.2.1 2 4 < 0 ∨ 701 ≤ (q1.2.1 2 4).toNatClampNeg then none else
    if q1.2.1 4 (q1.2.1 2 4).toNatClampNeg = v1 then
      some ((1 : Int32), q1.2)
    else
      some ((0 : Int32), q1.2)
set_option maxHeartbeats 4000000 in
set_option maxRecDepth 100000 in
theorem c_Re_isSign_2 {l : Launch} {s0 : State} {a0 : Array Value} {D : va_G} {cA : Nat → ClassId} {sp : Nat → Nat} (E : x_En CL l s0 a0 D cA sp) (v1 : Int32) {σ : xS} {r : Int32} {σ1 : xS} (h : f_Re_isSign_2 v1 σ = some (r, σ1)) : zC l s0 D cA sp 1 M_Re_isSign [.ref 2, .int v1] σ (some (.int r)) σ1 := by
  unfold f_Re_isSign_2 at h
  try dsimp only at h
  refine x_enter [some (.ref 2), some (.int v1)] rfl (Nat.le_of_ble_eq_true rfl) (by decide +kernel) rfl ?_
  refine x_aload_n 1 rfl 0 dX2_isSign_0 rfl rfl ?_
  refine x_iconst 2 rfl (v := 3) dX2_isSign_1 (by decide) ?_
  obtain ⟨⟨q1r, q1s⟩, q1h, h⟩ := x_bind h
  try dsimp only at h
  refine z_callV E [.int _] [] dX2_isSign_2 K_RX2_61 ⟨Nat.le_of_ble_eq_true rfl, Nat.le_of_ble_eq_true rfl⟩ sh_2 (by decide) rfl (c_Re_isKind_2 E _ q1h) rfl rfl (Nat.le_of_ble_eq_true rfl) 5 rfl [.int _] rfl ?_
  refine x_if_eq 8 rfl 25 dX2_isSign_5 (by decide) (fun hc => ?_) (fun hc => ?_)
  · replace h := x_ifT hc h
    refine x_iconst 26 rfl (v := 0) dX2_isSign_25 (by decide) ?_
    cases h
    exact x_zret (Or.inl rfl) dX2_isSign_26 rfl rfl rfl
  · replace h := x_ifF hc h
    refine x_aload_n 9 rfl 0 dX2_isSign_8 rfl rfl ?_
    refine x_getR E dX2_isSign_9 F_RX2_15 sh_2 rf_2_1 12 rfl ?_
    refine x_aload_n 13 rfl 0 dX2_isSign_12 rfl rfl ?_
    refine x_getI E dX2_isSign_13 F_RX2_25 sh_2 16 rfl ?_
    obtain ⟨hz, h⟩ := x_ifn h
    refine x_iald E dX2_isSign_16 sh_4 _ rfl hz 17 rfl ?_
    refine x_iload_n 18 rfl 1 dX2_isSign_17 rfl rfl ?_
    refine x_icmp_ne 21 rfl 25 dX2_isSign_18 (by decide) (fun hc => ?_) (fun hc => ?_)
    · replace h := x_ifF hc h
      refine x_iconst 26 rfl (v := 0) dX2_isSign_25 (by decide) ?_
      cases h
      exact x_zret (Or.inl rfl) dX2_isSign_26 rfl rfl rfl
    · replace h := x_ifT hc h
      refine x_iconst 22 rfl (v := 1) dX2_isSign_21 (by decide) ?_
      refine x_goto 26 dX2_isSign_22 (by decide) ?_
      cases h
      exact x_zret (Or.inr rfl) dX2_isSign_26 rfl rfl rfl
theorem K_RX2_121 : x_KV RX2 121 M_Re_isSign 1 := ⟨⟨(List.mem_append_right _ (List.mem_of_getElem? (i := 740) (by decide +kernel))), (List.mem_append_right _ (List.mem_of_getElem? (i := 743) (by decide +kernel))), (List.mem_append_right _ (List.mem_of_getElem? (i := 2) (by decide +kernel))), ⟨by decide +kernel, by decide +kernel⟩, by decide +kernel⟩, (List.mem_append_right _ (List.mem_of_getElem? (i := 742) (by decide +kernel))), (List.mem_append_left _ (List.mem_of_getElem? (i := 23) (by decide +kernel)))⟩
abbrev M_Re_readEnd : xM := (yX2_readEnd, cX2_readEnd, 1, some .boolean, [])
theorem dX2_readEnd_0 : decode cX2_readEnd 0 = .ok (.aload_n 0, 1) := by decide +kernel
theorem dX2_readEnd_1 : decode cX2_readEnd 1 = .ok (.bipush 59, 2) := by decide +kernel
theorem dX2_readEnd_3 : decode cX2_readEnd 3 = .ok (.invokevirtual 121, 3) := by decide +kernel
theorem dX2_readEnd_6 : decode cX2_readEnd 6 = .ok (.ifCond .ne 9, 3) := by decide +kernel
theorem dX2_readEnd_9 : decode cX2_readEnd 9 = .ok (.aload_n 0, 1) := by decide +kernel
theorem dX2_readEnd_10 : decode cX2_readEnd 10 = .ok (.iconst 1, 1) := by decide +kernel
theorem dX2_readEnd_11 : decode cX2_readEnd 11 = .ok (.invokevirtual 115, 3) := by decide +kernel
theorem dX2_readEnd_14 : decode cX2_readEnd 14 = .ok (.ireturn, 1) := by decide +kernel
theorem dX2_readEnd_15 : decode cX2_readEnd 15 = .ok (.aload_n 0, 1) := by decide +kernel
theorem dX2_readEnd_16 : decode cX2_readEnd 16 = .ok (.invokevirtual 118, 3) := by decide +kernel
theorem dX2_readEnd_19 : decode cX2_readEnd 19 = .ok (.iconst 1, 1) := by decide +kernel
theorem dX2_readEnd_20 : decode cX2_readEnd 20 = .ok (.ireturn, 1) := by decide +kernel
def f_Re_readEnd_2  (σ : xS) : Option (Int32 × xS) :=
  (f_Re_isSign_2 (59 : Int32) σ).bind fun q1 =>
  if q1.1 = 0 then
    (f_Re_refuse_2 (1 : Int32) q1.2).bind fun q3 =>
    x_ok (q3.1 = 0 ∨ q3.1 = 1) <|
    some (q3.1, q3.2)
  else
    (f_Re_advance_2  q1.2).bind fun q2 =>
    some ((1 : Int32), q2.2)
set_option maxHeartbeats 4000000 in
set_option maxRecDepth 100000 in
theorem c_Re_readEnd_2 {l : Launch} {s0 : State} {a0 : Array Value} {D : va_G} {cA : Nat → ClassId} {sp : Nat → Nat} (E : x_En CL l s0 a0 D cA sp)  {σ : xS} {r : Int32} {σ1 : xS} (h : f_Re_readEnd_2  σ = some (r, σ1)) : zC l s0 D cA sp 2 M_Re_readEnd [.ref 2] σ (some (.int r)) σ1 := by
  unfold f_Re_readEnd_2 at h
  try dsimp only at h
  refine x_enter [some (.ref 2)] rfl (Nat.le_of_ble_eq_true rfl) (by decide +kernel) rfl ?_
  refine x_aload_n 1 rfl 0 dX2_readEnd_0 rfl rfl ?_
  refine x_bipush 3 rfl (v := 59) dX2_readEnd_1 (by decide) ?_
  obtain ⟨⟨q1r, q1s⟩, q1h, h⟩ := x_bind h
  try dsimp only at h
  refine z_callV E [.int _] [] dX2_readEnd_3 K_RX2_121 ⟨Nat.le_of_ble_eq_true rfl, Nat.le_of_ble_eq_true rfl⟩ sh_2 (by decide) rfl (c_Re_isSign_2 E _ q1h) rfl rfl (Nat.le_of_ble_eq_true rfl) 6 rfl [.int _] rfl ?_
  refine x_if_ne 9 rfl 15 dX2_readEnd_6 (by decide) (fun hc => ?_) (fun hc => ?_)
  · replace h := x_ifF hc h
    refine x_aload_n 16 rfl 0 dX2_readEnd_15 rfl rfl ?_
    obtain ⟨⟨q2r, q2s⟩, q2h, h⟩ := x_bind h
    try dsimp only at h
    refine z_callV E [] [] dX2_readEnd_16 K_RX2_118 ⟨Nat.le_of_ble_eq_true rfl, Nat.le_of_ble_eq_true rfl⟩ sh_2 (by decide) rfl (c_Re_advance_2 E  q2h) rfl rfl (Nat.le_of_ble_eq_true rfl) 19 rfl [] rfl ?_
    refine x_iconst 20 rfl (v := 1) dX2_readEnd_19 (by decide) ?_
    cases h
    exact x_zret (Or.inr rfl) dX2_readEnd_20 rfl rfl rfl
  · replace h := x_ifT hc h
    refine x_aload_n 10 rfl 0 dX2_readEnd_9 rfl rfl ?_
    refine x_iconst 11 rfl (v := 1) dX2_readEnd_10 (by decide) ?_
    obtain ⟨⟨q3r, q3s⟩, q3h, h⟩ := x_bind h
    try dsimp only at h
    refine z_callV E [.int _] [] dX2_readEnd_11 K_RX2_115 ⟨Nat.le_of_ble_eq_true rfl, Nat.le_of_ble_eq_true rfl⟩ sh_2 (by decide) rfl (c_Re_refuse_2 E _ q3h) rfl rfl (Nat.le_of_ble_eq_true rfl) 14 rfl [.int _] rfl ?_
    obtain ⟨hz, h⟩ := x_ift h
    cases h
    exact x_zret hz dX2_readEnd_14 rfl rfl rfl
theorem K_RX2_125 : x_KV RX2 125 M_Re_isNumber 2 := ⟨⟨(List.mem_append_right _ (List.mem_of_getElem? (i := 720) (by decide +kernel))), (List.mem_append_right _ (List.mem_of_getElem? (i := 723) (by decide +kernel))), (List.mem_append_right _ (List.mem_of_getElem? (i := 2) (by decide +kernel))), ⟨by decide +kernel, by decide +kernel⟩, by decide +kernel⟩, (List.mem_append_right _ (List.mem_of_getElem? (i := 722) (by decide +kernel))), (List.mem_append_left _ (List.mem_of_getElem? (i := 18) (by decide +kernel)))⟩
theorem K_RX2_129 : x_KV RX2 129 M_Re_takeNumber 0 := ⟨⟨(List.mem_append_right _ (List.mem_of_getElem? (i := 732) (by decide +kernel))), (List.mem_append_right _ (List.mem_of_getElem? (i := 735) (by decide +kernel))), (List.mem_append_right _ (List.mem_of_getElem? (i := 2) (by decide +kernel))), ⟨by decide +kernel, by decide +kernel⟩, by decide +kernel⟩, (List.mem_append_right _ (List.mem_of_getElem? (i := 734) (by decide +kernel))), (List.mem_append_left _ (List.mem_of_getElem? (i := 21) (by decide +kernel)))⟩
theorem K_RX2_136 : x_KV RX2 136 M_Re_readEnd 0 := ⟨⟨(List.mem_append_right _ (List.mem_of_getElem? (i := 736) (by decide +kernel))), (List.mem_append_right _ (List.mem_of_getElem? (i := 739) (by decide +kernel))), (List.mem_append_right _ (List.mem_of_getElem? (i := 2) (by decide +kernel))), ⟨by decide +kernel, by decide +kernel⟩, by decide +kernel⟩, (List.mem_append_right _ (List.mem_of_getElem? (i := 738) (by decide +kernel))), (List.mem_append_left _ (List.mem_of_getElem? (i := 22) (by decide +kernel)))⟩
theorem K_RX2_186 : x_KV RX2 186 M_Sc_addMove 2 := ⟨⟨(List.mem_append_right _ (List.mem_of_getElem? (i := 764) (by decide +kernel))), (List.mem_append_right _ (List.mem_of_getElem? (i := 767) (by decide +kernel))), (List.mem_append_right _ (List.mem_of_getElem? (i := 3) (by decide +kernel))), ⟨by decide +kernel, by decide +kernel⟩, by decide +kernel⟩, (List.mem_append_right _ (List.mem_of_getElem? (i := 765) (by decide +kernel))), (List.mem_append_right _ (List.mem_of_getElem? (i := 766) (by decide +kernel)))⟩
theorem K_RX2_68 : x_KM RX2 68 Lib.Math.min.name Lib.Math.min.code 2 := ⟨(List.mem_append_right _ (List.mem_of_getElem? (i := 619) (by decide +kernel))), (List.mem_append_right _ (List.mem_of_getElem? (i := 461) (by decide +kernel))), (List.mem_append_right _ (List.mem_of_getElem? (i := 14) (by decide +kernel))), (List.mem_append_right _ (List.mem_of_getElem? (i := 462) (by decide +kernel)))⟩
abbrev M_Re_readTenths : xM := (yX2_readTenths, cX2_readTenths, 3, some .boolean, [])
theorem dX2_readTenths_0 : decode cX2_readTenths 0 = .ok (.aload_n 0, 1) := by decide +kernel
theorem dX2_readTenths_1 : decode cX2_readTenths 1 = .ok (.iconst 1, 1) := by decide +kernel
theorem dX2_readTenths_2 : decode cX2_readTenths 2 = .ok (.bipush 99, 2) := by decide +kernel
theorem dX2_readTenths_4 : decode cX2_readTenths 4 = .ok (.sipush 600, 3) := by decide +kernel
theorem dX2_readTenths_7 : decode cX2_readTenths 7 = .ok (.aload_n 1, 1) := by decide +kernel
theorem dX2_readTenths_8 : decode cX2_readTenths 8 = .ok (.getfield 183, 3) := by decide +kernel
theorem dX2_readTenths_11 : decode cX2_readTenths 11 = .ok (.isub, 1) := by decide +kernel
theorem dX2_readTenths_12 : decode cX2_readTenths 12 = .ok (.invokestatic 68, 3) := by decide +kernel
theorem dX2_readTenths_15 : decode cX2_readTenths 15 = .ok (.invokevirtual 125, 3) := by decide +kernel
theorem dX2_readTenths_18 : decode cX2_readTenths 18 = .ok (.ifCond .ne 5, 3) := by decide +kernel
theorem dX2_readTenths_21 : decode cX2_readTenths 21 = .ok (.iconst 0, 1) := by decide +kernel
theorem dX2_readTenths_22 : decode cX2_readTenths 22 = .ok (.ireturn, 1) := by decide +kernel
theorem dX2_readTenths_23 : decode cX2_readTenths 23 = .ok (.aload_n 1, 1) := by decide +kernel
theorem dX2_readTenths_24 : decode cX2_readTenths 24 = .ok (.iload_n 2, 1) := by decide +kernel
theorem dX2_readTenths_25 : decode cX2_readTenths 25 = .ok (.aload_n 0, 1) := by decide +kernel
theorem dX2_readTenths_26 : decode cX2_readTenths 26 = .ok (.invokevirtual 129, 3) := by decide +kernel
theorem dX2_readTenths_29 : decode cX2_readTenths 29 = .ok (.invokevirtual 186, 3) := by decide +kernel
theorem dX2_readTenths_32 : decode cX2_readTenths 32 = .ok (.aload_n 0, 1) := by decide +kernel
theorem dX2_readTenths_33 : decode cX2_readTenths 33 = .ok (.invokevirtual 136, 3) := by decide +kernel
theorem dX2_readTenths_36 : decode cX2_readTenths 36 = .ok (.ireturn, 1) := by decide +kernel
def f_Re_readTenths_2_21 (v2 : Int32) (σ : xS) : Option (Int32 × xS) :=
  (f_Re_isNumber_2 (1 : Int32) (if ((600 : Int32) - σ.1 21 4) < (99 : Int32) then ((600 : Int32) - σ.1 21 4) else (99 : Int32)) σ).bind fun q1 =>
  if q1.1 = 0 then
    some ((0 : Int32), q1.2)
  else
    (f_Re_takeNumber_2  q1.2).bind fun q2 =>
    (f_Sc_addMove_21 v2 q2.1 q2.2).bind fun q3 =>
    (f_Re_readEnd_2  q3.2).bind fun q4 =>
    x_ok (q4.1 = 0 ∨ q4.1 = 1) <|
    some (q4.1, q4.2)
set_option maxHeartbeats 4000000 in
set_option maxRecDepth 100000 in
theorem c_Re_readTenths_2_21 {l : Launch} {s0 : State} {a0 : Array Value} {D : va_G} {cA : Nat → ClassId} {sp : Nat → Nat} (E : x_En CL l s0 a0 D cA sp) (v2 : Int32) {σ : xS} {r : Int32} {σ1 : xS} (h : f_Re_readTenths_2_21 v2 σ = some (r, σ1)) : zC l s0 D cA sp 3 M_Re_readTenths [.ref 2, .ref 21, .int v2] σ (some (.int r)) σ1 := by
  unfold f_Re_readTenths_2_21 at h
  try dsimp only at h
  refine x_enter [some (.ref 2), some (.ref 21), some (.int v2)] rfl (Nat.le_of_ble_eq_true rfl) (by decide +kernel) rfl ?_
  refine x_aload_n 1 rfl 0 dX2_readTenths_0 rfl rfl ?_
  refine x_iconst 2 rfl (v := 1) dX2_readTenths_1 (by decide) ?_
  refine x_bipush 4 rfl (v := 99) dX2_readTenths_2 (by decide) ?_
  refine x_sipush 7 rfl (v := 600) dX2_readTenths_4 (by decide) ?_
  refine x_aload_n 8 rfl 1 dX2_readTenths_7 rfl rfl ?_
  refine x_getI E dX2_readTenths_8 F_RX2_183 sh_21 11 rfl ?_
  refine x_isub 12 rfl dX2_readTenths_11 ?_
  refine x_mmin E dX2_readTenths_12 K_RX2_68 (Nat.le_of_ble_eq_true rfl) (Nat.le_of_ble_eq_true rfl) 15 rfl ?_
  obtain ⟨⟨q1r, q1s⟩, q1h, h⟩ := x_bind h
  try dsimp only at h
  refine z_callV E [.int _, .int _] [] dX2_readTenths_15 K_RX2_125 ⟨Nat.le_of_ble_eq_true rfl, Nat.le_of_ble_eq_true rfl⟩ sh_2 (by decide) rfl (c_Re_isNumber_2 E _ _ q1h) rfl rfl (Nat.le_of_ble_eq_true rfl) 18 rfl [.int _] rfl ?_
  refine x_if_ne 21 rfl 23 dX2_readTenths_18 (by decide) (fun hc => ?_) (fun hc => ?_)
  · replace h := x_ifF hc h
    refine x_aload_n 24 rfl 1 dX2_readTenths_23 rfl rfl ?_
    refine x_iload_n 25 rfl 2 dX2_readTenths_24 rfl rfl ?_
    refine x_aload_n 26 rfl 0 dX2_readTenths_25 rfl rfl ?_
    obtain ⟨⟨q2r, q2s⟩, q2h, h⟩ := x_bind h
    try dsimp only at h
    refine z_callV E [] [.int _, .ref 21] dX2_readTenths_26 K_RX2_129 ⟨Nat.le_of_ble_eq_true rfl, Nat.le_of_ble_eq_true rfl⟩ sh_2 (by decide) rfl (c_Re_takeNumber_2 E  q2h) rfl rfl (Nat.le_of_ble_eq_true rfl) 29 rfl [.int _, .int _, .ref 21] rfl ?_
    obtain ⟨⟨q3r, q3s⟩, q3h, h⟩ := x_bind h
    try dsimp only at h
    refine z_callV E [.int _, .int _] [] dX2_readTenths_29 K_RX2_186 ⟨Nat.le_of_ble_eq_true rfl, Nat.le_of_ble_eq_true rfl⟩ sh_21 (by decide) rfl (c_Sc_addMove_21 E _ _ q3h) rfl rfl (Nat.le_of_ble_eq_true rfl) 32 rfl [] rfl ?_
    refine x_aload_n 33 rfl 0 dX2_readTenths_32 rfl rfl ?_
    obtain ⟨⟨q4r, q4s⟩, q4h, h⟩ := x_bind h
    try dsimp only at h
    refine z_callV E [] [] dX2_readTenths_33 K_RX2_136 ⟨Nat.le_of_ble_eq_true rfl, Nat.le_of_ble_eq_true rfl⟩ sh_2 (by decide) rfl (c_Re_readEnd_2 E  q4h) rfl rfl (Nat.le_of_ble_eq_true rfl) 36 rfl [.int _] rfl ?_
    obtain ⟨hz, h⟩ := x_ift h
    cases h
    exact x_zret hz dX2_readTenths_36 rfl rfl rfl
  · replace h := x_ifT hc h
    refine x_iconst 22 rfl (v := 0) dX2_readTenths_21 (by decide) ?_
    cases h
    exact x_zret (Or.inl rfl) dX2_readTenths_22 rfl rfl rfl
theorem K_RX2_177 : x_KV RX2 177 M_Re_readTenths 2 := ⟨⟨(List.mem_append_right _ (List.mem_of_getElem? (i := 760) (by decide +kernel))), (List.mem_append_right _ (List.mem_of_getElem? (i := 763) (by decide +kernel))), (List.mem_append_right _ (List.mem_of_getElem? (i := 2) (by decide +kernel))), ⟨by decide +kernel, by decide +kernel⟩, by decide +kernel⟩, (List.mem_append_right _ (List.mem_of_getElem? (i := 762) (by decide +kernel))), (List.mem_append_left _ (List.mem_of_getElem? (i := 26) (by decide +kernel)))⟩
abbrev M_Re_readGo : xM := (yX2_readGo, cX2_readGo, 2, some .boolean, [])
theorem dX2_readGo_0 : decode cX2_readGo 0 = .ok (.aload_n 1, 1) := by decide +kernel
theorem dX2_readGo_1 : decode cX2_readGo 1 = .ok (.getfield 174, 3) := by decide +kernel
theorem dX2_readGo_4 : decode cX2_readGo 4 = .ok (.bipush 12, 2) := by decide +kernel
theorem dX2_readGo_6 : decode cX2_readGo 6 = .ok (.if_icmp .lt 9, 3) := by decide +kernel
theorem dX2_readGo_9 : decode cX2_readGo 9 = .ok (.aload_n 0, 1) := by decide +kernel
theorem dX2_readGo_10 : decode cX2_readGo 10 = .ok (.iconst 2, 1) := by decide +kernel
theorem dX2_readGo_11 : decode cX2_readGo 11 = .ok (.invokevirtual 115, 3) := by decide +kernel
theorem dX2_readGo_14 : decode cX2_readGo 14 = .ok (.ireturn, 1) := by decide +kernel
theorem dX2_readGo_15 : decode cX2_readGo 15 = .ok (.aload_n 0, 1) := by decide +kernel
theorem dX2_readGo_16 : decode cX2_readGo 16 = .ok (.invokevirtual 118, 3) := by decide +kernel
theorem dX2_readGo_19 : decode cX2_readGo 19 = .ok (.aload_n 0, 1) := by decide +kernel
theorem dX2_readGo_20 : decode cX2_readGo 20 = .ok (.bipush 12, 2) := by decide +kernel
theorem dX2_readGo_22 : decode cX2_readGo 22 = .ok (.sipush 480, 3) := by decide +kernel
theorem dX2_readGo_25 : decode cX2_readGo 25 = .ok (.invokevirtual 125, 3) := by decide +kernel
theorem dX2_readGo_28 : decode cX2_readGo 28 = .ok (.ifCond .ne 5, 3) := by decide +kernel
theorem dX2_readGo_31 : decode cX2_readGo 31 = .ok (.iconst 0, 1) := by decide +kernel
theorem dX2_readGo_32 : decode cX2_readGo 32 = .ok (.ireturn, 1) := by decide +kernel
theorem dX2_readGo_33 : decode cX2_readGo 33 = .ok (.aload_n 0, 1) := by decide +kernel
theorem dX2_readGo_34 : decode cX2_readGo 34 = .ok (.aload_n 1, 1) := by decide +kernel
theorem dX2_readGo_35 : decode cX2_readGo 35 = .ok (.aload_n 0, 1) := by decide +kernel
theorem dX2_readGo_36 : decode cX2_readGo 36 = .ok (.invokevirtual 129, 3) := by decide +kernel
theorem dX2_readGo_39 : decode cX2_readGo 39 = .ok (.invokevirtual 177, 3) := by decide +kernel
theorem dX2_readGo_42 : decode cX2_readGo 42 = .ok (.ireturn, 1) := by decide +kernel
def f_Re_readGo_2_21  (σ : xS) : Option (Int32 × xS) :=
  if σ.1 21 1 < (12 : Int32) then
    (f_Re_advance_2  σ).bind fun q1 =>
    (f_Re_isNumber_2 (12 : Int32) (480 : Int32) q1.2).bind fun q2 =>
    if q2.1 = 0 then
      some ((0 : Int32), q2.2)
    else
      (f_Re_takeNumber_2  q2.2).bind fun q3 =>
      (f_Re_readTenths_2_21 q3.1 q3.2).bind fun q4 =>
      x_ok (q4.1 = 0 ∨ q4.1 = 1) <|
      some (q4.1, q4.2)
  else
    (f_Re_refuse_2 (2 : Int32) σ).bind fun q5 =>
    x_ok (q5.1 = 0 ∨ q5.1 = 1) <|
    some (q5.1, q5.2)
set_option maxHeartbeats 4000000 in
set_option maxRecDepth 100000 in
theorem c_Re_readGo_2_21 {l : Launch} {s0 : State} {a0 : Array Value} {D : va_G} {cA : Nat → ClassId} {sp : Nat → Nat} (E : x_En CL l s0 a0 D cA sp)  {σ : xS} {r : Int32} {σ1 : xS} (h : f_Re_readGo_2_21  σ = some (r, σ1)) : zC l s0 D cA sp 4 M_Re_readGo [.ref 2, .ref 21] σ (some (.int r)) σ1 := by
  unfold f_Re_readGo_2_21 at h
  try dsimp only at h
  refine x_enter [some (.ref 2), some (.ref 21)] rfl (Nat.le_of_ble_eq_true rfl) (by decide +kernel) rfl ?_
  refine x_aload_n 1 rfl 1 dX2_readGo_0 rfl rfl ?_
  refine x_getI E dX2_readGo_1 F_RX2_174 sh_21 4 rfl ?_
  refine x_bipush 6 rfl (v := 12) dX2_readGo_4 (by decide) ?_
  refine x_icmp_lt 9 rfl 15 dX2_readGo_6 (by decide) (fun hc => ?_) (fun hc => ?_)
  · replace h := x_ifT hc h
    refine x_aload_n 16 rfl 0 dX2_readGo_15 rfl rfl ?_
    obtain ⟨⟨q1r, q1s⟩, q1h, h⟩ := x_bind h
    try dsimp only at h
    refine z_callV E [] [] dX2_readGo_16 K_RX2_118 ⟨Nat.le_of_ble_eq_true rfl, Nat.le_of_ble_eq_true rfl⟩ sh_2 (by decide) rfl (c_Re_advance_2 E  q1h) rfl rfl (Nat.le_of_ble_eq_true rfl) 19 rfl [] rfl ?_
    refine x_aload_n 20 rfl 0 dX2_readGo_19 rfl rfl ?_
    refine x_bipush 22 rfl (v := 12) dX2_readGo_20 (by decide) ?_
    refine x_sipush 25 rfl (v := 480) dX2_readGo_22 (by decide) ?_
    obtain ⟨⟨q2r, q2s⟩, q2h, h⟩ := x_bind h
    try dsimp only at h
    refine z_callV E [.int _, .int _] [] dX2_readGo_25 K_RX2_125 ⟨Nat.le_of_ble_eq_true rfl, Nat.le_of_ble_eq_true rfl⟩ sh_2 (by decide) rfl (c_Re_isNumber_2 E _ _ q2h) rfl rfl (Nat.le_of_ble_eq_true rfl) 28 rfl [.int _] rfl ?_
    refine x_if_ne 31 rfl 33 dX2_readGo_28 (by decide) (fun hc => ?_) (fun hc => ?_)
    · replace h := x_ifF hc h
      refine x_aload_n 34 rfl 0 dX2_readGo_33 rfl rfl ?_
      refine x_aload_n 35 rfl 1 dX2_readGo_34 rfl rfl ?_
      refine x_aload_n 36 rfl 0 dX2_readGo_35 rfl rfl ?_
      obtain ⟨⟨q3r, q3s⟩, q3h, h⟩ := x_bind h
      try dsimp only at h
      refine z_callV E [] [.ref 21, .ref 2] dX2_readGo_36 K_RX2_129 ⟨Nat.le_of_ble_eq_true rfl, Nat.le_of_ble_eq_true rfl⟩ sh_2 (by decide) rfl (c_Re_takeNumber_2 E  q3h) rfl rfl (Nat.le_of_ble_eq_true rfl) 39 rfl [.int _, .ref 21, .ref 2] rfl ?_
      obtain ⟨⟨q4r, q4s⟩, q4h, h⟩ := x_bind h
      try dsimp only at h
      refine z_callV E [.ref 21, .int _] [] dX2_readGo_39 K_RX2_177 ⟨Nat.le_of_ble_eq_true rfl, Nat.le_of_ble_eq_true rfl⟩ sh_2 (by decide) rfl (c_Re_readTenths_2_21 E _ q4h) rfl rfl (Nat.le_of_ble_eq_true rfl) 42 rfl [.int _] rfl ?_
      obtain ⟨hz, h⟩ := x_ift h
      cases h
      exact x_zret hz dX2_readGo_42 rfl rfl rfl
    · replace h := x_ifT hc h
      refine x_iconst 32 rfl (v := 0) dX2_readGo_31 (by decide) ?_
      cases h
      exact x_zret (Or.inl rfl) dX2_readGo_32 rfl rfl rfl
  · replace h := x_ifF hc h
    refine x_aload_n 10 rfl 0 dX2_readGo_9 rfl rfl ?_
    refine x_iconst 11 rfl (v := 2) dX2_readGo_10 (by decide) ?_
    obtain ⟨⟨q5r, q5s⟩, q5h, h⟩ := x_bind h
    try dsimp only at h
    refine z_callV E [.int _] [] dX2_readGo_11 K_RX2_115 ⟨Nat.le_of_ble_eq_true rfl, Nat.le_of_ble_eq_true rfl⟩ sh_2 (by decide) rfl (c_Re_refuse_2 E _ q5h) rfl rfl (Nat.le_of_ble_eq_true rfl) 14 rfl [.int _] rfl ?_
    obtain ⟨hz, h⟩ := x_ift h
    cases h
    exact x_zret hz dX2_readGo_14 rfl rfl rfl
abbrev M_Sc_lastPlace : xM := (yX4_lastPlace, cX4_lastPlace, 1, some .int, [])
theorem dX4_lastPlace_0 : decode cX4_lastPlace 0 = .ok (.aload_n 0, 1) := by decide +kernel
theorem dX4_lastPlace_1 : decode cX4_lastPlace 1 = .ok (.getfield 44, 3) := by decide +kernel
theorem dX4_lastPlace_4 : decode cX4_lastPlace 4 = .ok (.iconst 1, 1) := by decide +kernel
theorem dX4_lastPlace_5 : decode cX4_lastPlace 5 = .ok (.if_icmp .lt 12, 3) := by decide +kernel
theorem dX4_lastPlace_8 : decode cX4_lastPlace 8 = .ok (.aload_n 0, 1) := by decide +kernel
theorem dX4_lastPlace_9 : decode cX4_lastPlace 9 = .ok (.getfield 44, 3) := by decide +kernel
theorem dX4_lastPlace_12 : decode cX4_lastPlace 12 = .ok (.bipush 12, 2) := by decide +kernel
theorem dX4_lastPlace_14 : decode cX4_lastPlace 14 = .ok (.if_icmp .le 10, 3) := by decide +kernel
theorem dX4_lastPlace_17 : decode cX4_lastPlace 17 = .ok (.aload_n 0, 1) := by decide +kernel
theorem dX4_lastPlace_18 : decode cX4_lastPlace 18 = .ok (.getfield 40, 3) := by decide +kernel
theorem dX4_lastPlace_21 : decode cX4_lastPlace 21 = .ok (.goto 14, 3) := by decide +kernel
theorem dX4_lastPlace_24 : decode cX4_lastPlace 24 = .ok (.aload_n 0, 1) := by decide +kernel
theorem dX4_lastPlace_25 : decode cX4_lastPlace 25 = .ok (.getfield 9, 3) := by decide +kernel
theorem dX4_lastPlace_28 : decode cX4_lastPlace 28 = .ok (.aload_n 0, 1) := by decide +kernel
theorem dX4_lastPlace_29 : decode cX4_lastPlace 29 = .ok (.getfield 44, 3) := by decide +kernel
theorem dX4_lastPlace_32 : decode cX4_lastPlace 32 = .ok (.iconst 1, 1) := by decide +kernel
theorem dX4_lastPlace_33 : decode cX4_lastPlace 33 = .ok (.isub, 1) := by decide +kernel
theorem dX4_lastPlace_34 : decode cX4_lastPlace 34 = .ok (.iaload, 1) := by decide +kernel
theorem dX4_lastPlace_35 : decode cX4_lastPlace 35 = .ok (.ireturn, 1) := by decide +kernel
def f_Sc_lastPlace_21  (σ : xS) : Option (Int32 × xS) :=
  if σ.1 21 1 < (1 : Int32) then
    some (σ.1 21 0, σ)
  else
    if σ.1 21 1 ≤ (12 : Int32) then
      if (σ.1 21 1 - (1 : Int32)) < 0 ∨ 12 ≤ (σ.1 21 1 - (1 : Int32)).toNatClampNeg then none else
      some (σ.1 22 (σ.1 21 1 - (1 : Int32)).toNatClampNeg, σ)
    else
      some (σ.1 21 0, σ)
set_option maxHeartbeats 4000000 in
set_option maxRecDepth 100000 in
theorem c_Sc_lastPlace_21 {l : Launch} {s0 : State} {a0 : Array Value} {D : va_G} {cA : Nat → ClassId} {sp : Nat → Nat} (E : x_En CL l s0 a0 D cA sp)  {σ : xS} {r : Int32} {σ1 : xS} (h : f_Sc_lastPlace_21  σ = some (r, σ1)) : zC l s0 D cA sp 0 M_Sc_lastPlace [.ref 21] σ (some (.int r)) σ1 := by
  unfold f_Sc_lastPlace_21 at h
  try dsimp only at h
  refine x_enter [some (.ref 21)] rfl (Nat.le_of_ble_eq_true rfl) (by decide +kernel) rfl ?_
  refine x_aload_n 1 rfl 0 dX4_lastPlace_0 rfl rfl ?_
  refine x_getI E dX4_lastPlace_1 F_RX4_44 sh_21 4 rfl ?_
  refine x_iconst 5 rfl (v := 1) dX4_lastPlace_4 (by decide) ?_
  refine x_icmp_lt 8 rfl 17 dX4_lastPlace_5 (by decide) (fun hc => ?_) (fun hc => ?_)
  · replace h := x_ifT hc h
    refine x_aload_n 18 rfl 0 dX4_lastPlace_17 rfl rfl ?_
    refine x_getI E dX4_lastPlace_18 F_RX4_40 sh_21 21 rfl ?_
    refine x_goto 35 dX4_lastPlace_21 (by decide) ?_
    cases h
    exact x_iret dX4_lastPlace_35 rfl rfl rfl
  · replace h := x_ifF hc h
    refine x_aload_n 9 rfl 0 dX4_lastPlace_8 rfl rfl ?_
    refine x_getI E dX4_lastPlace_9 F_RX4_44 sh_21 12 rfl ?_
    refine x_bipush 14 rfl (v := 12) dX4_lastPlace_12 (by decide) ?_
    refine x_icmp_le 17 rfl 24 dX4_lastPlace_14 (by decide) (fun hc => ?_) (fun hc => ?_)
    · replace h := x_ifT hc h
      refine x_aload_n 25 rfl 0 dX4_lastPlace_24 rfl rfl ?_
      refine x_getR E dX4_lastPlace_25 F_RX4_9 sh_21 rf_21_2 28 rfl ?_
      refine x_aload_n 29 rfl 0 dX4_lastPlace_28 rfl rfl ?_
      refine x_getI E dX4_lastPlace_29 F_RX4_44 sh_21 32 rfl ?_
      refine x_iconst 33 rfl (v := 1) dX4_lastPlace_32 (by decide) ?_
      refine x_isub 34 rfl dX4_lastPlace_33 ?_
      obtain ⟨hz, h⟩ := x_ifn h
      refine x_iald E dX4_lastPlace_34 sh_22 _ rfl hz 35 rfl ?_
      cases h
      exact x_iret dX4_lastPlace_35 rfl rfl rfl
    · replace h := x_ifF hc h
      refine x_aload_n 18 rfl 0 dX4_lastPlace_17 rfl rfl ?_
      refine x_getI E dX4_lastPlace_18 F_RX4_40 sh_21 21 rfl ?_
      refine x_goto 35 dX4_lastPlace_21 (by decide) ?_
      cases h
      exact x_iret dX4_lastPlace_35 rfl rfl rfl
theorem K_RX2_180 : x_KV RX2 180 M_Sc_lastPlace 0 := ⟨⟨(List.mem_append_right _ (List.mem_of_getElem? (i := 772) (by decide +kernel))), (List.mem_append_right _ (List.mem_of_getElem? (i := 775) (by decide +kernel))), (List.mem_append_right _ (List.mem_of_getElem? (i := 3) (by decide +kernel))), ⟨by decide +kernel, by decide +kernel⟩, by decide +kernel⟩, (List.mem_append_right _ (List.mem_of_getElem? (i := 773) (by decide +kernel))), (List.mem_append_right _ (List.mem_of_getElem? (i := 774) (by decide +kernel)))⟩
abbrev M_Re_readStay : xM := (yX2_readStay, cX2_readStay, 2, some .boolean, [])
theorem dX2_readStay_0 : decode cX2_readStay 0 = .ok (.aload_n 1, 1) := by decide +kernel
theorem dX2_readStay_1 : decode cX2_readStay 1 = .ok (.getfield 174, 3) := by decide +kernel
theorem dX2_readStay_4 : decode cX2_readStay 4 = .ok (.bipush 12, 2) := by decide +kernel
theorem dX2_readStay_6 : decode cX2_readStay 6 = .ok (.if_icmp .lt 9, 3) := by decide +kernel
theorem dX2_readStay_9 : decode cX2_readStay 9 = .ok (.aload_n 0, 1) := by decide +kernel
theorem dX2_readStay_10 : decode cX2_readStay 10 = .ok (.iconst 2, 1) := by decide +kernel
theorem dX2_readStay_11 : decode cX2_readStay 11 = .ok (.invokevirtual 115, 3) := by decide +kernel
theorem dX2_readStay_14 : decode cX2_readStay 14 = .ok (.ireturn, 1) := by decide +kernel
theorem dX2_readStay_15 : decode cX2_readStay 15 = .ok (.aload_n 0, 1) := by decide +kernel
theorem dX2_readStay_16 : decode cX2_readStay 16 = .ok (.invokevirtual 118, 3) := by decide +kernel
theorem dX2_readStay_19 : decode cX2_readStay 19 = .ok (.aload_n 0, 1) := by decide +kernel
theorem dX2_readStay_20 : decode cX2_readStay 20 = .ok (.aload_n 1, 1) := by decide +kernel
theorem dX2_readStay_21 : decode cX2_readStay 21 = .ok (.aload_n 1, 1) := by decide +kernel
theorem dX2_readStay_22 : decode cX2_readStay 22 = .ok (.invokevirtual 180, 3) := by decide +kernel
theorem dX2_readStay_25 : decode cX2_readStay 25 = .ok (.invokevirtual 177, 3) := by decide +kernel
theorem dX2_readStay_28 : decode cX2_readStay 28 = .ok (.ireturn, 1) := by decide +kernel
def f_Re_readStay_2_21  (σ : xS) : Option (Int32 × xS) :=
  if σ.1 21 1 < (12 : Int32) then
    (f_Re_advance_2  σ).bind fun q1 =>
    (f_Sc_lastPlace_21  q1.2).bind fun q2 =>
    (f_Re_readTenths_2_21 q2.1 q2.2).bind fun q3 =>
    x_ok (q3.1 = 0 ∨ q3.1 = 1) <|
    some (q3.1, q3.2)
  else
    (f_Re_refuse_2 (2 : Int32) σ).bind fun q4 =>
    x_ok (q4.1 = 0 ∨ q4.1 = 1) <|
    some (q4.1, q4.2)
set_option maxHeartbeats 4000000 in
set_option maxRecDepth 100000 in
theorem c_Re_readStay_2_21 {l : Launch} {s0 : State} {a0 : Array Value} {D : va_G} {cA : Nat → ClassId} {sp : Nat → Nat} (E : x_En CL l s0 a0 D cA sp)  {σ : xS} {r : Int32} {σ1 : xS} (h : f_Re_readStay_2_21  σ = some (r, σ1)) : zC l s0 D cA sp 4 M_Re_readStay [.ref 2, .ref 21] σ (some (.int r)) σ1 := by
  unfold f_Re_readStay_2_21 at h
  try dsimp only at h
  refine x_enter [some (.ref 2), some (.ref 21)] rfl (Nat.le_of_ble_eq_true rfl) (by decide +kernel) rfl ?_
  refine x_aload_n 1 rfl 1 dX2_readStay_0 rfl rfl ?_
  refine x_getI E dX2_readStay_1 F_RX2_174 sh_21 4 rfl ?_
  refine x_bipush 6 rfl (v := 12) dX2_readStay_4 (by decide) ?_
  refine x_icmp_lt 9 rfl 15 dX2_readStay_6 (by decide) (fun hc => ?_) (fun hc => ?_)
  · replace h := x_ifT hc h
    refine x_aload_n 16 rfl 0 dX2_readStay_15 rfl rfl ?_
    obtain ⟨⟨q1r, q1s⟩, q1h, h⟩ := x_bind h
    try dsimp only at h
    refine z_callV E [] [] dX2_readStay_16 K_RX2_118 ⟨Nat.le_of_ble_eq_true rfl, Nat.le_of_ble_eq_true rfl⟩ sh_2 (by decide) rfl (c_Re_advance_2 E  q1h) rfl rfl (Nat.le_of_ble_eq_true rfl) 19 rfl [] rfl ?_
    refine x_aload_n 20 rfl 0 dX2_readStay_19 rfl rfl ?_
    refine x_aload_n 21 rfl 1 dX2_readStay_20 rfl rfl ?_
    refine x_aload_n 22 rfl 1 dX2_readStay_21 rfl rfl ?_
    obtain ⟨⟨q2r, q2s⟩, q2h, h⟩ := x_bind h
    try dsimp only at h
    refine z_callV E [] [.ref 21, .ref 2] dX2_readStay_22 K_RX2_180 ⟨Nat.le_of_ble_eq_true rfl, Nat.le_of_ble_eq_true rfl⟩ sh_21 (by decide) rfl (c_Sc_lastPlace_21 E  q2h) rfl rfl (Nat.le_of_ble_eq_true rfl) 25 rfl [.int _, .ref 21, .ref 2] rfl ?_
    obtain ⟨⟨q3r, q3s⟩, q3h, h⟩ := x_bind h
    try dsimp only at h
    refine z_callV E [.ref 21, .int _] [] dX2_readStay_25 K_RX2_177 ⟨Nat.le_of_ble_eq_true rfl, Nat.le_of_ble_eq_true rfl⟩ sh_2 (by decide) rfl (c_Re_readTenths_2_21 E _ q3h) rfl rfl (Nat.le_of_ble_eq_true rfl) 28 rfl [.int _] rfl ?_
    obtain ⟨hz, h⟩ := x_ift h
    cases h
    exact x_zret hz dX2_readStay_28 rfl rfl rfl
  · replace h := x_ifF hc h
    refine x_aload_n 10 rfl 0 dX2_readStay_9 rfl rfl ?_
    refine x_iconst 11 rfl (v := 2) dX2_readStay_10 (by decide) ?_
    obtain ⟨⟨q4r, q4s⟩, q4h, h⟩ := x_bind h
    try dsimp only at h
    refine z_callV E [.int _] [] dX2_readStay_11 K_RX2_115 ⟨Nat.le_of_ble_eq_true rfl, Nat.le_of_ble_eq_true rfl⟩ sh_2 (by decide) rfl (c_Re_refuse_2 E _ q4h) rfl rfl (Nat.le_of_ble_eq_true rfl) 14 rfl [.int _] rfl ?_
    obtain ⟨hz, h⟩ := x_ift h
    cases h
    exact x_zret hz dX2_readStay_14 rfl rfl rfl
abbrev M_Sc_lastChange : xM := (yX4_lastChange, cX4_lastChange, 1, some .int, [])
theorem dX4_lastChange_0 : decode cX4_lastChange 0 = .ok (.aload_n 0, 1) := by decide +kernel
theorem dX4_lastChange_1 : decode cX4_lastChange 1 = .ok (.getfield 50, 3) := by decide +kernel
theorem dX4_lastChange_4 : decode cX4_lastChange 4 = .ok (.iconst 1, 1) := by decide +kernel
theorem dX4_lastChange_5 : decode cX4_lastChange 5 = .ok (.if_icmp .lt 12, 3) := by decide +kernel
theorem dX4_lastChange_8 : decode cX4_lastChange 8 = .ok (.aload_n 0, 1) := by decide +kernel
theorem dX4_lastChange_9 : decode cX4_lastChange 9 = .ok (.getfield 50, 3) := by decide +kernel
theorem dX4_lastChange_12 : decode cX4_lastChange 12 = .ok (.bipush 6, 2) := by decide +kernel
theorem dX4_lastChange_14 : decode cX4_lastChange 14 = .ok (.if_icmp .le 7, 3) := by decide +kernel
theorem dX4_lastChange_17 : decode cX4_lastChange 17 = .ok (.iconst 0, 1) := by decide +kernel
theorem dX4_lastChange_18 : decode cX4_lastChange 18 = .ok (.goto 14, 3) := by decide +kernel
theorem dX4_lastChange_21 : decode cX4_lastChange 21 = .ok (.aload_n 0, 1) := by decide +kernel
theorem dX4_lastChange_22 : decode cX4_lastChange 22 = .ok (.getfield 18, 3) := by decide +kernel
theorem dX4_lastChange_25 : decode cX4_lastChange 25 = .ok (.aload_n 0, 1) := by decide +kernel
theorem dX4_lastChange_26 : decode cX4_lastChange 26 = .ok (.getfield 50, 3) := by decide +kernel
theorem dX4_lastChange_29 : decode cX4_lastChange 29 = .ok (.iconst 1, 1) := by decide +kernel
theorem dX4_lastChange_30 : decode cX4_lastChange 30 = .ok (.isub, 1) := by decide +kernel
theorem dX4_lastChange_31 : decode cX4_lastChange 31 = .ok (.iaload, 1) := by decide +kernel
theorem dX4_lastChange_32 : decode cX4_lastChange 32 = .ok (.ireturn, 1) := by decide +kernel
def f_Sc_lastChange_21  (σ : xS) : Option (Int32 × xS) :=
  if σ.1 21 5 < (1 : Int32) then
    some ((0 : Int32), σ)
  else
    if σ.1 21 5 ≤ (6 : Int32) then
      if (σ.1 21 5 - (1 : Int32)) < 0 ∨ 6 ≤ (σ.1 21 5 - (1 : Int32)).toNatClampNeg then none else
      some (σ.1 24 (σ.1 21 5 - (1 : Int32)).toNatClampNeg, σ)
    else
      some ((0 : Int32), σ)
set_option maxHeartbeats 4000000 in
set_option maxRecDepth 100000 in
theorem c_Sc_lastChange_21 {l : Launch} {s0 : State} {a0 : Array Value} {D : va_G} {cA : Nat → ClassId} {sp : Nat → Nat} (E : x_En CL l s0 a0 D cA sp)  {σ : xS} {r : Int32} {σ1 : xS} (h : f_Sc_lastChange_21  σ = some (r, σ1)) : zC l s0 D cA sp 0 M_Sc_lastChange [.ref 21] σ (some (.int r)) σ1 := by
  unfold f_Sc_lastChange_21 at h
  try dsimp only at h
  refine x_enter [some (.ref 21)] rfl (Nat.le_of_ble_eq_true rfl) (by decide +kernel) rfl ?_
  refine x_aload_n 1 rfl 0 dX4_lastChange_0 rfl rfl ?_
  refine x_getI E dX4_lastChange_1 F_RX4_50 sh_21 4 rfl ?_
  refine x_iconst 5 rfl (v := 1) dX4_lastChange_4 (by decide) ?_
  refine x_icmp_lt 8 rfl 17 dX4_lastChange_5 (by decide) (fun hc => ?_) (fun hc => ?_)
  · replace h := x_ifT hc h
    refine x_iconst 18 rfl (v := 0) dX4_lastChange_17 (by decide) ?_
    refine x_goto 32 dX4_lastChange_18 (by decide) ?_
    cases h
    exact x_iret dX4_lastChange_32 rfl rfl rfl
  · replace h := x_ifF hc h
    refine x_aload_n 9 rfl 0 dX4_lastChange_8 rfl rfl ?_
    refine x_getI E dX4_lastChange_9 F_RX4_50 sh_21 12 rfl ?_
    refine x_bipush 14 rfl (v := 6) dX4_lastChange_12 (by decide) ?_
    refine x_icmp_le 17 rfl 21 dX4_lastChange_14 (by decide) (fun hc => ?_) (fun hc => ?_)
    · replace h := x_ifT hc h
      refine x_aload_n 22 rfl 0 dX4_lastChange_21 rfl rfl ?_
      refine x_getR E dX4_lastChange_22 F_RX4_18 sh_21 rf_21_6 25 rfl ?_
      refine x_aload_n 26 rfl 0 dX4_lastChange_25 rfl rfl ?_
      refine x_getI E dX4_lastChange_26 F_RX4_50 sh_21 29 rfl ?_
      refine x_iconst 30 rfl (v := 1) dX4_lastChange_29 (by decide) ?_
      refine x_isub 31 rfl dX4_lastChange_30 ?_
      obtain ⟨hz, h⟩ := x_ifn h
      refine x_iald E dX4_lastChange_31 sh_24 _ rfl hz 32 rfl ?_
      cases h
      exact x_iret dX4_lastChange_32 rfl rfl rfl
    · replace h := x_ifF hc h
      refine x_iconst 18 rfl (v := 0) dX4_lastChange_17 (by decide) ?_
      refine x_goto 32 dX4_lastChange_18 (by decide) ?_
      cases h
      exact x_iret dX4_lastChange_32 rfl rfl rfl
abbrev M_Sc_addChange : xM := (yX4_addChange, cX4_addChange, 3, none, [])
theorem dX4_addChange_0 : decode cX4_addChange 0 = .ok (.aload_n 0, 1) := by decide +kernel
theorem dX4_addChange_1 : decode cX4_addChange 1 = .ok (.getfield 50, 3) := by decide +kernel
theorem dX4_addChange_4 : decode cX4_addChange 4 = .ok (.bipush 6, 2) := by decide +kernel
theorem dX4_addChange_6 : decode cX4_addChange 6 = .ok (.if_icmp .ge 33, 3) := by decide +kernel
theorem dX4_addChange_9 : decode cX4_addChange 9 = .ok (.aload_n 0, 1) := by decide +kernel
theorem dX4_addChange_10 : decode cX4_addChange 10 = .ok (.getfield 18, 3) := by decide +kernel
theorem dX4_addChange_13 : decode cX4_addChange 13 = .ok (.aload_n 0, 1) := by decide +kernel
theorem dX4_addChange_14 : decode cX4_addChange 14 = .ok (.getfield 50, 3) := by decide +kernel
theorem dX4_addChange_17 : decode cX4_addChange 17 = .ok (.iload_n 1, 1) := by decide +kernel
theorem dX4_addChange_18 : decode cX4_addChange 18 = .ok (.iastore, 1) := by decide +kernel
theorem dX4_addChange_19 : decode cX4_addChange 19 = .ok (.aload_n 0, 1) := by decide +kernel
theorem dX4_addChange_20 : decode cX4_addChange 20 = .ok (.getfield 21, 3) := by decide +kernel
theorem dX4_addChange_23 : decode cX4_addChange 23 = .ok (.aload_n 0, 1) := by decide +kernel
theorem dX4_addChange_24 : decode cX4_addChange 24 = .ok (.getfield 50, 3) := by decide +kernel
theorem dX4_addChange_27 : decode cX4_addChange 27 = .ok (.iload_n 2, 1) := by decide +kernel
theorem dX4_addChange_28 : decode cX4_addChange 28 = .ok (.iastore, 1) := by decide +kernel
theorem dX4_addChange_29 : decode cX4_addChange 29 = .ok (.aload_n 0, 1) := by decide +kernel
theorem dX4_addChange_30 : decode cX4_addChange 30 = .ok (.dup, 1) := by decide +kernel
theorem dX4_addChange_31 : decode cX4_addChange 31 = .ok (.getfield 50, 3) := by decide +kernel
theorem dX4_addChange_34 : decode cX4_addChange 34 = .ok (.iconst 1, 1) := by decide +kernel
theorem dX4_addChange_35 : decode cX4_addChange 35 = .ok (.iadd, 1) := by decide +kernel
theorem dX4_addChange_36 : decode cX4_addChange 36 = .ok (.putfield 50, 3) := by decide +kernel
theorem dX4_addChange_39 : decode cX4_addChange 39 = .ok (.return_, 1) := by decide +kernel
def f_Sc_addChange_21 (v1 : Int32) (v2 : Int32) (σ : xS) : Option (Unit × xS) :=
  if (6 : Int32) ≤ σ.1 21 5 then
    some ((), σ)
  else
    if σ.1 21 5 < 0 ∨ 6 ≤ (σ.1 21 5).toNatClampNeg then none else
    let σ1 := x_pI σ 24 (σ.1 21 5).toNatClampNeg v1
    if σ1.1 21 5 < 0 ∨ 6 ≤ (σ1.1 21 5).toNatClampNeg then none else
    let σ2 := x_pI σ1 25 (σ1.1 21 5).toNatClampNeg v2
    let σ3 := x_pI σ2 21 5 (σ2.1 21 5 + (1 : Int32))
    some ((), σ3)
set_option maxHeartbeats 4000000 in
set_option maxRecDepth 100000 in
theorem c_Sc_addChange_21 {l : Launch} {s0 : State} {a0 : Array Value} {D : va_G} {cA : Nat → ClassId} {sp : Nat → Nat} (E : x_En CL l s0 a0 D cA sp) (v1 : Int32) (v2 : Int32) {σ : xS} {r : Unit} {σ1 : xS} (h : f_Sc_addChange_21 v1 v2 σ = some (r, σ1)) : zC l s0 D cA sp 0 M_Sc_addChange [.ref 21, .int v1, .int v2] σ none σ1 := by
  unfold f_Sc_addChange_21 at h
  try dsimp only at h
  refine x_enter [some (.ref 21), some (.int v1), some (.int v2)] rfl (Nat.le_of_ble_eq_true rfl) (by decide +kernel) rfl ?_
  refine x_aload_n 1 rfl 0 dX4_addChange_0 rfl rfl ?_
  refine x_getI E dX4_addChange_1 F_RX4_50 sh_21 4 rfl ?_
  refine x_bipush 6 rfl (v := 6) dX4_addChange_4 (by decide) ?_
  refine x_icmp_ge 9 rfl 39 dX4_addChange_6 (by decide) (fun hc => ?_) (fun hc => ?_)
  · replace h := x_ifT hc h
    cases h
    exact x_vret dX4_addChange_39 rfl rfl rfl
  · replace h := x_ifF hc h
    refine x_aload_n 10 rfl 0 dX4_addChange_9 rfl rfl ?_
    refine x_getR E dX4_addChange_10 F_RX4_18 sh_21 rf_21_6 13 rfl ?_
    refine x_aload_n 14 rfl 0 dX4_addChange_13 rfl rfl ?_
    refine x_getI E dX4_addChange_14 F_RX4_50 sh_21 17 rfl ?_
    refine x_iload_n 18 rfl 1 dX4_addChange_17 rfl rfl ?_
    obtain ⟨hz, h⟩ := x_ifn h
    refine x_iast E dX4_addChange_18 sh_24 _ rfl hz 19 rfl ?_
    refine x_aload_n 20 rfl 0 dX4_addChange_19 rfl rfl ?_
    refine x_getR E dX4_addChange_20 F_RX4_21 sh_21 rf_21_7 23 rfl ?_
    refine x_aload_n 24 rfl 0 dX4_addChange_23 rfl rfl ?_
    refine x_getI E dX4_addChange_24 F_RX4_50 sh_21 27 rfl ?_
    refine x_iload_n 28 rfl 2 dX4_addChange_27 rfl rfl ?_
    obtain ⟨hz, h⟩ := x_ifn h
    refine x_iast E dX4_addChange_28 sh_25 _ rfl hz 29 rfl ?_
    refine x_aload_n 30 rfl 0 dX4_addChange_29 rfl rfl ?_
    refine x_dup 31 rfl dX4_addChange_30 rfl ?_
    refine x_getI E dX4_addChange_31 F_RX4_50 sh_21 34 rfl ?_
    refine x_iconst 35 rfl (v := 1) dX4_addChange_34 (by decide) ?_
    refine x_iadd 36 rfl dX4_addChange_35 ?_
    refine x_putI E dX4_addChange_36 F_RX4_50 sh_21 39 rfl ?_
    cases h
    exact x_vret dX4_addChange_39 rfl rfl rfl
theorem K_RX2_193 : x_KV RX2 193 M_Sc_lastChange 0 := ⟨⟨(List.mem_append_right _ (List.mem_of_getElem? (i := 780) (by decide +kernel))), (List.mem_append_right _ (List.mem_of_getElem? (i := 783) (by decide +kernel))), (List.mem_append_right _ (List.mem_of_getElem? (i := 3) (by decide +kernel))), ⟨by decide +kernel, by decide +kernel⟩, by decide +kernel⟩, (List.mem_append_right _ (List.mem_of_getElem? (i := 781) (by decide +kernel))), (List.mem_append_right _ (List.mem_of_getElem? (i := 782) (by decide +kernel)))⟩
theorem K_RX2_196 : x_KV RX2 196 M_Sc_addChange 2 := ⟨⟨(List.mem_append_right _ (List.mem_of_getElem? (i := 784) (by decide +kernel))), (List.mem_append_right _ (List.mem_of_getElem? (i := 787) (by decide +kernel))), (List.mem_append_right _ (List.mem_of_getElem? (i := 3) (by decide +kernel))), ⟨by decide +kernel, by decide +kernel⟩, by decide +kernel⟩, (List.mem_append_right _ (List.mem_of_getElem? (i := 785) (by decide +kernel))), (List.mem_append_right _ (List.mem_of_getElem? (i := 786) (by decide +kernel)))⟩
abbrev M_Re_readChange : xM := (yX2_readChange, cX2_readChange, 3, some .boolean, [])
theorem dX2_readChange_0 : decode cX2_readChange 0 = .ok (.aload_n 1, 1) := by decide +kernel
theorem dX2_readChange_1 : decode cX2_readChange 1 = .ok (.getfield 190, 3) := by decide +kernel
theorem dX2_readChange_4 : decode cX2_readChange 4 = .ok (.bipush 6, 2) := by decide +kernel
theorem dX2_readChange_6 : decode cX2_readChange 6 = .ok (.if_icmp .lt 9, 3) := by decide +kernel
theorem dX2_readChange_9 : decode cX2_readChange 9 = .ok (.aload_n 0, 1) := by decide +kernel
theorem dX2_readChange_10 : decode cX2_readChange 10 = .ok (.iconst 2, 1) := by decide +kernel
theorem dX2_readChange_11 : decode cX2_readChange 11 = .ok (.invokevirtual 115, 3) := by decide +kernel
theorem dX2_readChange_14 : decode cX2_readChange 14 = .ok (.ireturn, 1) := by decide +kernel
theorem dX2_readChange_15 : decode cX2_readChange 15 = .ok (.aload_n 0, 1) := by decide +kernel
theorem dX2_readChange_16 : decode cX2_readChange 16 = .ok (.invokevirtual 118, 3) := by decide +kernel
theorem dX2_readChange_19 : decode cX2_readChange 19 = .ok (.aload_n 0, 1) := by decide +kernel
theorem dX2_readChange_20 : decode cX2_readChange 20 = .ok (.aload_n 1, 1) := by decide +kernel
theorem dX2_readChange_21 : decode cX2_readChange 21 = .ok (.invokevirtual 193, 3) := by decide +kernel
theorem dX2_readChange_24 : decode cX2_readChange 24 = .ok (.iconst 1, 1) := by decide +kernel
theorem dX2_readChange_25 : decode cX2_readChange 25 = .ok (.iadd, 1) := by decide +kernel
theorem dX2_readChange_26 : decode cX2_readChange 26 = .ok (.sipush 600, 3) := by decide +kernel
theorem dX2_readChange_29 : decode cX2_readChange 29 = .ok (.invokevirtual 125, 3) := by decide +kernel
theorem dX2_readChange_32 : decode cX2_readChange 32 = .ok (.ifCond .ne 5, 3) := by decide +kernel
theorem dX2_readChange_35 : decode cX2_readChange 35 = .ok (.iconst 0, 1) := by decide +kernel
theorem dX2_readChange_36 : decode cX2_readChange 36 = .ok (.ireturn, 1) := by decide +kernel
theorem dX2_readChange_37 : decode cX2_readChange 37 = .ok (.aload_n 1, 1) := by decide +kernel
theorem dX2_readChange_38 : decode cX2_readChange 38 = .ok (.aload_n 0, 1) := by decide +kernel
theorem dX2_readChange_39 : decode cX2_readChange 39 = .ok (.invokevirtual 129, 3) := by decide +kernel
theorem dX2_readChange_42 : decode cX2_readChange 42 = .ok (.iload_n 2, 1) := by decide +kernel
theorem dX2_readChange_43 : decode cX2_readChange 43 = .ok (.invokevirtual 196, 3) := by decide +kernel
theorem dX2_readChange_46 : decode cX2_readChange 46 = .ok (.aload_n 0, 1) := by decide +kernel
theorem dX2_readChange_47 : decode cX2_readChange 47 = .ok (.invokevirtual 136, 3) := by decide +kernel
theorem dX2_readChange_50 : decode cX2_readChange 50 = .ok (.ireturn, 1) := by decide +kernel
def f_Re_readChange_2_21 (v2 : Int32) (σ : xS) : Option (Int32 × xS) :=
  if σ.1 21 5 < (6 : Int32) then
    (f_Re_advance_2  σ).bind fun q1 =>
    (f_Sc_lastChange_21  q1.2).bind fun q2 =>
    (f_Re_isNumber_2 (q2.1 + (1 : Int32)) (600 : Int32) q2.2).bind fun q3 =>
    if q3.1 = 0 then
      some ((0 : Int32), q3.2)
    else
      (f_Re_takeNumber_2  q3.2).bind fun q4 =>
      (f_Sc_addChange_21 q4.1 v2 q4.2).bind fun q5 =>
      (f_Re_readEnd_2  q5.2).bind fun q6 =>
      x_ok (q6.1 = 0 ∨ q6.1 = 1) <|
      some (q6.1, q6.2)
  else
    (f_Re_refuse_2 (2 : Int32) σ).bind fun q7 =>
    x_ok (q7.1 = 0 ∨ q7.1 = 1) <|
    some (q7.1, q7.2)
set_option maxHeartbeats 4000000 in
set_option maxRecDepth 100000 in
theorem c_Re_readChange_2_21 {l : Launch} {s0 : State} {a0 : Array Value} {D : va_G} {cA : Nat → ClassId} {sp : Nat → Nat} (E : x_En CL l s0 a0 D cA sp) (v2 : Int32) {σ : xS} {r : Int32} {σ1 : xS} (h : f_Re_readChange_2_21 v2 σ = some (r, σ1)) : zC l s0 D cA sp 3 M_Re_readChange [.ref 2, .ref 21, .int v2] σ (some (.int r)) σ1 := by
  unfold f_Re_readChange_2_21 at h
  try dsimp only at h
  refine x_enter [some (.ref 2), some (.ref 21), some (.int v2)] rfl (Nat.le_of_ble_eq_true rfl) (by decide +kernel) rfl ?_
  refine x_aload_n 1 rfl 1 dX2_readChange_0 rfl rfl ?_
  refine x_getI E dX2_readChange_1 F_RX2_190 sh_21 4 rfl ?_
  refine x_bipush 6 rfl (v := 6) dX2_readChange_4 (by decide) ?_
  refine x_icmp_lt 9 rfl 15 dX2_readChange_6 (by decide) (fun hc => ?_) (fun hc => ?_)
  · replace h := x_ifT hc h
    refine x_aload_n 16 rfl 0 dX2_readChange_15 rfl rfl ?_
    obtain ⟨⟨q1r, q1s⟩, q1h, h⟩ := x_bind h
    try dsimp only at h
    refine z_callV E [] [] dX2_readChange_16 K_RX2_118 ⟨Nat.le_of_ble_eq_true rfl, Nat.le_of_ble_eq_true rfl⟩ sh_2 (by decide) rfl (c_Re_advance_2 E  q1h) rfl rfl (Nat.le_of_ble_eq_true rfl) 19 rfl [] rfl ?_
    refine x_aload_n 20 rfl 0 dX2_readChange_19 rfl rfl ?_
    refine x_aload_n 21 rfl 1 dX2_readChange_20 rfl rfl ?_
    obtain ⟨⟨q2r, q2s⟩, q2h, h⟩ := x_bind h
    try dsimp only at h
    refine z_callV E [] [.ref 2] dX2_readChange_21 K_RX2_193 ⟨Nat.le_of_ble_eq_true rfl, Nat.le_of_ble_eq_true rfl⟩ sh_21 (by decide) rfl (c_Sc_lastChange_21 E  q2h) rfl rfl (Nat.le_of_ble_eq_true rfl) 24 rfl [.int _, .ref 2] rfl ?_
    refine x_iconst 25 rfl (v := 1) dX2_readChange_24 (by decide) ?_
    refine x_iadd 26 rfl dX2_readChange_25 ?_
    refine x_sipush 29 rfl (v := 600) dX2_readChange_26 (by decide) ?_
    obtain ⟨⟨q3r, q3s⟩, q3h, h⟩ := x_bind h
    try dsimp only at h
    refine z_callV E [.int _, .int _] [] dX2_readChange_29 K_RX2_125 ⟨Nat.le_of_ble_eq_true rfl, Nat.le_of_ble_eq_true rfl⟩ sh_2 (by decide) rfl (c_Re_isNumber_2 E _ _ q3h) rfl rfl (Nat.le_of_ble_eq_true rfl) 32 rfl [.int _] rfl ?_
    refine x_if_ne 35 rfl 37 dX2_readChange_32 (by decide) (fun hc => ?_) (fun hc => ?_)
    · replace h := x_ifF hc h
      refine x_aload_n 38 rfl 1 dX2_readChange_37 rfl rfl ?_
      refine x_aload_n 39 rfl 0 dX2_readChange_38 rfl rfl ?_
      obtain ⟨⟨q4r, q4s⟩, q4h, h⟩ := x_bind h
      try dsimp only at h
      refine z_callV E [] [.ref 21] dX2_readChange_39 K_RX2_129 ⟨Nat.le_of_ble_eq_true rfl, Nat.le_of_ble_eq_true rfl⟩ sh_2 (by decide) rfl (c_Re_takeNumber_2 E  q4h) rfl rfl (Nat.le_of_ble_eq_true rfl) 42 rfl [.int _, .ref 21] rfl ?_
      refine x_iload_n 43 rfl 2 dX2_readChange_42 rfl rfl ?_
      obtain ⟨⟨q5r, q5s⟩, q5h, h⟩ := x_bind h
      try dsimp only at h
      refine z_callV E [.int _, .int _] [] dX2_readChange_43 K_RX2_196 ⟨Nat.le_of_ble_eq_true rfl, Nat.le_of_ble_eq_true rfl⟩ sh_21 (by decide) rfl (c_Sc_addChange_21 E _ _ q5h) rfl rfl (Nat.le_of_ble_eq_true rfl) 46 rfl [] rfl ?_
      refine x_aload_n 47 rfl 0 dX2_readChange_46 rfl rfl ?_
      obtain ⟨⟨q6r, q6s⟩, q6h, h⟩ := x_bind h
      try dsimp only at h
      refine z_callV E [] [] dX2_readChange_47 K_RX2_136 ⟨Nat.le_of_ble_eq_true rfl, Nat.le_of_ble_eq_true rfl⟩ sh_2 (by decide) rfl (c_Re_readEnd_2 E  q6h) rfl rfl (Nat.le_of_ble_eq_true rfl) 50 rfl [.int _] rfl ?_
      obtain ⟨hz, h⟩ := x_ift h
      cases h
      exact x_zret hz dX2_readChange_50 rfl rfl rfl
    · replace h := x_ifT hc h
      refine x_iconst 36 rfl (v := 0) dX2_readChange_35 (by decide) ?_
      cases h
      exact x_zret (Or.inl rfl) dX2_readChange_36 rfl rfl rfl
  · replace h := x_ifF hc h
    refine x_aload_n 10 rfl 0 dX2_readChange_9 rfl rfl ?_
    refine x_iconst 11 rfl (v := 2) dX2_readChange_10 (by decide) ?_
    obtain ⟨⟨q7r, q7s⟩, q7h, h⟩ := x_bind h
    try dsimp only at h
    refine z_callV E [.int _] [] dX2_readChange_11 K_RX2_115 ⟨Nat.le_of_ble_eq_true rfl, Nat.le_of_ble_eq_true rfl⟩ sh_2 (by decide) rfl (c_Re_refuse_2 E _ q7h) rfl rfl (Nat.le_of_ble_eq_true rfl) 14 rfl [.int _] rfl ?_
    obtain ⟨hz, h⟩ := x_ift h
    cases h
    exact x_zret hz dX2_readChange_14 rfl rfl rfl
abbrev M_Sc_addMark : xM := (yX4_addMark, cX4_addMark, 2, none, [])
theorem dX4_addMark_0 : decode cX4_addMark 0 = .ok (.aload_n 0, 1) := by decide +kernel
theorem dX4_addMark_1 : decode cX4_addMark 1 = .ok (.getfield 53, 3) := by decide +kernel
theorem dX4_addMark_4 : decode cX4_addMark 4 = .ok (.bipush 6, 2) := by decide +kernel
theorem dX4_addMark_6 : decode cX4_addMark 6 = .ok (.if_icmp .ge 26, 3) := by decide +kernel
theorem dX4_addMark_9 : decode cX4_addMark 9 = .ok (.aload_n 0, 1) := by decide +kernel
theorem dX4_addMark_10 : decode cX4_addMark 10 = .ok (.getfield 24, 3) := by decide +kernel
theorem dX4_addMark_13 : decode cX4_addMark 13 = .ok (.bipush 6, 2) := by decide +kernel
theorem dX4_addMark_15 : decode cX4_addMark 15 = .ok (.aload_n 0, 1) := by decide +kernel
theorem dX4_addMark_16 : decode cX4_addMark 16 = .ok (.getfield 53, 3) := by decide +kernel
theorem dX4_addMark_19 : decode cX4_addMark 19 = .ok (.iadd, 1) := by decide +kernel
theorem dX4_addMark_20 : decode cX4_addMark 20 = .ok (.iload_n 1, 1) := by decide +kernel
theorem dX4_addMark_21 : decode cX4_addMark 21 = .ok (.iastore, 1) := by decide +kernel
theorem dX4_addMark_22 : decode cX4_addMark 22 = .ok (.aload_n 0, 1) := by decide +kernel
theorem dX4_addMark_23 : decode cX4_addMark 23 = .ok (.dup, 1) := by decide +kernel
theorem dX4_addMark_24 : decode cX4_addMark 24 = .ok (.getfield 53, 3) := by decide +kernel
theorem dX4_addMark_27 : decode cX4_addMark 27 = .ok (.iconst 1, 1) := by decide +kernel
theorem dX4_addMark_28 : decode cX4_addMark 28 = .ok (.iadd, 1) := by decide +kernel
theorem dX4_addMark_29 : decode cX4_addMark 29 = .ok (.putfield 53, 3) := by decide +kernel
theorem dX4_addMark_32 : decode cX4_addMark 32 = .ok (.return_, 1) := by decide +kernel
def f_Sc_addMark_21 (v1 : Int32) (σ : xS) : Option (Unit × xS) :=
  if (6 : Int32) ≤ σ.1 21 8 then
    some ((), σ)
  else
    if ((6 : Int32) + σ.1 21 8) < 0 ∨ 12 ≤ ((6 : Int32) + σ.1 21 8).toNatClampNeg then none else
    let σ1 := x_pI σ 26 ((6 : Int32) + σ.1 21 8).toNatClampNeg v1
    let σ2 := x_pI σ1 21 8 (σ1.1 21 8 + (1 : Int32))
    some ((), σ2)
set_option maxHeartbeats 4000000 in
set_option maxRecDepth 100000 in
theorem c_Sc_addMark_21 {l : Launch} {s0 : State} {a0 : Array Value} {D : va_G} {cA : Nat → ClassId} {sp : Nat → Nat} (E : x_En CL l s0 a0 D cA sp) (v1 : Int32) {σ : xS} {r : Unit} {σ1 : xS} (h : f_Sc_addMark_21 v1 σ = some (r, σ1)) : zC l s0 D cA sp 0 M_Sc_addMark [.ref 21, .int v1] σ none σ1 := by
  unfold f_Sc_addMark_21 at h
  try dsimp only at h
  refine x_enter [some (.ref 21), some (.int v1)] rfl (Nat.le_of_ble_eq_true rfl) (by decide +kernel) rfl ?_
  refine x_aload_n 1 rfl 0 dX4_addMark_0 rfl rfl ?_
  refine x_getI E dX4_addMark_1 F_RX4_53 sh_21 4 rfl ?_
  refine x_bipush 6 rfl (v := 6) dX4_addMark_4 (by decide) ?_
  refine x_icmp_ge 9 rfl 32 dX4_addMark_6 (by decide) (fun hc => ?_) (fun hc => ?_)
  · replace h := x_ifT hc h
    cases h
    exact x_vret dX4_addMark_32 rfl rfl rfl
  · replace h := x_ifF hc h
    refine x_aload_n 10 rfl 0 dX4_addMark_9 rfl rfl ?_
    refine x_getR E dX4_addMark_10 F_RX4_24 sh_21 rf_21_10 13 rfl ?_
    refine x_bipush 15 rfl (v := 6) dX4_addMark_13 (by decide) ?_
    refine x_aload_n 16 rfl 0 dX4_addMark_15 rfl rfl ?_
    refine x_getI E dX4_addMark_16 F_RX4_53 sh_21 19 rfl ?_
    refine x_iadd 20 rfl dX4_addMark_19 ?_
    refine x_iload_n 21 rfl 1 dX4_addMark_20 rfl rfl ?_
    obtain ⟨hz, h⟩ := x_ifn h
    refine x_iast E dX4_addMark_21 sh_26 _ rfl hz 22 rfl ?_
    refine x_aload_n 23 rfl 0 dX4_addMark_22 rfl rfl ?_
    refine x_dup 24 rfl dX4_addMark_23 rfl ?_
    refine x_getI E dX4_addMark_24 F_RX4_53 sh_21 27 rfl ?_
    refine x_iconst 28 rfl (v := 1) dX4_addMark_27 (by decide) ?_
    refine x_iadd 29 rfl dX4_addMark_28 ?_
    refine x_putI E dX4_addMark_29 F_RX4_53 sh_21 32 rfl ?_
    cases h
    exact x_vret dX4_addMark_32 rfl rfl rfl
def f_RH_isNearMark_26_L4 (v1 : Int32) (v2 : Int32) (v3 : Int32) (a : Int32 × xS) : Option (((Int32 × xS) ⊕ (Int32 × xS)) ⊕ (Int32 × xS)) :=
  let v4 := a.1; let σ := a.2;
  if ((6 : Int32) + v1) ≤ v4 then
    some (.inl (.inr (v4, σ)))
  else
    if (Int32.ofNat 12) ≤ v4 then
      some (.inl (.inr (v4, σ)))
    else
      if v4 < 0 ∨ 12 ≤ v4.toNatClampNeg then none else
      if v3 < (if 0 ≤ (σ.1 26 v4.toNatClampNeg - v2) then (σ.1 26 v4.toNatClampNeg - v2) else 0 - (σ.1 26 v4.toNatClampNeg - v2)) then
        let w1 := v4 + (1 : Int32)
        some (.inr (w1, σ))
      else
        some (.inl (.inl ((1 : Int32), σ)))
def f_RH_isNearMark_26 (v1 : Int32) (v2 : Int32) (v3 : Int32) (σ : xS) : Option (Int32 × xS) :=
  (x_it (f_RH_isNearMark_26_L4 v1 v2 v3) 10000 ((6 : Int32), σ)).bind fun b2 =>
  match b2 with
  | .inl b2r => some b2r
  | .inr b2e =>
    some ((0 : Int32), b2e.2)
set_option maxHeartbeats 4000000 in
set_option maxRecDepth 100000 in
theorem b_RH_isNearMark_26_L4 {l : Launch} {s0 : State} {a0 : Array Value} {D : va_G} {cA : Nat → ClassId} {sp : Nat → Nat} (E : x_En CL l s0 a0 D cA sp) (v1 : Int32) (v2 : Int32) (v3 : Int32) {r : Int32} {σ1 : xS} (a : Int32 × xS) (o : ((Int32 × xS) ⊕ (Int32 × xS)) ⊕ (Int32 × xS)) (h : f_RH_isNearMark_26_L4 v1 v2 v3 a = some o) (hK : ∀ b, o = .inl b → (∀ q, b = .inl q → q = (r, σ1)) ∧ ∀ e, b = .inr e → zW l s0 D cA sp (zQ s0 D cA sp (some (.int r)) σ1) (x_rm 0 0 0) M_RH_isNearMark 0 0 41 [none, none, none, none, none] [] e.2) (hG : ∀ a', o = .inr a' → zW l s0 D cA sp (zQ s0 D cA sp (some (.int r)) σ1) (x_rm 0 0 0) M_RH_isNearMark 0 0 4 [some (.ref 26), some (.int v1), some (.int v2), some (.int v3), some (.int a'.1)] [] a'.2) : zW l s0 D cA sp (zQ s0 D cA sp (some (.int r)) σ1) (x_rm 0 0 0) M_RH_isNearMark 0 0 4 [some (.ref 26), some (.int v1), some (.int v2), some (.int v3), some (.int a.1)] [] a.2 := by
  obtain ⟨v4, σ⟩ := a
  unfold f_RH_isNearMark_26_L4 at h
  try dsimp only at h ⊢
  refine x_iload 6 rfl dX8_isNearMark_4 rfl ?_
  refine x_bipush 8 rfl (v := 6) dX8_isNearMark_6 (by decide) ?_
  refine x_iload_n 9 rfl 1 dX8_isNearMark_8 rfl rfl ?_
  refine x_iadd 10 rfl dX8_isNearMark_9 ?_
  refine x_icmp_ge 13 rfl 41 dX8_isNearMark_10 (by decide) (fun hc => ?_) (fun hc => ?_)
  · replace h := x_ifT hc h
    cases h
    exact x_wk (x_le_n (x_le_n (x_le_n (x_le_n (x_le_n x_le_0))))) ((hK (.inr (_, _)) rfl).2 (_, _) rfl)
  · replace h := x_ifF hc h
    refine x_iload 15 rfl dX8_isNearMark_13 rfl ?_
    refine x_aload_n 16 rfl 0 dX8_isNearMark_15 rfl rfl ?_
    refine x_alen E dX8_isNearMark_16 sh_26 17 rfl ?_
    refine x_icmp_ge 20 rfl 41 dX8_isNearMark_17 (by decide) (fun hc => ?_) (fun hc => ?_)
    · replace h := x_ifT hc h
      cases h
      exact x_wk (x_le_n (x_le_n (x_le_n (x_le_n (x_le_n x_le_0))))) ((hK (.inr (_, _)) rfl).2 (_, _) rfl)
    · replace h := x_ifF hc h
      refine x_aload_n 21 rfl 0 dX8_isNearMark_20 rfl rfl ?_
      refine x_iload 23 rfl dX8_isNearMark_21 rfl ?_
      obtain ⟨hz, h⟩ := x_ifn h
      refine x_iald E dX8_isNearMark_23 sh_26 _ rfl hz 24 rfl ?_
      refine x_iload_n 25 rfl 2 dX8_isNearMark_24 rfl rfl ?_
      refine x_isub 26 rfl dX8_isNearMark_25 ?_
      refine x_mabs E dX8_isNearMark_26 K_RX8_256 (Nat.le_of_ble_eq_true rfl) (Nat.le_of_ble_eq_true rfl) 29 rfl ?_
      refine x_iload_n 30 rfl 3 dX8_isNearMark_29 rfl rfl ?_
      refine x_icmp_gt 33 rfl 35 dX8_isNearMark_30 (by decide) (fun hc => ?_) (fun hc => ?_)
      · replace h := x_ifT hc h
        refine x_iinc 38 rfl (1) dX8_isNearMark_35 rfl (by decide) (by decide) [some (.ref 26), some (.int _), some (.int _), some (.int _), some (.int _)] rfl ?_
        refine x_goto 4 dX8_isNearMark_38 (by decide) ?_
        cases h
        exact x_wk (x_le_s (x_le_s (x_le_s (x_le_s (x_le_s x_le_0))))) (hG (_, _) rfl)
      · replace h := x_ifF hc h
        refine x_iconst 34 rfl (v := 1) dX8_isNearMark_33 (by decide) ?_
        cases h
        cases (hK (.inl (_, _)) rfl).1 (_, _) rfl
        exact x_zret (Or.inr rfl) dX8_isNearMark_34 rfl rfl rfl
set_option maxHeartbeats 4000000 in
set_option maxRecDepth 100000 in
theorem c_RH_isNearMark_26 {l : Launch} {s0 : State} {a0 : Array Value} {D : va_G} {cA : Nat → ClassId} {sp : Nat → Nat} (E : x_En CL l s0 a0 D cA sp) (v1 : Int32) (v2 : Int32) (v3 : Int32) {σ : xS} {r : Int32} {σ1 : xS} (h : f_RH_isNearMark_26 v1 v2 v3 σ = some (r, σ1)) : zC l s0 D cA sp 0 M_RH_isNearMark [.ref 26, .int v1, .int v2, .int v3] σ (some (.int r)) σ1 := by
  unfold f_RH_isNearMark_26 at h
  try dsimp only at h
  refine x_enter [some (.ref 26), some (.int v1), some (.int v2), some (.int v3), none] rfl (Nat.le_of_ble_eq_true rfl) (by decide +kernel) rfl ?_
  refine x_bipush 2 rfl (v := 6) dX8_isNearMark_0 (by decide) ?_
  refine x_istore 4 rfl dX8_isNearMark_2 (by decide) [some (.ref 26), some (.int _), some (.int _), some (.int _), some (.int _)] rfl ?_
  obtain ⟨b2, b2h, h⟩ := x_bind h
  try dsimp only at h
  refine x_wk (x_le_s (x_le_s (x_le_s (x_le_s (x_le_s x_le_0))))) (x_loop (fun a o h hK hG => b_RH_isNearMark_26_L4 (r := r) (σ1 := σ1) E _ _ _ a o h hK hG) _ _ _ b2h ?_)
  cases b2 with
  | inl b2r =>
    try dsimp only at h
    cases h
    exact ⟨fun q e => (by cases e; rfl), fun e he => (by cases he)⟩
  | inr b2e =>
    try dsimp only at h
    refine ⟨fun q e => (by cases e), fun e he => ?_⟩
    cases he
    refine x_iconst 42 rfl (v := 0) dX8_isNearMark_41 (by decide) ?_
    cases h
    exact x_zret (Or.inl rfl) dX8_isNearMark_42 rfl rfl rfl
theorem K_RX2_205 : x_KT RX2 205 M_RH_isNearMark 4 RX8 := ⟨⟨(List.mem_append_right _ (List.mem_of_getElem? (i := 792) (by decide +kernel))), (List.mem_append_right _ (List.mem_of_getElem? (i := 485) (by decide +kernel))), (List.mem_append_right _ (List.mem_of_getElem? (i := 1) (by decide +kernel))), ⟨by decide +kernel, by decide +kernel⟩, by decide +kernel⟩, (List.mem_append_right _ (List.mem_of_getElem? (i := 484) (by decide +kernel)))⟩
theorem K_RX2_209 : x_KV RX2 209 M_Sc_addMark 1 := ⟨⟨(List.mem_append_right _ (List.mem_of_getElem? (i := 793) (by decide +kernel))), (List.mem_append_right _ (List.mem_of_getElem? (i := 796) (by decide +kernel))), (List.mem_append_right _ (List.mem_of_getElem? (i := 3) (by decide +kernel))), ⟨by decide +kernel, by decide +kernel⟩, by decide +kernel⟩, (List.mem_append_right _ (List.mem_of_getElem? (i := 794) (by decide +kernel))), (List.mem_append_right _ (List.mem_of_getElem? (i := 795) (by decide +kernel)))⟩
abbrev M_Re_readMark : xM := (yX2_readMark, cX2_readMark, 2, some .boolean, [])
theorem dX2_readMark_0 : decode cX2_readMark 0 = .ok (.aload_n 1, 1) := by decide +kernel
theorem dX2_readMark_1 : decode cX2_readMark 1 = .ok (.getfield 199, 3) := by decide +kernel
theorem dX2_readMark_4 : decode cX2_readMark 4 = .ok (.bipush 6, 2) := by decide +kernel
theorem dX2_readMark_6 : decode cX2_readMark 6 = .ok (.if_icmp .lt 9, 3) := by decide +kernel
theorem dX2_readMark_9 : decode cX2_readMark 9 = .ok (.aload_n 0, 1) := by decide +kernel
theorem dX2_readMark_10 : decode cX2_readMark 10 = .ok (.iconst 2, 1) := by decide +kernel
theorem dX2_readMark_11 : decode cX2_readMark 11 = .ok (.invokevirtual 115, 3) := by decide +kernel
theorem dX2_readMark_14 : decode cX2_readMark 14 = .ok (.ireturn, 1) := by decide +kernel
theorem dX2_readMark_15 : decode cX2_readMark 15 = .ok (.aload_n 0, 1) := by decide +kernel
theorem dX2_readMark_16 : decode cX2_readMark 16 = .ok (.invokevirtual 118, 3) := by decide +kernel
theorem dX2_readMark_19 : decode cX2_readMark 19 = .ok (.aload_n 0, 1) := by decide +kernel
theorem dX2_readMark_20 : decode cX2_readMark 20 = .ok (.bipush 12, 2) := by decide +kernel
theorem dX2_readMark_22 : decode cX2_readMark 22 = .ok (.sipush 480, 3) := by decide +kernel
theorem dX2_readMark_25 : decode cX2_readMark 25 = .ok (.invokevirtual 125, 3) := by decide +kernel
theorem dX2_readMark_28 : decode cX2_readMark 28 = .ok (.ifCond .ne 5, 3) := by decide +kernel
theorem dX2_readMark_31 : decode cX2_readMark 31 = .ok (.iconst 0, 1) := by decide +kernel
theorem dX2_readMark_32 : decode cX2_readMark 32 = .ok (.ireturn, 1) := by decide +kernel
theorem dX2_readMark_33 : decode cX2_readMark 33 = .ok (.aload_n 0, 1) := by decide +kernel
theorem dX2_readMark_34 : decode cX2_readMark 34 = .ok (.getfield 25, 3) := by decide +kernel
theorem dX2_readMark_37 : decode cX2_readMark 37 = .ok (.aload_n 0, 1) := by decide +kernel
theorem dX2_readMark_38 : decode cX2_readMark 38 = .ok (.getfield 21, 3) := by decide +kernel
theorem dX2_readMark_41 : decode cX2_readMark 41 = .ok (.if_icmp .ge 33, 3) := by decide +kernel
theorem dX2_readMark_44 : decode cX2_readMark 44 = .ok (.aload_n 1, 1) := by decide +kernel
theorem dX2_readMark_45 : decode cX2_readMark 45 = .ok (.getfield 202, 3) := by decide +kernel
theorem dX2_readMark_48 : decode cX2_readMark 48 = .ok (.aload_n 1, 1) := by decide +kernel
theorem dX2_readMark_49 : decode cX2_readMark 49 = .ok (.getfield 199, 3) := by decide +kernel
theorem dX2_readMark_52 : decode cX2_readMark 52 = .ok (.aload_n 0, 1) := by decide +kernel
theorem dX2_readMark_53 : decode cX2_readMark 53 = .ok (.getfield 15, 3) := by decide +kernel
theorem dX2_readMark_56 : decode cX2_readMark 56 = .ok (.aload_n 0, 1) := by decide +kernel
theorem dX2_readMark_57 : decode cX2_readMark 57 = .ok (.getfield 25, 3) := by decide +kernel
theorem dX2_readMark_60 : decode cX2_readMark 60 = .ok (.iaload, 1) := by decide +kernel
theorem dX2_readMark_61 : decode cX2_readMark 61 = .ok (.iconst 0, 1) := by decide +kernel
theorem dX2_readMark_62 : decode cX2_readMark 62 = .ok (.invokestatic 205, 3) := by decide +kernel
theorem dX2_readMark_65 : decode cX2_readMark 65 = .ok (.ifCond .eq 9, 3) := by decide +kernel
theorem dX2_readMark_68 : decode cX2_readMark 68 = .ok (.aload_n 0, 1) := by decide +kernel
theorem dX2_readMark_69 : decode cX2_readMark 69 = .ok (.iconst 4, 1) := by decide +kernel
theorem dX2_readMark_70 : decode cX2_readMark 70 = .ok (.invokevirtual 115, 3) := by decide +kernel
theorem dX2_readMark_73 : decode cX2_readMark 73 = .ok (.ireturn, 1) := by decide +kernel
theorem dX2_readMark_74 : decode cX2_readMark 74 = .ok (.aload_n 1, 1) := by decide +kernel
theorem dX2_readMark_75 : decode cX2_readMark 75 = .ok (.aload_n 0, 1) := by decide +kernel
theorem dX2_readMark_76 : decode cX2_readMark 76 = .ok (.invokevirtual 129, 3) := by decide +kernel
theorem dX2_readMark_79 : decode cX2_readMark 79 = .ok (.invokevirtual 209, 3) := by decide +kernel
theorem dX2_readMark_82 : decode cX2_readMark 82 = .ok (.aload_n 0, 1) := by decide +kernel
theorem dX2_readMark_83 : decode cX2_readMark 83 = .ok (.invokevirtual 136, 3) := by decide +kernel
theorem dX2_readMark_86 : decode cX2_readMark 86 = .ok (.ireturn, 1) := by decide +kernel
def f_Re_readMark_2_21  (σ : xS) : Option (Int32 × xS) :=
  if σ.1 21 8 < (6 : Int32) then
    (f_Re_advance_2  σ).bind fun q1 =>
    (f_Re_isNumber_2 (12 : Int32) (480 : Int32) q1.2).bind fun q2 =>
    if q2.1 = 0 then
      some ((0 : Int32), q2.2)
    else
      if q2.2.1 2 3 ≤ q2.2.1 2 4 then
        (f_Re_takeNumber_2  q2.2).bind fun q3 =>
        (f_Sc_addMark_21 q3.1 q3.2).bind fun q4 =>
        (f_Re_readEnd_2  q4.2).bind fun q5 =>
        x_ok (q5.1 = 0 ∨ q5.1 = 1) <|
        some (q5.1, q5.2)
      else
        if q2.2.1 2 4 < 0 ∨ 701 ≤ (q2.2.1 2 4).toNatClampNeg then none else
        (f_RH_isNearMark_26 (q2.2.1 21 8) (q2.2.1 4 (q2.2.1 2 4).toNatClampNeg) (0 : Int32) q2.2).bind fun q6 =>
        if q6.1 = 0 then
          (f_Re_takeNumber_2  q6.2).bind fun q7 =>
          (f_Sc_addMark_21 q7.1 q7.2).bind fun q8 =>
          (f_Re_readEnd_2  q8.2).bind fun q9 =>
          x_ok (q9.1 = 0 ∨ q9.1 = 1) <|
          some (q9.1, q9.2)
        else
          (f_Re_refuse_2 (4 : Int32) q6.2).bind fun q10 =>
          x_ok (q10.1 = 0 ∨ q10.1 = 1) <|
          some (q10.1, q10.2)
  else
    (f_Re_refuse_2 (2 : Int32) σ).bind fun q11 =>
    x_ok (q11.1 = 0 ∨ q11.1 = 1) <|
    some (q11.1, q11.2)
set_option maxHeartbeats 4000000 in
set_option maxRecDepth 100000 in
theorem c_Re_readMark_2_21 {l : Launch} {s0 : State} {a0 : Array Value} {D : va_G} {cA : Nat → ClassId} {sp : Nat → Nat} (E : x_En CL l s0 a0 D cA sp)  {σ : xS} {r : Int32} {σ1 : xS} (h : f_Re_readMark_2_21  σ = some (r, σ1)) : zC l s0 D cA sp 3 M_Re_readMark [.ref 2, .ref 21] σ (some (.int r)) σ1 := by
  unfold f_Re_readMark_2_21 at h
  try dsimp only at h
  refine x_enter [some (.ref 2), some (.ref 21)] rfl (Nat.le_of_ble_eq_true rfl) (by decide +kernel) rfl ?_
  refine x_aload_n 1 rfl 1 dX2_readMark_0 rfl rfl ?_
  refine x_getI E dX2_readMark_1 F_RX2_199 sh_21 4 rfl ?_
  refine x_bipush 6 rfl (v := 6) dX2_readMark_4 (by decide) ?_
  refine x_icmp_lt 9 rfl 15 dX2_readMark_6 (by decide) (fun hc => ?_) (fun hc => ?_)
  · replace h := x_ifT hc h
    refine x_aload_n 16 rfl 0 dX2_readMark_15 rfl rfl ?_
    obtain ⟨⟨q1r, q1s⟩, q1h, h⟩ := x_bind h
    try dsimp only at h
    refine z_callV E [] [] dX2_readMark_16 K_RX2_118 ⟨Nat.le_of_ble_eq_true rfl, Nat.le_of_ble_eq_true rfl⟩ sh_2 (by decide) rfl (c_Re_advance_2 E  q1h) rfl rfl (Nat.le_of_ble_eq_true rfl) 19 rfl [] rfl ?_
    refine x_aload_n 20 rfl 0 dX2_readMark_19 rfl rfl ?_
    refine x_bipush 22 rfl (v := 12) dX2_readMark_20 (by decide) ?_
    refine x_sipush 25 rfl (v := 480) dX2_readMark_22 (by decide) ?_
    obtain ⟨⟨q2r, q2s⟩, q2h, h⟩ := x_bind h
    try dsimp only at h
    refine z_callV E [.int _, .int _] [] dX2_readMark_25 K_RX2_125 ⟨Nat.le_of_ble_eq_true rfl, Nat.le_of_ble_eq_true rfl⟩ sh_2 (by decide) rfl (c_Re_isNumber_2 E _ _ q2h) rfl rfl (Nat.le_of_ble_eq_true rfl) 28 rfl [.int _] rfl ?_
    refine x_if_ne 31 rfl 33 dX2_readMark_28 (by decide) (fun hc => ?_) (fun hc => ?_)
    · replace h := x_ifF hc h
      refine x_aload_n 34 rfl 0 dX2_readMark_33 rfl rfl ?_
      refine x_getI E dX2_readMark_34 F_RX2_25 sh_2 37 rfl ?_
      refine x_aload_n 38 rfl 0 dX2_readMark_37 rfl rfl ?_
      refine x_getI E dX2_readMark_38 F_RX2_21 sh_2 41 rfl ?_
      refine x_icmp_ge 44 rfl 74 dX2_readMark_41 (by decide) (fun hc => ?_) (fun hc => ?_)
      · replace h := x_ifT hc h
        refine x_aload_n 75 rfl 1 dX2_readMark_74 rfl rfl ?_
        refine x_aload_n 76 rfl 0 dX2_readMark_75 rfl rfl ?_
        obtain ⟨⟨q3r, q3s⟩, q3h, h⟩ := x_bind h
        try dsimp only at h
        refine z_callV E [] [.ref 21] dX2_readMark_76 K_RX2_129 ⟨Nat.le_of_ble_eq_true rfl, Nat.le_of_ble_eq_true rfl⟩ sh_2 (by decide) rfl (c_Re_takeNumber_2 E  q3h) rfl rfl (Nat.le_of_ble_eq_true rfl) 79 rfl [.int _, .ref 21] rfl ?_
        obtain ⟨⟨q4r, q4s⟩, q4h, h⟩ := x_bind h
        try dsimp only at h
        refine z_callV E [.int _] [] dX2_readMark_79 K_RX2_209 ⟨Nat.le_of_ble_eq_true rfl, Nat.le_of_ble_eq_true rfl⟩ sh_21 (by decide) rfl (c_Sc_addMark_21 E _ q4h) rfl rfl (Nat.le_of_ble_eq_true rfl) 82 rfl [] rfl ?_
        refine x_aload_n 83 rfl 0 dX2_readMark_82 rfl rfl ?_
        obtain ⟨⟨q5r, q5s⟩, q5h, h⟩ := x_bind h
        try dsimp only at h
        refine z_callV E [] [] dX2_readMark_83 K_RX2_136 ⟨Nat.le_of_ble_eq_true rfl, Nat.le_of_ble_eq_true rfl⟩ sh_2 (by decide) rfl (c_Re_readEnd_2 E  q5h) rfl rfl (Nat.le_of_ble_eq_true rfl) 86 rfl [.int _] rfl ?_
        obtain ⟨hz, h⟩ := x_ift h
        cases h
        exact x_zret hz dX2_readMark_86 rfl rfl rfl
      · replace h := x_ifF hc h
        refine x_aload_n 45 rfl 1 dX2_readMark_44 rfl rfl ?_
        refine x_getR E dX2_readMark_45 F_RX2_202 sh_21 rf_21_10 48 rfl ?_
        refine x_aload_n 49 rfl 1 dX2_readMark_48 rfl rfl ?_
        refine x_getI E dX2_readMark_49 F_RX2_199 sh_21 52 rfl ?_
        refine x_aload_n 53 rfl 0 dX2_readMark_52 rfl rfl ?_
        refine x_getR E dX2_readMark_53 F_RX2_15 sh_2 rf_2_1 56 rfl ?_
        refine x_aload_n 57 rfl 0 dX2_readMark_56 rfl rfl ?_
        refine x_getI E dX2_readMark_57 F_RX2_25 sh_2 60 rfl ?_
        obtain ⟨hz, h⟩ := x_ifn h
        refine x_iald E dX2_readMark_60 sh_4 _ rfl hz 61 rfl ?_
        refine x_iconst 62 rfl (v := 0) dX2_readMark_61 (by decide) ?_
        obtain ⟨⟨q6r, q6s⟩, q6h, h⟩ := x_bind h
        try dsimp only at h
        refine z_callT E [.ref 26, .int _, .int _, .int _] [] dX2_readMark_62 K_RX2_205 ⟨Nat.le_of_ble_eq_true rfl, Nat.le_of_ble_eq_true rfl⟩ (c_RH_isNearMark_26 E _ _ _ q6h) rfl rfl (Nat.le_of_ble_eq_true rfl) 65 rfl [.int _] rfl ?_
        refine x_if_eq 68 rfl 74 dX2_readMark_65 (by decide) (fun hc => ?_) (fun hc => ?_)
        · replace h := x_ifT hc h
          refine x_aload_n 75 rfl 1 dX2_readMark_74 rfl rfl ?_
          refine x_aload_n 76 rfl 0 dX2_readMark_75 rfl rfl ?_
          obtain ⟨⟨q7r, q7s⟩, q7h, h⟩ := x_bind h
          try dsimp only at h
          refine z_callV E [] [.ref 21] dX2_readMark_76 K_RX2_129 ⟨Nat.le_of_ble_eq_true rfl, Nat.le_of_ble_eq_true rfl⟩ sh_2 (by decide) rfl (c_Re_takeNumber_2 E  q7h) rfl rfl (Nat.le_of_ble_eq_true rfl) 79 rfl [.int _, .ref 21] rfl ?_
          obtain ⟨⟨q8r, q8s⟩, q8h, h⟩ := x_bind h
          try dsimp only at h
          refine z_callV E [.int _] [] dX2_readMark_79 K_RX2_209 ⟨Nat.le_of_ble_eq_true rfl, Nat.le_of_ble_eq_true rfl⟩ sh_21 (by decide) rfl (c_Sc_addMark_21 E _ q8h) rfl rfl (Nat.le_of_ble_eq_true rfl) 82 rfl [] rfl ?_
          refine x_aload_n 83 rfl 0 dX2_readMark_82 rfl rfl ?_
          obtain ⟨⟨q9r, q9s⟩, q9h, h⟩ := x_bind h
          try dsimp only at h
          refine z_callV E [] [] dX2_readMark_83 K_RX2_136 ⟨Nat.le_of_ble_eq_true rfl, Nat.le_of_ble_eq_true rfl⟩ sh_2 (by decide) rfl (c_Re_readEnd_2 E  q9h) rfl rfl (Nat.le_of_ble_eq_true rfl) 86 rfl [.int _] rfl ?_
          obtain ⟨hz, h⟩ := x_ift h
          cases h
          exact x_zret hz dX2_readMark_86 rfl rfl rfl
        · replace h := x_ifF hc h
          refine x_aload_n 69 rfl 0 dX2_readMark_68 rfl rfl ?_
          refine x_iconst 70 rfl (v := 4) dX2_readMark_69 (by decide) ?_
          obtain ⟨⟨q10r, q10s⟩, q10h, h⟩ := x_bind h
          try dsimp only at h
          refine z_callV E [.int _] [] dX2_readMark_70 K_RX2_115 ⟨Nat.le_of_ble_eq_true rfl, Nat.le_of_ble_eq_true rfl⟩ sh_2 (by decide) rfl (c_Re_refuse_2 E _ q10h) rfl rfl (Nat.le_of_ble_eq_true rfl) 73 rfl [.int _] rfl ?_
          obtain ⟨hz, h⟩ := x_ift h
          cases h
          exact x_zret hz dX2_readMark_73 rfl rfl rfl
    · replace h := x_ifT hc h
      refine x_iconst 32 rfl (v := 0) dX2_readMark_31 (by decide) ?_
      cases h
      exact x_zret (Or.inl rfl) dX2_readMark_32 rfl rfl rfl
  · replace h := x_ifF hc h
    refine x_aload_n 10 rfl 0 dX2_readMark_9 rfl rfl ?_
    refine x_iconst 11 rfl (v := 2) dX2_readMark_10 (by decide) ?_
    obtain ⟨⟨q11r, q11s⟩, q11h, h⟩ := x_bind h
    try dsimp only at h
    refine z_callV E [.int _] [] dX2_readMark_11 K_RX2_115 ⟨Nat.le_of_ble_eq_true rfl, Nat.le_of_ble_eq_true rfl⟩ sh_2 (by decide) rfl (c_Re_refuse_2 E _ q11h) rfl rfl (Nat.le_of_ble_eq_true rfl) 14 rfl [.int _] rfl ?_
    obtain ⟨hz, h⟩ := x_ift h
    cases h
    exact x_zret hz dX2_readMark_14 rfl rfl rfl
