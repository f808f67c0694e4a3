/-! The class's methods: functions and contracts. Written by wip/gen/emit.py. -/
theorem K_RX2_259 : x_KV RX2 259 M_Re_readProduct 3 := ⟨⟨(List.mem_append_right _ (List.mem_of_getElem? (i := 840) (by decide +kernel))), (List.mem_append_right _ (List.mem_of_getElem? (i := 843) (by decide +kernel))), (List.mem_append_right _ (List.mem_of_getElem? (i := 2) (by decide +kernel))), ⟨by decide +kernel, by decide +kernel⟩, by decide +kernel⟩, (List.mem_append_right _ (List.mem_of_getElem? (i := 842) (by decide +kernel))), (List.mem_append_left _ (List.mem_of_getElem? (i := 39) (by decide +kernel)))⟩
abbrev M_Re_readSum : xM := (yX2_readSum, cX2_readSum, 6, some .boolean, [])
theorem dX2_readSum_0 : decode cX2_readSum 0 = .ok (.aload_n 0, 1) := by decide +kernel
theorem dX2_readSum_1 : decode cX2_readSum 1 = .ok (.aload_n 1, 1) := by decide +kernel
theorem dX2_readSum_2 : decode cX2_readSum 2 = .ok (.iload_n 2, 1) := by decide +kernel
theorem dX2_readSum_3 : decode cX2_readSum 3 = .ok (.iload_n 3, 1) := by decide +kernel
theorem dX2_readSum_4 : decode cX2_readSum 4 = .ok (.invokevirtual 259, 3) := by decide +kernel
theorem dX2_readSum_7 : decode cX2_readSum 7 = .ok (.ifCond .ne 5, 3) := by decide +kernel
theorem dX2_readSum_10 : decode cX2_readSum 10 = .ok (.iconst 0, 1) := by decide +kernel
theorem dX2_readSum_11 : decode cX2_readSum 11 = .ok (.ireturn, 1) := by decide +kernel
theorem dX2_readSum_12 : decode cX2_readSum 12 = .ok (.iconst 0, 1) := by decide +kernel
theorem dX2_readSum_13 : decode cX2_readSum 13 = .ok (.istore 4, 2) := by decide +kernel
theorem dX2_readSum_15 : decode cX2_readSum 15 = .ok (.iload 4, 2) := by decide +kernel
theorem dX2_readSum_17 : decode cX2_readSum 17 = .ok (.aload_n 0, 1) := by decide +kernel
theorem dX2_readSum_18 : decode cX2_readSum 18 = .ok (.getfield 21, 3) := by decide +kernel
theorem dX2_readSum_21 : decode cX2_readSum 21 = .ok (.if_icmp .ge 66, 3) := by decide +kernel
theorem dX2_readSum_24 : decode cX2_readSum 24 = .ok (.aload_n 0, 1) := by decide +kernel
theorem dX2_readSum_25 : decode cX2_readSum 25 = .ok (.bipush 43, 2) := by decide +kernel
theorem dX2_readSum_27 : decode cX2_readSum 27 = .ok (.invokevirtual 121, 3) := by decide +kernel
theorem dX2_readSum_30 : decode cX2_readSum 30 = .ok (.ifCond .ne 12, 3) := by decide +kernel
theorem dX2_readSum_33 : decode cX2_readSum 33 = .ok (.aload_n 0, 1) := by decide +kernel
theorem dX2_readSum_34 : decode cX2_readSum 34 = .ok (.bipush 45, 2) := by decide +kernel
theorem dX2_readSum_36 : decode cX2_readSum 36 = .ok (.invokevirtual 121, 3) := by decide +kernel
theorem dX2_readSum_39 : decode cX2_readSum 39 = .ok (.ifCond .eq 48, 3) := by decide +kernel
theorem dX2_readSum_42 : decode cX2_readSum 42 = .ok (.aload_n 0, 1) := by decide +kernel
theorem dX2_readSum_43 : decode cX2_readSum 43 = .ok (.bipush 43, 2) := by decide +kernel
theorem dX2_readSum_45 : decode cX2_readSum 45 = .ok (.invokevirtual 121, 3) := by decide +kernel
theorem dX2_readSum_48 : decode cX2_readSum 48 = .ok (.ifCond .eq 7, 3) := by decide +kernel
theorem dX2_readSum_51 : decode cX2_readSum 51 = .ok (.iconst (-1), 1) := by decide +kernel
theorem dX2_readSum_52 : decode cX2_readSum 52 = .ok (.goto 5, 3) := by decide +kernel
theorem dX2_readSum_55 : decode cX2_readSum 55 = .ok (.bipush (-2), 2) := by decide +kernel
theorem dX2_readSum_57 : decode cX2_readSum 57 = .ok (.istore 5, 2) := by decide +kernel
theorem dX2_readSum_59 : decode cX2_readSum 59 = .ok (.aload_n 0, 1) := by decide +kernel
theorem dX2_readSum_60 : decode cX2_readSum 60 = .ok (.invokevirtual 118, 3) := by decide +kernel
theorem dX2_readSum_63 : decode cX2_readSum 63 = .ok (.aload_n 0, 1) := by decide +kernel
theorem dX2_readSum_64 : decode cX2_readSum 64 = .ok (.aload_n 1, 1) := by decide +kernel
theorem dX2_readSum_65 : decode cX2_readSum 65 = .ok (.iload_n 2, 1) := by decide +kernel
theorem dX2_readSum_66 : decode cX2_readSum 66 = .ok (.iload_n 3, 1) := by decide +kernel
theorem dX2_readSum_67 : decode cX2_readSum 67 = .ok (.invokevirtual 259, 3) := by decide +kernel
theorem dX2_readSum_70 : decode cX2_readSum 70 = .ok (.ifCond .ne 5, 3) := by decide +kernel
theorem dX2_readSum_73 : decode cX2_readSum 73 = .ok (.iconst 0, 1) := by decide +kernel
theorem dX2_readSum_74 : decode cX2_readSum 74 = .ok (.ireturn, 1) := by decide +kernel
theorem dX2_readSum_75 : decode cX2_readSum 75 = .ok (.aload_n 1, 1) := by decide +kernel
theorem dX2_readSum_76 : decode cX2_readSum 76 = .ok (.iload 5, 2) := by decide +kernel
theorem dX2_readSum_78 : decode cX2_readSum 78 = .ok (.invokevirtual 241, 3) := by decide +kernel
theorem dX2_readSum_81 : decode cX2_readSum 81 = .ok (.iinc 4 1, 3) := by decide +kernel
theorem dX2_readSum_84 : decode cX2_readSum 84 = .ok (.goto (-69), 3) := by decide +kernel
theorem dX2_readSum_87 : decode cX2_readSum 87 = .ok (.iconst 1, 1) := by decide +kernel
theorem dX2_readSum_88 : decode cX2_readSum 88 = .ok (.ireturn, 1) := by decide +kernel
def f_Re_readSum_2_27_J57 (rec : Int32 → Int32 → xS → Option (Int32 × xS)) (v2 : Int32) (v3 : Int32) (v4 : Int32) (y0 : Int32) (σ : xS) : Option (((Int32 × xS) ⊕ (Int32 × xS)) ⊕ (Int32 × xS)) :=
  (f_Re_advance_2  σ).bind fun q1 =>
  (f_Re_readProduct_2_27 rec v2 v3 q1.2).bind fun q2 =>
  if q2.1 = 0 then
    some (.inl (.inl ((0 : Int32), q2.2)))
  else
    (f_Ru_add_27 y0 q2.2).bind fun q3 =>
    let w4 := v4 + (1 : Int32)
    some (.inr (w4, q3.2))
def f_Re_readSum_2_27_J42 (rec : Int32 → Int32 → xS → Option (Int32 × xS)) (v2 : Int32) (v3 : Int32) (v4 : Int32) (σ : xS) : Option (((Int32 × xS) ⊕ (Int32 × xS)) ⊕ (Int32 × xS)) :=
  (f_Re_isSign_2 (43 : Int32) σ).bind fun q5 =>
  if q5.1 = 0 then
    f_Re_readSum_2_27_J57 rec v2 v3 v4 (-2 : Int32) q5.2
  else
    f_Re_readSum_2_27_J57 rec v2 v3 v4 (-1 : Int32) q5.2
def f_Re_readSum_2_27_L15 (rec : Int32 → Int32 → xS → Option (Int32 × xS)) (v2 : Int32) (v3 : Int32) (a : Int32 × xS) : Option (((Int32 × xS) ⊕ (Int32 × xS)) ⊕ (Int32 × xS)) :=
  let v4 := a.1; let σ := a.2;
  if σ.1 2 3 ≤ v4 then
    some (.inl (.inr (v4, σ)))
  else
    (f_Re_isSign_2 (43 : Int32) σ).bind fun q6 =>
    if q6.1 = 0 then
      (f_Re_isSign_2 (45 : Int32) q6.2).bind fun q7 =>
      if q7.1 = 0 then
        some (.inl (.inr (v4, q7.2)))
      else
        f_Re_readSum_2_27_J42 rec v2 v3 v4 q7.2
    else
      f_Re_readSum_2_27_J42 rec v2 v3 v4 q6.2
def f_Re_readSum_2_27 (rec : Int32 → Int32 → xS → Option (Int32 × xS)) (v2 : Int32) (v3 : Int32) (σ : xS) : Option (Int32 × xS) :=
  (f_Re_readProduct_2_27 rec v2 v3 σ).bind fun q8 =>
  if q8.1 = 0 then
    some ((0 : Int32), q8.2)
  else
    (x_it (f_Re_readSum_2_27_L15 rec v2 v3) 10000 ((0 : Int32), q8.2)).bind fun b9 =>
    match b9 with
    | .inl b9r => some b9r
    | .inr b9e =>
      some ((1 : Int32), b9e.2)
set_option maxHeartbeats 4000000 in
set_option maxRecDepth 100000 in
theorem j_Re_readSum_2_27_J57 {l : Launch} {s0 : State} {a0 : Array Value} {D : va_G} {cA : Nat → ClassId} {sp : Nat → Nat} (E : x_En CL l s0 a0 D cA sp) (S : x_Sw s0 sp) {dR : Nat} {rec : Int32 → Int32 → xS → Option (Int32 × xS)} (hrec : ∀ (v2 v3 : Int32) (σ : xS) (r : Int32) (σ1 : xS), rec v2 v3 σ = some (r, σ1) → zC l s0 D cA sp dR M_Re_readExpr [.ref 2, .ref 27, .int v2, .int v3] σ (some (.int r)) σ1) (v2 : Int32) (v3 : Int32) (v4 : Int32) (y0 : Int32)  (σ : xS) {r : Int32} {σ1 : xS} (o : ((Int32 × xS) ⊕ (Int32 × xS)) ⊕ (Int32 × xS)) (h : f_Re_readSum_2_27_J57 rec v2 v3 v4 y0 σ = some o) (hK : ∀ b, o = .inl b → (∀ q, b = .inl q → q = (r, σ1)) ∧ ∀ e, b = .inr e → zW l s0 D cA sp (zQ s0 D cA sp (some (.int r)) σ1) (x_rm (dR + 5) 0 0) M_Re_readSum 0 0 87 [none, none, none, none, none, none] [] e.2) (hG : ∀ a', o = .inr a' → zW l s0 D cA sp (zQ s0 D cA sp (some (.int r)) σ1) (x_rm (dR + 5) 0 0) M_Re_readSum 0 0 15 [some (.ref 2), some (.ref 27), some (.int v2), some (.int v3), some (.int a'.1), none] [] a'.2) : zW l s0 D cA sp (zQ s0 D cA sp (some (.int r)) σ1) (x_rm (dR + 5) 0 0) M_Re_readSum 0 0 57 [some (.ref 2), some (.ref 27), some (.int v2), some (.int v3), some (.int v4), none] [.int y0] σ := by
  unfold f_Re_readSum_2_27_J57 at h
  try dsimp only at h
  refine x_istore 59 rfl dX2_readSum_57 (by decide) [some (.ref 2), some (.ref 27), some (.int _), some (.int _), some (.int _), some (.int _)] rfl ?_
  refine x_aload_n 60 rfl 0 dX2_readSum_59 rfl rfl ?_
  obtain ⟨⟨q1r, q1s⟩, q1h, h⟩ := x_bind h
  try dsimp only at h
  refine z_callV E [] [] dX2_readSum_60 K_RX2_118 (x_fitC (Nat.le_of_ble_eq_true rfl) (Nat.le_of_ble_eq_true rfl)) sh_2 (by decide) rfl (c_Re_advance_2 E  q1h) rfl rfl (Nat.le_of_ble_eq_true rfl) 63 rfl [] rfl ?_
  refine x_aload_n 64 rfl 0 dX2_readSum_63 rfl rfl ?_
  refine x_aload_n 65 rfl 1 dX2_readSum_64 rfl rfl ?_
  refine x_iload_n 66 rfl 2 dX2_readSum_65 rfl rfl ?_
  refine x_iload_n 67 rfl 3 dX2_readSum_66 rfl rfl ?_
  obtain ⟨⟨q2r, q2s⟩, q2h, h⟩ := x_bind h
  try dsimp only at h
  refine z_callV E [.ref 27, .int _, .int _] [] dX2_readSum_67 K_RX2_259 (x_fitR (a := 4) (Nat.le_of_ble_eq_true rfl) (Nat.le_of_ble_eq_true rfl)) sh_2 (by decide) rfl (c_Re_readProduct_2_27 E S hrec _ _ q2h) rfl rfl (Nat.le_of_ble_eq_true rfl) 70 rfl [.int _] rfl ?_
  refine x_if_ne 73 rfl 75 dX2_readSum_70 (by decide) (fun hc => ?_) (fun hc => ?_)
  · replace h := x_ifF hc h
    refine x_aload_n 76 rfl 1 dX2_readSum_75 rfl rfl ?_
    refine x_iload 78 rfl dX2_readSum_76 rfl ?_
    obtain ⟨⟨q3r, q3s⟩, q3h, h⟩ := x_bind h
    try dsimp only at h
    refine z_callV E [.int _] [] dX2_readSum_78 K_RX2_241 (x_fitC (Nat.le_of_ble_eq_true rfl) (Nat.le_of_ble_eq_true rfl)) sh_27 (by decide) rfl (c_Ru_add_27 E _ q3h) rfl rfl (Nat.le_of_ble_eq_true rfl) 81 rfl [] rfl ?_
    refine x_iinc 84 rfl (1) dX2_readSum_81 rfl (by decide) (by decide) [some (.ref 2), some (.ref 27), some (.int _), some (.int _), some (.int _), some (.int _)] rfl ?_
    refine x_goto 15 dX2_readSum_84 (by decide) ?_
    cases h
    exact x_wk (x_le_s (x_le_s (x_le_s (x_le_s (x_le_s (x_le_n x_le_0)))))) (hG (_, _) rfl)
  · replace h := x_ifT hc h
    refine x_iconst 74 rfl (v := 0) dX2_readSum_73 (by decide) ?_
    cases h
    cases (hK (.inl (_, _)) rfl).1 (_, _) rfl
    exact x_zret (Or.inl rfl) dX2_readSum_74 rfl rfl rfl
set_option maxHeartbeats 4000000 in
set_option maxRecDepth 100000 in
theorem j_Re_readSum_2_27_J42 {l : Launch} {s0 : State} {a0 : Array Value} {D : va_G} {cA : Nat → ClassId} {sp : Nat → Nat} (E : x_En CL l s0 a0 D cA sp) (S : x_Sw s0 sp) {dR : Nat} {rec : Int32 → Int32 → xS → Option (Int32 × xS)} (hrec : ∀ (v2 v3 : Int32) (σ : xS) (r : Int32) (σ1 : xS), rec v2 v3 σ = some (r, σ1) → zC l s0 D cA sp dR M_Re_readExpr [.ref 2, .ref 27, .int v2, .int v3] σ (some (.int r)) σ1) (v2 : Int32) (v3 : Int32) (v4 : Int32)  (σ : xS) {r : Int32} {σ1 : xS} (o : ((Int32 × xS) ⊕ (Int32 × xS)) ⊕ (Int32 × xS)) (h : f_Re_readSum_2_27_J42 rec v2 v3 v4 σ = some o) (hK : ∀ b, o = .inl b → (∀ q, b = .inl q → q = (r, σ1)) ∧ ∀ e, b = .inr e → zW l s0 D cA sp (zQ s0 D cA sp (some (.int r)) σ1) (x_rm (dR + 5) 0 0) M_Re_readSum 0 0 87 [none, none, none, none, none, none] [] e.2) (hG : ∀ a', o = .inr a' → zW l s0 D cA sp (zQ s0 D cA sp (some (.int r)) σ1) (x_rm (dR + 5) 0 0) M_Re_readSum 0 0 15 [some (.ref 2), some (.ref 27), some (.int v2), some (.int v3), some (.int a'.1), none] [] a'.2) : zW l s0 D cA sp (zQ s0 D cA sp (some (.int r)) σ1) (x_rm (dR + 5) 0 0) M_Re_readSum 0 0 42 [some (.ref 2), some (.ref 27), some (.int v2), some (.int v3), some (.int v4), none] [] σ := by
  unfold f_Re_readSum_2_27_J42 at h
  try dsimp only at h
  refine x_aload_n 43 rfl 0 dX2_readSum_42 rfl rfl ?_
  refine x_bipush 45 rfl (v := 43) dX2_readSum_43 (by decide) ?_
  obtain ⟨⟨q5r, q5s⟩, q5h, h⟩ := x_bind h
  try dsimp only at h
  refine z_callV E [.int _] [] dX2_readSum_45 K_RX2_121 (x_fitC (Nat.le_of_ble_eq_true rfl) (Nat.le_of_ble_eq_true rfl)) sh_2 (by decide) rfl (c_Re_isSign_2 E _ q5h) rfl rfl (Nat.le_of_ble_eq_true rfl) 48 rfl [.int _] rfl ?_
  refine x_if_eq 51 rfl 55 dX2_readSum_48 (by decide) (fun hc => ?_) (fun hc => ?_)
  · replace h := x_ifT hc h
    refine x_bipush 57 rfl (v := -2) dX2_readSum_55 (by decide) ?_
    exact x_wk (x_le_s (x_le_s (x_le_s (x_le_s (x_le_s (x_le_n x_le_0)))))) (j_Re_readSum_2_27_J57 (r := r) (σ1 := σ1) E S hrec _ _ _ _  _ _ h hK hG)
  · replace h := x_ifF hc h
    refine x_iconst 52 rfl (v := -1) dX2_readSum_51 (by decide) ?_
    refine x_goto 57 dX2_readSum_52 (by decide) ?_
    exact x_wk (x_le_s (x_le_s (x_le_s (x_le_s (x_le_s (x_le_n x_le_0)))))) (j_Re_readSum_2_27_J57 (r := r) (σ1 := σ1) E S hrec _ _ _ _  _ _ h hK hG)
set_option maxHeartbeats 4000000 in
set_option maxRecDepth 100000 in
theorem b_Re_readSum_2_27_L15 {l : Launch} {s0 : State} {a0 : Array Value} {D : va_G} {cA : Nat → ClassId} {sp : Nat → Nat} (E : x_En CL l s0 a0 D cA sp) (S : x_Sw s0 sp) {dR : Nat} {rec : Int32 → Int32 → xS → Option (Int32 × xS)} (hrec : ∀ (v2 v3 : Int32) (σ : xS) (r : Int32) (σ1 : xS), rec v2 v3 σ = some (r, σ1) → zC l s0 D cA sp dR M_Re_readExpr [.ref 2, .ref 27, .int v2, .int v3] σ (some (.int r)) σ1) (v2 : Int32) (v3 : Int32) {r : Int32} {σ1 : xS} (a : Int32 × xS) (o : ((Int32 × xS) ⊕ (Int32 × xS)) ⊕ (Int32 × xS)) (h : f_Re_readSum_2_27_L15 rec v2 v3 a = some o) (hK : ∀ b, o = .inl b → (∀ q, b = .inl q → q = (r, σ1)) ∧ ∀ e, b = .inr e → zW l s0 D cA sp (zQ s0 D cA sp (some (.int r)) σ1) (x_rm (dR + 5) 0 0) M_Re_readSum 0 0 87 [none, none, none, none, none, none] [] e.2) (hG : ∀ a', o = .inr a' → zW l s0 D cA sp (zQ s0 D cA sp (some (.int r)) σ1) (x_rm (dR + 5) 0 0) M_Re_readSum 0 0 15 [some (.ref 2), some (.ref 27), some (.int v2), some (.int v3), some (.int a'.1), none] [] a'.2) : zW l s0 D cA sp (zQ s0 D cA sp (some (.int r)) σ1) (x_rm (dR + 5) 0 0) M_Re_readSum 0 0 15 [some (.ref 2), some (.ref 27), some (.int v2), some (.int v3), some (.int a.1), none] [] a.2 := by
  obtain ⟨v4, σ⟩ := a
  unfold f_Re_readSum_2_27_L15 at h
  try dsimp only at h ⊢
  refine x_iload 17 rfl dX2_readSum_15 rfl ?_
  refine x_aload_n 18 rfl 0 dX2_readSum_17 rfl rfl ?_
  refine x_getI E dX2_readSum_18 F_RX2_21 sh_2 21 rfl ?_
  refine x_icmp_ge 24 rfl 87 dX2_readSum_21 (by decide) (fun hc => ?_) (fun hc => ?_)
  · replace h := x_ifT hc h
    cases h
    exact x_wk (x_le_n (x_le_n (x_le_n (x_le_n (x_le_n (x_le_n x_le_0)))))) ((hK (.inr (_, _)) rfl).2 (_, _) rfl)
  · replace h := x_ifF hc h
    refine x_aload_n 25 rfl 0 dX2_readSum_24 rfl rfl ?_
    refine x_bipush 27 rfl (v := 43) dX2_readSum_25 (by decide) ?_
    obtain ⟨⟨q6r, q6s⟩, q6h, h⟩ := x_bind h
    try dsimp only at h
    refine z_callV E [.int _] [] dX2_readSum_27 K_RX2_121 (x_fitC (Nat.le_of_ble_eq_true rfl) (Nat.le_of_ble_eq_true rfl)) sh_2 (by decide) rfl (c_Re_isSign_2 E _ q6h) rfl rfl (Nat.le_of_ble_eq_true rfl) 30 rfl [.int _] rfl ?_
    refine x_if_ne 33 rfl 42 dX2_readSum_30 (by decide) (fun hc => ?_) (fun hc => ?_)
    · replace h := x_ifF hc h
      exact x_wk (x_le_s (x_le_s (x_le_s (x_le_s (x_le_s (x_le_n x_le_0)))))) (j_Re_readSum_2_27_J42 (r := r) (σ1 := σ1) E S hrec _ _ _  _ _ h hK hG)
    · replace h := x_ifT hc h
      refine x_aload_n 34 rfl 0 dX2_readSum_33 rfl rfl ?_
      refine x_bipush 36 rfl (v := 45) dX2_readSum_34 (by decide) ?_
      obtain ⟨⟨q7r, q7s⟩, q7h, h⟩ := x_bind h
      try dsimp only at h
      refine z_callV E [.int _] [] dX2_readSum_36 K_RX2_121 (x_fitC (Nat.le_of_ble_eq_true rfl) (Nat.le_of_ble_eq_true rfl)) sh_2 (by decide) rfl (c_Re_isSign_2 E _ q7h) rfl rfl (Nat.le_of_ble_eq_true rfl) 39 rfl [.int _] rfl ?_
      refine x_if_eq 42 rfl 87 dX2_readSum_39 (by decide) (fun hc => ?_) (fun hc => ?_)
      · replace h := x_ifT hc h
        cases h
        exact x_wk (x_le_n (x_le_n (x_le_n (x_le_n (x_le_n (x_le_n x_le_0)))))) ((hK (.inr (_, _)) rfl).2 (_, _) rfl)
      · replace h := x_ifF hc h
        exact x_wk (x_le_s (x_le_s (x_le_s (x_le_s (x_le_s (x_le_n x_le_0)))))) (j_Re_readSum_2_27_J42 (r := r) (σ1 := σ1) E S hrec _ _ _  _ _ h hK hG)
set_option maxHeartbeats 4000000 in
set_option maxRecDepth 100000 in
theorem c_Re_readSum_2_27 {l : Launch} {s0 : State} {a0 : Array Value} {D : va_G} {cA : Nat → ClassId} {sp : Nat → Nat} (E : x_En CL l s0 a0 D cA sp) (S : x_Sw s0 sp) {dR : Nat} {rec : Int32 → Int32 → xS → Option (Int32 × xS)} (hrec : ∀ (v2 v3 : Int32) (σ : xS) (r : Int32) (σ1 : xS), rec v2 v3 σ = some (r, σ1) → zC l s0 D cA sp dR M_Re_readExpr [.ref 2, .ref 27, .int v2, .int v3] σ (some (.int r)) σ1) (v2 : Int32) (v3 : Int32) {σ : xS} {r : Int32} {σ1 : xS} (h : f_Re_readSum_2_27 rec v2 v3 σ = some (r, σ1)) : zC l s0 D cA sp (dR + 5) M_Re_readSum [.ref 2, .ref 27, .int v2, .int v3] σ (some (.int r)) σ1 := by
  unfold f_Re_readSum_2_27 at h
  try dsimp only at h
  refine x_enter [some (.ref 2), some (.ref 27), some (.int v2), some (.int v3), none, none] rfl (Nat.le_of_ble_eq_true rfl) (by decide +kernel) rfl ?_
  refine x_aload_n 1 rfl 0 dX2_readSum_0 rfl rfl ?_
  refine x_aload_n 2 rfl 1 dX2_readSum_1 rfl rfl ?_
  refine x_iload_n 3 rfl 2 dX2_readSum_2 rfl rfl ?_
  refine x_iload_n 4 rfl 3 dX2_readSum_3 rfl rfl ?_
  obtain ⟨⟨q8r, q8s⟩, q8h, h⟩ := x_bind h
  try dsimp only at h
  refine z_callV E [.ref 27, .int _, .int _] [] dX2_readSum_4 K_RX2_259 (x_fitR (a := 4) (Nat.le_of_ble_eq_true rfl) (Nat.le_of_ble_eq_true rfl)) sh_2 (by decide) rfl (c_Re_readProduct_2_27 E S hrec _ _ q8h) rfl rfl (Nat.le_of_ble_eq_true rfl) 7 rfl [.int _] rfl ?_
  refine x_if_ne 10 rfl 12 dX2_readSum_7 (by decide) (fun hc => ?_) (fun hc => ?_)
  · replace h := x_ifF hc h
    refine x_iconst 13 rfl (v := 0) dX2_readSum_12 (by decide) ?_
    refine x_istore 15 rfl dX2_readSum_13 (by decide) [some (.ref 2), some (.ref 27), some (.int _), some (.int _), some (.int _), none] rfl ?_
    obtain ⟨b9, b9h, h⟩ := x_bind h
    try dsimp only at h
    refine x_wk (x_le_s (x_le_s (x_le_s (x_le_s (x_le_s (x_le_n x_le_0)))))) (x_loop (fun a o h hK hG => b_Re_readSum_2_27_L15 (r := r) (σ1 := σ1) E S hrec _ _ a o h hK hG) _ _ _ b9h ?_)
    cases b9 with
    | inl b9r =>
      try dsimp only at h
      cases h
      exact ⟨fun q e => (by cases e; rfl), fun e he => (by cases he)⟩
    | inr b9e =>
      try dsimp only at h
      refine ⟨fun q e => (by cases e), fun e he => ?_⟩
      cases he
      refine x_iconst 88 rfl (v := 1) dX2_readSum_87 (by decide) ?_
      cases h
      exact x_zret (Or.inr rfl) dX2_readSum_88 rfl rfl rfl
  · replace h := x_ifT hc h
    refine x_iconst 11 rfl (v := 0) dX2_readSum_10 (by decide) ?_
    cases h
    exact x_zret (Or.inl rfl) dX2_readSum_11 rfl rfl rfl
theorem K_RX2_256 : x_KV RX2 256 M_Re_readSum 3 := ⟨⟨(List.mem_append_right _ (List.mem_of_getElem? (i := 836) (by decide +kernel))), (List.mem_append_right _ (List.mem_of_getElem? (i := 839) (by decide +kernel))), (List.mem_append_right _ (List.mem_of_getElem? (i := 2) (by decide +kernel))), ⟨by decide +kernel, by decide +kernel⟩, by decide +kernel⟩, (List.mem_append_right _ (List.mem_of_getElem? (i := 838) (by decide +kernel))), (List.mem_append_left _ (List.mem_of_getElem? (i := 38) (by decide +kernel)))⟩
abbrev M_Re_readTest : xM := (yX2_readTest, cX2_readTest, 5, some .boolean, [])
theorem dX2_readTest_0 : decode cX2_readTest 0 = .ok (.aload_n 0, 1) := by decide +kernel
theorem dX2_readTest_1 : decode cX2_readTest 1 = .ok (.aload_n 1, 1) := by decide +kernel
theorem dX2_readTest_2 : decode cX2_readTest 2 = .ok (.iload_n 2, 1) := by decide +kernel
theorem dX2_readTest_3 : decode cX2_readTest 3 = .ok (.iload_n 3, 1) := by decide +kernel
theorem dX2_readTest_4 : decode cX2_readTest 4 = .ok (.invokevirtual 256, 3) := by decide +kernel
theorem dX2_readTest_7 : decode cX2_readTest 7 = .ok (.ifCond .ne 5, 3) := by decide +kernel
theorem dX2_readTest_10 : decode cX2_readTest 10 = .ok (.iconst 0, 1) := by decide +kernel
theorem dX2_readTest_11 : decode cX2_readTest 11 = .ok (.ireturn, 1) := by decide +kernel
theorem dX2_readTest_12 : decode cX2_readTest 12 = .ok (.aload_n 0, 1) := by decide +kernel
theorem dX2_readTest_13 : decode cX2_readTest 13 = .ok (.bipush 60, 2) := by decide +kernel
theorem dX2_readTest_15 : decode cX2_readTest 15 = .ok (.invokevirtual 121, 3) := by decide +kernel
theorem dX2_readTest_18 : decode cX2_readTest 18 = .ok (.ifCond .ne 14, 3) := by decide +kernel
theorem dX2_readTest_21 : decode cX2_readTest 21 = .ok (.aload_n 0, 1) := by decide +kernel
theorem dX2_readTest_22 : decode cX2_readTest 22 = .ok (.bipush 61, 2) := by decide +kernel
theorem dX2_readTest_24 : decode cX2_readTest 24 = .ok (.invokevirtual 121, 3) := by decide +kernel
theorem dX2_readTest_27 : decode cX2_readTest 27 = .ok (.ifCond .ne 5, 3) := by decide +kernel
theorem dX2_readTest_30 : decode cX2_readTest 30 = .ok (.iconst 1, 1) := by decide +kernel
theorem dX2_readTest_31 : decode cX2_readTest 31 = .ok (.ireturn, 1) := by decide +kernel
theorem dX2_readTest_32 : decode cX2_readTest 32 = .ok (.aload_n 0, 1) := by decide +kernel
theorem dX2_readTest_33 : decode cX2_readTest 33 = .ok (.bipush 60, 2) := by decide +kernel
theorem dX2_readTest_35 : decode cX2_readTest 35 = .ok (.invokevirtual 121, 3) := by decide +kernel
theorem dX2_readTest_38 : decode cX2_readTest 38 = .ok (.ifCond .eq 8, 3) := by decide +kernel
theorem dX2_readTest_41 : decode cX2_readTest 41 = .ok (.bipush (-5), 2) := by decide +kernel
theorem dX2_readTest_43 : decode cX2_readTest 43 = .ok (.goto 5, 3) := by decide +kernel
theorem dX2_readTest_46 : decode cX2_readTest 46 = .ok (.bipush (-6), 2) := by decide +kernel
theorem dX2_readTest_48 : decode cX2_readTest 48 = .ok (.istore 4, 2) := by decide +kernel
theorem dX2_readTest_50 : decode cX2_readTest 50 = .ok (.aload_n 0, 1) := by decide +kernel
theorem dX2_readTest_51 : decode cX2_readTest 51 = .ok (.invokevirtual 118, 3) := by decide +kernel
theorem dX2_readTest_54 : decode cX2_readTest 54 = .ok (.aload_n 0, 1) := by decide +kernel
theorem dX2_readTest_55 : decode cX2_readTest 55 = .ok (.aload_n 1, 1) := by decide +kernel
theorem dX2_readTest_56 : decode cX2_readTest 56 = .ok (.iload_n 2, 1) := by decide +kernel
theorem dX2_readTest_57 : decode cX2_readTest 57 = .ok (.iload_n 3, 1) := by decide +kernel
theorem dX2_readTest_58 : decode cX2_readTest 58 = .ok (.invokevirtual 256, 3) := by decide +kernel
theorem dX2_readTest_61 : decode cX2_readTest 61 = .ok (.ifCond .ne 5, 3) := by decide +kernel
theorem dX2_readTest_64 : decode cX2_readTest 64 = .ok (.iconst 0, 1) := by decide +kernel
theorem dX2_readTest_65 : decode cX2_readTest 65 = .ok (.ireturn, 1) := by decide +kernel
theorem dX2_readTest_66 : decode cX2_readTest 66 = .ok (.aload_n 1, 1) := by decide +kernel
theorem dX2_readTest_67 : decode cX2_readTest 67 = .ok (.iload 4, 2) := by decide +kernel
theorem dX2_readTest_69 : decode cX2_readTest 69 = .ok (.invokevirtual 241, 3) := by decide +kernel
theorem dX2_readTest_72 : decode cX2_readTest 72 = .ok (.iconst 1, 1) := by decide +kernel
theorem dX2_readTest_73 : decode cX2_readTest 73 = .ok (.ireturn, 1) := by decide +kernel
def f_Re_readTest_2_27_J48 (rec : Int32 → Int32 → xS → Option (Int32 × xS)) (v2 : Int32) (v3 : Int32) (y0 : Int32) (σ : xS) : Option (Int32 × xS) :=
  (f_Re_advance_2  σ).bind fun q1 =>
  (f_Re_readSum_2_27 rec v2 v3 q1.2).bind fun q2 =>
  if q2.1 = 0 then
    some ((0 : Int32), q2.2)
  else
    (f_Ru_add_27 y0 q2.2).bind fun q3 =>
    some ((1 : Int32), q3.2)
def f_Re_readTest_2_27_J32 (rec : Int32 → Int32 → xS → Option (Int32 × xS)) (v2 : Int32) (v3 : Int32) (σ : xS) : Option (Int32 × xS) :=
  (f_Re_isSign_2 (60 : Int32) σ).bind fun q4 =>
  if q4.1 = 0 then
    f_Re_readTest_2_27_J48 rec v2 v3 (-6 : Int32) q4.2
  else
    f_Re_readTest_2_27_J48 rec v2 v3 (-5 : Int32) q4.2
def f_Re_readTest_2_27 (rec : Int32 → Int32 → xS → Option (Int32 × xS)) (v2 : Int32) (v3 : Int32) (σ : xS) : Option (Int32 × xS) :=
  (f_Re_readSum_2_27 rec v2 v3 σ).bind fun q5 =>
  if q5.1 = 0 then
    some ((0 : Int32), q5.2)
  else
    (f_Re_isSign_2 (60 : Int32) q5.2).bind fun q6 =>
    if q6.1 = 0 then
      (f_Re_isSign_2 (61 : Int32) q6.2).bind fun q7 =>
      if q7.1 = 0 then
        some ((1 : Int32), q7.2)
      else
        f_Re_readTest_2_27_J32 rec v2 v3 q7.2
    else
      f_Re_readTest_2_27_J32 rec v2 v3 q6.2
set_option maxHeartbeats 4000000 in
set_option maxRecDepth 100000 in
theorem j_Re_readTest_2_27_J48 {l : Launch} {s0 : State} {a0 : Array Value} {D : va_G} {cA : Nat → ClassId} {sp : Nat → Nat} (E : x_En CL l s0 a0 D cA sp) (S : x_Sw s0 sp) {dR : Nat} {rec : Int32 → Int32 → xS → Option (Int32 × xS)} (hrec : ∀ (v2 v3 : Int32) (σ : xS) (r : Int32) (σ1 : xS), rec v2 v3 σ = some (r, σ1) → zC l s0 D cA sp dR M_Re_readExpr [.ref 2, .ref 27, .int v2, .int v3] σ (some (.int r)) σ1) (v2 : Int32) (v3 : Int32) (y0 : Int32) (σ : xS) {r : Int32} {σ1 : xS} (h : f_Re_readTest_2_27_J48 rec v2 v3 y0 σ = some (r, σ1)) : zW l s0 D cA sp (zQ s0 D cA sp (some (.int r)) σ1) (x_rm (dR + 6) 0 0) M_Re_readTest 0 0 48 [some (.ref 2), some (.ref 27), some (.int v2), some (.int v3), none] [.int y0] σ := by
  unfold f_Re_readTest_2_27_J48 at h
  try dsimp only at h
  refine x_istore 50 rfl dX2_readTest_48 (by decide) [some (.ref 2), some (.ref 27), some (.int _), some (.int _), some (.int _)] rfl ?_
  refine x_aload_n 51 rfl 0 dX2_readTest_50 rfl rfl ?_
  obtain ⟨⟨q1r, q1s⟩, q1h, h⟩ := x_bind h
  try dsimp only at h
  refine z_callV E [] [] dX2_readTest_51 K_RX2_118 (x_fitC (Nat.le_of_ble_eq_true rfl) (Nat.le_of_ble_eq_true rfl)) sh_2 (by decide) rfl (c_Re_advance_2 E  q1h) rfl rfl (Nat.le_of_ble_eq_true rfl) 54 rfl [] rfl ?_
  refine x_aload_n 55 rfl 0 dX2_readTest_54 rfl rfl ?_
  refine x_aload_n 56 rfl 1 dX2_readTest_55 rfl rfl ?_
  refine x_iload_n 57 rfl 2 dX2_readTest_56 rfl rfl ?_
  refine x_iload_n 58 rfl 3 dX2_readTest_57 rfl rfl ?_
  obtain ⟨⟨q2r, q2s⟩, q2h, h⟩ := x_bind h
  try dsimp only at h
  refine z_callV E [.ref 27, .int _, .int _] [] dX2_readTest_58 K_RX2_256 (x_fitR (a := 5) (Nat.le_of_ble_eq_true rfl) (Nat.le_of_ble_eq_true rfl)) sh_2 (by decide) rfl (c_Re_readSum_2_27 E S hrec _ _ q2h) rfl rfl (Nat.le_of_ble_eq_true rfl) 61 rfl [.int _] rfl ?_
  refine x_if_ne 64 rfl 66 dX2_readTest_61 (by decide) (fun hc => ?_) (fun hc => ?_)
  · replace h := x_ifF hc h
    refine x_aload_n 67 rfl 1 dX2_readTest_66 rfl rfl ?_
    refine x_iload 69 rfl dX2_readTest_67 rfl ?_
    obtain ⟨⟨q3r, q3s⟩, q3h, h⟩ := x_bind h
    try dsimp only at h
    refine z_callV E [.int _] [] dX2_readTest_69 K_RX2_241 (x_fitC (Nat.le_of_ble_eq_true rfl) (Nat.le_of_ble_eq_true rfl)) sh_27 (by decide) rfl (c_Ru_add_27 E _ q3h) rfl rfl (Nat.le_of_ble_eq_true rfl) 72 rfl [] rfl ?_
    refine x_iconst 73 rfl (v := 1) dX2_readTest_72 (by decide) ?_
    cases h
    exact x_zret (Or.inr rfl) dX2_readTest_73 rfl rfl rfl
  · replace h := x_ifT hc h
    refine x_iconst 65 rfl (v := 0) dX2_readTest_64 (by decide) ?_
    cases h
    exact x_zret (Or.inl rfl) dX2_readTest_65 rfl rfl rfl
set_option maxHeartbeats 4000000 in
set_option maxRecDepth 100000 in
theorem j_Re_readTest_2_27_J32 {l : Launch} {s0 : State} {a0 : Array Value} {D : va_G} {cA : Nat → ClassId} {sp : Nat → Nat} (E : x_En CL l s0 a0 D cA sp) (S : x_Sw s0 sp) {dR : Nat} {rec : Int32 → Int32 → xS → Option (Int32 × xS)} (hrec : ∀ (v2 v3 : Int32) (σ : xS) (r : Int32) (σ1 : xS), rec v2 v3 σ = some (r, σ1) → zC l s0 D cA sp dR M_Re_readExpr [.ref 2, .ref 27, .int v2, .int v3] σ (some (.int r)) σ1) (v2 : Int32) (v3 : Int32) (σ : xS) {r : Int32} {σ1 : xS} (h : f_Re_readTest_2_27_J32 rec v2 v3 σ = some (r, σ1)) : zW l s0 D cA sp (zQ s0 D cA sp (some (.int r)) σ1) (x_rm (dR + 6) 0 0) M_Re_readTest 0 0 32 [some (.ref 2), some (.ref 27), some (.int v2), some (.int v3), none] [] σ := by
  unfold f_Re_readTest_2_27_J32 at h
  try dsimp only at h
  refine x_aload_n 33 rfl 0 dX2_readTest_32 rfl rfl ?_
  refine x_bipush 35 rfl (v := 60) dX2_readTest_33 (by decide) ?_
  obtain ⟨⟨q4r, q4s⟩, q4h, h⟩ := x_bind h
  try dsimp only at h
  refine z_callV E [.int _] [] dX2_readTest_35 K_RX2_121 (x_fitC (Nat.le_of_ble_eq_true rfl) (Nat.le_of_ble_eq_true rfl)) sh_2 (by decide) rfl (c_Re_isSign_2 E _ q4h) rfl rfl (Nat.le_of_ble_eq_true rfl) 38 rfl [.int _] rfl ?_
  refine x_if_eq 41 rfl 46 dX2_readTest_38 (by decide) (fun hc => ?_) (fun hc => ?_)
  · replace h := x_ifT hc h
    refine x_bipush 48 rfl (v := -6) dX2_readTest_46 (by decide) ?_
    exact x_wk (x_le_s (x_le_s (x_le_s (x_le_s (x_le_n x_le_0))))) (j_Re_readTest_2_27_J48 E S hrec _ _ _ _ h)
  · replace h := x_ifF hc h
    refine x_bipush 43 rfl (v := -5) dX2_readTest_41 (by decide) ?_
    refine x_goto 48 dX2_readTest_43 (by decide) ?_
    exact x_wk (x_le_s (x_le_s (x_le_s (x_le_s (x_le_n x_le_0))))) (j_Re_readTest_2_27_J48 E S hrec _ _ _ _ h)
set_option maxHeartbeats 4000000 in
set_option maxRecDepth 100000 in
theorem c_Re_readTest_2_27 {l : Launch} {s0 : State} {a0 : Array Value} {D : va_G} {cA : Nat → ClassId} {sp : Nat → Nat} (E : x_En CL l s0 a0 D cA sp) (S : x_Sw s0 sp) {dR : Nat} {rec : Int32 → Int32 → xS → Option (Int32 × xS)} (hrec : ∀ (v2 v3 : Int32) (σ : xS) (r : Int32) (σ1 : xS), rec v2 v3 σ = some (r, σ1) → zC l s0 D cA sp dR M_Re_readExpr [.ref 2, .ref 27, .int v2, .int v3] σ (some (.int r)) σ1) (v2 : Int32) (v3 : Int32) {σ : xS} {r : Int32} {σ1 : xS} (h : f_Re_readTest_2_27 rec v2 v3 σ = some (r, σ1)) : zC l s0 D cA sp (dR + 6) M_Re_readTest [.ref 2, .ref 27, .int v2, .int v3] σ (some (.int r)) σ1 := by
  unfold f_Re_readTest_2_27 at h
  try dsimp only at h
  refine x_enter [some (.ref 2), some (.ref 27), some (.int v2), some (.int v3), none] rfl (Nat.le_of_ble_eq_true rfl) (by decide +kernel) rfl ?_
  refine x_aload_n 1 rfl 0 dX2_readTest_0 rfl rfl ?_
  refine x_aload_n 2 rfl 1 dX2_readTest_1 rfl rfl ?_
  refine x_iload_n 3 rfl 2 dX2_readTest_2 rfl rfl ?_
  refine x_iload_n 4 rfl 3 dX2_readTest_3 rfl rfl ?_
  obtain ⟨⟨q5r, q5s⟩, q5h, h⟩ := x_bind h
  try dsimp only at h
  refine z_callV E [.ref 27, .int _, .int _] [] dX2_readTest_4 K_RX2_256 (x_fitR (a := 5) (Nat.le_of_ble_eq_true rfl) (Nat.le_of_ble_eq_true rfl)) sh_2 (by decide) rfl (c_Re_readSum_2_27 E S hrec _ _ q5h) rfl rfl (Nat.le_of_ble_eq_true rfl) 7 rfl [.int _] rfl ?_
  refine x_if_ne 10 rfl 12 dX2_readTest_7 (by decide) (fun hc => ?_) (fun hc => ?_)
  · replace h := x_ifF hc h
    refine x_aload_n 13 rfl 0 dX2_readTest_12 rfl rfl ?_
    refine x_bipush 15 rfl (v := 60) dX2_readTest_13 (by decide) ?_
    obtain ⟨⟨q6r, q6s⟩, q6h, h⟩ := x_bind h
    try dsimp only at h
    refine z_callV E [.int _] [] dX2_readTest_15 K_RX2_121 (x_fitC (Nat.le_of_ble_eq_true rfl) (Nat.le_of_ble_eq_true rfl)) sh_2 (by decide) rfl (c_Re_isSign_2 E _ q6h) rfl rfl (Nat.le_of_ble_eq_true rfl) 18 rfl [.int _] rfl ?_
    refine x_if_ne 21 rfl 32 dX2_readTest_18 (by decide) (fun hc => ?_) (fun hc => ?_)
    · replace h := x_ifF hc h
      exact x_wk (x_le_s (x_le_s (x_le_s (x_le_s (x_le_n x_le_0))))) (j_Re_readTest_2_27_J32 E S hrec _ _ _ h)
    · replace h := x_ifT hc h
      refine x_aload_n 22 rfl 0 dX2_readTest_21 rfl rfl ?_
      refine x_bipush 24 rfl (v := 61) dX2_readTest_22 (by decide) ?_
      obtain ⟨⟨q7r, q7s⟩, q7h, h⟩ := x_bind h
      try dsimp only at h
      refine z_callV E [.int _] [] dX2_readTest_24 K_RX2_121 (x_fitC (Nat.le_of_ble_eq_true rfl) (Nat.le_of_ble_eq_true rfl)) sh_2 (by decide) rfl (c_Re_isSign_2 E _ q7h) rfl rfl (Nat.le_of_ble_eq_true rfl) 27 rfl [.int _] rfl ?_
      refine x_if_ne 30 rfl 32 dX2_readTest_27 (by decide) (fun hc => ?_) (fun hc => ?_)
      · replace h := x_ifF hc h
        exact x_wk (x_le_s (x_le_s (x_le_s (x_le_s (x_le_n x_le_0))))) (j_Re_readTest_2_27_J32 E S hrec _ _ _ h)
      · replace h := x_ifT hc h
        refine x_iconst 31 rfl (v := 1) dX2_readTest_30 (by decide) ?_
        cases h
        exact x_zret (Or.inr rfl) dX2_readTest_31 rfl rfl rfl
  · replace h := x_ifT hc h
    refine x_iconst 11 rfl (v := 0) dX2_readTest_10 (by decide) ?_
    cases h
    exact x_zret (Or.inl rfl) dX2_readTest_11 rfl rfl rfl
theorem K_RX2_253 : x_KV RX2 253 M_Re_readTest 3 := ⟨⟨(List.mem_append_right _ (List.mem_of_getElem? (i := 832) (by decide +kernel))), (List.mem_append_right _ (List.mem_of_getElem? (i := 835) (by decide +kernel))), (List.mem_append_right _ (List.mem_of_getElem? (i := 2) (by decide +kernel))), ⟨by decide +kernel, by decide +kernel⟩, by decide +kernel⟩, (List.mem_append_right _ (List.mem_of_getElem? (i := 834) (by decide +kernel))), (List.mem_append_left _ (List.mem_of_getElem? (i := 37) (by decide +kernel)))⟩
theorem K_RX2_53 : x_KV RX2 53 M_Re_isWord 1 := ⟨⟨(List.mem_append_right _ (List.mem_of_getElem? (i := 702) (by decide +kernel))), (List.mem_append_right _ (List.mem_of_getElem? (i := 705) (by decide +kernel))), (List.mem_append_right _ (List.mem_of_getElem? (i := 2) (by decide +kernel))), ⟨by decide +kernel, by decide +kernel⟩, by decide +kernel⟩, (List.mem_append_right _ (List.mem_of_getElem? (i := 704) (by decide +kernel))), (List.mem_append_left _ (List.mem_of_getElem? (i := 14) (by decide +kernel)))⟩
abbrev M_Re_readNot : xM := (yX2_readNot, cX2_readNot, 6, some .boolean, [])
theorem dX2_readNot_0 : decode cX2_readNot 0 = .ok (.iconst 0, 1) := by decide +kernel
theorem dX2_readNot_1 : decode cX2_readNot 1 = .ok (.istore 4, 2) := by decide +kernel
theorem dX2_readNot_3 : decode cX2_readNot 3 = .ok (.iconst 0, 1) := by decide +kernel
theorem dX2_readNot_4 : decode cX2_readNot 4 = .ok (.istore 5, 2) := by decide +kernel
theorem dX2_readNot_6 : decode cX2_readNot 6 = .ok (.iload 5, 2) := by decide +kernel
theorem dX2_readNot_8 : decode cX2_readNot 8 = .ok (.aload_n 0, 1) := by decide +kernel
theorem dX2_readNot_9 : decode cX2_readNot 9 = .ok (.getfield 21, 3) := by decide +kernel
theorem dX2_readNot_12 : decode cX2_readNot 12 = .ok (.if_icmp .ge 39, 3) := by decide +kernel
theorem dX2_readNot_15 : decode cX2_readNot 15 = .ok (.aload_n 0, 1) := by decide +kernel
theorem dX2_readNot_16 : decode cX2_readNot 16 = .ok (.getstatic 250, 3) := by decide +kernel
theorem dX2_readNot_19 : decode cX2_readNot 19 = .ok (.invokevirtual 53, 3) := by decide +kernel
theorem dX2_readNot_22 : decode cX2_readNot 22 = .ok (.ifCond .eq 29, 3) := by decide +kernel
theorem dX2_readNot_25 : decode cX2_readNot 25 = .ok (.iload 4, 2) := by decide +kernel
theorem dX2_readNot_27 : decode cX2_readNot 27 = .ok (.bipush 6, 2) := by decide +kernel
theorem dX2_readNot_29 : decode cX2_readNot 29 = .ok (.if_icmp .lt 9, 3) := by decide +kernel
theorem dX2_readNot_32 : decode cX2_readNot 32 = .ok (.aload_n 0, 1) := by decide +kernel
theorem dX2_readNot_33 : decode cX2_readNot 33 = .ok (.iconst 2, 1) := by decide +kernel
theorem dX2_readNot_34 : decode cX2_readNot 34 = .ok (.invokevirtual 115, 3) := by decide +kernel
theorem dX2_readNot_37 : decode cX2_readNot 37 = .ok (.ireturn, 1) := by decide +kernel
theorem dX2_readNot_38 : decode cX2_readNot 38 = .ok (.iinc 4 1, 3) := by decide +kernel
theorem dX2_readNot_41 : decode cX2_readNot 41 = .ok (.aload_n 0, 1) := by decide +kernel
theorem dX2_readNot_42 : decode cX2_readNot 42 = .ok (.invokevirtual 118, 3) := by decide +kernel
theorem dX2_readNot_45 : decode cX2_readNot 45 = .ok (.iinc 5 1, 3) := by decide +kernel
theorem dX2_readNot_48 : decode cX2_readNot 48 = .ok (.goto (-42), 3) := by decide +kernel
theorem dX2_readNot_51 : decode cX2_readNot 51 = .ok (.aload_n 0, 1) := by decide +kernel
theorem dX2_readNot_52 : decode cX2_readNot 52 = .ok (.aload_n 1, 1) := by decide +kernel
theorem dX2_readNot_53 : decode cX2_readNot 53 = .ok (.iload_n 2, 1) := by decide +kernel
theorem dX2_readNot_54 : decode cX2_readNot 54 = .ok (.iload_n 3, 1) := by decide +kernel
theorem dX2_readNot_55 : decode cX2_readNot 55 = .ok (.invokevirtual 253, 3) := by decide +kernel
theorem dX2_readNot_58 : decode cX2_readNot 58 = .ok (.ifCond .ne 5, 3) := by decide +kernel
theorem dX2_readNot_61 : decode cX2_readNot 61 = .ok (.iconst 0, 1) := by decide +kernel
theorem dX2_readNot_62 : decode cX2_readNot 62 = .ok (.ireturn, 1) := by decide +kernel
theorem dX2_readNot_63 : decode cX2_readNot 63 = .ok (.iconst 0, 1) := by decide +kernel
theorem dX2_readNot_64 : decode cX2_readNot 64 = .ok (.istore 5, 2) := by decide +kernel
theorem dX2_readNot_66 : decode cX2_readNot 66 = .ok (.iload 5, 2) := by decide +kernel
theorem dX2_readNot_68 : decode cX2_readNot 68 = .ok (.iload 4, 2) := by decide +kernel
theorem dX2_readNot_70 : decode cX2_readNot 70 = .ok (.if_icmp .ge 15, 3) := by decide +kernel
theorem dX2_readNot_73 : decode cX2_readNot 73 = .ok (.aload_n 1, 1) := by decide +kernel
theorem dX2_readNot_74 : decode cX2_readNot 74 = .ok (.bipush (-7), 2) := by decide +kernel
theorem dX2_readNot_76 : decode cX2_readNot 76 = .ok (.invokevirtual 241, 3) := by decide +kernel
theorem dX2_readNot_79 : decode cX2_readNot 79 = .ok (.iinc 5 1, 3) := by decide +kernel
theorem dX2_readNot_82 : decode cX2_readNot 82 = .ok (.goto (-16), 3) := by decide +kernel
theorem dX2_readNot_85 : decode cX2_readNot 85 = .ok (.iconst 1, 1) := by decide +kernel
theorem dX2_readNot_86 : decode cX2_readNot 86 = .ok (.ireturn, 1) := by decide +kernel
def f_Re_readNot_2_27_L66 (rec : Int32 → Int32 → xS → Option (Int32 × xS)) (v4 : Int32) (a : Int32 × xS) : Option ((Int32 × xS) ⊕ (Int32 × xS)) :=
  let v5 := a.1; let σ := a.2;
  if v4 ≤ v5 then
    some (.inl (v5, σ))
  else
    (f_Ru_add_27 (-7 : Int32) σ).bind fun q1 =>
    let w2 := v5 + (1 : Int32)
    some (.inr (w2, q1.2))
def f_Re_readNot_2_27_L6 (rec : Int32 → Int32 → xS → Option (Int32 × xS)) (v2 : Int32) (v3 : Int32) (a : Int32 × Int32 × xS) : Option (((Int32 × xS) ⊕ (Int32 × Int32 × xS)) ⊕ (Int32 × Int32 × xS)) :=
  let v4 := a.1; let v5 := a.2.1; let σ := a.2.2;
  if σ.1 2 3 ≤ v5 then
    some (.inl (.inr (v4, v5, σ)))
  else
    (f_Re_isWord_2 1017 σ).bind fun q3 =>
    if q3.1 = 0 then
      some (.inl (.inr (v4, v5, q3.2)))
    else
      if v4 < (6 : Int32) then
        let w4 := v4 + (1 : Int32)
        (f_Re_advance_2  q3.2).bind fun q5 =>
        let w6 := v5 + (1 : Int32)
        some (.inr (w4, w6, q5.2))
      else
        (f_Re_refuse_2 (2 : Int32) q3.2).bind fun q7 =>
        x_ok (q7.1 = 0 ∨ q7.1 = 1) <|
        some (.inl (.inl (q7.1, q7.2)))
def f_Re_readNot_2_27_J51 (rec : Int32 → Int32 → xS → Option (Int32 × xS)) (v2 : Int32) (v3 : Int32) (v4 : Int32) (σ : xS) : Option (Int32 × xS) :=
  (f_Re_readTest_2_27 rec v2 v3 σ).bind fun q8 =>
  if q8.1 = 0 then
    some ((0 : Int32), q8.2)
  else
    (x_it (f_Re_readNot_2_27_L66 rec v4) 10000 ((0 : Int32), q8.2)).bind fun b9 =>
    some ((1 : Int32), b9.2)
def f_Re_readNot_2_27 (rec : Int32 → Int32 → xS → Option (Int32 × xS)) (v2 : Int32) (v3 : Int32) (σ : xS) : Option (Int32 × xS) :=
  (x_it (f_Re_readNot_2_27_L6 rec v2 v3) 10000 ((0 : Int32), (0 : Int32), σ)).bind fun b10 =>
  match b10 with
  | .inl b10r => some b10r
  | .inr b10e =>
    f_Re_readNot_2_27_J51 rec v2 v3 b10e.1 b10e.2.2
set_option maxHeartbeats 4000000 in
set_option maxRecDepth 100000 in
theorem b_Re_readNot_2_27_L66 {l : Launch} {s0 : State} {a0 : Array Value} {D : va_G} {cA : Nat → ClassId} {sp : Nat → Nat} (E : x_En CL l s0 a0 D cA sp) (S : x_Sw s0 sp) {dR : Nat} {rec : Int32 → Int32 → xS → Option (Int32 × xS)} (hrec : ∀ (v2 v3 : Int32) (σ : xS) (r : Int32) (σ1 : xS), rec v2 v3 σ = some (r, σ1) → zC l s0 D cA sp dR M_Re_readExpr [.ref 2, .ref 27, .int v2, .int v3] σ (some (.int r)) σ1) (v4 : Int32) {r : Int32} {σ1 : xS} (a : Int32 × xS) (o : (Int32 × xS) ⊕ (Int32 × xS)) (h : f_Re_readNot_2_27_L66 rec v4 a = some o) (hK : ∀ b, o = .inl b → zW l s0 D cA sp (zQ s0 D cA sp (some (.int r)) σ1) (x_rm (dR + 7) 0 0) M_Re_readNot 0 0 85 [none, none, none, none, none, none] [] b.2) (hG : ∀ a', o = .inr a' → zW l s0 D cA sp (zQ s0 D cA sp (some (.int r)) σ1) (x_rm (dR + 7) 0 0) M_Re_readNot 0 0 66 [none, some (.ref 27), none, none, some (.int v4), some (.int a'.1)] [] a'.2) : zW l s0 D cA sp (zQ s0 D cA sp (some (.int r)) σ1) (x_rm (dR + 7) 0 0) M_Re_readNot 0 0 66 [none, some (.ref 27), none, none, some (.int v4), some (.int a.1)] [] a.2 := by
  obtain ⟨v5, σ⟩ := a
  unfold f_Re_readNot_2_27_L66 at h
  try dsimp only at h ⊢
  refine x_iload 68 rfl dX2_readNot_66 rfl ?_
  refine x_iload 70 rfl dX2_readNot_68 rfl ?_
  refine x_icmp_ge 73 rfl 85 dX2_readNot_70 (by decide) (fun hc => ?_) (fun hc => ?_)
  · replace h := x_ifT hc h
    cases h
    exact x_wk (x_le_n (x_le_n (x_le_n (x_le_n (x_le_n (x_le_n x_le_0)))))) (hK (_, _) rfl)
  · replace h := x_ifF hc h
    refine x_aload_n 74 rfl 1 dX2_readNot_73 rfl rfl ?_
    refine x_bipush 76 rfl (v := -7) dX2_readNot_74 (by decide) ?_
    obtain ⟨⟨q1r, q1s⟩, q1h, h⟩ := x_bind h
    try dsimp only at h
    refine z_callV E [.int _] [] dX2_readNot_76 K_RX2_241 (x_fitC (Nat.le_of_ble_eq_true rfl) (Nat.le_of_ble_eq_true rfl)) sh_27 (by decide) rfl (c_Ru_add_27 E _ q1h) rfl rfl (Nat.le_of_ble_eq_true rfl) 79 rfl [] rfl ?_
    refine x_iinc 82 rfl (1) dX2_readNot_79 rfl (by decide) (by decide) [none, some (.ref 27), none, none, some (.int _), some (.int _)] rfl ?_
    refine x_goto 66 dX2_readNot_82 (by decide) ?_
    cases h
    exact x_wk (x_le_n (x_le_s (x_le_n (x_le_n (x_le_s (x_le_s x_le_0)))))) (hG (_, _) rfl)
set_option maxHeartbeats 4000000 in
set_option maxRecDepth 100000 in
theorem b_Re_readNot_2_27_L6 {l : Launch} {s0 : State} {a0 : Array Value} {D : va_G} {cA : Nat → ClassId} {sp : Nat → Nat} (E : x_En CL l s0 a0 D cA sp) (S : x_Sw s0 sp) {dR : Nat} {rec : Int32 → Int32 → xS → Option (Int32 × xS)} (hrec : ∀ (v2 v3 : Int32) (σ : xS) (r : Int32) (σ1 : xS), rec v2 v3 σ = some (r, σ1) → zC l s0 D cA sp dR M_Re_readExpr [.ref 2, .ref 27, .int v2, .int v3] σ (some (.int r)) σ1) (v2 : Int32) (v3 : Int32) {r : Int32} {σ1 : xS} (a : Int32 × Int32 × xS) (o : ((Int32 × xS) ⊕ (Int32 × Int32 × xS)) ⊕ (Int32 × Int32 × xS)) (h : f_Re_readNot_2_27_L6 rec v2 v3 a = some o) (hK : ∀ b, o = .inl b → (∀ q, b = .inl q → q = (r, σ1)) ∧ ∀ e, b = .inr e → zW l s0 D cA sp (zQ s0 D cA sp (some (.int r)) σ1) (x_rm (dR + 7) 0 0) M_Re_readNot 0 0 51 [some (.ref 2), some (.ref 27), some (.int v2), some (.int v3), some (.int e.1), none] [] e.2.2) (hG : ∀ a', o = .inr a' → zW l s0 D cA sp (zQ s0 D cA sp (some (.int r)) σ1) (x_rm (dR + 7) 0 0) M_Re_readNot 0 0 6 [some (.ref 2), some (.ref 27), some (.int v2), some (.int v3), some (.int a'.1), some (.int a'.2.1)] [] a'.2.2) : zW l s0 D cA sp (zQ s0 D cA sp (some (.int r)) σ1) (x_rm (dR + 7) 0 0) M_Re_readNot 0 0 6 [some (.ref 2), some (.ref 27), some (.int v2), some (.int v3), some (.int a.1), some (.int a.2.1)] [] a.2.2 := by
  obtain ⟨v4, v5, σ⟩ := a
  unfold f_Re_readNot_2_27_L6 at h
  try dsimp only at h ⊢
  refine x_iload 8 rfl dX2_readNot_6 rfl ?_
  refine x_aload_n 9 rfl 0 dX2_readNot_8 rfl rfl ?_
  refine x_getI E dX2_readNot_9 F_RX2_21 sh_2 12 rfl ?_
  refine x_icmp_ge 15 rfl 51 dX2_readNot_12 (by decide) (fun hc => ?_) (fun hc => ?_)
  · replace h := x_ifT hc h
    cases h
    exact x_wk (x_le_s (x_le_s (x_le_s (x_le_s (x_le_s (x_le_n x_le_0)))))) ((hK (.inr (_, _, _)) rfl).2 (_, _, _) rfl)
  · replace h := x_ifF hc h
    refine x_aload_n 16 rfl 0 dX2_readNot_15 rfl rfl ?_
    refine z_word E S (n := "NOT") 17 1017 (by decide) rfl rfl dX2_readNot_16 (List.mem_append_right _ (List.mem_of_getElem? (i := 830) (by decide +kernel))) 19 rfl ?_
    obtain ⟨⟨q3r, q3s⟩, q3h, h⟩ := x_bind h
    try dsimp only at h
    refine z_callV E [.ref _] [] dX2_readNot_19 K_RX2_53 (x_fitC (Nat.le_of_ble_eq_true rfl) (Nat.le_of_ble_eq_true rfl)) sh_2 (by decide) rfl (c_Re_isWord_2 E S _ q3h) rfl rfl (Nat.le_of_ble_eq_true rfl) 22 rfl [.int _] rfl ?_
    refine x_if_eq 25 rfl 51 dX2_readNot_22 (by decide) (fun hc => ?_) (fun hc => ?_)
    · replace h := x_ifT hc h
      cases h
      exact x_wk (x_le_s (x_le_s (x_le_s (x_le_s (x_le_s (x_le_n x_le_0)))))) ((hK (.inr (_, _, _)) rfl).2 (_, _, _) rfl)
    · replace h := x_ifF hc h
      refine x_iload 27 rfl dX2_readNot_25 rfl ?_
      refine x_bipush 29 rfl (v := 6) dX2_readNot_27 (by decide) ?_
      refine x_icmp_lt 32 rfl 38 dX2_readNot_29 (by decide) (fun hc => ?_) (fun hc => ?_)
      · replace h := x_ifT hc h
        refine x_iinc 41 rfl (1) dX2_readNot_38 rfl (by decide) (by decide) [some (.ref 2), some (.ref 27), some (.int _), some (.int _), some (.int _), some (.int _)] rfl ?_
        refine x_aload_n 42 rfl 0 dX2_readNot_41 rfl rfl ?_
        obtain ⟨⟨q5r, q5s⟩, q5h, h⟩ := x_bind h
        try dsimp only at h
        refine z_callV E [] [] dX2_readNot_42 K_RX2_118 (x_fitC (Nat.le_of_ble_eq_true rfl) (Nat.le_of_ble_eq_true rfl)) sh_2 (by decide) rfl (c_Re_advance_2 E  q5h) rfl rfl (Nat.le_of_ble_eq_true rfl) 45 rfl [] rfl ?_
        refine x_iinc 48 rfl (1) dX2_readNot_45 rfl (by decide) (by decide) [some (.ref 2), some (.ref 27), some (.int _), some (.int _), some (.int _), some (.int _)] rfl ?_
        refine x_goto 6 dX2_readNot_48 (by decide) ?_
        cases h
        exact x_wk (x_le_s (x_le_s (x_le_s (x_le_s (x_le_s (x_le_s x_le_0)))))) (hG (_, _, _) rfl)
      · replace h := x_ifF hc h
        refine x_aload_n 33 rfl 0 dX2_readNot_32 rfl rfl ?_
        refine x_iconst 34 rfl (v := 2) dX2_readNot_33 (by decide) ?_
        obtain ⟨⟨q7r, q7s⟩, q7h, h⟩ := x_bind h
        try dsimp only at h
        refine z_callV E [.int _] [] dX2_readNot_34 K_RX2_115 (x_fitC (Nat.le_of_ble_eq_true rfl) (Nat.le_of_ble_eq_true rfl)) sh_2 (by decide) rfl (c_Re_refuse_2 E _ q7h) rfl rfl (Nat.le_of_ble_eq_true rfl) 37 rfl [.int _] rfl ?_
        obtain ⟨hz, h⟩ := x_ift h
        cases h
        cases (hK (.inl (_, _)) rfl).1 (_, _) rfl
        exact x_zret hz dX2_readNot_37 rfl rfl rfl
set_option maxHeartbeats 4000000 in
set_option maxRecDepth 100000 in
theorem j_Re_readNot_2_27_J51 {l : Launch} {s0 : State} {a0 : Array Value} {D : va_G} {cA : Nat → ClassId} {sp : Nat → Nat} (E : x_En CL l s0 a0 D cA sp) (S : x_Sw s0 sp) {dR : Nat} {rec : Int32 → Int32 → xS → Option (Int32 × xS)} (hrec : ∀ (v2 v3 : Int32) (σ : xS) (r : Int32) (σ1 : xS), rec v2 v3 σ = some (r, σ1) → zC l s0 D cA sp dR M_Re_readExpr [.ref 2, .ref 27, .int v2, .int v3] σ (some (.int r)) σ1) (v2 : Int32) (v3 : Int32) (v4 : Int32) (σ : xS) {r : Int32} {σ1 : xS} (h : f_Re_readNot_2_27_J51 rec v2 v3 v4 σ = some (r, σ1)) : zW l s0 D cA sp (zQ s0 D cA sp (some (.int r)) σ1) (x_rm (dR + 7) 0 0) M_Re_readNot 0 0 51 [some (.ref 2), some (.ref 27), some (.int v2), some (.int v3), some (.int v4), none] [] σ := by
  unfold f_Re_readNot_2_27_J51 at h
  try dsimp only at h
  refine x_aload_n 52 rfl 0 dX2_readNot_51 rfl rfl ?_
  refine x_aload_n 53 rfl 1 dX2_readNot_52 rfl rfl ?_
  refine x_iload_n 54 rfl 2 dX2_readNot_53 rfl rfl ?_
  refine x_iload_n 55 rfl 3 dX2_readNot_54 rfl rfl ?_
  obtain ⟨⟨q8r, q8s⟩, q8h, h⟩ := x_bind h
  try dsimp only at h
  refine z_callV E [.ref 27, .int _, .int _] [] dX2_readNot_55 K_RX2_253 (x_fitR (a := 6) (Nat.le_of_ble_eq_true rfl) (Nat.le_of_ble_eq_true rfl)) sh_2 (by decide) rfl (c_Re_readTest_2_27 E S hrec _ _ q8h) rfl rfl (Nat.le_of_ble_eq_true rfl) 58 rfl [.int _] rfl ?_
  refine x_if_ne 61 rfl 63 dX2_readNot_58 (by decide) (fun hc => ?_) (fun hc => ?_)
  · replace h := x_ifF hc h
    refine x_iconst 64 rfl (v := 0) dX2_readNot_63 (by decide) ?_
    refine x_istore 66 rfl dX2_readNot_64 (by decide) [some (.ref 2), some (.ref 27), some (.int _), some (.int _), some (.int _), some (.int _)] rfl ?_
    obtain ⟨b9, b9h, h⟩ := x_bind h
    try dsimp only at h
    refine x_wk (x_le_n (x_le_s (x_le_n (x_le_n (x_le_s (x_le_s x_le_0)))))) (x_loop (fun a o h hK hG => b_Re_readNot_2_27_L66 (r := r) (σ1 := σ1) E S hrec _ a o h hK hG) _ _ _ b9h ?_)
    refine x_iconst 86 rfl (v := 1) dX2_readNot_85 (by decide) ?_
    cases h
    exact x_zret (Or.inr rfl) dX2_readNot_86 rfl rfl rfl
  · replace h := x_ifT hc h
    refine x_iconst 62 rfl (v := 0) dX2_readNot_61 (by decide) ?_
    cases h
    exact x_zret (Or.inl rfl) dX2_readNot_62 rfl rfl rfl
set_option maxHeartbeats 4000000 in
set_option maxRecDepth 100000 in
theorem c_Re_readNot_2_27 {l : Launch} {s0 : State} {a0 : Array Value} {D : va_G} {cA : Nat → ClassId} {sp : Nat → Nat} (E : x_En CL l s0 a0 D cA sp) (S : x_Sw s0 sp) {dR : Nat} {rec : Int32 → Int32 → xS → Option (Int32 × xS)} (hrec : ∀ (v2 v3 : Int32) (σ : xS) (r : Int32) (σ1 : xS), rec v2 v3 σ = some (r, σ1) → zC l s0 D cA sp dR M_Re_readExpr [.ref 2, .ref 27, .int v2, .int v3] σ (some (.int r)) σ1) (v2 : Int32) (v3 : Int32) {σ : xS} {r : Int32} {σ1 : xS} (h : f_Re_readNot_2_27 rec v2 v3 σ = some (r, σ1)) : zC l s0 D cA sp (dR + 7) M_Re_readNot [.ref 2, .ref 27, .int v2, .int v3] σ (some (.int r)) σ1 := by
  unfold f_Re_readNot_2_27 at h
  try dsimp only at h
  refine x_enter [some (.ref 2), some (.ref 27), some (.int v2), some (.int v3), none, none] rfl (Nat.le_of_ble_eq_true rfl) (by decide +kernel) rfl ?_
  refine x_iconst 1 rfl (v := 0) dX2_readNot_0 (by decide) ?_
  refine x_istore 3 rfl dX2_readNot_1 (by decide) [some (.ref 2), some (.ref 27), some (.int _), some (.int _), some (.int _), none] rfl ?_
  refine x_iconst 4 rfl (v := 0) dX2_readNot_3 (by decide) ?_
  refine x_istore 6 rfl dX2_readNot_4 (by decide) [some (.ref 2), some (.ref 27), some (.int _), some (.int _), some (.int _), some (.int _)] rfl ?_
  obtain ⟨b10, b10h, h⟩ := x_bind h
  try dsimp only at h
  refine x_wk (x_le_s (x_le_s (x_le_s (x_le_s (x_le_s (x_le_s x_le_0)))))) (x_loop (fun a o h hK hG => b_Re_readNot_2_27_L6 (r := r) (σ1 := σ1) E S hrec _ _ a o h hK hG) _ _ _ b10h ?_)
  cases b10 with
  | inl b10r =>
    try dsimp only at h
    cases h
    exact ⟨fun q e => (by cases e; rfl), fun e he => (by cases he)⟩
  | inr b10e =>
    try dsimp only at h
    refine ⟨fun q e => (by cases e), fun e he => ?_⟩
    cases he
    exact x_wk (x_le_s (x_le_s (x_le_s (x_le_s (x_le_s (x_le_n x_le_0)))))) (j_Re_readNot_2_27_J51 E S hrec _ _ _ _ h)
theorem K_RX2_244 : x_KV RX2 244 M_Re_readNot 3 := ⟨⟨(List.mem_append_right _ (List.mem_of_getElem? (i := 826) (by decide +kernel))), (List.mem_append_right _ (List.mem_of_getElem? (i := 829) (by decide +kernel))), (List.mem_append_right _ (List.mem_of_getElem? (i := 2) (by decide +kernel))), ⟨by decide +kernel, by decide +kernel⟩, by decide +kernel⟩, (List.mem_append_right _ (List.mem_of_getElem? (i := 828) (by decide +kernel))), (List.mem_append_left _ (List.mem_of_getElem? (i := 36) (by decide +kernel)))⟩
abbrev M_Re_readAnd : xM := (yX2_readAnd, cX2_readAnd, 5, some .boolean, [])
theorem dX2_readAnd_0 : decode cX2_readAnd 0 = .ok (.aload_n 0, 1) := by decide +kernel
theorem dX2_readAnd_1 : decode cX2_readAnd 1 = .ok (.aload_n 1, 1) := by decide +kernel
theorem dX2_readAnd_2 : decode cX2_readAnd 2 = .ok (.iload_n 2, 1) := by decide +kernel
theorem dX2_readAnd_3 : decode cX2_readAnd 3 = .ok (.iload_n 3, 1) := by decide +kernel
theorem dX2_readAnd_4 : decode cX2_readAnd 4 = .ok (.invokevirtual 244, 3) := by decide +kernel
theorem dX2_readAnd_7 : decode cX2_readAnd 7 = .ok (.ifCond .ne 5, 3) := by decide +kernel
theorem dX2_readAnd_10 : decode cX2_readAnd 10 = .ok (.iconst 0, 1) := by decide +kernel
theorem dX2_readAnd_11 : decode cX2_readAnd 11 = .ok (.ireturn, 1) := by decide +kernel
theorem dX2_readAnd_12 : decode cX2_readAnd 12 = .ok (.iconst 0, 1) := by decide +kernel
theorem dX2_readAnd_13 : decode cX2_readAnd 13 = .ok (.istore 4, 2) := by decide +kernel
theorem dX2_readAnd_15 : decode cX2_readAnd 15 = .ok (.iload 4, 2) := by decide +kernel
theorem dX2_readAnd_17 : decode cX2_readAnd 17 = .ok (.aload_n 0, 1) := by decide +kernel
theorem dX2_readAnd_18 : decode cX2_readAnd 18 = .ok (.getfield 21, 3) := by decide +kernel
theorem dX2_readAnd_21 : decode cX2_readAnd 21 = .ok (.if_icmp .ge 41, 3) := by decide +kernel
theorem dX2_readAnd_24 : decode cX2_readAnd 24 = .ok (.aload_n 0, 1) := by decide +kernel
theorem dX2_readAnd_25 : decode cX2_readAnd 25 = .ok (.getstatic 247, 3) := by decide +kernel
theorem dX2_readAnd_28 : decode cX2_readAnd 28 = .ok (.invokevirtual 53, 3) := by decide +kernel
theorem dX2_readAnd_31 : decode cX2_readAnd 31 = .ok (.ifCond .eq 31, 3) := by decide +kernel
theorem dX2_readAnd_34 : decode cX2_readAnd 34 = .ok (.aload_n 0, 1) := by decide +kernel
theorem dX2_readAnd_35 : decode cX2_readAnd 35 = .ok (.invokevirtual 118, 3) := by decide +kernel
theorem dX2_readAnd_38 : decode cX2_readAnd 38 = .ok (.aload_n 0, 1) := by decide +kernel
theorem dX2_readAnd_39 : decode cX2_readAnd 39 = .ok (.aload_n 1, 1) := by decide +kernel
theorem dX2_readAnd_40 : decode cX2_readAnd 40 = .ok (.iload_n 2, 1) := by decide +kernel
theorem dX2_readAnd_41 : decode cX2_readAnd 41 = .ok (.iload_n 3, 1) := by decide +kernel
theorem dX2_readAnd_42 : decode cX2_readAnd 42 = .ok (.invokevirtual 244, 3) := by decide +kernel
theorem dX2_readAnd_45 : decode cX2_readAnd 45 = .ok (.ifCond .ne 5, 3) := by decide +kernel
theorem dX2_readAnd_48 : decode cX2_readAnd 48 = .ok (.iconst 0, 1) := by decide +kernel
theorem dX2_readAnd_49 : decode cX2_readAnd 49 = .ok (.ireturn, 1) := by decide +kernel
theorem dX2_readAnd_50 : decode cX2_readAnd 50 = .ok (.aload_n 1, 1) := by decide +kernel
theorem dX2_readAnd_51 : decode cX2_readAnd 51 = .ok (.bipush (-8), 2) := by decide +kernel
theorem dX2_readAnd_53 : decode cX2_readAnd 53 = .ok (.invokevirtual 241, 3) := by decide +kernel
theorem dX2_readAnd_56 : decode cX2_readAnd 56 = .ok (.iinc 4 1, 3) := by decide +kernel
theorem dX2_readAnd_59 : decode cX2_readAnd 59 = .ok (.goto (-44), 3) := by decide +kernel
theorem dX2_readAnd_62 : decode cX2_readAnd 62 = .ok (.iconst 1, 1) := by decide +kernel
theorem dX2_readAnd_63 : decode cX2_readAnd 63 = .ok (.ireturn, 1) := by decide +kernel
def f_Re_readAnd_2_27_L15 (rec : Int32 → Int32 → xS → Option (Int32 × xS)) (v2 : Int32) (v3 : Int32) (a : Int32 × xS) : Option (((Int32 × xS) ⊕ (Int32 × xS)) ⊕ (Int32 × xS)) :=
  let v4 := a.1; let σ := a.2;
  if σ.1 2 3 ≤ v4 then
    some (.inl (.inr (v4, σ)))
  else
    (f_Re_isWord_2 1016 σ).bind fun q1 =>
    if q1.1 = 0 then
      some (.inl (.inr (v4, q1.2)))
    else
      (f_Re_advance_2  q1.2).bind fun q2 =>
      (f_Re_readNot_2_27 rec v2 v3 q2.2).bind fun q3 =>
      if q3.1 = 0 then
        some (.inl (.inl ((0 : Int32), q3.2)))
      else
        (f_Ru_add_27 (-8 : Int32) q3.2).bind fun q4 =>
        let w5 := v4 + (1 : Int32)
        some (.inr (w5, q4.2))
def f_Re_readAnd_2_27 (rec : Int32 → Int32 → xS → Option (Int32 × xS)) (v2 : Int32) (v3 : Int32) (σ : xS) : Option (Int32 × xS) :=
  (f_Re_readNot_2_27 rec v2 v3 σ).bind fun q6 =>
  if q6.1 = 0 then
    some ((0 : Int32), q6.2)
  else
    (x_it (f_Re_readAnd_2_27_L15 rec v2 v3) 10000 ((0 : Int32), q6.2)).bind fun b7 =>
    match b7 with
    | .inl b7r => some b7r
    | .inr b7e =>
      some ((1 : Int32), b7e.2)
set_option maxHeartbeats 4000000 in
set_option maxRecDepth 100000 in
theorem b_Re_readAnd_2_27_L15 {l : Launch} {s0 : State} {a0 : Array Value} {D : va_G} {cA : Nat → ClassId} {sp : Nat → Nat} (E : x_En CL l s0 a0 D cA sp) (S : x_Sw s0 sp) {dR : Nat} {rec : Int32 → Int32 → xS → Option (Int32 × xS)} (hrec : ∀ (v2 v3 : Int32) (σ : xS) (r : Int32) (σ1 : xS), rec v2 v3 σ = some (r, σ1) → zC l s0 D cA sp dR M_Re_readExpr [.ref 2, .ref 27, .int v2, .int v3] σ (some (.int r)) σ1) (v2 : Int32) (v3 : Int32) {r : Int32} {σ1 : xS} (a : Int32 × xS) (o : ((Int32 × xS) ⊕ (Int32 × xS)) ⊕ (Int32 × xS)) (h : f_Re_readAnd_2_27_L15 rec v2 v3 a = some o) (hK : ∀ b, o = .inl b → (∀ q, b = .inl q → q = (r, σ1)) ∧ ∀ e, b = .inr e → zW l s0 D cA sp (zQ s0 D cA sp (some (.int r)) σ1) (x_rm (dR + 8) 0 0) M_Re_readAnd 0 0 62 [none, none, none, none, none] [] e.2) (hG : ∀ a', o = .inr a' → zW l s0 D cA sp (zQ s0 D cA sp (some (.int r)) σ1) (x_rm (dR + 8) 0 0) M_Re_readAnd 0 0 15 [some (.ref 2), some (.ref 27), some (.int v2), some (.int v3), some (.int a'.1)] [] a'.2) : zW l s0 D cA sp (zQ s0 D cA sp (some (.int r)) σ1) (x_rm (dR + 8) 0 0) M_Re_readAnd 0 0 15 [some (.ref 2), some (.ref 27), some (.int v2), some (.int v3), some (.int a.1)] [] a.2 := by
  obtain ⟨v4, σ⟩ := a
  unfold f_Re_readAnd_2_27_L15 at h
  try dsimp only at h ⊢
  refine x_iload 17 rfl dX2_readAnd_15 rfl ?_
  refine x_aload_n 18 rfl 0 dX2_readAnd_17 rfl rfl ?_
  refine x_getI E dX2_readAnd_18 F_RX2_21 sh_2 21 rfl ?_
  refine x_icmp_ge 24 rfl 62 dX2_readAnd_21 (by decide) (fun hc => ?_) (fun hc => ?_)
  · replace h := x_ifT hc h
    cases h
    exact x_wk (x_le_n (x_le_n (x_le_n (x_le_n (x_le_n x_le_0))))) ((hK (.inr (_, _)) rfl).2 (_, _) rfl)
  · replace h := x_ifF hc h
    refine x_aload_n 25 rfl 0 dX2_readAnd_24 rfl rfl ?_
    refine z_word E S (n := "AND") 16 1016 (by decide) rfl rfl dX2_readAnd_25 (List.mem_append_right _ (List.mem_of_getElem? (i := 861) (by decide +kernel))) 28 rfl ?_
    obtain ⟨⟨q1r, q1s⟩, q1h, h⟩ := x_bind h
    try dsimp only at h
    refine z_callV E [.ref _] [] dX2_readAnd_28 K_RX2_53 (x_fitC (Nat.le_of_ble_eq_true rfl) (Nat.le_of_ble_eq_true rfl)) sh_2 (by decide) rfl (c_Re_isWord_2 E S _ q1h) rfl rfl (Nat.le_of_ble_eq_true rfl) 31 rfl [.int _] rfl ?_
    refine x_if_eq 34 rfl 62 dX2_readAnd_31 (by decide) (fun hc => ?_) (fun hc => ?_)
    · replace h := x_ifT hc h
      cases h
      exact x_wk (x_le_n (x_le_n (x_le_n (x_le_n (x_le_n x_le_0))))) ((hK (.inr (_, _)) rfl).2 (_, _) rfl)
    · replace h := x_ifF hc h
      refine x_aload_n 35 rfl 0 dX2_readAnd_34 rfl rfl ?_
      obtain ⟨⟨q2r, q2s⟩, q2h, h⟩ := x_bind h
      try dsimp only at h
      refine z_callV E [] [] dX2_readAnd_35 K_RX2_118 (x_fitC (Nat.le_of_ble_eq_true rfl) (Nat.le_of_ble_eq_true rfl)) sh_2 (by decide) rfl (c_Re_advance_2 E  q2h) rfl rfl (Nat.le_of_ble_eq_true rfl) 38 rfl [] rfl ?_
      refine x_aload_n 39 rfl 0 dX2_readAnd_38 rfl rfl ?_
      refine x_aload_n 40 rfl 1 dX2_readAnd_39 rfl rfl ?_
      refine x_iload_n 41 rfl 2 dX2_readAnd_40 rfl rfl ?_
      refine x_iload_n 42 rfl 3 dX2_readAnd_41 rfl rfl ?_
      obtain ⟨⟨q3r, q3s⟩, q3h, h⟩ := x_bind h
      try dsimp only at h
      refine z_callV E [.ref 27, .int _, .int _] [] dX2_readAnd_42 K_RX2_244 (x_fitR (a := 7) (Nat.le_of_ble_eq_true rfl) (Nat.le_of_ble_eq_true rfl)) sh_2 (by decide) rfl (c_Re_readNot_2_27 E S hrec _ _ q3h) rfl rfl (Nat.le_of_ble_eq_true rfl) 45 rfl [.int _] rfl ?_
      refine x_if_ne 48 rfl 50 dX2_readAnd_45 (by decide) (fun hc => ?_) (fun hc => ?_)
      · replace h := x_ifF hc h
        refine x_aload_n 51 rfl 1 dX2_readAnd_50 rfl rfl ?_
        refine x_bipush 53 rfl (v := -8) dX2_readAnd_51 (by decide) ?_
        obtain ⟨⟨q4r, q4s⟩, q4h, h⟩ := x_bind h
        try dsimp only at h
        refine z_callV E [.int _] [] dX2_readAnd_53 K_RX2_241 (x_fitC (Nat.le_of_ble_eq_true rfl) (Nat.le_of_ble_eq_true rfl)) sh_27 (by decide) rfl (c_Ru_add_27 E _ q4h) rfl rfl (Nat.le_of_ble_eq_true rfl) 56 rfl [] rfl ?_
        refine x_iinc 59 rfl (1) dX2_readAnd_56 rfl (by decide) (by decide) [some (.ref 2), some (.ref 27), some (.int _), some (.int _), some (.int _)] rfl ?_
        refine x_goto 15 dX2_readAnd_59 (by decide) ?_
        cases h
        exact x_wk (x_le_s (x_le_s (x_le_s (x_le_s (x_le_s x_le_0))))) (hG (_, _) rfl)
      · replace h := x_ifT hc h
        refine x_iconst 49 rfl (v := 0) dX2_readAnd_48 (by decide) ?_
        cases h
        cases (hK (.inl (_, _)) rfl).1 (_, _) rfl
        exact x_zret (Or.inl rfl) dX2_readAnd_49 rfl rfl rfl
set_option maxHeartbeats 4000000 in
set_option maxRecDepth 100000 in
theorem c_Re_readAnd_2_27 {l : Launch} {s0 : State} {a0 : Array Value} {D : va_G} {cA : Nat → ClassId} {sp : Nat → Nat} (E : x_En CL l s0 a0 D cA sp) (S : x_Sw s0 sp) {dR : Nat} {rec : Int32 → Int32 → xS → Option (Int32 × xS)} (hrec : ∀ (v2 v3 : Int32) (σ : xS) (r : Int32) (σ1 : xS), rec v2 v3 σ = some (r, σ1) → zC l s0 D cA sp dR M_Re_readExpr [.ref 2, .ref 27, .int v2, .int v3] σ (some (.int r)) σ1) (v2 : Int32) (v3 : Int32) {σ : xS} {r : Int32} {σ1 : xS} (h : f_Re_readAnd_2_27 rec v2 v3 σ = some (r, σ1)) : zC l s0 D cA sp (dR + 8) M_Re_readAnd [.ref 2, .ref 27, .int v2, .int v3] σ (some (.int r)) σ1 := by
  unfold f_Re_readAnd_2_27 at h
  try dsimp only at h
  refine x_enter [some (.ref 2), some (.ref 27), some (.int v2), some (.int v3), none] rfl (Nat.le_of_ble_eq_true rfl) (by decide +kernel) rfl ?_
  refine x_aload_n 1 rfl 0 dX2_readAnd_0 rfl rfl ?_
  refine x_aload_n 2 rfl 1 dX2_readAnd_1 rfl rfl ?_
  refine x_iload_n 3 rfl 2 dX2_readAnd_2 rfl rfl ?_
  refine x_iload_n 4 rfl 3 dX2_readAnd_3 rfl rfl ?_
  obtain ⟨⟨q6r, q6s⟩, q6h, h⟩ := x_bind h
  try dsimp only at h
  refine z_callV E [.ref 27, .int _, .int _] [] dX2_readAnd_4 K_RX2_244 (x_fitR (a := 7) (Nat.le_of_ble_eq_true rfl) (Nat.le_of_ble_eq_true rfl)) sh_2 (by decide) rfl (c_Re_readNot_2_27 E S hrec _ _ q6h) rfl rfl (Nat.le_of_ble_eq_true rfl) 7 rfl [.int _] rfl ?_
  refine x_if_ne 10 rfl 12 dX2_readAnd_7 (by decide) (fun hc => ?_) (fun hc => ?_)
  · replace h := x_ifF hc h
    refine x_iconst 13 rfl (v := 0) dX2_readAnd_12 (by decide) ?_
    refine x_istore 15 rfl dX2_readAnd_13 (by decide) [some (.ref 2), some (.ref 27), some (.int _), some (.int _), some (.int _)] rfl ?_
    obtain ⟨b7, b7h, h⟩ := x_bind h
    try dsimp only at h
    refine x_wk (x_le_s (x_le_s (x_le_s (x_le_s (x_le_s x_le_0))))) (x_loop (fun a o h hK hG => b_Re_readAnd_2_27_L15 (r := r) (σ1 := σ1) E S hrec _ _ a o h hK hG) _ _ _ b7h ?_)
    cases b7 with
    | inl b7r =>
      try dsimp only at h
      cases h
      exact ⟨fun q e => (by cases e; rfl), fun e he => (by cases he)⟩
    | inr b7e =>
      try dsimp only at h
      refine ⟨fun q e => (by cases e), fun e he => ?_⟩
      cases he
      refine x_iconst 63 rfl (v := 1) dX2_readAnd_62 (by decide) ?_
      cases h
      exact x_zret (Or.inr rfl) dX2_readAnd_63 rfl rfl rfl
  · replace h := x_ifT hc h
    refine x_iconst 11 rfl (v := 0) dX2_readAnd_10 (by decide) ?_
    cases h
    exact x_zret (Or.inl rfl) dX2_readAnd_11 rfl rfl rfl
theorem K_RX2_235 : x_KV RX2 235 M_Re_readAnd 3 := ⟨⟨(List.mem_append_right _ (List.mem_of_getElem? (i := 822) (by decide +kernel))), (List.mem_append_right _ (List.mem_of_getElem? (i := 825) (by decide +kernel))), (List.mem_append_right _ (List.mem_of_getElem? (i := 2) (by decide +kernel))), ⟨by decide +kernel, by decide +kernel⟩, by decide +kernel⟩, (List.mem_append_right _ (List.mem_of_getElem? (i := 824) (by decide +kernel))), (List.mem_append_left _ (List.mem_of_getElem? (i := 35) (by decide +kernel)))⟩
theorem dX2_readExpr_0 : decode cX2_readExpr 0 = .ok (.iload_n 3, 1) := by decide +kernel
theorem dX2_readExpr_1 : decode cX2_readExpr 1 = .ok (.iconst 5, 1) := by decide +kernel
theorem dX2_readExpr_2 : decode cX2_readExpr 2 = .ok (.if_icmp .le 50, 3) := by decide +kernel
theorem dX2_readExpr_5 : decode cX2_readExpr 5 = .ok (.aload_n 0, 1) := by decide +kernel
theorem dX2_readExpr_6 : decode cX2_readExpr 6 = .ok (.iconst 2, 1) := by decide +kernel
theorem dX2_readExpr_7 : decode cX2_readExpr 7 = .ok (.invokevirtual 61, 3) := by decide +kernel
theorem dX2_readExpr_10 : decode cX2_readExpr 10 = .ok (.ifCond .ne 20, 3) := by decide +kernel
theorem dX2_readExpr_13 : decode cX2_readExpr 13 = .ok (.aload_n 0, 1) := by decide +kernel
theorem dX2_readExpr_14 : decode cX2_readExpr 14 = .ok (.iconst 1, 1) := by decide +kernel
theorem dX2_readExpr_15 : decode cX2_readExpr 15 = .ok (.invokevirtual 61, 3) := by decide +kernel
theorem dX2_readExpr_18 : decode cX2_readExpr 18 = .ok (.ifCond .ne 12, 3) := by decide +kernel
theorem dX2_readExpr_21 : decode cX2_readExpr 21 = .ok (.aload_n 0, 1) := by decide +kernel
theorem dX2_readExpr_22 : decode cX2_readExpr 22 = .ok (.bipush 40, 2) := by decide +kernel
theorem dX2_readExpr_24 : decode cX2_readExpr 24 = .ok (.invokevirtual 121, 3) := by decide +kernel
theorem dX2_readExpr_27 : decode cX2_readExpr 27 = .ok (.ifCond .eq 7, 3) := by decide +kernel
theorem dX2_readExpr_30 : decode cX2_readExpr 30 = .ok (.iconst 1, 1) := by decide +kernel
theorem dX2_readExpr_31 : decode cX2_readExpr 31 = .ok (.goto 4, 3) := by decide +kernel
theorem dX2_readExpr_34 : decode cX2_readExpr 34 = .ok (.iconst 0, 1) := by decide +kernel
theorem dX2_readExpr_35 : decode cX2_readExpr 35 = .ok (.istore 4, 2) := by decide +kernel
theorem dX2_readExpr_37 : decode cX2_readExpr 37 = .ok (.aload_n 0, 1) := by decide +kernel
theorem dX2_readExpr_38 : decode cX2_readExpr 38 = .ok (.iload 4, 2) := by decide +kernel
theorem dX2_readExpr_40 : decode cX2_readExpr 40 = .ok (.ifCond .eq 7, 3) := by decide +kernel
theorem dX2_readExpr_43 : decode cX2_readExpr 43 = .ok (.iconst 2, 1) := by decide +kernel
theorem dX2_readExpr_44 : decode cX2_readExpr 44 = .ok (.goto 4, 3) := by decide +kernel
theorem dX2_readExpr_47 : decode cX2_readExpr 47 = .ok (.iconst 1, 1) := by decide +kernel
theorem dX2_readExpr_48 : decode cX2_readExpr 48 = .ok (.invokevirtual 115, 3) := by decide +kernel
theorem dX2_readExpr_51 : decode cX2_readExpr 51 = .ok (.ireturn, 1) := by decide +kernel
theorem dX2_readExpr_52 : decode cX2_readExpr 52 = .ok (.aload_n 0, 1) := by decide +kernel
theorem dX2_readExpr_53 : decode cX2_readExpr 53 = .ok (.aload_n 1, 1) := by decide +kernel
theorem dX2_readExpr_54 : decode cX2_readExpr 54 = .ok (.iload_n 2, 1) := by decide +kernel
theorem dX2_readExpr_55 : decode cX2_readExpr 55 = .ok (.iload_n 3, 1) := by decide +kernel
theorem dX2_readExpr_56 : decode cX2_readExpr 56 = .ok (.invokevirtual 235, 3) := by decide +kernel
theorem dX2_readExpr_59 : decode cX2_readExpr 59 = .ok (.ifCond .ne 5, 3) := by decide +kernel
theorem dX2_readExpr_62 : decode cX2_readExpr 62 = .ok (.iconst 0, 1) := by decide +kernel
theorem dX2_readExpr_63 : decode cX2_readExpr 63 = .ok (.ireturn, 1) := by decide +kernel
theorem dX2_readExpr_64 : decode cX2_readExpr 64 = .ok (.iconst 0, 1) := by decide +kernel
theorem dX2_readExpr_65 : decode cX2_readExpr 65 = .ok (.istore 4, 2) := by decide +kernel
theorem dX2_readExpr_67 : decode cX2_readExpr 67 = .ok (.iload 4, 2) := by decide +kernel
theorem dX2_readExpr_69 : decode cX2_readExpr 69 = .ok (.aload_n 0, 1) := by decide +kernel
theorem dX2_readExpr_70 : decode cX2_readExpr 70 = .ok (.getfield 21, 3) := by decide +kernel
theorem dX2_readExpr_73 : decode cX2_readExpr 73 = .ok (.if_icmp .ge 41, 3) := by decide +kernel
theorem dX2_readExpr_76 : decode cX2_readExpr 76 = .ok (.aload_n 0, 1) := by decide +kernel
theorem dX2_readExpr_77 : decode cX2_readExpr 77 = .ok (.getstatic 238, 3) := by decide +kernel
theorem dX2_readExpr_80 : decode cX2_readExpr 80 = .ok (.invokevirtual 53, 3) := by decide +kernel
theorem dX2_readExpr_83 : decode cX2_readExpr 83 = .ok (.ifCond .eq 31, 3) := by decide +kernel
theorem dX2_readExpr_86 : decode cX2_readExpr 86 = .ok (.aload_n 0, 1) := by decide +kernel
theorem dX2_readExpr_87 : decode cX2_readExpr 87 = .ok (.invokevirtual 118, 3) := by decide +kernel
theorem dX2_readExpr_90 : decode cX2_readExpr 90 = .ok (.aload_n 0, 1) := by decide +kernel
theorem dX2_readExpr_91 : decode cX2_readExpr 91 = .ok (.aload_n 1, 1) := by decide +kernel
theorem dX2_readExpr_92 : decode cX2_readExpr 92 = .ok (.iload_n 2, 1) := by decide +kernel
theorem dX2_readExpr_93 : decode cX2_readExpr 93 = .ok (.iload_n 3, 1) := by decide +kernel
theorem dX2_readExpr_94 : decode cX2_readExpr 94 = .ok (.invokevirtual 235, 3) := by decide +kernel
theorem dX2_readExpr_97 : decode cX2_readExpr 97 = .ok (.ifCond .ne 5, 3) := by decide +kernel
theorem dX2_readExpr_100 : decode cX2_readExpr 100 = .ok (.iconst 0, 1) := by decide +kernel
theorem dX2_readExpr_101 : decode cX2_readExpr 101 = .ok (.ireturn, 1) := by decide +kernel
theorem dX2_readExpr_102 : decode cX2_readExpr 102 = .ok (.aload_n 1, 1) := by decide +kernel
theorem dX2_readExpr_103 : decode cX2_readExpr 103 = .ok (.bipush (-9), 2) := by decide +kernel
theorem dX2_readExpr_105 : decode cX2_readExpr 105 = .ok (.invokevirtual 241, 3) := by decide +kernel
theorem dX2_readExpr_108 : decode cX2_readExpr 108 = .ok (.iinc 4 1, 3) := by decide +kernel
theorem dX2_readExpr_111 : decode cX2_readExpr 111 = .ok (.goto (-44), 3) := by decide +kernel
theorem dX2_readExpr_114 : decode cX2_readExpr 114 = .ok (.iconst 1, 1) := by decide +kernel
theorem dX2_readExpr_115 : decode cX2_readExpr 115 = .ok (.ireturn, 1) := by decide +kernel
def f_Re_readExprB_2_27_L67 (rec : Int32 → Int32 → xS → Option (Int32 × xS)) (v2 : Int32) (v3 : Int32) (a : Int32 × xS) : Option (((Int32 × xS) ⊕ (Int32 × xS)) ⊕ (Int32 × xS)) :=
  let v4 := a.1; let σ := a.2;
  if σ.1 2 3 ≤ v4 then
    some (.inl (.inr (v4, σ)))
  else
    (f_Re_isWord_2 1015 σ).bind fun q1 =>
    if q1.1 = 0 then
      some (.inl (.inr (v4, q1.2)))
    else
      (f_Re_advance_2  q1.2).bind fun q2 =>
      (f_Re_readAnd_2_27 rec v2 v3 q2.2).bind fun q3 =>
      if q3.1 = 0 then
        some (.inl (.inl ((0 : Int32), q3.2)))
      else
        (f_Ru_add_27 (-9 : Int32) q3.2).bind fun q4 =>
        let w5 := v4 + (1 : Int32)
        some (.inr (w5, q4.2))
def f_Re_readExprB_2_27_J35 (rec : Int32 → Int32 → xS → Option (Int32 × xS)) (y0 : Int32) (σ : xS) : Option (Int32 × xS) :=
  if y0 = 0 then
    (f_Re_refuse_2 (1 : Int32) σ).bind fun q6 =>
    x_ok (q6.1 = 0 ∨ q6.1 = 1) <|
    some (q6.1, q6.2)
  else
    (f_Re_refuse_2 (2 : Int32) σ).bind fun q7 =>
    x_ok (q7.1 = 0 ∨ q7.1 = 1) <|
    some (q7.1, q7.2)
def f_Re_readExprB_2_27_J30 (rec : Int32 → Int32 → xS → Option (Int32 × xS))  (σ : xS) : Option (Int32 × xS) :=
  f_Re_readExprB_2_27_J35 rec (1 : Int32) σ
def f_Re_readExprB_2_27 (rec : Int32 → Int32 → xS → Option (Int32 × xS)) (v2 : Int32) (v3 : Int32) (σ : xS) : Option (Int32 × xS) :=
  if v3 ≤ (5 : Int32) then
    (f_Re_readAnd_2_27 rec v2 v3 σ).bind fun q8 =>
    if q8.1 = 0 then
      some ((0 : Int32), q8.2)
    else
      (x_it (f_Re_readExprB_2_27_L67 rec v2 v3) 10000 ((0 : Int32), q8.2)).bind fun b9 =>
      match b9 with
      | .inl b9r => some b9r
      | .inr b9e =>
        some ((1 : Int32), b9e.2)
  else
    (f_Re_isKind_2 (2 : Int32) σ).bind fun q10 =>
    if q10.1 = 0 then
      (f_Re_isKind_2 (1 : Int32) q10.2).bind fun q11 =>
      if q11.1 = 0 then
        (f_Re_isSign_2 (40 : Int32) q11.2).bind fun q12 =>
        if q12.1 = 0 then
          f_Re_readExprB_2_27_J35 rec (0 : Int32) q12.2
        else
          f_Re_readExprB_2_27_J30 rec  q12.2
      else
        f_Re_readExprB_2_27_J30 rec  q11.2
    else
      f_Re_readExprB_2_27_J30 rec  q10.2
set_option maxHeartbeats 4000000 in
set_option maxRecDepth 100000 in
theorem b_Re_readExprB_2_27_L67 {l : Launch} {s0 : State} {a0 : Array Value} {D : va_G} {cA : Nat → ClassId} {sp : Nat → Nat} (E : x_En CL l s0 a0 D cA sp) (S : x_Sw s0 sp) {dR : Nat} {rec : Int32 → Int32 → xS → Option (Int32 × xS)} (hrec : ∀ (v2 v3 : Int32) (σ : xS) (r : Int32) (σ1 : xS), rec v2 v3 σ = some (r, σ1) → zC l s0 D cA sp dR M_Re_readExpr [.ref 2, .ref 27, .int v2, .int v3] σ (some (.int r)) σ1) (v2 : Int32) (v3 : Int32) {r : Int32} {σ1 : xS} (a : Int32 × xS) (o : ((Int32 × xS) ⊕ (Int32 × xS)) ⊕ (Int32 × xS)) (h : f_Re_readExprB_2_27_L67 rec v2 v3 a = some o) (hK : ∀ b, o = .inl b → (∀ q, b = .inl q → q = (r, σ1)) ∧ ∀ e, b = .inr e → zW l s0 D cA sp (zQ s0 D cA sp (some (.int r)) σ1) (x_rm (dR + 9) 0 0) M_Re_readExpr 0 0 114 [none, none, none, none, none] [] e.2) (hG : ∀ a', o = .inr a' → zW l s0 D cA sp (zQ s0 D cA sp (some (.int r)) σ1) (x_rm (dR + 9) 0 0) M_Re_readExpr 0 0 67 [some (.ref 2), some (.ref 27), some (.int v2), some (.int v3), some (.int a'.1)] [] a'.2) : zW l s0 D cA sp (zQ s0 D cA sp (some (.int r)) σ1) (x_rm (dR + 9) 0 0) M_Re_readExpr 0 0 67 [some (.ref 2), some (.ref 27), some (.int v2), some (.int v3), some (.int a.1)] [] a.2 := by
  obtain ⟨v4, σ⟩ := a
  unfold f_Re_readExprB_2_27_L67 at h
  try dsimp only at h ⊢
  refine x_iload 69 rfl dX2_readExpr_67 rfl ?_
  refine x_aload_n 70 rfl 0 dX2_readExpr_69 rfl rfl ?_
  refine x_getI E dX2_readExpr_70 F_RX2_21 sh_2 73 rfl ?_
  refine x_icmp_ge 76 rfl 114 dX2_readExpr_73 (by decide) (fun hc => ?_) (fun hc => ?_)
  · replace h := x_ifT hc h
    cases h
    exact x_wk (x_le_n (x_le_n (x_le_n (x_le_n (x_le_n x_le_0))))) ((hK (.inr (_, _)) rfl).2 (_, _) rfl)
  · replace h := x_ifF hc h
    refine x_aload_n 77 rfl 0 dX2_readExpr_76 rfl rfl ?_
    refine z_word E S (n := "OR") 15 1015 (by decide) rfl rfl dX2_readExpr_77 (List.mem_append_right _ (List.mem_of_getElem? (i := 863) (by decide +kernel))) 80 rfl ?_
    obtain ⟨⟨q1r, q1s⟩, q1h, h⟩ := x_bind h
    try dsimp only at h
    refine z_callV E [.ref _] [] dX2_readExpr_80 K_RX2_53 (x_fitC (Nat.le_of_ble_eq_true rfl) (Nat.le_of_ble_eq_true rfl)) sh_2 (by decide) rfl (c_Re_isWord_2 E S _ q1h) rfl rfl (Nat.le_of_ble_eq_true rfl) 83 rfl [.int _] rfl ?_
    refine x_if_eq 86 rfl 114 dX2_readExpr_83 (by decide) (fun hc => ?_) (fun hc => ?_)
    · replace h := x_ifT hc h
      cases h
      exact x_wk (x_le_n (x_le_n (x_le_n (x_le_n (x_le_n x_le_0))))) ((hK (.inr (_, _)) rfl).2 (_, _) rfl)
    · replace h := x_ifF hc h
      refine x_aload_n 87 rfl 0 dX2_readExpr_86 rfl rfl ?_
      obtain ⟨⟨q2r, q2s⟩, q2h, h⟩ := x_bind h
      try dsimp only at h
      refine z_callV E [] [] dX2_readExpr_87 K_RX2_118 (x_fitC (Nat.le_of_ble_eq_true rfl) (Nat.le_of_ble_eq_true rfl)) sh_2 (by decide) rfl (c_Re_advance_2 E  q2h) rfl rfl (Nat.le_of_ble_eq_true rfl) 90 rfl [] rfl ?_
      refine x_aload_n 91 rfl 0 dX2_readExpr_90 rfl rfl ?_
      refine x_aload_n 92 rfl 1 dX2_readExpr_91 rfl rfl ?_
      refine x_iload_n 93 rfl 2 dX2_readExpr_92 rfl rfl ?_
      refine x_iload_n 94 rfl 3 dX2_readExpr_93 rfl rfl ?_
      obtain ⟨⟨q3r, q3s⟩, q3h, h⟩ := x_bind h
      try dsimp only at h
      refine z_callV E [.ref 27, .int _, .int _] [] dX2_readExpr_94 K_RX2_235 (x_fitR (a := 8) (Nat.le_of_ble_eq_true rfl) (Nat.le_of_ble_eq_true rfl)) sh_2 (by decide) rfl (c_Re_readAnd_2_27 E S hrec _ _ q3h) rfl rfl (Nat.le_of_ble_eq_true rfl) 97 rfl [.int _] rfl ?_
      refine x_if_ne 100 rfl 102 dX2_readExpr_97 (by decide) (fun hc => ?_) (fun hc => ?_)
      · replace h := x_ifF hc h
        refine x_aload_n 103 rfl 1 dX2_readExpr_102 rfl rfl ?_
        refine x_bipush 105 rfl (v := -9) dX2_readExpr_103 (by decide) ?_
        obtain ⟨⟨q4r, q4s⟩, q4h, h⟩ := x_bind h
        try dsimp only at h
        refine z_callV E [.int _] [] dX2_readExpr_105 K_RX2_241 (x_fitC (Nat.le_of_ble_eq_true rfl) (Nat.le_of_ble_eq_true rfl)) sh_27 (by decide) rfl (c_Ru_add_27 E _ q4h) rfl rfl (Nat.le_of_ble_eq_true rfl) 108 rfl [] rfl ?_
        refine x_iinc 111 rfl (1) dX2_readExpr_108 rfl (by decide) (by decide) [some (.ref 2), some (.ref 27), some (.int _), some (.int _), some (.int _)] rfl ?_
        refine x_goto 67 dX2_readExpr_111 (by decide) ?_
        cases h
        exact x_wk (x_le_s (x_le_s (x_le_s (x_le_s (x_le_s x_le_0))))) (hG (_, _) rfl)
      · replace h := x_ifT hc h
        refine x_iconst 101 rfl (v := 0) dX2_readExpr_100 (by decide) ?_
        cases h
        cases (hK (.inl (_, _)) rfl).1 (_, _) rfl
        exact x_zret (Or.inl rfl) dX2_readExpr_101 rfl rfl rfl
set_option maxHeartbeats 4000000 in
set_option maxRecDepth 100000 in
theorem j_Re_readExprB_2_27_J35 {l : Launch} {s0 : State} {a0 : Array Value} {D : va_G} {cA : Nat → ClassId} {sp : Nat → Nat} (E : x_En CL l s0 a0 D cA sp) (S : x_Sw s0 sp) {dR : Nat} {rec : Int32 → Int32 → xS → Option (Int32 × xS)} (hrec : ∀ (v2 v3 : Int32) (σ : xS) (r : Int32) (σ1 : xS), rec v2 v3 σ = some (r, σ1) → zC l s0 D cA sp dR M_Re_readExpr [.ref 2, .ref 27, .int v2, .int v3] σ (some (.int r)) σ1) (y0 : Int32) (σ : xS) {r : Int32} {σ1 : xS} (h : f_Re_readExprB_2_27_J35 rec y0 σ = some (r, σ1)) : zW l s0 D cA sp (zQ s0 D cA sp (some (.int r)) σ1) (x_rm (dR + 9) 0 0) M_Re_readExpr 0 0 35 [some (.ref 2), none, none, none, none] [.int y0] σ := by
  unfold f_Re_readExprB_2_27_J35 at h
  try dsimp only at h
  refine x_istore 37 rfl dX2_readExpr_35 (by decide) [some (.ref 2), none, none, none, some (.int _)] rfl ?_
  refine x_aload_n 38 rfl 0 dX2_readExpr_37 rfl rfl ?_
  refine x_iload 40 rfl dX2_readExpr_38 rfl ?_
  refine x_if_eq 43 rfl 47 dX2_readExpr_40 (by decide) (fun hc => ?_) (fun hc => ?_)
  · replace h := x_ifT hc h
    refine x_iconst 48 rfl (v := 1) dX2_readExpr_47 (by decide) ?_
    obtain ⟨⟨q6r, q6s⟩, q6h, h⟩ := x_bind h
    try dsimp only at h
    refine z_callV E [.int _] [] dX2_readExpr_48 K_RX2_115 (x_fitC (Nat.le_of_ble_eq_true rfl) (Nat.le_of_ble_eq_true rfl)) sh_2 (by decide) rfl (c_Re_refuse_2 E _ q6h) rfl rfl (Nat.le_of_ble_eq_true rfl) 51 rfl [.int _] rfl ?_
    obtain ⟨hz, h⟩ := x_ift h
    cases h
    exact x_zret hz dX2_readExpr_51 rfl rfl rfl
  · replace h := x_ifF hc h
    refine x_iconst 44 rfl (v := 2) dX2_readExpr_43 (by decide) ?_
    refine x_goto 48 dX2_readExpr_44 (by decide) ?_
    obtain ⟨⟨q7r, q7s⟩, q7h, h⟩ := x_bind h
    try dsimp only at h
    refine z_callV E [.int _] [] dX2_readExpr_48 K_RX2_115 (x_fitC (Nat.le_of_ble_eq_true rfl) (Nat.le_of_ble_eq_true rfl)) sh_2 (by decide) rfl (c_Re_refuse_2 E _ q7h) rfl rfl (Nat.le_of_ble_eq_true rfl) 51 rfl [.int _] rfl ?_
    obtain ⟨hz, h⟩ := x_ift h
    cases h
    exact x_zret hz dX2_readExpr_51 rfl rfl rfl
set_option maxHeartbeats 4000000 in
set_option maxRecDepth 100000 in
theorem j_Re_readExprB_2_27_J30 {l : Launch} {s0 : State} {a0 : Array Value} {D : va_G} {cA : Nat → ClassId} {sp : Nat → Nat} (E : x_En CL l s0 a0 D cA sp) (S : x_Sw s0 sp) {dR : Nat} {rec : Int32 → Int32 → xS → Option (Int32 × xS)} (hrec : ∀ (v2 v3 : Int32) (σ : xS) (r : Int32) (σ1 : xS), rec v2 v3 σ = some (r, σ1) → zC l s0 D cA sp dR M_Re_readExpr [.ref 2, .ref 27, .int v2, .int v3] σ (some (.int r)) σ1)  (σ : xS) {r : Int32} {σ1 : xS} (h : f_Re_readExprB_2_27_J30 rec  σ = some (r, σ1)) : zW l s0 D cA sp (zQ s0 D cA sp (some (.int r)) σ1) (x_rm (dR + 9) 0 0) M_Re_readExpr 0 0 30 [some (.ref 2), none, none, none, none] [] σ := by
  unfold f_Re_readExprB_2_27_J30 at h
  try dsimp only at h
  refine x_iconst 31 rfl (v := 1) dX2_readExpr_30 (by decide) ?_
  refine x_goto 35 dX2_readExpr_31 (by decide) ?_
  exact x_wk (x_le_s (x_le_n (x_le_n (x_le_n (x_le_n x_le_0))))) (j_Re_readExprB_2_27_J35 E S hrec _ _ h)
set_option maxHeartbeats 4000000 in
set_option maxRecDepth 100000 in
theorem c_Re_readExprB_2_27 {l : Launch} {s0 : State} {a0 : Array Value} {D : va_G} {cA : Nat → ClassId} {sp : Nat → Nat} (E : x_En CL l s0 a0 D cA sp) (S : x_Sw s0 sp) {dR : Nat} {rec : Int32 → Int32 → xS → Option (Int32 × xS)} (hrec : ∀ (v2 v3 : Int32) (σ : xS) (r : Int32) (σ1 : xS), rec v2 v3 σ = some (r, σ1) → zC l s0 D cA sp dR M_Re_readExpr [.ref 2, .ref 27, .int v2, .int v3] σ (some (.int r)) σ1) (v2 : Int32) (v3 : Int32) {σ : xS} {r : Int32} {σ1 : xS} (h : f_Re_readExprB_2_27 rec v2 v3 σ = some (r, σ1)) : zC l s0 D cA sp (dR + 9) M_Re_readExpr [.ref 2, .ref 27, .int v2, .int v3] σ (some (.int r)) σ1 := by
  unfold f_Re_readExprB_2_27 at h
  try dsimp only at h
  refine x_enter [some (.ref 2), some (.ref 27), some (.int v2), some (.int v3), none] rfl (Nat.le_of_ble_eq_true rfl) (by decide +kernel) rfl ?_
  refine x_iload_n 1 rfl 3 dX2_readExpr_0 rfl rfl ?_
  refine x_iconst 2 rfl (v := 5) dX2_readExpr_1 (by decide) ?_
  refine x_icmp_le 5 rfl 52 dX2_readExpr_2 (by decide) (fun hc => ?_) (fun hc => ?_)
  · replace h := x_ifT hc h
    refine x_aload_n 53 rfl 0 dX2_readExpr_52 rfl rfl ?_
    refine x_aload_n 54 rfl 1 dX2_readExpr_53 rfl rfl ?_
    refine x_iload_n 55 rfl 2 dX2_readExpr_54 rfl rfl ?_
    refine x_iload_n 56 rfl 3 dX2_readExpr_55 rfl rfl ?_
    obtain ⟨⟨q8r, q8s⟩, q8h, h⟩ := x_bind h
    try dsimp only at h
    refine z_callV E [.ref 27, .int _, .int _] [] dX2_readExpr_56 K_RX2_235 (x_fitR (a := 8) (Nat.le_of_ble_eq_true rfl) (Nat.le_of_ble_eq_true rfl)) sh_2 (by decide) rfl (c_Re_readAnd_2_27 E S hrec _ _ q8h) rfl rfl (Nat.le_of_ble_eq_true rfl) 59 rfl [.int _] rfl ?_
    refine x_if_ne 62 rfl 64 dX2_readExpr_59 (by decide) (fun hc => ?_) (fun hc => ?_)
    · replace h := x_ifF hc h
      refine x_iconst 65 rfl (v := 0) dX2_readExpr_64 (by decide) ?_
      refine x_istore 67 rfl dX2_readExpr_65 (by decide) [some (.ref 2), some (.ref 27), some (.int _), some (.int _), some (.int _)] rfl ?_
      obtain ⟨b9, b9h, h⟩ := x_bind h
      try dsimp only at h
      refine x_wk (x_le_s (x_le_s (x_le_s (x_le_s (x_le_s x_le_0))))) (x_loop (fun a o h hK hG => b_Re_readExprB_2_27_L67 (r := r) (σ1 := σ1) E S hrec _ _ a o h hK hG) _ _ _ b9h ?_)
      cases b9 with
      | inl b9r =>
        try dsimp only at h
        cases h
        exact ⟨fun q e => (by cases e; rfl), fun e he => (by cases he)⟩
      | inr b9e =>
        try dsimp only at h
        refine ⟨fun q e => (by cases e), fun e he => ?_⟩
        cases he
        refine x_iconst 115 rfl (v := 1) dX2_readExpr_114 (by decide) ?_
        cases h
        exact x_zret (Or.inr rfl) dX2_readExpr_115 rfl rfl rfl
    · replace h := x_ifT hc h
      refine x_iconst 63 rfl (v := 0) dX2_readExpr_62 (by decide) ?_
      cases h
      exact x_zret (Or.inl rfl) dX2_readExpr_63 rfl rfl rfl
  · replace h := x_ifF hc h
    refine x_aload_n 6 rfl 0 dX2_readExpr_5 rfl rfl ?_
    refine x_iconst 7 rfl (v := 2) dX2_readExpr_6 (by decide) ?_
    obtain ⟨⟨q10r, q10s⟩, q10h, h⟩ := x_bind h
    try dsimp only at h
    refine z_callV E [.int _] [] dX2_readExpr_7 K_RX2_61 (x_fitC (Nat.le_of_ble_eq_true rfl) (Nat.le_of_ble_eq_true rfl)) sh_2 (by decide) rfl (c_Re_isKind_2 E _ q10h) rfl rfl (Nat.le_of_ble_eq_true rfl) 10 rfl [.int _] rfl ?_
    refine x_if_ne 13 rfl 30 dX2_readExpr_10 (by decide) (fun hc => ?_) (fun hc => ?_)
    · replace h := x_ifF hc h
      exact x_wk (x_le_s (x_le_n (x_le_n (x_le_n (x_le_n x_le_0))))) (j_Re_readExprB_2_27_J30 E S hrec  _ h)
    · replace h := x_ifT hc h
      refine x_aload_n 14 rfl 0 dX2_readExpr_13 rfl rfl ?_
      refine x_iconst 15 rfl (v := 1) dX2_readExpr_14 (by decide) ?_
      obtain ⟨⟨q11r, q11s⟩, q11h, h⟩ := x_bind h
      try dsimp only at h
      refine z_callV E [.int _] [] dX2_readExpr_15 K_RX2_61 (x_fitC (Nat.le_of_ble_eq_true rfl) (Nat.le_of_ble_eq_true rfl)) sh_2 (by decide) rfl (c_Re_isKind_2 E _ q11h) rfl rfl (Nat.le_of_ble_eq_true rfl) 18 rfl [.int _] rfl ?_
      refine x_if_ne 21 rfl 30 dX2_readExpr_18 (by decide) (fun hc => ?_) (fun hc => ?_)
      · replace h := x_ifF hc h
        exact x_wk (x_le_s (x_le_n (x_le_n (x_le_n (x_le_n x_le_0))))) (j_Re_readExprB_2_27_J30 E S hrec  _ h)
      · replace h := x_ifT hc h
        refine x_aload_n 22 rfl 0 dX2_readExpr_21 rfl rfl ?_
        refine x_bipush 24 rfl (v := 40) dX2_readExpr_22 (by decide) ?_
        obtain ⟨⟨q12r, q12s⟩, q12h, h⟩ := x_bind h
        try dsimp only at h
        refine z_callV E [.int _] [] dX2_readExpr_24 K_RX2_121 (x_fitC (Nat.le_of_ble_eq_true rfl) (Nat.le_of_ble_eq_true rfl)) sh_2 (by decide) rfl (c_Re_isSign_2 E _ q12h) rfl rfl (Nat.le_of_ble_eq_true rfl) 27 rfl [.int _] rfl ?_
        refine x_if_eq 30 rfl 34 dX2_readExpr_27 (by decide) (fun hc => ?_) (fun hc => ?_)
        · replace h := x_ifT hc h
          refine x_iconst 35 rfl (v := 0) dX2_readExpr_34 (by decide) ?_
          exact x_wk (x_le_s (x_le_n (x_le_n (x_le_n (x_le_n x_le_0))))) (j_Re_readExprB_2_27_J35 E S hrec _ _ h)
        · replace h := x_ifF hc h
          exact x_wk (x_le_s (x_le_n (x_le_n (x_le_n (x_le_n x_le_0))))) (j_Re_readExprB_2_27_J30 E S hrec  _ h)
def g_Re_readExpr_2_27 : Nat → Int32 → Int32 → xS → Option (Int32 × xS)
  | 0 => fun _ _ _ => none
  | n + 1 => f_Re_readExprB_2_27 (g_Re_readExpr_2_27 n)
def f_Re_readExpr_2_27 (v2 v3 : Int32) (σ : xS) : Option (Int32 × xS) := g_Re_readExpr_2_27 8 v2 v3 σ
set_option maxHeartbeats 4000000 in
set_option maxRecDepth 100000 in
theorem cg_Re_readExpr_2_27 {l : Launch} {s0 : State} {a0 : Array Value} {D : va_G} {cA : Nat → ClassId} {sp : Nat → Nat} (E : x_En CL l s0 a0 D cA sp) (S : x_Sw s0 sp) : ∀ (n : Nat) (v2 v3 : Int32) (σ : xS) (r : Int32) (σ1 : xS), g_Re_readExpr_2_27 n v2 v3 σ = some (r, σ1) → zC l s0 D cA sp (9 * n) M_Re_readExpr [.ref 2, .ref 27, .int v2, .int v3] σ (some (.int r)) σ1
  | 0, _, _, _, _, _, h => by cases h
  | n + 1, v2, v3, σ, r, σ1, h => c_Re_readExprB_2_27 (dR := 9 * n) (rec := g_Re_readExpr_2_27 n) E S (cg_Re_readExpr_2_27 E S n) v2 v3 h
set_option maxHeartbeats 4000000 in
set_option maxRecDepth 100000 in
theorem c_Re_readExpr_2_27 {l : Launch} {s0 : State} {a0 : Array Value} {D : va_G} {cA : Nat → ClassId} {sp : Nat → Nat} (E : x_En CL l s0 a0 D cA sp) (S : x_Sw s0 sp) (v2 v3 : Int32) {σ : xS} {r : Int32} {σ1 : xS} (h : f_Re_readExpr_2_27 v2 v3 σ = some (r, σ1)) : zC l s0 D cA sp 72 M_Re_readExpr [.ref 2, .ref 27, .int v2, .int v3] σ (some (.int r)) σ1 := cg_Re_readExpr_2_27 E S 8 v2 v3 σ r σ1 h
abbrev M_Ru_close : xM := (yX3_close, cX3_close, 2, none, [])
theorem dX3_close_0 : decode cX3_close 0 = .ok (.iload_n 1, 1) := by decide +kernel
theorem dX3_close_1 : decode cX3_close 1 = .ok (.ifCond .lt 19, 3) := by decide +kernel
theorem dX3_close_4 : decode cX3_close 4 = .ok (.iload_n 1, 1) := by decide +kernel
theorem dX3_close_5 : decode cX3_close 5 = .ok (.bipush 6, 2) := by decide +kernel
theorem dX3_close_7 : decode cX3_close 7 = .ok (.if_icmp .ge 13, 3) := by decide +kernel
theorem dX3_close_10 : decode cX3_close 10 = .ok (.aload_n 0, 1) := by decide +kernel
theorem dX3_close_11 : decode cX3_close 11 = .ok (.getfield 22, 3) := by decide +kernel
theorem dX3_close_14 : decode cX3_close 14 = .ok (.iload_n 1, 1) := by decide +kernel
theorem dX3_close_15 : decode cX3_close 15 = .ok (.aload_n 0, 1) := by decide +kernel
theorem dX3_close_16 : decode cX3_close 16 = .ok (.getfield 15, 3) := by decide +kernel
theorem dX3_close_19 : decode cX3_close 19 = .ok (.iastore, 1) := by decide +kernel
theorem dX3_close_20 : decode cX3_close 20 = .ok (.return_, 1) := by decide +kernel
def f_Ru_close_27 (v1 : Int32) (σ : xS) : Option (Unit × xS) :=
  if v1 < 0 then
    some ((), σ)
  else
    if (6 : Int32) ≤ v1 then
      some ((), σ)
    else
      if v1 < 0 ∨ 6 ≤ v1.toNatClampNeg then none else
      let σ1 := x_pI σ 30 v1.toNatClampNeg (σ.1 27 1)
      some ((), σ1)
set_option maxHeartbeats 4000000 in
set_option maxRecDepth 100000 in
theorem c_Ru_close_27 {l : Launch} {s0 : State} {a0 : Array Value} {D : va_G} {cA : Nat → ClassId} {sp : Nat → Nat} (E : x_En CL l s0 a0 D cA sp) (v1 : Int32) {σ : xS} {r : Unit} {σ1 : xS} (h : f_Ru_close_27 v1 σ = some (r, σ1)) : zC l s0 D cA sp 0 M_Ru_close [.ref 27, .int v1] σ none σ1 := by
  unfold f_Ru_close_27 at h
  try dsimp only at h
  refine x_enter [some (.ref 27), some (.int v1)] rfl (Nat.le_of_ble_eq_true rfl) (by decide +kernel) rfl ?_
  refine x_iload_n 1 rfl 1 dX3_close_0 rfl rfl ?_
  refine x_if_lt 4 rfl 20 dX3_close_1 (by decide) (fun hc => ?_) (fun hc => ?_)
  · replace h := x_ifT hc h
    cases h
    exact x_vret dX3_close_20 rfl rfl rfl
  · replace h := x_ifF hc h
    refine x_iload_n 5 rfl 1 dX3_close_4 rfl rfl ?_
    refine x_bipush 7 rfl (v := 6) dX3_close_5 (by decide) ?_
    refine x_icmp_ge 10 rfl 20 dX3_close_7 (by decide) (fun hc => ?_) (fun hc => ?_)
    · replace h := x_ifT hc h
      cases h
      exact x_vret dX3_close_20 rfl rfl rfl
    · replace h := x_ifF hc h
      refine x_aload_n 11 rfl 0 dX3_close_10 rfl rfl ?_
      refine x_getR E dX3_close_11 F_RX3_22 sh_27 rf_27_3 14 rfl ?_
      refine x_iload_n 15 rfl 1 dX3_close_14 rfl rfl ?_
      refine x_aload_n 16 rfl 0 dX3_close_15 rfl rfl ?_
      refine x_getI E dX3_close_16 F_RX3_15 sh_27 19 rfl ?_
      obtain ⟨hz, h⟩ := x_ifn h
      refine x_iast E dX3_close_19 sh_30 _ rfl hz 20 rfl ?_
      cases h
      exact x_vret dX3_close_20 rfl rfl rfl
theorem K_RX2_220 : x_KV RX2 220 M_Ru_has 1 := ⟨⟨(List.mem_append_right _ (List.mem_of_getElem? (i := 813) (by decide +kernel))), (List.mem_append_right _ (List.mem_of_getElem? (i := 288) (by decide +kernel))), (List.mem_append_right _ (List.mem_of_getElem? (i := 4) (by decide +kernel))), ⟨by decide +kernel, by decide +kernel⟩, by decide +kernel⟩, (List.mem_append_right _ (List.mem_of_getElem? (i := 286) (by decide +kernel))), (List.mem_append_right _ (List.mem_of_getElem? (i := 287) (by decide +kernel)))⟩
theorem K_RX2_225 : x_KV RX2 225 M_Ru_open 1 := ⟨⟨(List.mem_append_right _ (List.mem_of_getElem? (i := 814) (by decide +kernel))), (List.mem_append_right _ (List.mem_of_getElem? (i := 817) (by decide +kernel))), (List.mem_append_right _ (List.mem_of_getElem? (i := 4) (by decide +kernel))), ⟨by decide +kernel, by decide +kernel⟩, by decide +kernel⟩, (List.mem_append_right _ (List.mem_of_getElem? (i := 815) (by decide +kernel))), (List.mem_append_right _ (List.mem_of_getElem? (i := 816) (by decide +kernel)))⟩
theorem K_RX2_232 : x_KV RX2 232 M_Ru_close 1 := ⟨⟨(List.mem_append_right _ (List.mem_of_getElem? (i := 865) (by decide +kernel))), (List.mem_append_right _ (List.mem_of_getElem? (i := 868) (by decide +kernel))), (List.mem_append_right _ (List.mem_of_getElem? (i := 4) (by decide +kernel))), ⟨by decide +kernel, by decide +kernel⟩, by decide +kernel⟩, (List.mem_append_right _ (List.mem_of_getElem? (i := 866) (by decide +kernel))), (List.mem_append_right _ (List.mem_of_getElem? (i := 867) (by decide +kernel)))⟩
abbrev M_Re_readRule : xM := (yX2_readRule, cX2_readRule, 3, some .boolean, [])
theorem dX2_readRule_0 : decode cX2_readRule 0 = .ok (.iload_n 2, 1) := by decide +kernel
theorem dX2_readRule_1 : decode cX2_readRule 1 = .ok (.bipush 6, 2) := by decide +kernel
theorem dX2_readRule_3 : decode cX2_readRule 3 = .ok (.if_icmp .lt 9, 3) := by decide +kernel
theorem dX2_readRule_6 : decode cX2_readRule 6 = .ok (.aload_n 0, 1) := by decide +kernel
theorem dX2_readRule_7 : decode cX2_readRule 7 = .ok (.iconst 2, 1) := by decide +kernel
theorem dX2_readRule_8 : decode cX2_readRule 8 = .ok (.invokevirtual 115, 3) := by decide +kernel
theorem dX2_readRule_11 : decode cX2_readRule 11 = .ok (.ireturn, 1) := by decide +kernel
theorem dX2_readRule_12 : decode cX2_readRule 12 = .ok (.aload_n 1, 1) := by decide +kernel
theorem dX2_readRule_13 : decode cX2_readRule 13 = .ok (.getfield 216, 3) := by decide +kernel
theorem dX2_readRule_16 : decode cX2_readRule 16 = .ok (.iload_n 2, 1) := by decide +kernel
theorem dX2_readRule_17 : decode cX2_readRule 17 = .ok (.invokevirtual 220, 3) := by decide +kernel
theorem dX2_readRule_20 : decode cX2_readRule 20 = .ok (.ifCond .eq 9, 3) := by decide +kernel
theorem dX2_readRule_23 : decode cX2_readRule 23 = .ok (.aload_n 0, 1) := by decide +kernel
theorem dX2_readRule_24 : decode cX2_readRule 24 = .ok (.iconst 5, 1) := by decide +kernel
theorem dX2_readRule_25 : decode cX2_readRule 25 = .ok (.invokevirtual 115, 3) := by decide +kernel
theorem dX2_readRule_28 : decode cX2_readRule 28 = .ok (.ireturn, 1) := by decide +kernel
theorem dX2_readRule_29 : decode cX2_readRule 29 = .ok (.aload_n 0, 1) := by decide +kernel
theorem dX2_readRule_30 : decode cX2_readRule 30 = .ok (.invokevirtual 118, 3) := by decide +kernel
theorem dX2_readRule_33 : decode cX2_readRule 33 = .ok (.aload_n 1, 1) := by decide +kernel
theorem dX2_readRule_34 : decode cX2_readRule 34 = .ok (.getfield 216, 3) := by decide +kernel
theorem dX2_readRule_37 : decode cX2_readRule 37 = .ok (.iload_n 2, 1) := by decide +kernel
theorem dX2_readRule_38 : decode cX2_readRule 38 = .ok (.invokevirtual 225, 3) := by decide +kernel
theorem dX2_readRule_41 : decode cX2_readRule 41 = .ok (.aload_n 0, 1) := by decide +kernel
theorem dX2_readRule_42 : decode cX2_readRule 42 = .ok (.aload_n 1, 1) := by decide +kernel
theorem dX2_readRule_43 : decode cX2_readRule 43 = .ok (.getfield 216, 3) := by decide +kernel
theorem dX2_readRule_46 : decode cX2_readRule 46 = .ok (.iload_n 2, 1) := by decide +kernel
theorem dX2_readRule_47 : decode cX2_readRule 47 = .ok (.iconst 0, 1) := by decide +kernel
theorem dX2_readRule_48 : decode cX2_readRule 48 = .ok (.invokevirtual 228, 3) := by decide +kernel
theorem dX2_readRule_51 : decode cX2_readRule 51 = .ok (.ifCond .ne 5, 3) := by decide +kernel
theorem dX2_readRule_54 : decode cX2_readRule 54 = .ok (.iconst 0, 1) := by decide +kernel
theorem dX2_readRule_55 : decode cX2_readRule 55 = .ok (.ireturn, 1) := by decide +kernel
theorem dX2_readRule_56 : decode cX2_readRule 56 = .ok (.aload_n 1, 1) := by decide +kernel
theorem dX2_readRule_57 : decode cX2_readRule 57 = .ok (.getfield 216, 3) := by decide +kernel
theorem dX2_readRule_60 : decode cX2_readRule 60 = .ok (.iload_n 2, 1) := by decide +kernel
theorem dX2_readRule_61 : decode cX2_readRule 61 = .ok (.invokevirtual 232, 3) := by decide +kernel
theorem dX2_readRule_64 : decode cX2_readRule 64 = .ok (.aload_n 1, 1) := by decide +kernel
theorem dX2_readRule_65 : decode cX2_readRule 65 = .ok (.dup, 1) := by decide +kernel
theorem dX2_readRule_66 : decode cX2_readRule 66 = .ok (.getfield 171, 3) := by decide +kernel
theorem dX2_readRule_69 : decode cX2_readRule 69 = .ok (.iload_n 2, 1) := by decide +kernel
theorem dX2_readRule_70 : decode cX2_readRule 70 = .ok (.iconst 2, 1) := by decide +kernel
theorem dX2_readRule_71 : decode cX2_readRule 71 = .ok (.if_icmp .lt 7, 3) := by decide +kernel
theorem dX2_readRule_74 : decode cX2_readRule 74 = .ok (.iconst 1, 1) := by decide +kernel
theorem dX2_readRule_75 : decode cX2_readRule 75 = .ok (.goto 4, 3) := by decide +kernel
theorem dX2_readRule_78 : decode cX2_readRule 78 = .ok (.iconst 0, 1) := by decide +kernel
theorem dX2_readRule_79 : decode cX2_readRule 79 = .ok (.iadd, 1) := by decide +kernel
theorem dX2_readRule_80 : decode cX2_readRule 80 = .ok (.putfield 171, 3) := by decide +kernel
theorem dX2_readRule_83 : decode cX2_readRule 83 = .ok (.aload_n 0, 1) := by decide +kernel
theorem dX2_readRule_84 : decode cX2_readRule 84 = .ok (.invokevirtual 136, 3) := by decide +kernel
theorem dX2_readRule_87 : decode cX2_readRule 87 = .ok (.ireturn, 1) := by decide +kernel
def f_Re_readRule_2_21 (v2 : Int32) (σ : xS) : Option (Int32 × xS) :=
  if v2 < (6 : Int32) then
    (f_Ru_has_27 v2 σ).bind fun q1 =>
    if q1.1 = 0 then
      (f_Re_advance_2  q1.2).bind fun q2 =>
      (f_Ru_open_27 v2 q2.2).bind fun q3 =>
      (f_Re_readExpr_2_27 v2 (0 : Int32) q3.2).bind fun q4 =>
      if q4.1 = 0 then
        some ((0 : Int32), q4.2)
      else
        (f_Ru_close_27 v2 q4.2).bind fun q5 =>
        if v2 < (2 : Int32) then
          let σ6 := x_pI q5.2 21 9 (q5.2.1 21 9 + (0 : Int32))
          (f_Re_readEnd_2  σ6).bind fun q7 =>
          x_ok (q7.1 = 0 ∨ q7.1 = 1) <|
          some (q7.1, q7.2)
        else
          let σ8 := x_pI q5.2 21 9 (q5.2.1 21 9 + (1 : Int32))
          (f_Re_readEnd_2  σ8).bind fun q9 =>
          x_ok (q9.1 = 0 ∨ q9.1 = 1) <|
          some (q9.1, q9.2)
    else
      (f_Re_refuse_2 (5 : Int32) q1.2).bind fun q10 =>
      x_ok (q10.1 = 0 ∨ q10.1 = 1) <|
      some (q10.1, q10.2)
  else
    (f_Re_refuse_2 (2 : Int32) σ).bind fun q11 =>
    x_ok (q11.1 = 0 ∨ q11.1 = 1) <|
    some (q11.1, q11.2)
set_option maxHeartbeats 4000000 in
set_option maxRecDepth 100000 in
theorem c_Re_readRule_2_21 {l : Launch} {s0 : State} {a0 : Array Value} {D : va_G} {cA : Nat → ClassId} {sp : Nat → Nat} (E : x_En CL l s0 a0 D cA sp) (S : x_Sw s0 sp) (v2 : Int32) {σ : xS} {r : Int32} {σ1 : xS} (h : f_Re_readRule_2_21 v2 σ = some (r, σ1)) : zC l s0 D cA sp 73 M_Re_readRule [.ref 2, .ref 21, .int v2] σ (some (.int r)) σ1 := by
  unfold f_Re_readRule_2_21 at h
  try dsimp only at h
  refine x_enter [some (.ref 2), some (.ref 21), some (.int v2)] rfl (Nat.le_of_ble_eq_true rfl) (by decide +kernel) rfl ?_
  refine x_iload_n 1 rfl 2 dX2_readRule_0 rfl rfl ?_
  refine x_bipush 3 rfl (v := 6) dX2_readRule_1 (by decide) ?_
  refine x_icmp_lt 6 rfl 12 dX2_readRule_3 (by decide) (fun hc => ?_) (fun hc => ?_)
  · replace h := x_ifT hc h
    refine x_aload_n 13 rfl 1 dX2_readRule_12 rfl rfl ?_
    refine x_getR E dX2_readRule_13 F_RX2_216 sh_21 rf_21_11 16 rfl ?_
    refine x_iload_n 17 rfl 2 dX2_readRule_16 rfl rfl ?_
    obtain ⟨⟨q1r, q1s⟩, q1h, h⟩ := x_bind h
    try dsimp only at h
    refine z_callV E [.int _] [] dX2_readRule_17 K_RX2_220 ⟨Nat.le_of_ble_eq_true rfl, Nat.le_of_ble_eq_true rfl⟩ sh_27 (by decide) rfl (c_Ru_has_27 E _ q1h) rfl rfl (Nat.le_of_ble_eq_true rfl) 20 rfl [.int _] rfl ?_
    refine x_if_eq 23 rfl 29 dX2_readRule_20 (by decide) (fun hc => ?_) (fun hc => ?_)
    · replace h := x_ifT hc h
      refine x_aload_n 30 rfl 0 dX2_readRule_29 rfl rfl ?_
      obtain ⟨⟨q2r, q2s⟩, q2h, h⟩ := x_bind h
      try dsimp only at h
      refine z_callV E [] [] dX2_readRule_30 K_RX2_118 ⟨Nat.le_of_ble_eq_true rfl, Nat.le_of_ble_eq_true rfl⟩ sh_2 (by decide) rfl (c_Re_advance_2 E  q2h) rfl rfl (Nat.le_of_ble_eq_true rfl) 33 rfl [] rfl ?_
      refine x_aload_n 34 rfl 1 dX2_readRule_33 rfl rfl ?_
      refine x_getR E dX2_readRule_34 F_RX2_216 sh_21 rf_21_11 37 rfl ?_
      refine x_iload_n 38 rfl 2 dX2_readRule_37 rfl rfl ?_
      obtain ⟨⟨q3r, q3s⟩, q3h, h⟩ := x_bind h
      try dsimp only at h
      refine z_callV E [.int _] [] dX2_readRule_38 K_RX2_225 ⟨Nat.le_of_ble_eq_true rfl, Nat.le_of_ble_eq_true rfl⟩ sh_27 (by decide) rfl (c_Ru_open_27 E _ q3h) rfl rfl (Nat.le_of_ble_eq_true rfl) 41 rfl [] rfl ?_
      refine x_aload_n 42 rfl 0 dX2_readRule_41 rfl rfl ?_
      refine x_aload_n 43 rfl 1 dX2_readRule_42 rfl rfl ?_
      refine x_getR E dX2_readRule_43 F_RX2_216 sh_21 rf_21_11 46 rfl ?_
      refine x_iload_n 47 rfl 2 dX2_readRule_46 rfl rfl ?_
      refine x_iconst 48 rfl (v := 0) dX2_readRule_47 (by decide) ?_
      obtain ⟨⟨q4r, q4s⟩, q4h, h⟩ := x_bind h
      try dsimp only at h
      refine z_callV E [.ref 27, .int _, .int _] [] dX2_readRule_48 K_RX2_228 ⟨Nat.le_of_ble_eq_true rfl, Nat.le_of_ble_eq_true rfl⟩ sh_2 (by decide) rfl (c_Re_readExpr_2_27 E S _ _ q4h) rfl rfl (Nat.le_of_ble_eq_true rfl) 51 rfl [.int _] rfl ?_
      refine x_if_ne 54 rfl 56 dX2_readRule_51 (by decide) (fun hc => ?_) (fun hc => ?_)
      · replace h := x_ifF hc h
        refine x_aload_n 57 rfl 1 dX2_readRule_56 rfl rfl ?_
        refine x_getR E dX2_readRule_57 F_RX2_216 sh_21 rf_21_11 60 rfl ?_
        refine x_iload_n 61 rfl 2 dX2_readRule_60 rfl rfl ?_
        obtain ⟨⟨q5r, q5s⟩, q5h, h⟩ := x_bind h
        try dsimp only at h
        refine z_callV E [.int _] [] dX2_readRule_61 K_RX2_232 ⟨Nat.le_of_ble_eq_true rfl, Nat.le_of_ble_eq_true rfl⟩ sh_27 (by decide) rfl (c_Ru_close_27 E _ q5h) rfl rfl (Nat.le_of_ble_eq_true rfl) 64 rfl [] rfl ?_
        refine x_aload_n 65 rfl 1 dX2_readRule_64 rfl rfl ?_
        refine x_dup 66 rfl dX2_readRule_65 rfl ?_
        refine x_getI E dX2_readRule_66 F_RX2_171 sh_21 69 rfl ?_
        refine x_iload_n 70 rfl 2 dX2_readRule_69 rfl rfl ?_
        refine x_iconst 71 rfl (v := 2) dX2_readRule_70 (by decide) ?_
        refine x_icmp_lt 74 rfl 78 dX2_readRule_71 (by decide) (fun hc => ?_) (fun hc => ?_)
        · replace h := x_ifT hc h
          refine x_iconst 79 rfl (v := 0) dX2_readRule_78 (by decide) ?_
          refine x_iadd 80 rfl dX2_readRule_79 ?_
          refine x_putI E dX2_readRule_80 F_RX2_171 sh_21 83 rfl ?_
          refine x_aload_n 84 rfl 0 dX2_readRule_83 rfl rfl ?_
          obtain ⟨⟨q7r, q7s⟩, q7h, h⟩ := x_bind h
          try dsimp only at h
          refine z_callV E [] [] dX2_readRule_84 K_RX2_136 ⟨Nat.le_of_ble_eq_true rfl, Nat.le_of_ble_eq_true rfl⟩ sh_2 (by decide) rfl (c_Re_readEnd_2 E  q7h) rfl rfl (Nat.le_of_ble_eq_true rfl) 87 rfl [.int _] rfl ?_
          obtain ⟨hz, h⟩ := x_ift h
          cases h
          exact x_zret hz dX2_readRule_87 rfl rfl rfl
        · replace h := x_ifF hc h
          refine x_iconst 75 rfl (v := 1) dX2_readRule_74 (by decide) ?_
          refine x_goto 79 dX2_readRule_75 (by decide) ?_
          refine x_iadd 80 rfl dX2_readRule_79 ?_
          refine x_putI E dX2_readRule_80 F_RX2_171 sh_21 83 rfl ?_
          refine x_aload_n 84 rfl 0 dX2_readRule_83 rfl rfl ?_
          obtain ⟨⟨q9r, q9s⟩, q9h, h⟩ := x_bind h
          try dsimp only at h
          refine z_callV E [] [] dX2_readRule_84 K_RX2_136 ⟨Nat.le_of_ble_eq_true rfl, Nat.le_of_ble_eq_true rfl⟩ sh_2 (by decide) rfl (c_Re_readEnd_2 E  q9h) rfl rfl (Nat.le_of_ble_eq_true rfl) 87 rfl [.int _] rfl ?_
          obtain ⟨hz, h⟩ := x_ift h
          cases h
          exact x_zret hz dX2_readRule_87 rfl rfl rfl
      · replace h := x_ifT hc h
        refine x_iconst 55 rfl (v := 0) dX2_readRule_54 (by decide) ?_
        cases h
        exact x_zret (Or.inl rfl) dX2_readRule_55 rfl rfl rfl
    · replace h := x_ifF hc h
      refine x_aload_n 24 rfl 0 dX2_readRule_23 rfl rfl ?_
      refine x_iconst 25 rfl (v := 5) dX2_readRule_24 (by decide) ?_
      obtain ⟨⟨q10r, q10s⟩, q10h, h⟩ := x_bind h
      try dsimp only at h
      refine z_callV E [.int _] [] dX2_readRule_25 K_RX2_115 ⟨Nat.le_of_ble_eq_true rfl, Nat.le_of_ble_eq_true rfl⟩ sh_2 (by decide) rfl (c_Re_refuse_2 E _ q10h) rfl rfl (Nat.le_of_ble_eq_true rfl) 28 rfl [.int _] rfl ?_
      obtain ⟨hz, h⟩ := x_ift h
      cases h
      exact x_zret hz dX2_readRule_28 rfl rfl rfl
  · replace h := x_ifF hc h
    refine x_aload_n 7 rfl 0 dX2_readRule_6 rfl rfl ?_
    refine x_iconst 8 rfl (v := 2) dX2_readRule_7 (by decide) ?_
    obtain ⟨⟨q11r, q11s⟩, q11h, h⟩ := x_bind h
    try dsimp only at h
    refine z_callV E [.int _] [] dX2_readRule_8 K_RX2_115 ⟨Nat.le_of_ble_eq_true rfl, Nat.le_of_ble_eq_true rfl⟩ sh_2 (by decide) rfl (c_Re_refuse_2 E _ q11h) rfl rfl (Nat.le_of_ble_eq_true rfl) 11 rfl [.int _] rfl ?_
    obtain ⟨hz, h⟩ := x_ift h
    cases h
    exact x_zret hz dX2_readRule_11 rfl rfl rfl
