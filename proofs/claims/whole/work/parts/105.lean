/-! The reference's methods: functions and contracts. Written by wip/gen/emit.py. -/
def f_Mo_copies_60_70_62_L2  (a : Int32 × xS) : Option ((Int32 × xS) ⊕ (Int32 × xS)) :=
  let v3 := a.1; let σ := a.2;
  if (Int32.ofNat 12) ≤ v3 then
    some (.inl (v3, σ))
  else
    if v3 < 0 ∨ 12 ≤ v3.toNatClampNeg then none else
    if v3 < 0 ∨ 12 ≤ v3.toNatClampNeg then none else
    let σ1 := x_pI σ 62 v3.toNatClampNeg (σ.1 70 v3.toNatClampNeg)
    let w2 := v3 + (1 : Int32)
    some (.inr (w2, σ1))
def f_Mo_copies_60_70_62  (σ : xS) : Option (Unit × xS) :=
  (x_it (f_Mo_copies_60_70_62_L2 ) 10000 ((0 : Int32), σ)).bind fun b3 =>
  some ((), b3.2)
set_option maxHeartbeats 4000000 in
set_option maxRecDepth 100000 in
theorem b_Mo_copies_60_70_62_L2 {l : Launch} {s0 : State} {a0 : Array Value} {D : va_G} {cA : Nat → ClassId} {sp : Nat → Nat} (E : x_En CL l s0 a0 D cA sp)  {r : Unit} {σ1 : xS} (a : Int32 × xS) (o : (Int32 × xS) ⊕ (Int32 × xS)) (h : f_Mo_copies_60_70_62_L2  a = some o) (hK : ∀ b, o = .inl b → zW l s0 D cA sp (zQ s0 D cA sp none σ1) (x_rm 0 0 0) M_Mo_copies 0 0 20 [none, none, none, none] [] b.2) (hG : ∀ a', o = .inr a' → zW l s0 D cA sp (zQ s0 D cA sp none σ1) (x_rm 0 0 0) M_Mo_copies 0 0 2 [none, some (.ref 70), some (.ref 62), some (.int a'.1)] [] a'.2) : zW l s0 D cA sp (zQ s0 D cA sp none σ1) (x_rm 0 0 0) M_Mo_copies 0 0 2 [none, some (.ref 70), some (.ref 62), some (.int a.1)] [] a.2 := by
  obtain ⟨v3, σ⟩ := a
  unfold f_Mo_copies_60_70_62_L2 at h
  try dsimp only at h ⊢
  refine x_iload_n 3 rfl 3 dX9_copies_2 rfl rfl ?_
  refine x_aload_n 4 rfl 1 dX9_copies_3 rfl rfl ?_
  refine x_alen E dX9_copies_4 sh_70 5 rfl ?_
  refine x_icmp_ge 8 rfl 20 dX9_copies_5 (by decide) (fun hc => ?_) (fun hc => ?_)
  · replace h := x_ifT hc h
    cases h
    exact x_wk (x_le_n (x_le_n (x_le_n (x_le_n x_le_0)))) (hK (_, _) rfl)
  · replace h := x_ifF hc h
    refine x_aload_n 9 rfl 2 dX9_copies_8 rfl rfl ?_
    refine x_iload_n 10 rfl 3 dX9_copies_9 rfl rfl ?_
    refine x_aload_n 11 rfl 1 dX9_copies_10 rfl rfl ?_
    refine x_iload_n 12 rfl 3 dX9_copies_11 rfl rfl ?_
    obtain ⟨hz, h⟩ := x_ifn h
    refine x_iald E dX9_copies_12 sh_70 _ rfl hz 13 rfl ?_
    obtain ⟨hz, h⟩ := x_ifn h
    refine x_iast E dX9_copies_13 sh_62 _ rfl hz 14 rfl ?_
    refine x_iinc 17 rfl (1) dX9_copies_14 rfl (by decide) (by decide) [none, some (.ref 70), some (.ref 62), some (.int _)] rfl ?_
    refine x_goto 2 dX9_copies_17 (by decide) ?_
    cases h
    exact x_wk (x_le_n (x_le_s (x_le_s (x_le_s x_le_0)))) (hG (_, _) rfl)
set_option maxHeartbeats 4000000 in
set_option maxRecDepth 100000 in
theorem c_Mo_copies_60_70_62 {l : Launch} {s0 : State} {a0 : Array Value} {D : va_G} {cA : Nat → ClassId} {sp : Nat → Nat} (E : x_En CL l s0 a0 D cA sp)  {σ : xS} {r : Unit} {σ1 : xS} (h : f_Mo_copies_60_70_62  σ = some (r, σ1)) : zC l s0 D cA sp 0 M_Mo_copies [.ref 60, .ref 70, .ref 62] σ none σ1 := by
  unfold f_Mo_copies_60_70_62 at h
  try dsimp only at h
  refine x_enter [some (.ref 60), some (.ref 70), some (.ref 62), none] rfl (Nat.le_of_ble_eq_true rfl) (by decide +kernel) rfl ?_
  refine x_iconst 1 rfl (v := 0) dX9_copies_0 (by decide) ?_
  refine x_istore_n 2 rfl 3 dX9_copies_1 rfl (by decide) [some (.ref 60), some (.ref 70), some (.ref 62), some (.int _)] rfl ?_
  obtain ⟨b3, b3h, h⟩ := x_bind h
  try dsimp only at h
  refine x_wk (x_le_n (x_le_s (x_le_s (x_le_s x_le_0)))) (x_loop (fun a o h hK hG => b_Mo_copies_60_70_62_L2 (r := r) (σ1 := σ1) E  a o h hK hG) _ _ _ b3h ?_)
  cases h
  exact x_vret dX9_copies_20 rfl rfl rfl
def f_Mo_copies_60_71_63_L2  (a : Int32 × xS) : Option ((Int32 × xS) ⊕ (Int32 × xS)) :=
  let v3 := a.1; let σ := a.2;
  if (Int32.ofNat 6) ≤ v3 then
    some (.inl (v3, σ))
  else
    if v3 < 0 ∨ 6 ≤ v3.toNatClampNeg then none else
    if v3 < 0 ∨ 6 ≤ v3.toNatClampNeg then none else
    let σ1 := x_pI σ 63 v3.toNatClampNeg (σ.1 71 v3.toNatClampNeg)
    let w2 := v3 + (1 : Int32)
    some (.inr (w2, σ1))
def f_Mo_copies_60_71_63  (σ : xS) : Option (Unit × xS) :=
  (x_it (f_Mo_copies_60_71_63_L2 ) 10000 ((0 : Int32), σ)).bind fun b3 =>
  some ((), b3.2)
set_option maxHeartbeats 4000000 in
set_option maxRecDepth 100000 in
theorem b_Mo_copies_60_71_63_L2 {l : Launch} {s0 : State} {a0 : Array Value} {D : va_G} {cA : Nat → ClassId} {sp : Nat → Nat} (E : x_En CL l s0 a0 D cA sp)  {r : Unit} {σ1 : xS} (a : Int32 × xS) (o : (Int32 × xS) ⊕ (Int32 × xS)) (h : f_Mo_copies_60_71_63_L2  a = some o) (hK : ∀ b, o = .inl b → zW l s0 D cA sp (zQ s0 D cA sp none σ1) (x_rm 0 0 0) M_Mo_copies 0 0 20 [none, none, none, none] [] b.2) (hG : ∀ a', o = .inr a' → zW l s0 D cA sp (zQ s0 D cA sp none σ1) (x_rm 0 0 0) M_Mo_copies 0 0 2 [none, some (.ref 71), some (.ref 63), some (.int a'.1)] [] a'.2) : zW l s0 D cA sp (zQ s0 D cA sp none σ1) (x_rm 0 0 0) M_Mo_copies 0 0 2 [none, some (.ref 71), some (.ref 63), some (.int a.1)] [] a.2 := by
  obtain ⟨v3, σ⟩ := a
  unfold f_Mo_copies_60_71_63_L2 at h
  try dsimp only at h ⊢
  refine x_iload_n 3 rfl 3 dX9_copies_2 rfl rfl ?_
  refine x_aload_n 4 rfl 1 dX9_copies_3 rfl rfl ?_
  refine x_alen E dX9_copies_4 sh_71 5 rfl ?_
  refine x_icmp_ge 8 rfl 20 dX9_copies_5 (by decide) (fun hc => ?_) (fun hc => ?_)
  · replace h := x_ifT hc h
    cases h
    exact x_wk (x_le_n (x_le_n (x_le_n (x_le_n x_le_0)))) (hK (_, _) rfl)
  · replace h := x_ifF hc h
    refine x_aload_n 9 rfl 2 dX9_copies_8 rfl rfl ?_
    refine x_iload_n 10 rfl 3 dX9_copies_9 rfl rfl ?_
    refine x_aload_n 11 rfl 1 dX9_copies_10 rfl rfl ?_
    refine x_iload_n 12 rfl 3 dX9_copies_11 rfl rfl ?_
    obtain ⟨hz, h⟩ := x_ifn h
    refine x_iald E dX9_copies_12 sh_71 _ rfl hz 13 rfl ?_
    obtain ⟨hz, h⟩ := x_ifn h
    refine x_iast E dX9_copies_13 sh_63 _ rfl hz 14 rfl ?_
    refine x_iinc 17 rfl (1) dX9_copies_14 rfl (by decide) (by decide) [none, some (.ref 71), some (.ref 63), some (.int _)] rfl ?_
    refine x_goto 2 dX9_copies_17 (by decide) ?_
    cases h
    exact x_wk (x_le_n (x_le_s (x_le_s (x_le_s x_le_0)))) (hG (_, _) rfl)
set_option maxHeartbeats 4000000 in
set_option maxRecDepth 100000 in
theorem c_Mo_copies_60_71_63 {l : Launch} {s0 : State} {a0 : Array Value} {D : va_G} {cA : Nat → ClassId} {sp : Nat → Nat} (E : x_En CL l s0 a0 D cA sp)  {σ : xS} {r : Unit} {σ1 : xS} (h : f_Mo_copies_60_71_63  σ = some (r, σ1)) : zC l s0 D cA sp 0 M_Mo_copies [.ref 60, .ref 71, .ref 63] σ none σ1 := by
  unfold f_Mo_copies_60_71_63 at h
  try dsimp only at h
  refine x_enter [some (.ref 60), some (.ref 71), some (.ref 63), none] rfl (Nat.le_of_ble_eq_true rfl) (by decide +kernel) rfl ?_
  refine x_iconst 1 rfl (v := 0) dX9_copies_0 (by decide) ?_
  refine x_istore_n 2 rfl 3 dX9_copies_1 rfl (by decide) [some (.ref 60), some (.ref 71), some (.ref 63), some (.int _)] rfl ?_
  obtain ⟨b3, b3h, h⟩ := x_bind h
  try dsimp only at h
  refine x_wk (x_le_n (x_le_s (x_le_s (x_le_s x_le_0)))) (x_loop (fun a o h hK hG => b_Mo_copies_60_71_63_L2 (r := r) (σ1 := σ1) E  a o h hK hG) _ _ _ b3h ?_)
  cases h
  exact x_vret dX9_copies_20 rfl rfl rfl
def f_Mo_copies_60_72_64_L2  (a : Int32 × xS) : Option ((Int32 × xS) ⊕ (Int32 × xS)) :=
  let v3 := a.1; let σ := a.2;
  if (Int32.ofNat 6) ≤ v3 then
    some (.inl (v3, σ))
  else
    if v3 < 0 ∨ 6 ≤ v3.toNatClampNeg then none else
    if v3 < 0 ∨ 6 ≤ v3.toNatClampNeg then none else
    let σ1 := x_pI σ 64 v3.toNatClampNeg (σ.1 72 v3.toNatClampNeg)
    let w2 := v3 + (1 : Int32)
    some (.inr (w2, σ1))
def f_Mo_copies_60_72_64  (σ : xS) : Option (Unit × xS) :=
  (x_it (f_Mo_copies_60_72_64_L2 ) 10000 ((0 : Int32), σ)).bind fun b3 =>
  some ((), b3.2)
set_option maxHeartbeats 4000000 in
set_option maxRecDepth 100000 in
theorem b_Mo_copies_60_72_64_L2 {l : Launch} {s0 : State} {a0 : Array Value} {D : va_G} {cA : Nat → ClassId} {sp : Nat → Nat} (E : x_En CL l s0 a0 D cA sp)  {r : Unit} {σ1 : xS} (a : Int32 × xS) (o : (Int32 × xS) ⊕ (Int32 × xS)) (h : f_Mo_copies_60_72_64_L2  a = some o) (hK : ∀ b, o = .inl b → zW l s0 D cA sp (zQ s0 D cA sp none σ1) (x_rm 0 0 0) M_Mo_copies 0 0 20 [none, none, none, none] [] b.2) (hG : ∀ a', o = .inr a' → zW l s0 D cA sp (zQ s0 D cA sp none σ1) (x_rm 0 0 0) M_Mo_copies 0 0 2 [none, some (.ref 72), some (.ref 64), some (.int a'.1)] [] a'.2) : zW l s0 D cA sp (zQ s0 D cA sp none σ1) (x_rm 0 0 0) M_Mo_copies 0 0 2 [none, some (.ref 72), some (.ref 64), some (.int a.1)] [] a.2 := by
  obtain ⟨v3, σ⟩ := a
  unfold f_Mo_copies_60_72_64_L2 at h
  try dsimp only at h ⊢
  refine x_iload_n 3 rfl 3 dX9_copies_2 rfl rfl ?_
  refine x_aload_n 4 rfl 1 dX9_copies_3 rfl rfl ?_
  refine x_alen E dX9_copies_4 sh_72 5 rfl ?_
  refine x_icmp_ge 8 rfl 20 dX9_copies_5 (by decide) (fun hc => ?_) (fun hc => ?_)
  · replace h := x_ifT hc h
    cases h
    exact x_wk (x_le_n (x_le_n (x_le_n (x_le_n x_le_0)))) (hK (_, _) rfl)
  · replace h := x_ifF hc h
    refine x_aload_n 9 rfl 2 dX9_copies_8 rfl rfl ?_
    refine x_iload_n 10 rfl 3 dX9_copies_9 rfl rfl ?_
    refine x_aload_n 11 rfl 1 dX9_copies_10 rfl rfl ?_
    refine x_iload_n 12 rfl 3 dX9_copies_11 rfl rfl ?_
    obtain ⟨hz, h⟩ := x_ifn h
    refine x_iald E dX9_copies_12 sh_72 _ rfl hz 13 rfl ?_
    obtain ⟨hz, h⟩ := x_ifn h
    refine x_iast E dX9_copies_13 sh_64 _ rfl hz 14 rfl ?_
    refine x_iinc 17 rfl (1) dX9_copies_14 rfl (by decide) (by decide) [none, some (.ref 72), some (.ref 64), some (.int _)] rfl ?_
    refine x_goto 2 dX9_copies_17 (by decide) ?_
    cases h
    exact x_wk (x_le_n (x_le_s (x_le_s (x_le_s x_le_0)))) (hG (_, _) rfl)
set_option maxHeartbeats 4000000 in
set_option maxRecDepth 100000 in
theorem c_Mo_copies_60_72_64 {l : Launch} {s0 : State} {a0 : Array Value} {D : va_G} {cA : Nat → ClassId} {sp : Nat → Nat} (E : x_En CL l s0 a0 D cA sp)  {σ : xS} {r : Unit} {σ1 : xS} (h : f_Mo_copies_60_72_64  σ = some (r, σ1)) : zC l s0 D cA sp 0 M_Mo_copies [.ref 60, .ref 72, .ref 64] σ none σ1 := by
  unfold f_Mo_copies_60_72_64 at h
  try dsimp only at h
  refine x_enter [some (.ref 60), some (.ref 72), some (.ref 64), none] rfl (Nat.le_of_ble_eq_true rfl) (by decide +kernel) rfl ?_
  refine x_iconst 1 rfl (v := 0) dX9_copies_0 (by decide) ?_
  refine x_istore_n 2 rfl 3 dX9_copies_1 rfl (by decide) [some (.ref 60), some (.ref 72), some (.ref 64), some (.int _)] rfl ?_
  obtain ⟨b3, b3h, h⟩ := x_bind h
  try dsimp only at h
  refine x_wk (x_le_n (x_le_s (x_le_s (x_le_s x_le_0)))) (x_loop (fun a o h hK hG => b_Mo_copies_60_72_64_L2 (r := r) (σ1 := σ1) E  a o h hK hG) _ _ _ b3h ?_)
  cases h
  exact x_vret dX9_copies_20 rfl rfl rfl
def f_Mo_copies_60_75_65_L2  (a : Int32 × xS) : Option ((Int32 × xS) ⊕ (Int32 × xS)) :=
  let v3 := a.1; let σ := a.2;
  if (Int32.ofNat 4) ≤ v3 then
    some (.inl (v3, σ))
  else
    if v3 < 0 ∨ 4 ≤ v3.toNatClampNeg then none else
    if v3 < 0 ∨ 4 ≤ v3.toNatClampNeg then none else
    let σ1 := x_pI σ 65 v3.toNatClampNeg (σ.1 75 v3.toNatClampNeg)
    let w2 := v3 + (1 : Int32)
    some (.inr (w2, σ1))
def f_Mo_copies_60_75_65  (σ : xS) : Option (Unit × xS) :=
  (x_it (f_Mo_copies_60_75_65_L2 ) 10000 ((0 : Int32), σ)).bind fun b3 =>
  some ((), b3.2)
set_option maxHeartbeats 4000000 in
set_option maxRecDepth 100000 in
theorem b_Mo_copies_60_75_65_L2 {l : Launch} {s0 : State} {a0 : Array Value} {D : va_G} {cA : Nat → ClassId} {sp : Nat → Nat} (E : x_En CL l s0 a0 D cA sp)  {r : Unit} {σ1 : xS} (a : Int32 × xS) (o : (Int32 × xS) ⊕ (Int32 × xS)) (h : f_Mo_copies_60_75_65_L2  a = some o) (hK : ∀ b, o = .inl b → zW l s0 D cA sp (zQ s0 D cA sp none σ1) (x_rm 0 0 0) M_Mo_copies 0 0 20 [none, none, none, none] [] b.2) (hG : ∀ a', o = .inr a' → zW l s0 D cA sp (zQ s0 D cA sp none σ1) (x_rm 0 0 0) M_Mo_copies 0 0 2 [none, some (.ref 75), some (.ref 65), some (.int a'.1)] [] a'.2) : zW l s0 D cA sp (zQ s0 D cA sp none σ1) (x_rm 0 0 0) M_Mo_copies 0 0 2 [none, some (.ref 75), some (.ref 65), some (.int a.1)] [] a.2 := by
  obtain ⟨v3, σ⟩ := a
  unfold f_Mo_copies_60_75_65_L2 at h
  try dsimp only at h ⊢
  refine x_iload_n 3 rfl 3 dX9_copies_2 rfl rfl ?_
  refine x_aload_n 4 rfl 1 dX9_copies_3 rfl rfl ?_
  refine x_alen E dX9_copies_4 sh_75 5 rfl ?_
  refine x_icmp_ge 8 rfl 20 dX9_copies_5 (by decide) (fun hc => ?_) (fun hc => ?_)
  · replace h := x_ifT hc h
    cases h
    exact x_wk (x_le_n (x_le_n (x_le_n (x_le_n x_le_0)))) (hK (_, _) rfl)
  · replace h := x_ifF hc h
    refine x_aload_n 9 rfl 2 dX9_copies_8 rfl rfl ?_
    refine x_iload_n 10 rfl 3 dX9_copies_9 rfl rfl ?_
    refine x_aload_n 11 rfl 1 dX9_copies_10 rfl rfl ?_
    refine x_iload_n 12 rfl 3 dX9_copies_11 rfl rfl ?_
    obtain ⟨hz, h⟩ := x_ifn h
    refine x_iald E dX9_copies_12 sh_75 _ rfl hz 13 rfl ?_
    obtain ⟨hz, h⟩ := x_ifn h
    refine x_iast E dX9_copies_13 sh_65 _ rfl hz 14 rfl ?_
    refine x_iinc 17 rfl (1) dX9_copies_14 rfl (by decide) (by decide) [none, some (.ref 75), some (.ref 65), some (.int _)] rfl ?_
    refine x_goto 2 dX9_copies_17 (by decide) ?_
    cases h
    exact x_wk (x_le_n (x_le_s (x_le_s (x_le_s x_le_0)))) (hG (_, _) rfl)
set_option maxHeartbeats 4000000 in
set_option maxRecDepth 100000 in
theorem c_Mo_copies_60_75_65 {l : Launch} {s0 : State} {a0 : Array Value} {D : va_G} {cA : Nat → ClassId} {sp : Nat → Nat} (E : x_En CL l s0 a0 D cA sp)  {σ : xS} {r : Unit} {σ1 : xS} (h : f_Mo_copies_60_75_65  σ = some (r, σ1)) : zC l s0 D cA sp 0 M_Mo_copies [.ref 60, .ref 75, .ref 65] σ none σ1 := by
  unfold f_Mo_copies_60_75_65 at h
  try dsimp only at h
  refine x_enter [some (.ref 60), some (.ref 75), some (.ref 65), none] rfl (Nat.le_of_ble_eq_true rfl) (by decide +kernel) rfl ?_
  refine x_iconst 1 rfl (v := 0) dX9_copies_0 (by decide) ?_
  refine x_istore_n 2 rfl 3 dX9_copies_1 rfl (by decide) [some (.ref 60), some (.ref 75), some (.ref 65), some (.int _)] rfl ?_
  obtain ⟨b3, b3h, h⟩ := x_bind h
  try dsimp only at h
  refine x_wk (x_le_n (x_le_s (x_le_s (x_le_s x_le_0)))) (x_loop (fun a o h hK hG => b_Mo_copies_60_75_65_L2 (r := r) (σ1 := σ1) E  a o h hK hG) _ _ _ b3h ?_)
  cases h
  exact x_vret dX9_copies_20 rfl rfl rfl
def f_Mo_copies_60_76_66_L2  (a : Int32 × xS) : Option ((Int32 × xS) ⊕ (Int32 × xS)) :=
  let v3 := a.1; let σ := a.2;
  if (Int32.ofNat 4200) ≤ v3 then
    some (.inl (v3, σ))
  else
    if v3 < 0 ∨ 4200 ≤ v3.toNatClampNeg then none else
    if v3 < 0 ∨ 4200 ≤ v3.toNatClampNeg then none else
    let σ1 := x_pI σ 66 v3.toNatClampNeg (σ.1 76 v3.toNatClampNeg)
    let w2 := v3 + (1 : Int32)
    some (.inr (w2, σ1))
def f_Mo_copies_60_76_66  (σ : xS) : Option (Unit × xS) :=
  (x_it (f_Mo_copies_60_76_66_L2 ) 10000 ((0 : Int32), σ)).bind fun b3 =>
  some ((), b3.2)
set_option maxHeartbeats 4000000 in
set_option maxRecDepth 100000 in
theorem b_Mo_copies_60_76_66_L2 {l : Launch} {s0 : State} {a0 : Array Value} {D : va_G} {cA : Nat → ClassId} {sp : Nat → Nat} (E : x_En CL l s0 a0 D cA sp)  {r : Unit} {σ1 : xS} (a : Int32 × xS) (o : (Int32 × xS) ⊕ (Int32 × xS)) (h : f_Mo_copies_60_76_66_L2  a = some o) (hK : ∀ b, o = .inl b → zW l s0 D cA sp (zQ s0 D cA sp none σ1) (x_rm 0 0 0) M_Mo_copies 0 0 20 [none, none, none, none] [] b.2) (hG : ∀ a', o = .inr a' → zW l s0 D cA sp (zQ s0 D cA sp none σ1) (x_rm 0 0 0) M_Mo_copies 0 0 2 [none, some (.ref 76), some (.ref 66), some (.int a'.1)] [] a'.2) : zW l s0 D cA sp (zQ s0 D cA sp none σ1) (x_rm 0 0 0) M_Mo_copies 0 0 2 [none, some (.ref 76), some (.ref 66), some (.int a.1)] [] a.2 := by
  obtain ⟨v3, σ⟩ := a
  unfold f_Mo_copies_60_76_66_L2 at h
  try dsimp only at h ⊢
  refine x_iload_n 3 rfl 3 dX9_copies_2 rfl rfl ?_
  refine x_aload_n 4 rfl 1 dX9_copies_3 rfl rfl ?_
  refine x_alen E dX9_copies_4 sh_76 5 rfl ?_
  refine x_icmp_ge 8 rfl 20 dX9_copies_5 (by decide) (fun hc => ?_) (fun hc => ?_)
  · replace h := x_ifT hc h
    cases h
    exact x_wk (x_le_n (x_le_n (x_le_n (x_le_n x_le_0)))) (hK (_, _) rfl)
  · replace h := x_ifF hc h
    refine x_aload_n 9 rfl 2 dX9_copies_8 rfl rfl ?_
    refine x_iload_n 10 rfl 3 dX9_copies_9 rfl rfl ?_
    refine x_aload_n 11 rfl 1 dX9_copies_10 rfl rfl ?_
    refine x_iload_n 12 rfl 3 dX9_copies_11 rfl rfl ?_
    obtain ⟨hz, h⟩ := x_ifn h
    refine x_iald E dX9_copies_12 sh_76 _ rfl hz 13 rfl ?_
    obtain ⟨hz, h⟩ := x_ifn h
    refine x_iast E dX9_copies_13 sh_66 _ rfl hz 14 rfl ?_
    refine x_iinc 17 rfl (1) dX9_copies_14 rfl (by decide) (by decide) [none, some (.ref 76), some (.ref 66), some (.int _)] rfl ?_
    refine x_goto 2 dX9_copies_17 (by decide) ?_
    cases h
    exact x_wk (x_le_n (x_le_s (x_le_s (x_le_s x_le_0)))) (hG (_, _) rfl)
set_option maxHeartbeats 4000000 in
set_option maxRecDepth 100000 in
theorem c_Mo_copies_60_76_66 {l : Launch} {s0 : State} {a0 : Array Value} {D : va_G} {cA : Nat → ClassId} {sp : Nat → Nat} (E : x_En CL l s0 a0 D cA sp)  {σ : xS} {r : Unit} {σ1 : xS} (h : f_Mo_copies_60_76_66  σ = some (r, σ1)) : zC l s0 D cA sp 0 M_Mo_copies [.ref 60, .ref 76, .ref 66] σ none σ1 := by
  unfold f_Mo_copies_60_76_66 at h
  try dsimp only at h
  refine x_enter [some (.ref 60), some (.ref 76), some (.ref 66), none] rfl (Nat.le_of_ble_eq_true rfl) (by decide +kernel) rfl ?_
  refine x_iconst 1 rfl (v := 0) dX9_copies_0 (by decide) ?_
  refine x_istore_n 2 rfl 3 dX9_copies_1 rfl (by decide) [some (.ref 60), some (.ref 76), some (.ref 66), some (.int _)] rfl ?_
  obtain ⟨b3, b3h, h⟩ := x_bind h
  try dsimp only at h
  refine x_wk (x_le_n (x_le_s (x_le_s (x_le_s x_le_0)))) (x_loop (fun a o h hK hG => b_Mo_copies_60_76_66_L2 (r := r) (σ1 := σ1) E  a o h hK hG) _ _ _ b3h ?_)
  cases h
  exact x_vret dX9_copies_20 rfl rfl rfl
theorem K_RX9_311 : x_KV RX9 311 M_Mo_right 2 := ⟨⟨(List.mem_append_right _ (List.mem_of_getElem? (i := 1491) (by decide +kernel))), (List.mem_append_right _ (List.mem_of_getElem? (i := 1494) (by decide +kernel))), (List.mem_append_right _ (List.mem_of_getElem? (i := 9) (by decide +kernel))), ⟨by decide +kernel, by decide +kernel⟩, by decide +kernel⟩, (List.mem_append_right _ (List.mem_of_getElem? (i := 1493) (by decide +kernel))), (List.mem_append_left _ (List.mem_of_getElem? (i := 49) (by decide +kernel)))⟩
theorem K_RX9_315 : x_KV RX9 315 M_Mo_forgetsText 0 := ⟨⟨(List.mem_append_right _ (List.mem_of_getElem? (i := 1495) (by decide +kernel))), (List.mem_append_right _ (List.mem_of_getElem? (i := 1498) (by decide +kernel))), (List.mem_append_right _ (List.mem_of_getElem? (i := 9) (by decide +kernel))), ⟨by decide +kernel, by decide +kernel⟩, by decide +kernel⟩, (List.mem_append_right _ (List.mem_of_getElem? (i := 1497) (by decide +kernel))), (List.mem_append_left _ (List.mem_of_getElem? (i := 50) (by decide +kernel)))⟩
theorem K_RX9_321 : x_KV RX9 321 M_Mo_line 0 := ⟨⟨(List.mem_append_right _ (List.mem_of_getElem? (i := 1548) (by decide +kernel))), (List.mem_append_right _ (List.mem_of_getElem? (i := 1551) (by decide +kernel))), (List.mem_append_right _ (List.mem_of_getElem? (i := 9) (by decide +kernel))), ⟨by decide +kernel, by decide +kernel⟩, by decide +kernel⟩, (List.mem_append_right _ (List.mem_of_getElem? (i := 1550) (by decide +kernel))), (List.mem_append_left _ (List.mem_of_getElem? (i := 60) (by decide +kernel)))⟩
theorem K_RX9_336 : x_KV RX9 336 M_Mo_copies 2 := ⟨⟨(List.mem_append_right _ (List.mem_of_getElem? (i := 1614) (by decide +kernel))), (List.mem_append_right _ (List.mem_of_getElem? (i := 1617) (by decide +kernel))), (List.mem_append_right _ (List.mem_of_getElem? (i := 9) (by decide +kernel))), ⟨by decide +kernel, by decide +kernel⟩, by decide +kernel⟩, (List.mem_append_right _ (List.mem_of_getElem? (i := 1616) (by decide +kernel))), (List.mem_append_left _ (List.mem_of_getElem? (i := 75) (by decide +kernel)))⟩
abbrev M_Mo_scene : xM := (yX9_scene, cX9_scene, 3, some .int, [])
theorem dX9_scene_0 : decode cX9_scene 0 = .ok (.aload_n 0, 1) := by decide +kernel
theorem dX9_scene_1 : decode cX9_scene 1 = .ok (.iconst 0, 1) := by decide +kernel
theorem dX9_scene_2 : decode cX9_scene 2 = .ok (.putfield 132, 3) := by decide +kernel
theorem dX9_scene_5 : decode cX9_scene 5 = .ok (.aload_n 0, 1) := by decide +kernel
theorem dX9_scene_6 : decode cX9_scene 6 = .ok (.iload_n 1, 1) := by decide +kernel
theorem dX9_scene_7 : decode cX9_scene 7 = .ok (.ifCond .lt 15, 3) := by decide +kernel
theorem dX9_scene_10 : decode cX9_scene 10 = .ok (.iload_n 1, 1) := by decide +kernel
theorem dX9_scene_11 : decode cX9_scene 11 = .ok (.aload_n 0, 1) := by decide +kernel
theorem dX9_scene_12 : decode cX9_scene 12 = .ok (.getfield 135, 3) := by decide +kernel
theorem dX9_scene_15 : decode cX9_scene 15 = .ok (.if_icmp .gt 7, 3) := by decide +kernel
theorem dX9_scene_18 : decode cX9_scene 18 = .ok (.iconst 1, 1) := by decide +kernel
theorem dX9_scene_19 : decode cX9_scene 19 = .ok (.goto 4, 3) := by decide +kernel
theorem dX9_scene_22 : decode cX9_scene 22 = .ok (.iconst 0, 1) := by decide +kernel
theorem dX9_scene_23 : decode cX9_scene 23 = .ok (.iconst 1, 1) := by decide +kernel
theorem dX9_scene_24 : decode cX9_scene 24 = .ok (.invokevirtual 311, 3) := by decide +kernel
theorem dX9_scene_27 : decode cX9_scene 27 = .ok (.ifCond .ne 5, 3) := by decide +kernel
theorem dX9_scene_30 : decode cX9_scene 30 = .ok (.iconst 0, 1) := by decide +kernel
theorem dX9_scene_31 : decode cX9_scene 31 = .ok (.ireturn, 1) := by decide +kernel
theorem dX9_scene_32 : decode cX9_scene 32 = .ok (.aload_n 0, 1) := by decide +kernel
theorem dX9_scene_33 : decode cX9_scene 33 = .ok (.iconst 0, 1) := by decide +kernel
theorem dX9_scene_34 : decode cX9_scene 34 = .ok (.putfield 135, 3) := by decide +kernel
theorem dX9_scene_37 : decode cX9_scene 37 = .ok (.aload_n 0, 1) := by decide +kernel
theorem dX9_scene_38 : decode cX9_scene 38 = .ok (.iconst (-1), 1) := by decide +kernel
theorem dX9_scene_39 : decode cX9_scene 39 = .ok (.putfield 41, 3) := by decide +kernel
theorem dX9_scene_42 : decode cX9_scene 42 = .ok (.aload_n 0, 1) := by decide +kernel
theorem dX9_scene_43 : decode cX9_scene 43 = .ok (.iconst 0, 1) := by decide +kernel
theorem dX9_scene_44 : decode cX9_scene 44 = .ok (.putfield 188, 3) := by decide +kernel
theorem dX9_scene_47 : decode cX9_scene 47 = .ok (.aload_n 0, 1) := by decide +kernel
theorem dX9_scene_48 : decode cX9_scene 48 = .ok (.iload_n 1, 1) := by decide +kernel
theorem dX9_scene_49 : decode cX9_scene 49 = .ok (.putfield 142, 3) := by decide +kernel
theorem dX9_scene_52 : decode cX9_scene 52 = .ok (.aload_n 0, 1) := by decide +kernel
theorem dX9_scene_53 : decode cX9_scene 53 = .ok (.iconst 0, 1) := by decide +kernel
theorem dX9_scene_54 : decode cX9_scene 54 = .ok (.putfield 145, 3) := by decide +kernel
theorem dX9_scene_57 : decode cX9_scene 57 = .ok (.aload_n 0, 1) := by decide +kernel
theorem dX9_scene_58 : decode cX9_scene 58 = .ok (.invokevirtual 315, 3) := by decide +kernel
theorem dX9_scene_61 : decode cX9_scene 61 = .ok (.aload_n 0, 1) := by decide +kernel
theorem dX9_scene_62 : decode cX9_scene 62 = .ok (.invokevirtual 195, 3) := by decide +kernel
theorem dX9_scene_65 : decode cX9_scene 65 = .ok (.aload_n 0, 1) := by decide +kernel
theorem dX9_scene_66 : decode cX9_scene 66 = .ok (.bipush 120, 2) := by decide +kernel
theorem dX9_scene_68 : decode cX9_scene 68 = .ok (.putfield 318, 3) := by decide +kernel
theorem dX9_scene_71 : decode cX9_scene 71 = .ok (.aload_n 0, 1) := by decide +kernel
theorem dX9_scene_72 : decode cX9_scene 72 = .ok (.invokevirtual 220, 3) := by decide +kernel
theorem dX9_scene_75 : decode cX9_scene 75 = .ok (.bipush 8, 2) := by decide +kernel
theorem dX9_scene_77 : decode cX9_scene 77 = .ok (.if_icmp .ne 30, 3) := by decide +kernel
theorem dX9_scene_80 : decode cX9_scene 80 = .ok (.aload_n 0, 1) := by decide +kernel
theorem dX9_scene_81 : decode cX9_scene 81 = .ok (.invokevirtual 195, 3) := by decide +kernel
theorem dX9_scene_84 : decode cX9_scene 84 = .ok (.aload_n 0, 1) := by decide +kernel
theorem dX9_scene_85 : decode cX9_scene 85 = .ok (.aload_n 0, 1) := by decide +kernel
theorem dX9_scene_86 : decode cX9_scene 86 = .ok (.bipush 12, 2) := by decide +kernel
theorem dX9_scene_88 : decode cX9_scene 88 = .ok (.sipush 480, 3) := by decide +kernel
theorem dX9_scene_91 : decode cX9_scene 91 = .ok (.invokevirtual 267, 3) := by decide +kernel
theorem dX9_scene_94 : decode cX9_scene 94 = .ok (.putfield 318, 3) := by decide +kernel
theorem dX9_scene_97 : decode cX9_scene 97 = .ok (.aload_n 0, 1) := by decide +kernel
theorem dX9_scene_98 : decode cX9_scene 98 = .ok (.aload_n 0, 1) := by decide +kernel
theorem dX9_scene_99 : decode cX9_scene 99 = .ok (.bipush 59, 2) := by decide +kernel
theorem dX9_scene_101 : decode cX9_scene 101 = .ok (.invokevirtual 233, 3) := by decide +kernel
theorem dX9_scene_104 : decode cX9_scene 104 = .ok (.invokevirtual 308, 3) := by decide +kernel
theorem dX9_scene_107 : decode cX9_scene 107 = .ok (.aload_n 0, 1) := by decide +kernel
theorem dX9_scene_108 : decode cX9_scene 108 = .ok (.aload_n 0, 1) := by decide +kernel
theorem dX9_scene_109 : decode cX9_scene 109 = .ok (.getfield 318, 3) := by decide +kernel
theorem dX9_scene_112 : decode cX9_scene 112 = .ok (.putfield 264, 3) := by decide +kernel
theorem dX9_scene_115 : decode cX9_scene 115 = .ok (.aload_n 0, 1) := by decide +kernel
theorem dX9_scene_116 : decode cX9_scene 116 = .ok (.invokevirtual 191, 3) := by decide +kernel
theorem dX9_scene_119 : decode cX9_scene 119 = .ok (.ifCond .eq 17, 3) := by decide +kernel
theorem dX9_scene_122 : decode cX9_scene 122 = .ok (.aload_n 0, 1) := by decide +kernel
theorem dX9_scene_123 : decode cX9_scene 123 = .ok (.getfield 165, 3) := by decide +kernel
theorem dX9_scene_126 : decode cX9_scene 126 = .ok (.ifCond .eq 10, 3) := by decide +kernel
theorem dX9_scene_129 : decode cX9_scene 129 = .ok (.aload_n 0, 1) := by decide +kernel
theorem dX9_scene_130 : decode cX9_scene 130 = .ok (.invokevirtual 321, 3) := by decide +kernel
theorem dX9_scene_133 : decode cX9_scene 133 = .ok (.goto (-18), 3) := by decide +kernel
theorem dX9_scene_136 : decode cX9_scene 136 = .ok (.aload_n 0, 1) := by decide +kernel
theorem dX9_scene_137 : decode cX9_scene 137 = .ok (.invokevirtual 191, 3) := by decide +kernel
theorem dX9_scene_140 : decode cX9_scene 140 = .ok (.ifCond .ne 18, 3) := by decide +kernel
theorem dX9_scene_143 : decode cX9_scene 143 = .ok (.aload_n 0, 1) := by decide +kernel
theorem dX9_scene_144 : decode cX9_scene 144 = .ok (.getfield 44, 3) := by decide +kernel
theorem dX9_scene_147 : decode cX9_scene 147 = .ok (.iconst 0, 1) := by decide +kernel
theorem dX9_scene_148 : decode cX9_scene 148 = .ok (.dup2, 1) := by decide +kernel
theorem dX9_scene_149 : decode cX9_scene 149 = .ok (.iaload, 1) := by decide +kernel
theorem dX9_scene_150 : decode cX9_scene 150 = .ok (.iconst 1, 1) := by decide +kernel
theorem dX9_scene_151 : decode cX9_scene 151 = .ok (.iadd, 1) := by decide +kernel
theorem dX9_scene_152 : decode cX9_scene 152 = .ok (.iastore, 1) := by decide +kernel
theorem dX9_scene_153 : decode cX9_scene 153 = .ok (.aload_n 0, 1) := by decide +kernel
theorem dX9_scene_154 : decode cX9_scene 154 = .ok (.getfield 188, 3) := by decide +kernel
theorem dX9_scene_157 : decode cX9_scene 157 = .ok (.ireturn, 1) := by decide +kernel
theorem dX9_scene_158 : decode cX9_scene 158 = .ok (.aload_n 0, 1) := by decide +kernel
theorem dX9_scene_159 : decode cX9_scene 159 = .ok (.aload_n 0, 1) := by decide +kernel
theorem dX9_scene_160 : decode cX9_scene 160 = .ok (.getfield 318, 3) := by decide +kernel
theorem dX9_scene_163 : decode cX9_scene 163 = .ok (.putfield 7, 3) := by decide +kernel
theorem dX9_scene_166 : decode cX9_scene 166 = .ok (.aload_n 0, 1) := by decide +kernel
theorem dX9_scene_167 : decode cX9_scene 167 = .ok (.aload_n 0, 1) := by decide +kernel
theorem dX9_scene_168 : decode cX9_scene 168 = .ok (.getfield 261, 3) := by decide +kernel
theorem dX9_scene_171 : decode cX9_scene 171 = .ok (.putfield 324, 3) := by decide +kernel
theorem dX9_scene_174 : decode cX9_scene 174 = .ok (.aload_n 0, 1) := by decide +kernel
theorem dX9_scene_175 : decode cX9_scene 175 = .ok (.aload_n 0, 1) := by decide +kernel
theorem dX9_scene_176 : decode cX9_scene 176 = .ok (.getfield 274, 3) := by decide +kernel
theorem dX9_scene_179 : decode cX9_scene 179 = .ok (.putfield 327, 3) := by decide +kernel
theorem dX9_scene_182 : decode cX9_scene 182 = .ok (.aload_n 0, 1) := by decide +kernel
theorem dX9_scene_183 : decode cX9_scene 183 = .ok (.aload_n 0, 1) := by decide +kernel
theorem dX9_scene_184 : decode cX9_scene 184 = .ok (.getfield 277, 3) := by decide +kernel
theorem dX9_scene_187 : decode cX9_scene 187 = .ok (.putfield 330, 3) := by decide +kernel
theorem dX9_scene_190 : decode cX9_scene 190 = .ok (.aload_n 0, 1) := by decide +kernel
theorem dX9_scene_191 : decode cX9_scene 191 = .ok (.aload_n 0, 1) := by decide +kernel
theorem dX9_scene_192 : decode cX9_scene 192 = .ok (.getfield 280, 3) := by decide +kernel
theorem dX9_scene_195 : decode cX9_scene 195 = .ok (.putfield 333, 3) := by decide +kernel
theorem dX9_scene_198 : decode cX9_scene 198 = .ok (.aload_n 0, 1) := by decide +kernel
theorem dX9_scene_199 : decode cX9_scene 199 = .ok (.aload_n 0, 1) := by decide +kernel
theorem dX9_scene_200 : decode cX9_scene 200 = .ok (.getfield 290, 3) := by decide +kernel
theorem dX9_scene_203 : decode cX9_scene 203 = .ok (.putfield 13, 3) := by decide +kernel
theorem dX9_scene_206 : decode cX9_scene 206 = .ok (.aload_n 0, 1) := by decide +kernel
theorem dX9_scene_207 : decode cX9_scene 207 = .ok (.aload_n 0, 1) := by decide +kernel
theorem dX9_scene_208 : decode cX9_scene 208 = .ok (.getfield 293, 3) := by decide +kernel
theorem dX9_scene_211 : decode cX9_scene 211 = .ok (.putfield 16, 3) := by decide +kernel
theorem dX9_scene_214 : decode cX9_scene 214 = .ok (.aload_n 0, 1) := by decide +kernel
theorem dX9_scene_215 : decode cX9_scene 215 = .ok (.aload_n 0, 1) := by decide +kernel
theorem dX9_scene_216 : decode cX9_scene 216 = .ok (.getfield 47, 3) := by decide +kernel
theorem dX9_scene_219 : decode cX9_scene 219 = .ok (.aload_n 0, 1) := by decide +kernel
theorem dX9_scene_220 : decode cX9_scene 220 = .ok (.getfield 19, 3) := by decide +kernel
theorem dX9_scene_223 : decode cX9_scene 223 = .ok (.invokevirtual 336, 3) := by decide +kernel
theorem dX9_scene_226 : decode cX9_scene 226 = .ok (.aload_n 0, 1) := by decide +kernel
theorem dX9_scene_227 : decode cX9_scene 227 = .ok (.aload_n 0, 1) := by decide +kernel
theorem dX9_scene_228 : decode cX9_scene 228 = .ok (.getfield 50, 3) := by decide +kernel
theorem dX9_scene_231 : decode cX9_scene 231 = .ok (.aload_n 0, 1) := by decide +kernel
theorem dX9_scene_232 : decode cX9_scene 232 = .ok (.getfield 23, 3) := by decide +kernel
theorem dX9_scene_235 : decode cX9_scene 235 = .ok (.invokevirtual 336, 3) := by decide +kernel
theorem dX9_scene_238 : decode cX9_scene 238 = .ok (.aload_n 0, 1) := by decide +kernel
theorem dX9_scene_239 : decode cX9_scene 239 = .ok (.aload_n 0, 1) := by decide +kernel
theorem dX9_scene_240 : decode cX9_scene 240 = .ok (.getfield 53, 3) := by decide +kernel
theorem dX9_scene_243 : decode cX9_scene 243 = .ok (.aload_n 0, 1) := by decide +kernel
theorem dX9_scene_244 : decode cX9_scene 244 = .ok (.getfield 26, 3) := by decide +kernel
theorem dX9_scene_247 : decode cX9_scene 247 = .ok (.invokevirtual 336, 3) := by decide +kernel
theorem dX9_scene_250 : decode cX9_scene 250 = .ok (.aload_n 0, 1) := by decide +kernel
theorem dX9_scene_251 : decode cX9_scene 251 = .ok (.aload_n 0, 1) := by decide +kernel
theorem dX9_scene_252 : decode cX9_scene 252 = .ok (.getfield 56, 3) := by decide +kernel
theorem dX9_scene_255 : decode cX9_scene 255 = .ok (.aload_n 0, 1) := by decide +kernel
theorem dX9_scene_256 : decode cX9_scene 256 = .ok (.getfield 29, 3) := by decide +kernel
theorem dX9_scene_259 : decode cX9_scene 259 = .ok (.invokevirtual 336, 3) := by decide +kernel
theorem dX9_scene_262 : decode cX9_scene 262 = .ok (.aload_n 0, 1) := by decide +kernel
theorem dX9_scene_263 : decode cX9_scene 263 = .ok (.aload_n 0, 1) := by decide +kernel
theorem dX9_scene_264 : decode cX9_scene 264 = .ok (.getfield 65, 3) := by decide +kernel
theorem dX9_scene_267 : decode cX9_scene 267 = .ok (.aload_n 0, 1) := by decide +kernel
theorem dX9_scene_268 : decode cX9_scene 268 = .ok (.getfield 32, 3) := by decide +kernel
theorem dX9_scene_271 : decode cX9_scene 271 = .ok (.invokevirtual 336, 3) := by decide +kernel
theorem dX9_scene_274 : decode cX9_scene 274 = .ok (.aload_n 0, 1) := by decide +kernel
theorem dX9_scene_275 : decode cX9_scene 275 = .ok (.aload_n 0, 1) := by decide +kernel
theorem dX9_scene_276 : decode cX9_scene 276 = .ok (.getfield 68, 3) := by decide +kernel
theorem dX9_scene_279 : decode cX9_scene 279 = .ok (.aload_n 0, 1) := by decide +kernel
theorem dX9_scene_280 : decode cX9_scene 280 = .ok (.getfield 35, 3) := by decide +kernel
theorem dX9_scene_283 : decode cX9_scene 283 = .ok (.invokevirtual 336, 3) := by decide +kernel
theorem dX9_scene_286 : decode cX9_scene 286 = .ok (.iconst 0, 1) := by decide +kernel
theorem dX9_scene_287 : decode cX9_scene 287 = .ok (.istore_n 2, 1) := by decide +kernel
theorem dX9_scene_288 : decode cX9_scene 288 = .ok (.iload_n 2, 1) := by decide +kernel
theorem dX9_scene_289 : decode cX9_scene 289 = .ok (.iconst 5, 1) := by decide +kernel
theorem dX9_scene_290 : decode cX9_scene 290 = .ok (.if_icmp .ge 21, 3) := by decide +kernel
theorem dX9_scene_293 : decode cX9_scene 293 = .ok (.aload_n 0, 1) := by decide +kernel
theorem dX9_scene_294 : decode cX9_scene 294 = .ok (.getfield 78, 3) := by decide +kernel
theorem dX9_scene_297 : decode cX9_scene 297 = .ok (.iload_n 2, 1) := by decide +kernel
theorem dX9_scene_298 : decode cX9_scene 298 = .ok (.aload_n 0, 1) := by decide +kernel
theorem dX9_scene_299 : decode cX9_scene 299 = .ok (.getfield 62, 3) := by decide +kernel
theorem dX9_scene_302 : decode cX9_scene 302 = .ok (.iload_n 2, 1) := by decide +kernel
theorem dX9_scene_303 : decode cX9_scene 303 = .ok (.iaload, 1) := by decide +kernel
theorem dX9_scene_304 : decode cX9_scene 304 = .ok (.iastore, 1) := by decide +kernel
theorem dX9_scene_305 : decode cX9_scene 305 = .ok (.iinc 2 1, 3) := by decide +kernel
theorem dX9_scene_308 : decode cX9_scene 308 = .ok (.goto (-20), 3) := by decide +kernel
theorem dX9_scene_311 : decode cX9_scene 311 = .ok (.aload_n 0, 1) := by decide +kernel
theorem dX9_scene_312 : decode cX9_scene 312 = .ok (.getfield 78, 3) := by decide +kernel
theorem dX9_scene_315 : decode cX9_scene 315 = .ok (.iconst 5, 1) := by decide +kernel
theorem dX9_scene_316 : decode cX9_scene 316 = .ok (.aload_n 0, 1) := by decide +kernel
theorem dX9_scene_317 : decode cX9_scene 317 = .ok (.getfield 333, 3) := by decide +kernel
theorem dX9_scene_320 : decode cX9_scene 320 = .ok (.ifCond .le 7, 3) := by decide +kernel
theorem dX9_scene_323 : decode cX9_scene 323 = .ok (.iconst 0, 1) := by decide +kernel
theorem dX9_scene_324 : decode cX9_scene 324 = .ok (.goto 4, 3) := by decide +kernel
theorem dX9_scene_327 : decode cX9_scene 327 = .ok (.iconst (-1), 1) := by decide +kernel
theorem dX9_scene_328 : decode cX9_scene 328 = .ok (.iastore, 1) := by decide +kernel
theorem dX9_scene_329 : decode cX9_scene 329 = .ok (.iconst 0, 1) := by decide +kernel
theorem dX9_scene_330 : decode cX9_scene 330 = .ok (.istore_n 2, 1) := by decide +kernel
theorem dX9_scene_331 : decode cX9_scene 331 = .ok (.iload_n 2, 1) := by decide +kernel
theorem dX9_scene_332 : decode cX9_scene 332 = .ok (.bipush 6, 2) := by decide +kernel
theorem dX9_scene_334 : decode cX9_scene 334 = .ok (.if_icmp .ge 24, 3) := by decide +kernel
theorem dX9_scene_337 : decode cX9_scene 337 = .ok (.aload_n 0, 1) := by decide +kernel
theorem dX9_scene_338 : decode cX9_scene 338 = .ok (.getfield 78, 3) := by decide +kernel
theorem dX9_scene_341 : decode cX9_scene 341 = .ok (.bipush 6, 2) := by decide +kernel
theorem dX9_scene_343 : decode cX9_scene 343 = .ok (.iload_n 2, 1) := by decide +kernel
theorem dX9_scene_344 : decode cX9_scene 344 = .ok (.iadd, 1) := by decide +kernel
theorem dX9_scene_345 : decode cX9_scene 345 = .ok (.aload_n 0, 1) := by decide +kernel
theorem dX9_scene_346 : decode cX9_scene 346 = .ok (.getfield 59, 3) := by decide +kernel
theorem dX9_scene_349 : decode cX9_scene 349 = .ok (.iload_n 2, 1) := by decide +kernel
theorem dX9_scene_350 : decode cX9_scene 350 = .ok (.iaload, 1) := by decide +kernel
theorem dX9_scene_351 : decode cX9_scene 351 = .ok (.iastore, 1) := by decide +kernel
theorem dX9_scene_352 : decode cX9_scene 352 = .ok (.iinc 2 1, 3) := by decide +kernel
theorem dX9_scene_355 : decode cX9_scene 355 = .ok (.goto (-24), 3) := by decide +kernel
theorem dX9_scene_358 : decode cX9_scene 358 = .ok (.aload_n 0, 1) := by decide +kernel
theorem dX9_scene_359 : decode cX9_scene 359 = .ok (.iconst 0, 1) := by decide +kernel
theorem dX9_scene_360 : decode cX9_scene 360 = .ok (.putfield 340, 3) := by decide +kernel
theorem dX9_scene_363 : decode cX9_scene 363 = .ok (.aload_n 0, 1) := by decide +kernel
theorem dX9_scene_364 : decode cX9_scene 364 = .ok (.iconst 0, 1) := by decide +kernel
theorem dX9_scene_365 : decode cX9_scene 365 = .ok (.putfield 343, 3) := by decide +kernel
theorem dX9_scene_368 : decode cX9_scene 368 = .ok (.aload_n 0, 1) := by decide +kernel
theorem dX9_scene_369 : decode cX9_scene 369 = .ok (.iconst 0, 1) := by decide +kernel
theorem dX9_scene_370 : decode cX9_scene 370 = .ok (.putfield 346, 3) := by decide +kernel
theorem dX9_scene_373 : decode cX9_scene 373 = .ok (.aload_n 0, 1) := by decide +kernel
theorem dX9_scene_374 : decode cX9_scene 374 = .ok (.iconst (-1), 1) := by decide +kernel
theorem dX9_scene_375 : decode cX9_scene 375 = .ok (.putfield 102, 3) := by decide +kernel
theorem dX9_scene_378 : decode cX9_scene 378 = .ok (.aload_n 0, 1) := by decide +kernel
theorem dX9_scene_379 : decode cX9_scene 379 = .ok (.iconst 0, 1) := by decide +kernel
theorem dX9_scene_380 : decode cX9_scene 380 = .ok (.putfield 349, 3) := by decide +kernel
theorem dX9_scene_383 : decode cX9_scene 383 = .ok (.iconst 0, 1) := by decide +kernel
theorem dX9_scene_384 : decode cX9_scene 384 = .ok (.ireturn, 1) := by decide +kernel
def f_Mo_scene_60_L115  (a : xS) : Option ((xS) ⊕ (xS)) :=
   let σ := a;
  (f_Mo_isGood_60  σ).bind fun q1 =>
  if q1.1 = 0 then
    some (.inl q1.2)
  else
    if q1.2.1 60 21 = 0 then
      some (.inl q1.2)
    else
      (f_Mo_line_60  q1.2).bind fun q2 =>
      some (.inr q2.2)
def f_Mo_scene_60_L288  (a : Int32 × xS) : Option ((Int32 × xS) ⊕ (Int32 × xS)) :=
  let v2 := a.1; let σ := a.2;
  if (5 : Int32) ≤ v2 then
    some (.inl (v2, σ))
  else
    if v2 < 0 ∨ 6 ≤ v2.toNatClampNeg then none else
    if v2 < 0 ∨ 12 ≤ v2.toNatClampNeg then none else
    let σ3 := x_pI σ 79 v2.toNatClampNeg (σ.1 74 v2.toNatClampNeg)
    let w4 := v2 + (1 : Int32)
    some (.inr (w4, σ3))
def f_Mo_scene_60_L331  (a : Int32 × xS) : Option ((Int32 × xS) ⊕ (Int32 × xS)) :=
  let v2 := a.1; let σ := a.2;
  if (6 : Int32) ≤ v2 then
    some (.inl (v2, σ))
  else
    if v2 < 0 ∨ 6 ≤ v2.toNatClampNeg then none else
    if ((6 : Int32) + v2) < 0 ∨ 12 ≤ ((6 : Int32) + v2).toNatClampNeg then none else
    let σ5 := x_pI σ 79 ((6 : Int32) + v2).toNatClampNeg (σ.1 73 v2.toNatClampNeg)
    let w6 := v2 + (1 : Int32)
    some (.inr (w6, σ5))
def f_Mo_scene_60_J328 (y1 : Int32) (y2 : Int32) (σ : xS) : Option (Int32 × xS) :=
  if y1 < 0 ∨ 12 ≤ y1.toNatClampNeg then none else
  let σ7 := x_pI σ 79 y1.toNatClampNeg y2
  (x_it (f_Mo_scene_60_L331 ) 10000 ((0 : Int32), σ7)).bind fun b8 =>
  let σ9 := x_pI b8.2 60 56 (0 : Int32)
  let σ10 := x_pI σ9 60 74 (0 : Int32)
  let σ11 := x_pI σ10 60 76 (0 : Int32)
  let σ12 := x_pI σ11 60 68 (-1 : Int32)
  let σ13 := x_pI σ12 60 78 (0 : Int32)
  some ((0 : Int32), σ13)
def f_Mo_scene_60_J136  (σ : xS) : Option (Int32 × xS) :=
  (f_Mo_isGood_60  σ).bind fun q14 =>
  if q14.1 = 0 then
    let σ29 := x_pI q14.2 68 0 (q14.2.1 68 0 + (1 : Int32))
    some (σ29.1 60 16, σ29)
  else
    let σ15 := x_pI q14.2 60 1 (q14.2.1 60 27)
    let σ16 := x_pI σ15 60 2 (σ15.1 60 28)
    let σ17 := x_pI σ16 60 3 (σ16.1 60 29)
    let σ18 := x_pI σ17 60 4 (σ17.1 60 30)
    let σ19 := x_pI σ18 60 5 (σ18.1 60 31)
    let σ20 := x_pI σ19 60 6 (σ19.1 60 32)
    let σ21 := x_pI σ20 60 7 (σ20.1 60 33)
    (f_Mo_copies_60_69_61  σ21).bind fun q22 =>
    (f_Mo_copies_60_70_62  q22.2).bind fun q23 =>
    (f_Mo_copies_60_71_63  q23.2).bind fun q24 =>
    (f_Mo_copies_60_72_64  q24.2).bind fun q25 =>
    (f_Mo_copies_60_75_65  q25.2).bind fun q26 =>
    (f_Mo_copies_60_76_66  q26.2).bind fun q27 =>
    (x_it (f_Mo_scene_60_L288 ) 10000 ((0 : Int32), q27.2)).bind fun b28 =>
    if b28.2.1 60 5 ≤ 0 then
      f_Mo_scene_60_J328 (5 : Int32) (-1 : Int32) b28.2
    else
      f_Mo_scene_60_J328 (5 : Int32) (0 : Int32) b28.2
def f_Mo_scene_60_J107  (σ : xS) : Option (Int32 × xS) :=
  let σ30 := x_pI σ 60 35 (σ.1 60 27)
  (x_it (f_Mo_scene_60_L115 ) 10000 σ30).bind fun b31 =>
  f_Mo_scene_60_J136  b31
def f_Mo_scene_60_J23 (v1 : Int32) (y1 : Int32) (σ : xS) : Option (Int32 × xS) :=
  (f_Mo_right_60 y1 (1 : Int32) σ).bind fun q32 =>
  if q32.1 = 0 then
    some ((0 : Int32), q32.2)
  else
    let σ33 := x_pI q32.2 60 15 (0 : Int32)
    let σ34 := x_pI σ33 60 17 (-1 : Int32)
    let σ35 := x_pI σ34 60 16 (0 : Int32)
    let σ36 := x_pI σ35 60 19 v1
    let σ37 := x_pI σ36 60 20 (0 : Int32)
    (f_Mo_forgetsText_60  σ37).bind fun q38 =>
    (f_Mo_goes_60  q38.2).bind fun q39 =>
    let σ40 := x_pI q39.2 60 27 (120 : Int32)
    (f_Mo_knownWord_60  σ40).bind fun q41 =>
    if q41.1 = (8 : Int32) then
      (f_Mo_goes_60  q41.2).bind fun q42 =>
      (f_Mo_number_60 (12 : Int32) (480 : Int32) q42.2).bind fun q43 =>
      let σ44 := x_pI q43.2 60 27 q43.1
      (f_Mo_isSign_60 (59 : Int32) σ44).bind fun q45 =>
      (f_Mo_need_60 q45.1 q45.2).bind fun q46 =>
      f_Mo_scene_60_J107  q46.2
    else
      f_Mo_scene_60_J107  q41.2
def f_Mo_scene_60_J22 (v1 : Int32) (σ : xS) : Option (Int32 × xS) :=
  f_Mo_scene_60_J23 v1 (0 : Int32) σ
def f_Mo_scene_60 (v1 : Int32) (σ : xS) : Option (Int32 × xS) :=
  let σ47 := x_pI σ 60 0 (0 : Int32)
  if v1 < 0 then
    f_Mo_scene_60_J22 v1 σ47
  else
    if σ47.1 60 15 < v1 then
      f_Mo_scene_60_J22 v1 σ47
    else
      f_Mo_scene_60_J23 v1 (1 : Int32) σ47
set_option maxHeartbeats 4000000 in
set_option maxRecDepth 100000 in
theorem b_Mo_scene_60_L115 {l : Launch} {s0 : State} {a0 : Array Value} {D : va_G} {cA : Nat → ClassId} {sp : Nat → Nat} (E : x_En CL l s0 a0 D cA sp)  {r : Int32} {σ1 : xS} (a : xS) (o : (xS) ⊕ (xS)) (h : f_Mo_scene_60_L115  a = some o) (hK : ∀ b, o = .inl b → zW l s0 D cA sp (zQ s0 D cA sp (some (.int r)) σ1) (x_rm 8 0 0) M_Mo_scene 0 0 136 [some (.ref 60), none, none] [] b) (hG : ∀ a', o = .inr a' → zW l s0 D cA sp (zQ s0 D cA sp (some (.int r)) σ1) (x_rm 8 0 0) M_Mo_scene 0 0 115 [some (.ref 60), none, none] [] a') : zW l s0 D cA sp (zQ s0 D cA sp (some (.int r)) σ1) (x_rm 8 0 0) M_Mo_scene 0 0 115 [some (.ref 60), none, none] [] a := by
  obtain ⟨σ, rfl⟩ : ∃ z, z = a := ⟨_, rfl⟩
  unfold f_Mo_scene_60_L115 at h
  try dsimp only at h ⊢
  refine x_aload_n 116 rfl 0 dX9_scene_115 rfl rfl ?_
  obtain ⟨⟨q1r, q1s⟩, q1h, h⟩ := x_bind h
  try dsimp only at h
  refine z_callV E [] [] dX9_scene_116 K_RX9_191 ⟨Nat.le_of_ble_eq_true rfl, Nat.le_of_ble_eq_true rfl⟩ sh_60 (by decide) rfl (c_Mo_isGood_60 E  q1h) rfl rfl (Nat.le_of_ble_eq_true rfl) 119 rfl [.int _] rfl ?_
  refine x_if_eq 122 rfl 136 dX9_scene_119 (by decide) (fun hc => ?_) (fun hc => ?_)
  · replace h := x_ifT hc h
    cases h
    exact x_wk (x_le_s (x_le_n (x_le_n x_le_0))) (hK _ rfl)
  · replace h := x_ifF hc h
    refine x_aload_n 123 rfl 0 dX9_scene_122 rfl rfl ?_
    refine x_getI E dX9_scene_123 F_RX9_165 sh_60 126 rfl ?_
    refine x_if_eq 129 rfl 136 dX9_scene_126 (by decide) (fun hc => ?_) (fun hc => ?_)
    · replace h := x_ifT hc h
      cases h
      exact x_wk (x_le_s (x_le_n (x_le_n x_le_0))) (hK _ rfl)
    · replace h := x_ifF hc h
      refine x_aload_n 130 rfl 0 dX9_scene_129 rfl rfl ?_
      obtain ⟨⟨q2r, q2s⟩, q2h, h⟩ := x_bind h
      try dsimp only at h
      refine z_callV E [] [] dX9_scene_130 K_RX9_321 ⟨Nat.le_of_ble_eq_true rfl, Nat.le_of_ble_eq_true rfl⟩ sh_60 (by decide) rfl (c_Mo_line_60 E  q2h) rfl rfl (Nat.le_of_ble_eq_true rfl) 133 rfl [] rfl ?_
      refine x_goto 115 dX9_scene_133 (by decide) ?_
      cases h
      exact x_wk (x_le_s (x_le_n (x_le_n x_le_0))) (hG _ rfl)
set_option maxHeartbeats 4000000 in
set_option maxRecDepth 100000 in
theorem b_Mo_scene_60_L288 {l : Launch} {s0 : State} {a0 : Array Value} {D : va_G} {cA : Nat → ClassId} {sp : Nat → Nat} (E : x_En CL l s0 a0 D cA sp)  {r : Int32} {σ1 : xS} (a : Int32 × xS) (o : (Int32 × xS) ⊕ (Int32 × xS)) (h : f_Mo_scene_60_L288  a = some o) (hK : ∀ b, o = .inl b → zW l s0 D cA sp (zQ s0 D cA sp (some (.int r)) σ1) (x_rm 8 0 0) M_Mo_scene 0 0 311 [some (.ref 60), none, none] [] b.2) (hG : ∀ a', o = .inr a' → zW l s0 D cA sp (zQ s0 D cA sp (some (.int r)) σ1) (x_rm 8 0 0) M_Mo_scene 0 0 288 [some (.ref 60), none, some (.int a'.1)] [] a'.2) : zW l s0 D cA sp (zQ s0 D cA sp (some (.int r)) σ1) (x_rm 8 0 0) M_Mo_scene 0 0 288 [some (.ref 60), none, some (.int a.1)] [] a.2 := by
  obtain ⟨v2, σ⟩ := a
  unfold f_Mo_scene_60_L288 at h
  try dsimp only at h ⊢
  refine x_iload_n 289 rfl 2 dX9_scene_288 rfl rfl ?_
  refine x_iconst 290 rfl (v := 5) dX9_scene_289 (by decide) ?_
  refine x_icmp_ge 293 rfl 311 dX9_scene_290 (by decide) (fun hc => ?_) (fun hc => ?_)
  · replace h := x_ifT hc h
    cases h
    exact x_wk (x_le_s (x_le_n (x_le_n x_le_0))) (hK (_, _) rfl)
  · replace h := x_ifF hc h
    refine x_aload_n 294 rfl 0 dX9_scene_293 rfl rfl ?_
    refine x_getR E dX9_scene_294 F_RX9_78 sh_60 rf_60_53 297 rfl ?_
    refine x_iload_n 298 rfl 2 dX9_scene_297 rfl rfl ?_
    refine x_aload_n 299 rfl 0 dX9_scene_298 rfl rfl ?_
    refine x_getR E dX9_scene_299 F_RX9_62 sh_60 rf_60_48 302 rfl ?_
    refine x_iload_n 303 rfl 2 dX9_scene_302 rfl rfl ?_
    obtain ⟨hz, h⟩ := x_ifn h
    refine x_iald E dX9_scene_303 sh_74 _ rfl hz 304 rfl ?_
    obtain ⟨hz, h⟩ := x_ifn h
    refine x_iast E dX9_scene_304 sh_79 _ rfl hz 305 rfl ?_
    refine x_iinc 308 rfl (1) dX9_scene_305 rfl (by decide) (by decide) [some (.ref 60), none, some (.int _)] rfl ?_
    refine x_goto 288 dX9_scene_308 (by decide) ?_
    cases h
    exact x_wk (x_le_s (x_le_n (x_le_s x_le_0))) (hG (_, _) rfl)
set_option maxHeartbeats 4000000 in
set_option maxRecDepth 100000 in
theorem b_Mo_scene_60_L331 {l : Launch} {s0 : State} {a0 : Array Value} {D : va_G} {cA : Nat → ClassId} {sp : Nat → Nat} (E : x_En CL l s0 a0 D cA sp)  {r : Int32} {σ1 : xS} (a : Int32 × xS) (o : (Int32 × xS) ⊕ (Int32 × xS)) (h : f_Mo_scene_60_L331  a = some o) (hK : ∀ b, o = .inl b → zW l s0 D cA sp (zQ s0 D cA sp (some (.int r)) σ1) (x_rm 8 0 0) M_Mo_scene 0 0 358 [some (.ref 60), none, none] [] b.2) (hG : ∀ a', o = .inr a' → zW l s0 D cA sp (zQ s0 D cA sp (some (.int r)) σ1) (x_rm 8 0 0) M_Mo_scene 0 0 331 [some (.ref 60), none, some (.int a'.1)] [] a'.2) : zW l s0 D cA sp (zQ s0 D cA sp (some (.int r)) σ1) (x_rm 8 0 0) M_Mo_scene 0 0 331 [some (.ref 60), none, some (.int a.1)] [] a.2 := by
  obtain ⟨v2, σ⟩ := a
  unfold f_Mo_scene_60_L331 at h
  try dsimp only at h ⊢
  refine x_iload_n 332 rfl 2 dX9_scene_331 rfl rfl ?_
  refine x_bipush 334 rfl (v := 6) dX9_scene_332 (by decide) ?_
  refine x_icmp_ge 337 rfl 358 dX9_scene_334 (by decide) (fun hc => ?_) (fun hc => ?_)
  · replace h := x_ifT hc h
    cases h
    exact x_wk (x_le_s (x_le_n (x_le_n x_le_0))) (hK (_, _) rfl)
  · replace h := x_ifF hc h
    refine x_aload_n 338 rfl 0 dX9_scene_337 rfl rfl ?_
    refine x_getR E dX9_scene_338 F_RX9_78 sh_60 rf_60_53 341 rfl ?_
    refine x_bipush 343 rfl (v := 6) dX9_scene_341 (by decide) ?_
    refine x_iload_n 344 rfl 2 dX9_scene_343 rfl rfl ?_
    refine x_iadd 345 rfl dX9_scene_344 ?_
    refine x_aload_n 346 rfl 0 dX9_scene_345 rfl rfl ?_
    refine x_getR E dX9_scene_346 F_RX9_59 sh_60 rf_60_47 349 rfl ?_
    refine x_iload_n 350 rfl 2 dX9_scene_349 rfl rfl ?_
    obtain ⟨hz, h⟩ := x_ifn h
    refine x_iald E dX9_scene_350 sh_73 _ rfl hz 351 rfl ?_
    obtain ⟨hz, h⟩ := x_ifn h
    refine x_iast E dX9_scene_351 sh_79 _ rfl hz 352 rfl ?_
    refine x_iinc 355 rfl (1) dX9_scene_352 rfl (by decide) (by decide) [some (.ref 60), none, some (.int _)] rfl ?_
    refine x_goto 331 dX9_scene_355 (by decide) ?_
    cases h
    exact x_wk (x_le_s (x_le_n (x_le_s x_le_0))) (hG (_, _) rfl)
set_option maxHeartbeats 4000000 in
set_option maxRecDepth 100000 in
theorem j_Mo_scene_60_J328 {l : Launch} {s0 : State} {a0 : Array Value} {D : va_G} {cA : Nat → ClassId} {sp : Nat → Nat} (E : x_En CL l s0 a0 D cA sp) (y1 : Int32) (y2 : Int32) (σ : xS) {r : Int32} {σ1 : xS} (h : f_Mo_scene_60_J328 y1 y2 σ = some (r, σ1)) : zW l s0 D cA sp (zQ s0 D cA sp (some (.int r)) σ1) (x_rm 8 0 0) M_Mo_scene 0 0 328 [some (.ref 60), none, none] [.int y2, .int y1, .ref 79] σ := by
  unfold f_Mo_scene_60_J328 at h
  try dsimp only at h
  obtain ⟨hz, h⟩ := x_ifn h
  refine x_iast E dX9_scene_328 sh_79 _ rfl hz 329 rfl ?_
  refine x_iconst 330 rfl (v := 0) dX9_scene_329 (by decide) ?_
  refine x_istore_n 331 rfl 2 dX9_scene_330 rfl (by decide) [some (.ref 60), none, some (.int _)] rfl ?_
  obtain ⟨b8, b8h, h⟩ := x_bind h
  try dsimp only at h
  refine x_wk (x_le_s (x_le_n (x_le_s x_le_0))) (x_loop (fun a o h hK hG => b_Mo_scene_60_L331 (r := r) (σ1 := σ1) E  a o h hK hG) _ _ _ b8h ?_)
  refine x_aload_n 359 rfl 0 dX9_scene_358 rfl rfl ?_
  refine x_iconst 360 rfl (v := 0) dX9_scene_359 (by decide) ?_
  refine x_putI E dX9_scene_360 F_RX9_340 sh_60 363 rfl ?_
  refine x_aload_n 364 rfl 0 dX9_scene_363 rfl rfl ?_
  refine x_iconst 365 rfl (v := 0) dX9_scene_364 (by decide) ?_
  refine x_putI E dX9_scene_365 F_RX9_343 sh_60 368 rfl ?_
  refine x_aload_n 369 rfl 0 dX9_scene_368 rfl rfl ?_
  refine x_iconst 370 rfl (v := 0) dX9_scene_369 (by decide) ?_
  refine x_putI E dX9_scene_370 F_RX9_346 sh_60 373 rfl ?_
  refine x_aload_n 374 rfl 0 dX9_scene_373 rfl rfl ?_
  refine x_iconst 375 rfl (v := -1) dX9_scene_374 (by decide) ?_
  refine x_putI E dX9_scene_375 F_RX9_102 sh_60 378 rfl ?_
  refine x_aload_n 379 rfl 0 dX9_scene_378 rfl rfl ?_
  refine x_iconst 380 rfl (v := 0) dX9_scene_379 (by decide) ?_
  refine x_putZ E (Or.inl rfl) dX9_scene_380 F_RX9_349 sh_60 383 rfl ?_
  refine x_iconst 384 rfl (v := 0) dX9_scene_383 (by decide) ?_
  cases h
  exact x_iret dX9_scene_384 rfl rfl rfl
set_option maxHeartbeats 4000000 in
set_option maxRecDepth 100000 in
theorem j_Mo_scene_60_J136 {l : Launch} {s0 : State} {a0 : Array Value} {D : va_G} {cA : Nat → ClassId} {sp : Nat → Nat} (E : x_En CL l s0 a0 D cA sp)  (σ : xS) {r : Int32} {σ1 : xS} (h : f_Mo_scene_60_J136  σ = some (r, σ1)) : zW l s0 D cA sp (zQ s0 D cA sp (some (.int r)) σ1) (x_rm 8 0 0) M_Mo_scene 0 0 136 [some (.ref 60), none, none] [] σ := by
  unfold f_Mo_scene_60_J136 at h
  try dsimp only at h
  refine x_aload_n 137 rfl 0 dX9_scene_136 rfl rfl ?_
  obtain ⟨⟨q14r, q14s⟩, q14h, h⟩ := x_bind h
  try dsimp only at h
  refine z_callV E [] [] dX9_scene_137 K_RX9_191 ⟨Nat.le_of_ble_eq_true rfl, Nat.le_of_ble_eq_true rfl⟩ sh_60 (by decide) rfl (c_Mo_isGood_60 E  q14h) rfl rfl (Nat.le_of_ble_eq_true rfl) 140 rfl [.int _] rfl ?_
  refine x_if_ne 143 rfl 158 dX9_scene_140 (by decide) (fun hc => ?_) (fun hc => ?_)
  · replace h := x_ifF hc h
    refine x_aload_n 159 rfl 0 dX9_scene_158 rfl rfl ?_
    refine x_aload_n 160 rfl 0 dX9_scene_159 rfl rfl ?_
    refine x_getI E dX9_scene_160 F_RX9_318 sh_60 163 rfl ?_
    refine x_putI E dX9_scene_163 F_RX9_7 sh_60 166 rfl ?_
    refine x_aload_n 167 rfl 0 dX9_scene_166 rfl rfl ?_
    refine x_aload_n 168 rfl 0 dX9_scene_167 rfl rfl ?_
    refine x_getI E dX9_scene_168 F_RX9_261 sh_60 171 rfl ?_
    refine x_putI E dX9_scene_171 F_RX9_324 sh_60 174 rfl ?_
    refine x_aload_n 175 rfl 0 dX9_scene_174 rfl rfl ?_
    refine x_aload_n 176 rfl 0 dX9_scene_175 rfl rfl ?_
    refine x_getI E dX9_scene_176 F_RX9_274 sh_60 179 rfl ?_
    refine x_putI E dX9_scene_179 F_RX9_327 sh_60 182 rfl ?_
    refine x_aload_n 183 rfl 0 dX9_scene_182 rfl rfl ?_
    refine x_aload_n 184 rfl 0 dX9_scene_183 rfl rfl ?_
    refine x_getI E dX9_scene_184 F_RX9_277 sh_60 187 rfl ?_
    refine x_putI E dX9_scene_187 F_RX9_330 sh_60 190 rfl ?_
    refine x_aload_n 191 rfl 0 dX9_scene_190 rfl rfl ?_
    refine x_aload_n 192 rfl 0 dX9_scene_191 rfl rfl ?_
    refine x_getI E dX9_scene_192 F_RX9_280 sh_60 195 rfl ?_
    refine x_putI E dX9_scene_195 F_RX9_333 sh_60 198 rfl ?_
    refine x_aload_n 199 rfl 0 dX9_scene_198 rfl rfl ?_
    refine x_aload_n 200 rfl 0 dX9_scene_199 rfl rfl ?_
    refine x_getI E dX9_scene_200 F_RX9_290 sh_60 203 rfl ?_
    refine x_putI E dX9_scene_203 F_RX9_13 sh_60 206 rfl ?_
    refine x_aload_n 207 rfl 0 dX9_scene_206 rfl rfl ?_
    refine x_aload_n 208 rfl 0 dX9_scene_207 rfl rfl ?_
    refine x_getI E dX9_scene_208 F_RX9_293 sh_60 211 rfl ?_
    refine x_putI E dX9_scene_211 F_RX9_16 sh_60 214 rfl ?_
    refine x_aload_n 215 rfl 0 dX9_scene_214 rfl rfl ?_
    refine x_aload_n 216 rfl 0 dX9_scene_215 rfl rfl ?_
    refine x_getR E dX9_scene_216 F_RX9_47 sh_60 rf_60_43 219 rfl ?_
    refine x_aload_n 220 rfl 0 dX9_scene_219 rfl rfl ?_
    refine x_getR E dX9_scene_220 F_RX9_19 sh_60 rf_60_8 223 rfl ?_
    obtain ⟨⟨q22r, q22s⟩, q22h, h⟩ := x_bind h
    try dsimp only at h
    refine z_callV E [.ref 69, .ref 61] [] dX9_scene_223 K_RX9_336 ⟨Nat.le_of_ble_eq_true rfl, Nat.le_of_ble_eq_true rfl⟩ sh_60 (by decide) rfl (c_Mo_copies_60_69_61 E  q22h) rfl rfl (Nat.le_of_ble_eq_true rfl) 226 rfl [] rfl ?_
    refine x_aload_n 227 rfl 0 dX9_scene_226 rfl rfl ?_
    refine x_aload_n 228 rfl 0 dX9_scene_227 rfl rfl ?_
    refine x_getR E dX9_scene_228 F_RX9_50 sh_60 rf_60_44 231 rfl ?_
    refine x_aload_n 232 rfl 0 dX9_scene_231 rfl rfl ?_
    refine x_getR E dX9_scene_232 F_RX9_23 sh_60 rf_60_9 235 rfl ?_
    obtain ⟨⟨q23r, q23s⟩, q23h, h⟩ := x_bind h
    try dsimp only at h
    refine z_callV E [.ref 70, .ref 62] [] dX9_scene_235 K_RX9_336 ⟨Nat.le_of_ble_eq_true rfl, Nat.le_of_ble_eq_true rfl⟩ sh_60 (by decide) rfl (c_Mo_copies_60_70_62 E  q23h) rfl rfl (Nat.le_of_ble_eq_true rfl) 238 rfl [] rfl ?_
    refine x_aload_n 239 rfl 0 dX9_scene_238 rfl rfl ?_
    refine x_aload_n 240 rfl 0 dX9_scene_239 rfl rfl ?_
    refine x_getR E dX9_scene_240 F_RX9_53 sh_60 rf_60_45 243 rfl ?_
    refine x_aload_n 244 rfl 0 dX9_scene_243 rfl rfl ?_
    refine x_getR E dX9_scene_244 F_RX9_26 sh_60 rf_60_10 247 rfl ?_
    obtain ⟨⟨q24r, q24s⟩, q24h, h⟩ := x_bind h
    try dsimp only at h
    refine z_callV E [.ref 71, .ref 63] [] dX9_scene_247 K_RX9_336 ⟨Nat.le_of_ble_eq_true rfl, Nat.le_of_ble_eq_true rfl⟩ sh_60 (by decide) rfl (c_Mo_copies_60_71_63 E  q24h) rfl rfl (Nat.le_of_ble_eq_true rfl) 250 rfl [] rfl ?_
    refine x_aload_n 251 rfl 0 dX9_scene_250 rfl rfl ?_
    refine x_aload_n 252 rfl 0 dX9_scene_251 rfl rfl ?_
    refine x_getR E dX9_scene_252 F_RX9_56 sh_60 rf_60_46 255 rfl ?_
    refine x_aload_n 256 rfl 0 dX9_scene_255 rfl rfl ?_
    refine x_getR E dX9_scene_256 F_RX9_29 sh_60 rf_60_11 259 rfl ?_
    obtain ⟨⟨q25r, q25s⟩, q25h, h⟩ := x_bind h
    try dsimp only at h
    refine z_callV E [.ref 72, .ref 64] [] dX9_scene_259 K_RX9_336 ⟨Nat.le_of_ble_eq_true rfl, Nat.le_of_ble_eq_true rfl⟩ sh_60 (by decide) rfl (c_Mo_copies_60_72_64 E  q25h) rfl rfl (Nat.le_of_ble_eq_true rfl) 262 rfl [] rfl ?_
    refine x_aload_n 263 rfl 0 dX9_scene_262 rfl rfl ?_
    refine x_aload_n 264 rfl 0 dX9_scene_263 rfl rfl ?_
    refine x_getR E dX9_scene_264 F_RX9_65 sh_60 rf_60_49 267 rfl ?_
    refine x_aload_n 268 rfl 0 dX9_scene_267 rfl rfl ?_
    refine x_getR E dX9_scene_268 F_RX9_32 sh_60 rf_60_12 271 rfl ?_
    obtain ⟨⟨q26r, q26s⟩, q26h, h⟩ := x_bind h
    try dsimp only at h
    refine z_callV E [.ref 75, .ref 65] [] dX9_scene_271 K_RX9_336 ⟨Nat.le_of_ble_eq_true rfl, Nat.le_of_ble_eq_true rfl⟩ sh_60 (by decide) rfl (c_Mo_copies_60_75_65 E  q26h) rfl rfl (Nat.le_of_ble_eq_true rfl) 274 rfl [] rfl ?_
    refine x_aload_n 275 rfl 0 dX9_scene_274 rfl rfl ?_
    refine x_aload_n 276 rfl 0 dX9_scene_275 rfl rfl ?_
    refine x_getR E dX9_scene_276 F_RX9_68 sh_60 rf_60_50 279 rfl ?_
    refine x_aload_n 280 rfl 0 dX9_scene_279 rfl rfl ?_
    refine x_getR E dX9_scene_280 F_RX9_35 sh_60 rf_60_13 283 rfl ?_
    obtain ⟨⟨q27r, q27s⟩, q27h, h⟩ := x_bind h
    try dsimp only at h
    refine z_callV E [.ref 76, .ref 66] [] dX9_scene_283 K_RX9_336 ⟨Nat.le_of_ble_eq_true rfl, Nat.le_of_ble_eq_true rfl⟩ sh_60 (by decide) rfl (c_Mo_copies_60_76_66 E  q27h) rfl rfl (Nat.le_of_ble_eq_true rfl) 286 rfl [] rfl ?_
    refine x_iconst 287 rfl (v := 0) dX9_scene_286 (by decide) ?_
    refine x_istore_n 288 rfl 2 dX9_scene_287 rfl (by decide) [some (.ref 60), none, some (.int _)] rfl ?_
    obtain ⟨b28, b28h, h⟩ := x_bind h
    try dsimp only at h
    refine x_wk (x_le_s (x_le_n (x_le_s x_le_0))) (x_loop (fun a o h hK hG => b_Mo_scene_60_L288 (r := r) (σ1 := σ1) E  a o h hK hG) _ _ _ b28h ?_)
    refine x_aload_n 312 rfl 0 dX9_scene_311 rfl rfl ?_
    refine x_getR E dX9_scene_312 F_RX9_78 sh_60 rf_60_53 315 rfl ?_
    refine x_iconst 316 rfl (v := 5) dX9_scene_315 (by decide) ?_
    refine x_aload_n 317 rfl 0 dX9_scene_316 rfl rfl ?_
    refine x_getI E dX9_scene_317 F_RX9_333 sh_60 320 rfl ?_
    refine x_if_le 323 rfl 327 dX9_scene_320 (by decide) (fun hc => ?_) (fun hc => ?_)
    · replace h := x_ifT hc h
      refine x_iconst 328 rfl (v := -1) dX9_scene_327 (by decide) ?_
      exact x_wk (x_le_s (x_le_n (x_le_n x_le_0))) (j_Mo_scene_60_J328 E _ _ _ h)
    · replace h := x_ifF hc h
      refine x_iconst 324 rfl (v := 0) dX9_scene_323 (by decide) ?_
      refine x_goto 328 dX9_scene_324 (by decide) ?_
      exact x_wk (x_le_s (x_le_n (x_le_n x_le_0))) (j_Mo_scene_60_J328 E _ _ _ h)
  · replace h := x_ifT hc h
    refine x_aload_n 144 rfl 0 dX9_scene_143 rfl rfl ?_
    refine x_getR E dX9_scene_144 F_RX9_44 sh_60 rf_60_18 147 rfl ?_
    refine x_iconst 148 rfl (v := 0) dX9_scene_147 (by decide) ?_
    refine x_dup2 149 rfl dX9_scene_148 rfl rfl ?_
    refine x_iald E dX9_scene_149 sh_68 0 (by decide) (by decide) 150 rfl ?_
    refine x_iconst 151 rfl (v := 1) dX9_scene_150 (by decide) ?_
    refine x_iadd 152 rfl dX9_scene_151 ?_
    refine x_iast E dX9_scene_152 sh_68 0 (by decide) (by decide) 153 rfl ?_
    refine x_aload_n 154 rfl 0 dX9_scene_153 rfl rfl ?_
    refine x_getI E dX9_scene_154 F_RX9_188 sh_60 157 rfl ?_
    cases h
    exact x_iret dX9_scene_157 rfl rfl rfl
set_option maxHeartbeats 4000000 in
set_option maxRecDepth 100000 in
theorem j_Mo_scene_60_J107 {l : Launch} {s0 : State} {a0 : Array Value} {D : va_G} {cA : Nat → ClassId} {sp : Nat → Nat} (E : x_En CL l s0 a0 D cA sp)  (σ : xS) {r : Int32} {σ1 : xS} (h : f_Mo_scene_60_J107  σ = some (r, σ1)) : zW l s0 D cA sp (zQ s0 D cA sp (some (.int r)) σ1) (x_rm 8 0 0) M_Mo_scene 0 0 107 [some (.ref 60), none, none] [] σ := by
  unfold f_Mo_scene_60_J107 at h
  try dsimp only at h
  refine x_aload_n 108 rfl 0 dX9_scene_107 rfl rfl ?_
  refine x_aload_n 109 rfl 0 dX9_scene_108 rfl rfl ?_
  refine x_getI E dX9_scene_109 F_RX9_318 sh_60 112 rfl ?_
  refine x_putI E dX9_scene_112 F_RX9_264 sh_60 115 rfl ?_
  obtain ⟨b31, b31h, h⟩ := x_bind h
  try dsimp only at h
  refine x_wk (x_le_s (x_le_n (x_le_n x_le_0))) (x_loop (fun a o h hK hG => b_Mo_scene_60_L115 (r := r) (σ1 := σ1) E  a o h hK hG) _ _ _ b31h ?_)
  exact x_wk (x_le_s (x_le_n (x_le_n x_le_0))) (j_Mo_scene_60_J136 E  _ h)
set_option maxHeartbeats 4000000 in
set_option maxRecDepth 100000 in
theorem j_Mo_scene_60_J23 {l : Launch} {s0 : State} {a0 : Array Value} {D : va_G} {cA : Nat → ClassId} {sp : Nat → Nat} (E : x_En CL l s0 a0 D cA sp) (v1 : Int32) (y1 : Int32) (σ : xS) {r : Int32} {σ1 : xS} (h : f_Mo_scene_60_J23 v1 y1 σ = some (r, σ1)) : zW l s0 D cA sp (zQ s0 D cA sp (some (.int r)) σ1) (x_rm 8 0 0) M_Mo_scene 0 0 23 [some (.ref 60), some (.int v1), none] [.int y1, .ref 60] σ := by
  unfold f_Mo_scene_60_J23 at h
  try dsimp only at h
  refine x_iconst 24 rfl (v := 1) dX9_scene_23 (by decide) ?_
  obtain ⟨⟨q32r, q32s⟩, q32h, h⟩ := x_bind h
  try dsimp only at h
  refine z_callV E [.int _, .int _] [] dX9_scene_24 K_RX9_311 ⟨Nat.le_of_ble_eq_true rfl, Nat.le_of_ble_eq_true rfl⟩ sh_60 (by decide) rfl (c_Mo_right_60 E _ _ q32h) rfl rfl (Nat.le_of_ble_eq_true rfl) 27 rfl [.int _] rfl ?_
  refine x_if_ne 30 rfl 32 dX9_scene_27 (by decide) (fun hc => ?_) (fun hc => ?_)
  · replace h := x_ifF hc h
    refine x_aload_n 33 rfl 0 dX9_scene_32 rfl rfl ?_
    refine x_iconst 34 rfl (v := 0) dX9_scene_33 (by decide) ?_
    refine x_putI E dX9_scene_34 F_RX9_135 sh_60 37 rfl ?_
    refine x_aload_n 38 rfl 0 dX9_scene_37 rfl rfl ?_
    refine x_iconst 39 rfl (v := -1) dX9_scene_38 (by decide) ?_
    refine x_putI E dX9_scene_39 F_RX9_41 sh_60 42 rfl ?_
    refine x_aload_n 43 rfl 0 dX9_scene_42 rfl rfl ?_
    refine x_iconst 44 rfl (v := 0) dX9_scene_43 (by decide) ?_
    refine x_putI E dX9_scene_44 F_RX9_188 sh_60 47 rfl ?_
    refine x_aload_n 48 rfl 0 dX9_scene_47 rfl rfl ?_
    refine x_iload_n 49 rfl 1 dX9_scene_48 rfl rfl ?_
    refine x_putI E dX9_scene_49 F_RX9_142 sh_60 52 rfl ?_
    refine x_aload_n 53 rfl 0 dX9_scene_52 rfl rfl ?_
    refine x_iconst 54 rfl (v := 0) dX9_scene_53 (by decide) ?_
    refine x_putI E dX9_scene_54 F_RX9_145 sh_60 57 rfl ?_
    refine x_aload_n 58 rfl 0 dX9_scene_57 rfl rfl ?_
    obtain ⟨⟨q38r, q38s⟩, q38h, h⟩ := x_bind h
    try dsimp only at h
    refine z_callV E [] [] dX9_scene_58 K_RX9_315 ⟨Nat.le_of_ble_eq_true rfl, Nat.le_of_ble_eq_true rfl⟩ sh_60 (by decide) rfl (c_Mo_forgetsText_60 E  q38h) rfl rfl (Nat.le_of_ble_eq_true rfl) 61 rfl [] rfl ?_
    refine x_aload_n 62 rfl 0 dX9_scene_61 rfl rfl ?_
    obtain ⟨⟨q39r, q39s⟩, q39h, h⟩ := x_bind h
    try dsimp only at h
    refine z_callV E [] [] dX9_scene_62 K_RX9_195 ⟨Nat.le_of_ble_eq_true rfl, Nat.le_of_ble_eq_true rfl⟩ sh_60 (by decide) rfl (c_Mo_goes_60 E  q39h) rfl rfl (Nat.le_of_ble_eq_true rfl) 65 rfl [] rfl ?_
    refine x_aload_n 66 rfl 0 dX9_scene_65 rfl rfl ?_
    refine x_bipush 68 rfl (v := 120) dX9_scene_66 (by decide) ?_
    refine x_putI E dX9_scene_68 F_RX9_318 sh_60 71 rfl ?_
    refine x_aload_n 72 rfl 0 dX9_scene_71 rfl rfl ?_
    obtain ⟨⟨q41r, q41s⟩, q41h, h⟩ := x_bind h
    try dsimp only at h
    refine z_callV E [] [] dX9_scene_72 K_RX9_220 ⟨Nat.le_of_ble_eq_true rfl, Nat.le_of_ble_eq_true rfl⟩ sh_60 (by decide) rfl (c_Mo_knownWord_60 E  q41h) rfl rfl (Nat.le_of_ble_eq_true rfl) 75 rfl [.int _] rfl ?_
    refine x_bipush 77 rfl (v := 8) dX9_scene_75 (by decide) ?_
    refine x_icmp_ne 80 rfl 107 dX9_scene_77 (by decide) (fun hc => ?_) (fun hc => ?_)
    · replace h := x_ifF hc h
      exact x_wk (x_le_s (x_le_n (x_le_n x_le_0))) (j_Mo_scene_60_J107 E  _ h)
    · replace h := x_ifT hc h
      refine x_aload_n 81 rfl 0 dX9_scene_80 rfl rfl ?_
      obtain ⟨⟨q42r, q42s⟩, q42h, h⟩ := x_bind h
      try dsimp only at h
      refine z_callV E [] [] dX9_scene_81 K_RX9_195 ⟨Nat.le_of_ble_eq_true rfl, Nat.le_of_ble_eq_true rfl⟩ sh_60 (by decide) rfl (c_Mo_goes_60 E  q42h) rfl rfl (Nat.le_of_ble_eq_true rfl) 84 rfl [] rfl ?_
      refine x_aload_n 85 rfl 0 dX9_scene_84 rfl rfl ?_
      refine x_aload_n 86 rfl 0 dX9_scene_85 rfl rfl ?_
      refine x_bipush 88 rfl (v := 12) dX9_scene_86 (by decide) ?_
      refine x_sipush 91 rfl (v := 480) dX9_scene_88 (by decide) ?_
      obtain ⟨⟨q43r, q43s⟩, q43h, h⟩ := x_bind h
      try dsimp only at h
      refine z_callV E [.int _, .int _] [.ref 60] dX9_scene_91 K_RX9_267 ⟨Nat.le_of_ble_eq_true rfl, Nat.le_of_ble_eq_true rfl⟩ sh_60 (by decide) rfl (c_Mo_number_60 E _ _ q43h) rfl rfl (Nat.le_of_ble_eq_true rfl) 94 rfl [.int _, .ref 60] rfl ?_
      refine x_putI E dX9_scene_94 F_RX9_318 sh_60 97 rfl ?_
      refine x_aload_n 98 rfl 0 dX9_scene_97 rfl rfl ?_
      refine x_aload_n 99 rfl 0 dX9_scene_98 rfl rfl ?_
      refine x_bipush 101 rfl (v := 59) dX9_scene_99 (by decide) ?_
      obtain ⟨⟨q45r, q45s⟩, q45h, h⟩ := x_bind h
      try dsimp only at h
      refine z_callV E [.int _] [.ref 60] dX9_scene_101 K_RX9_233 ⟨Nat.le_of_ble_eq_true rfl, Nat.le_of_ble_eq_true rfl⟩ sh_60 (by decide) rfl (c_Mo_isSign_60 E _ q45h) rfl rfl (Nat.le_of_ble_eq_true rfl) 104 rfl [.int _, .ref 60] rfl ?_
      obtain ⟨⟨q46r, q46s⟩, q46h, h⟩ := x_bind h
      try dsimp only at h
      refine z_callV E [.int _] [] dX9_scene_104 K_RX9_308 ⟨Nat.le_of_ble_eq_true rfl, Nat.le_of_ble_eq_true rfl⟩ sh_60 (by decide) rfl (c_Mo_need_60 E _ q46h) rfl rfl (Nat.le_of_ble_eq_true rfl) 107 rfl [] rfl ?_
      exact x_wk (x_le_s (x_le_n (x_le_n x_le_0))) (j_Mo_scene_60_J107 E  _ h)
  · replace h := x_ifT hc h
    refine x_iconst 31 rfl (v := 0) dX9_scene_30 (by decide) ?_
    cases h
    exact x_iret dX9_scene_31 rfl rfl rfl
set_option maxHeartbeats 4000000 in
set_option maxRecDepth 100000 in
theorem j_Mo_scene_60_J22 {l : Launch} {s0 : State} {a0 : Array Value} {D : va_G} {cA : Nat → ClassId} {sp : Nat → Nat} (E : x_En CL l s0 a0 D cA sp) (v1 : Int32) (σ : xS) {r : Int32} {σ1 : xS} (h : f_Mo_scene_60_J22 v1 σ = some (r, σ1)) : zW l s0 D cA sp (zQ s0 D cA sp (some (.int r)) σ1) (x_rm 8 0 0) M_Mo_scene 0 0 22 [some (.ref 60), some (.int v1), none] [.ref 60] σ := by
  unfold f_Mo_scene_60_J22 at h
  try dsimp only at h
  refine x_iconst 23 rfl (v := 0) dX9_scene_22 (by decide) ?_
  exact x_wk (x_le_s (x_le_s (x_le_n x_le_0))) (j_Mo_scene_60_J23 E _ _ _ h)
set_option maxHeartbeats 4000000 in
set_option maxRecDepth 100000 in
theorem c_Mo_scene_60 {l : Launch} {s0 : State} {a0 : Array Value} {D : va_G} {cA : Nat → ClassId} {sp : Nat → Nat} (E : x_En CL l s0 a0 D cA sp) (v1 : Int32) {σ : xS} {r : Int32} {σ1 : xS} (h : f_Mo_scene_60 v1 σ = some (r, σ1)) : zC l s0 D cA sp 8 M_Mo_scene [.ref 60, .int v1] σ (some (.int r)) σ1 := by
  unfold f_Mo_scene_60 at h
  try dsimp only at h
  refine x_enter [some (.ref 60), some (.int v1), none] rfl (Nat.le_of_ble_eq_true rfl) (by decide +kernel) rfl ?_
  refine x_aload_n 1 rfl 0 dX9_scene_0 rfl rfl ?_
  refine x_iconst 2 rfl (v := 0) dX9_scene_1 (by decide) ?_
  refine x_putI E dX9_scene_2 F_RX9_132 sh_60 5 rfl ?_
  refine x_aload_n 6 rfl 0 dX9_scene_5 rfl rfl ?_
  refine x_iload_n 7 rfl 1 dX9_scene_6 rfl rfl ?_
  refine x_if_lt 10 rfl 22 dX9_scene_7 (by decide) (fun hc => ?_) (fun hc => ?_)
  · replace h := x_ifT hc h
    exact x_wk (x_le_s (x_le_s (x_le_n x_le_0))) (j_Mo_scene_60_J22 E _ _ h)
  · replace h := x_ifF hc h
    refine x_iload_n 11 rfl 1 dX9_scene_10 rfl rfl ?_
    refine x_aload_n 12 rfl 0 dX9_scene_11 rfl rfl ?_
    refine x_getI E dX9_scene_12 F_RX9_135 sh_60 15 rfl ?_
    refine x_icmp_gt 18 rfl 22 dX9_scene_15 (by decide) (fun hc => ?_) (fun hc => ?_)
    · replace h := x_ifT hc h
      exact x_wk (x_le_s (x_le_s (x_le_n x_le_0))) (j_Mo_scene_60_J22 E _ _ h)
    · replace h := x_ifF hc h
      refine x_iconst 19 rfl (v := 1) dX9_scene_18 (by decide) ?_
      refine x_goto 23 dX9_scene_19 (by decide) ?_
      exact x_wk (x_le_s (x_le_s (x_le_n x_le_0))) (j_Mo_scene_60_J23 E _ _ _ h)
abbrev M_Mo_fault : xM := (yX9_fault, cX9_fault, 1, some .int, [])
theorem dX9_fault_0 : decode cX9_fault 0 = .ok (.aload_n 0, 1) := by decide +kernel
theorem dX9_fault_1 : decode cX9_fault 1 = .ok (.iconst 0, 1) := by decide +kernel
theorem dX9_fault_2 : decode cX9_fault 2 = .ok (.putfield 132, 3) := by decide +kernel
theorem dX9_fault_5 : decode cX9_fault 5 = .ok (.aload_n 0, 1) := by decide +kernel
theorem dX9_fault_6 : decode cX9_fault 6 = .ok (.getfield 41, 3) := by decide +kernel
theorem dX9_fault_9 : decode cX9_fault 9 = .ok (.ireturn, 1) := by decide +kernel
def f_Mo_fault_60  (σ : xS) : Option (Int32 × xS) :=
  let σ1 := x_pI σ 60 0 (0 : Int32)
  some (σ1.1 60 17, σ1)
set_option maxHeartbeats 4000000 in
set_option maxRecDepth 100000 in
theorem c_Mo_fault_60 {l : Launch} {s0 : State} {a0 : Array Value} {D : va_G} {cA : Nat → ClassId} {sp : Nat → Nat} (E : x_En CL l s0 a0 D cA sp)  {σ : xS} {r : Int32} {σ1 : xS} (h : f_Mo_fault_60  σ = some (r, σ1)) : zC l s0 D cA sp 0 M_Mo_fault [.ref 60] σ (some (.int r)) σ1 := by
  unfold f_Mo_fault_60 at h
  try dsimp only at h
  refine x_enter [some (.ref 60)] rfl (Nat.le_of_ble_eq_true rfl) (by decide +kernel) rfl ?_
  refine x_aload_n 1 rfl 0 dX9_fault_0 rfl rfl ?_
  refine x_iconst 2 rfl (v := 0) dX9_fault_1 (by decide) ?_
  refine x_putI E dX9_fault_2 F_RX9_132 sh_60 5 rfl ?_
  refine x_aload_n 6 rfl 0 dX9_fault_5 rfl rfl ?_
  refine x_getI E dX9_fault_6 F_RX9_41 sh_60 9 rfl ?_
  cases h
  exact x_iret dX9_fault_9 rfl rfl rfl
abbrev M_Mo_refuses : xM := (yX9_refuses, cX9_refuses, 3, some .int, [])
theorem dX9_refuses_0 : decode cX9_refuses 0 = .ok (.aload_n 0, 1) := by decide +kernel
theorem dX9_refuses_1 : decode cX9_refuses 1 = .ok (.getfield 44, 3) := by decide +kernel
theorem dX9_refuses_4 : decode cX9_refuses 4 = .ok (.iload_n 1, 1) := by decide +kernel
theorem dX9_refuses_5 : decode cX9_refuses 5 = .ok (.dup2, 1) := by decide +kernel
theorem dX9_refuses_6 : decode cX9_refuses 6 = .ok (.iaload, 1) := by decide +kernel
theorem dX9_refuses_7 : decode cX9_refuses 7 = .ok (.iconst 1, 1) := by decide +kernel
theorem dX9_refuses_8 : decode cX9_refuses 8 = .ok (.iadd, 1) := by decide +kernel
theorem dX9_refuses_9 : decode cX9_refuses 9 = .ok (.iastore, 1) := by decide +kernel
theorem dX9_refuses_10 : decode cX9_refuses 10 = .ok (.iload_n 2, 1) := by decide +kernel
theorem dX9_refuses_11 : decode cX9_refuses 11 = .ok (.ireturn, 1) := by decide +kernel
def f_Mo_refuses_60 (v1 : Int32) (v2 : Int32) (σ : xS) : Option (Int32 × xS) :=
  if v1 < 0 ∨ 3 ≤ v1.toNatClampNeg then none else
  if v1 < 0 ∨ 3 ≤ v1.toNatClampNeg then none else
  let σ1 := x_pI σ 68 v1.toNatClampNeg (σ.1 68 v1.toNatClampNeg + (1 : Int32))
  some (v2, σ1)
set_option maxHeartbeats 4000000 in
set_option maxRecDepth 100000 in
theorem c_Mo_refuses_60 {l : Launch} {s0 : State} {a0 : Array Value} {D : va_G} {cA : Nat → ClassId} {sp : Nat → Nat} (E : x_En CL l s0 a0 D cA sp) (v1 : Int32) (v2 : Int32) {σ : xS} {r : Int32} {σ1 : xS} (h : f_Mo_refuses_60 v1 v2 σ = some (r, σ1)) : zC l s0 D cA sp 0 M_Mo_refuses [.ref 60, .int v1, .int v2] σ (some (.int r)) σ1 := by
  unfold f_Mo_refuses_60 at h
  try dsimp only at h
  refine x_enter [some (.ref 60), some (.int v1), some (.int v2)] rfl (Nat.le_of_ble_eq_true rfl) (by decide +kernel) rfl ?_
  refine x_aload_n 1 rfl 0 dX9_refuses_0 rfl rfl ?_
  refine x_getR E dX9_refuses_1 F_RX9_44 sh_60 rf_60_18 4 rfl ?_
  refine x_iload_n 5 rfl 1 dX9_refuses_4 rfl rfl ?_
  refine x_dup2 6 rfl dX9_refuses_5 rfl rfl ?_
  obtain ⟨hz, h⟩ := x_ifn h
  refine x_iald E dX9_refuses_6 sh_68 _ rfl hz 7 rfl ?_
  refine x_iconst 8 rfl (v := 1) dX9_refuses_7 (by decide) ?_
  refine x_iadd 9 rfl dX9_refuses_8 ?_
  obtain ⟨hz, h⟩ := x_ifn h
  refine x_iast E dX9_refuses_9 sh_68 _ rfl hz 10 rfl ?_
  refine x_iload_n 11 rfl 2 dX9_refuses_10 rfl rfl ?_
  cases h
  exact x_iret dX9_refuses_11 rfl rfl rfl
abbrev M_Mo_becomes : xM := (yX9_becomes, cX9_becomes, 4, some .int, [])
theorem dX9_becomes_0 : decode cX9_becomes 0 = .ok (.aload_n 0, 1) := by decide +kernel
theorem dX9_becomes_1 : decode cX9_becomes 1 = .ok (.getfield 340, 3) := by decide +kernel
theorem dX9_becomes_4 : decode cX9_becomes 4 = .ok (.bipush 40, 2) := by decide +kernel
theorem dX9_becomes_6 : decode cX9_becomes 6 = .ok (.if_icmp .ne 41, 3) := by decide +kernel
theorem dX9_becomes_9 : decode cX9_becomes 9 = .ok (.iconst 2, 1) := by decide +kernel
theorem dX9_becomes_10 : decode cX9_becomes 10 = .ok (.istore_n 3, 1) := by decide +kernel
theorem dX9_becomes_11 : decode cX9_becomes 11 = .ok (.iload_n 3, 1) := by decide +kernel
theorem dX9_becomes_12 : decode cX9_becomes 12 = .ok (.bipush 80, 2) := by decide +kernel
theorem dX9_becomes_14 : decode cX9_becomes 14 = .ok (.if_icmp .ge 23, 3) := by decide +kernel
theorem dX9_becomes_17 : decode cX9_becomes 17 = .ok (.aload_n 0, 1) := by decide +kernel
theorem dX9_becomes_18 : decode cX9_becomes 18 = .ok (.getfield 84, 3) := by decide +kernel
theorem dX9_becomes_21 : decode cX9_becomes 21 = .ok (.iload_n 3, 1) := by decide +kernel
theorem dX9_becomes_22 : decode cX9_becomes 22 = .ok (.iconst 2, 1) := by decide +kernel
theorem dX9_becomes_23 : decode cX9_becomes 23 = .ok (.isub, 1) := by decide +kernel
theorem dX9_becomes_24 : decode cX9_becomes 24 = .ok (.aload_n 0, 1) := by decide +kernel
theorem dX9_becomes_25 : decode cX9_becomes 25 = .ok (.getfield 84, 3) := by decide +kernel
theorem dX9_becomes_28 : decode cX9_becomes 28 = .ok (.iload_n 3, 1) := by decide +kernel
theorem dX9_becomes_29 : decode cX9_becomes 29 = .ok (.iaload, 1) := by decide +kernel
theorem dX9_becomes_30 : decode cX9_becomes 30 = .ok (.iastore, 1) := by decide +kernel
theorem dX9_becomes_31 : decode cX9_becomes 31 = .ok (.iinc 3 1, 3) := by decide +kernel
theorem dX9_becomes_34 : decode cX9_becomes 34 = .ok (.goto (-23), 3) := by decide +kernel
theorem dX9_becomes_37 : decode cX9_becomes 37 = .ok (.aload_n 0, 1) := by decide +kernel
theorem dX9_becomes_38 : decode cX9_becomes 38 = .ok (.dup, 1) := by decide +kernel
theorem dX9_becomes_39 : decode cX9_becomes 39 = .ok (.getfield 340, 3) := by decide +kernel
theorem dX9_becomes_42 : decode cX9_becomes 42 = .ok (.iconst 1, 1) := by decide +kernel
theorem dX9_becomes_43 : decode cX9_becomes 43 = .ok (.isub, 1) := by decide +kernel
theorem dX9_becomes_44 : decode cX9_becomes 44 = .ok (.putfield 340, 3) := by decide +kernel
theorem dX9_becomes_47 : decode cX9_becomes 47 = .ok (.aload_n 0, 1) := by decide +kernel
theorem dX9_becomes_48 : decode cX9_becomes 48 = .ok (.getfield 78, 3) := by decide +kernel
theorem dX9_becomes_51 : decode cX9_becomes 51 = .ok (.iload_n 1, 1) := by decide +kernel
theorem dX9_becomes_52 : decode cX9_becomes 52 = .ok (.iaload, 1) := by decide +kernel
theorem dX9_becomes_53 : decode cX9_becomes 53 = .ok (.istore_n 3, 1) := by decide +kernel
theorem dX9_becomes_54 : decode cX9_becomes 54 = .ok (.aload_n 0, 1) := by decide +kernel
theorem dX9_becomes_55 : decode cX9_becomes 55 = .ok (.getfield 84, 3) := by decide +kernel
theorem dX9_becomes_58 : decode cX9_becomes 58 = .ok (.iconst 2, 1) := by decide +kernel
theorem dX9_becomes_59 : decode cX9_becomes 59 = .ok (.aload_n 0, 1) := by decide +kernel
theorem dX9_becomes_60 : decode cX9_becomes 60 = .ok (.getfield 340, 3) := by decide +kernel
theorem dX9_becomes_63 : decode cX9_becomes 63 = .ok (.imul, 1) := by decide +kernel
theorem dX9_becomes_64 : decode cX9_becomes 64 = .ok (.iload_n 1, 1) := by decide +kernel
theorem dX9_becomes_65 : decode cX9_becomes 65 = .ok (.iastore, 1) := by decide +kernel
theorem dX9_becomes_66 : decode cX9_becomes 66 = .ok (.aload_n 0, 1) := by decide +kernel
theorem dX9_becomes_67 : decode cX9_becomes 67 = .ok (.getfield 84, 3) := by decide +kernel
theorem dX9_becomes_70 : decode cX9_becomes 70 = .ok (.iconst 2, 1) := by decide +kernel
theorem dX9_becomes_71 : decode cX9_becomes 71 = .ok (.aload_n 0, 1) := by decide +kernel
theorem dX9_becomes_72 : decode cX9_becomes 72 = .ok (.getfield 340, 3) := by decide +kernel
theorem dX9_becomes_75 : decode cX9_becomes 75 = .ok (.imul, 1) := by decide +kernel
theorem dX9_becomes_76 : decode cX9_becomes 76 = .ok (.iconst 1, 1) := by decide +kernel
theorem dX9_becomes_77 : decode cX9_becomes 77 = .ok (.iadd, 1) := by decide +kernel
theorem dX9_becomes_78 : decode cX9_becomes 78 = .ok (.iload_n 3, 1) := by decide +kernel
theorem dX9_becomes_79 : decode cX9_becomes 79 = .ok (.iastore, 1) := by decide +kernel
theorem dX9_becomes_80 : decode cX9_becomes 80 = .ok (.aload_n 0, 1) := by decide +kernel
theorem dX9_becomes_81 : decode cX9_becomes 81 = .ok (.dup, 1) := by decide +kernel
theorem dX9_becomes_82 : decode cX9_becomes 82 = .ok (.getfield 340, 3) := by decide +kernel
theorem dX9_becomes_85 : decode cX9_becomes 85 = .ok (.iconst 1, 1) := by decide +kernel
theorem dX9_becomes_86 : decode cX9_becomes 86 = .ok (.iadd, 1) := by decide +kernel
theorem dX9_becomes_87 : decode cX9_becomes 87 = .ok (.putfield 340, 3) := by decide +kernel
theorem dX9_becomes_90 : decode cX9_becomes 90 = .ok (.aload_n 0, 1) := by decide +kernel
theorem dX9_becomes_91 : decode cX9_becomes 91 = .ok (.getfield 78, 3) := by decide +kernel
theorem dX9_becomes_94 : decode cX9_becomes 94 = .ok (.iload_n 1, 1) := by decide +kernel
theorem dX9_becomes_95 : decode cX9_becomes 95 = .ok (.iload_n 2, 1) := by decide +kernel
theorem dX9_becomes_96 : decode cX9_becomes 96 = .ok (.iastore, 1) := by decide +kernel
theorem dX9_becomes_97 : decode cX9_becomes 97 = .ok (.iload_n 3, 1) := by decide +kernel
theorem dX9_becomes_98 : decode cX9_becomes 98 = .ok (.ireturn, 1) := by decide +kernel
def f_Mo_becomes_60_L11 (v1 : Int32) (v2 : Int32) (a : Int32 × xS) : Option ((Int32 × xS) ⊕ (Int32 × xS)) :=
  let v3 := a.1; let σ := a.2;
  if (80 : Int32) ≤ v3 then
    some (.inl (v3, σ))
  else
    if v3 < 0 ∨ 80 ≤ v3.toNatClampNeg then none else
    if (v3 - (2 : Int32)) < 0 ∨ 80 ≤ (v3 - (2 : Int32)).toNatClampNeg then none else
    let σ1 := x_pI σ 81 (v3 - (2 : Int32)).toNatClampNeg (σ.1 81 v3.toNatClampNeg)
    let w2 := v3 + (1 : Int32)
    some (.inr (w2, σ1))
def f_Mo_becomes_60_J47 (v1 : Int32) (v2 : Int32) (σ : xS) : Option (Int32 × xS) :=
  if v1 < 0 ∨ 12 ≤ v1.toNatClampNeg then none else
  let w3 := σ.1 79 v1.toNatClampNeg
  if ((2 : Int32) * σ.1 60 56) < 0 ∨ 80 ≤ ((2 : Int32) * σ.1 60 56).toNatClampNeg then none else
  let σ4 := x_pI σ 81 ((2 : Int32) * σ.1 60 56).toNatClampNeg v1
  if (((2 : Int32) * σ4.1 60 56) + (1 : Int32)) < 0 ∨ 80 ≤ (((2 : Int32) * σ4.1 60 56) + (1 : Int32)).toNatClampNeg then none else
  let σ5 := x_pI σ4 81 (((2 : Int32) * σ4.1 60 56) + (1 : Int32)).toNatClampNeg w3
  let σ6 := x_pI σ5 60 56 (σ5.1 60 56 + (1 : Int32))
  if v1 < 0 ∨ 12 ≤ v1.toNatClampNeg then none else
  let σ7 := x_pI σ6 79 v1.toNatClampNeg v2
  some (w3, σ7)
def f_Mo_becomes_60 (v1 : Int32) (v2 : Int32) (σ : xS) : Option (Int32 × xS) :=
  if σ.1 60 56 = (40 : Int32) then
    (x_it (f_Mo_becomes_60_L11 v1 v2) 10000 ((2 : Int32), σ)).bind fun b8 =>
    let σ9 := x_pI b8.2 60 56 (b8.2.1 60 56 - (1 : Int32))
    f_Mo_becomes_60_J47 v1 v2 σ9
  else
    f_Mo_becomes_60_J47 v1 v2 σ
set_option maxHeartbeats 4000000 in
set_option maxRecDepth 100000 in
theorem b_Mo_becomes_60_L11 {l : Launch} {s0 : State} {a0 : Array Value} {D : va_G} {cA : Nat → ClassId} {sp : Nat → Nat} (E : x_En CL l s0 a0 D cA sp) (v1 : Int32) (v2 : Int32) {r : Int32} {σ1 : xS} (a : Int32 × xS) (o : (Int32 × xS) ⊕ (Int32 × xS)) (h : f_Mo_becomes_60_L11 v1 v2 a = some o) (hK : ∀ b, o = .inl b → zW l s0 D cA sp (zQ s0 D cA sp (some (.int r)) σ1) (x_rm 0 0 0) M_Mo_becomes 0 0 37 [some (.ref 60), some (.int v1), some (.int v2), none] [] b.2) (hG : ∀ a', o = .inr a' → zW l s0 D cA sp (zQ s0 D cA sp (some (.int r)) σ1) (x_rm 0 0 0) M_Mo_becomes 0 0 11 [some (.ref 60), some (.int v1), some (.int v2), some (.int a'.1)] [] a'.2) : zW l s0 D cA sp (zQ s0 D cA sp (some (.int r)) σ1) (x_rm 0 0 0) M_Mo_becomes 0 0 11 [some (.ref 60), some (.int v1), some (.int v2), some (.int a.1)] [] a.2 := by
  obtain ⟨v3, σ⟩ := a
  unfold f_Mo_becomes_60_L11 at h
  try dsimp only at h ⊢
  refine x_iload_n 12 rfl 3 dX9_becomes_11 rfl rfl ?_
  refine x_bipush 14 rfl (v := 80) dX9_becomes_12 (by decide) ?_
  refine x_icmp_ge 17 rfl 37 dX9_becomes_14 (by decide) (fun hc => ?_) (fun hc => ?_)
  · replace h := x_ifT hc h
    cases h
    exact x_wk (x_le_s (x_le_s (x_le_s (x_le_n x_le_0)))) (hK (_, _) rfl)
  · replace h := x_ifF hc h
    refine x_aload_n 18 rfl 0 dX9_becomes_17 rfl rfl ?_
    refine x_getR E dX9_becomes_18 F_RX9_84 sh_60 rf_60_55 21 rfl ?_
    refine x_iload_n 22 rfl 3 dX9_becomes_21 rfl rfl ?_
    refine x_iconst 23 rfl (v := 2) dX9_becomes_22 (by decide) ?_
    refine x_isub 24 rfl dX9_becomes_23 ?_
    refine x_aload_n 25 rfl 0 dX9_becomes_24 rfl rfl ?_
    refine x_getR E dX9_becomes_25 F_RX9_84 sh_60 rf_60_55 28 rfl ?_
    refine x_iload_n 29 rfl 3 dX9_becomes_28 rfl rfl ?_
    obtain ⟨hz, h⟩ := x_ifn h
    refine x_iald E dX9_becomes_29 sh_81 _ rfl hz 30 rfl ?_
    obtain ⟨hz, h⟩ := x_ifn h
    refine x_iast E dX9_becomes_30 sh_81 _ rfl hz 31 rfl ?_
    refine x_iinc 34 rfl (1) dX9_becomes_31 rfl (by decide) (by decide) [some (.ref 60), some (.int _), some (.int _), some (.int _)] rfl ?_
    refine x_goto 11 dX9_becomes_34 (by decide) ?_
    cases h
    exact x_wk (x_le_s (x_le_s (x_le_s (x_le_s x_le_0)))) (hG (_, _) rfl)
set_option maxHeartbeats 4000000 in
set_option maxRecDepth 100000 in
theorem j_Mo_becomes_60_J47 {l : Launch} {s0 : State} {a0 : Array Value} {D : va_G} {cA : Nat → ClassId} {sp : Nat → Nat} (E : x_En CL l s0 a0 D cA sp) (v1 : Int32) (v2 : Int32) (σ : xS) {r : Int32} {σ1 : xS} (h : f_Mo_becomes_60_J47 v1 v2 σ = some (r, σ1)) : zW l s0 D cA sp (zQ s0 D cA sp (some (.int r)) σ1) (x_rm 0 0 0) M_Mo_becomes 0 0 47 [some (.ref 60), some (.int v1), some (.int v2), none] [] σ := by
  unfold f_Mo_becomes_60_J47 at h
  try dsimp only at h
  refine x_aload_n 48 rfl 0 dX9_becomes_47 rfl rfl ?_
  refine x_getR E dX9_becomes_48 F_RX9_78 sh_60 rf_60_53 51 rfl ?_
  refine x_iload_n 52 rfl 1 dX9_becomes_51 rfl rfl ?_
  obtain ⟨hz, h⟩ := x_ifn h
  refine x_iald E dX9_becomes_52 sh_79 _ rfl hz 53 rfl ?_
  refine x_istore_n 54 rfl 3 dX9_becomes_53 rfl (by decide) [some (.ref 60), some (.int _), some (.int _), some (.int _)] rfl ?_
  refine x_aload_n 55 rfl 0 dX9_becomes_54 rfl rfl ?_
  refine x_getR E dX9_becomes_55 F_RX9_84 sh_60 rf_60_55 58 rfl ?_
  refine x_iconst 59 rfl (v := 2) dX9_becomes_58 (by decide) ?_
  refine x_aload_n 60 rfl 0 dX9_becomes_59 rfl rfl ?_
  refine x_getI E dX9_becomes_60 F_RX9_340 sh_60 63 rfl ?_
  refine x_imul 64 rfl dX9_becomes_63 ?_
  refine x_iload_n 65 rfl 1 dX9_becomes_64 rfl rfl ?_
  obtain ⟨hz, h⟩ := x_ifn h
  refine x_iast E dX9_becomes_65 sh_81 _ rfl hz 66 rfl ?_
  refine x_aload_n 67 rfl 0 dX9_becomes_66 rfl rfl ?_
  refine x_getR E dX9_becomes_67 F_RX9_84 sh_60 rf_60_55 70 rfl ?_
  refine x_iconst 71 rfl (v := 2) dX9_becomes_70 (by decide) ?_
  refine x_aload_n 72 rfl 0 dX9_becomes_71 rfl rfl ?_
  refine x_getI E dX9_becomes_72 F_RX9_340 sh_60 75 rfl ?_
  refine x_imul 76 rfl dX9_becomes_75 ?_
  refine x_iconst 77 rfl (v := 1) dX9_becomes_76 (by decide) ?_
  refine x_iadd 78 rfl dX9_becomes_77 ?_
  refine x_iload_n 79 rfl 3 dX9_becomes_78 rfl rfl ?_
  obtain ⟨hz, h⟩ := x_ifn h
  refine x_iast E dX9_becomes_79 sh_81 _ rfl hz 80 rfl ?_
  refine x_aload_n 81 rfl 0 dX9_becomes_80 rfl rfl ?_
  refine x_dup 82 rfl dX9_becomes_81 rfl ?_
  refine x_getI E dX9_becomes_82 F_RX9_340 sh_60 85 rfl ?_
  refine x_iconst 86 rfl (v := 1) dX9_becomes_85 (by decide) ?_
  refine x_iadd 87 rfl dX9_becomes_86 ?_
  refine x_putI E dX9_becomes_87 F_RX9_340 sh_60 90 rfl ?_
  refine x_aload_n 91 rfl 0 dX9_becomes_90 rfl rfl ?_
  refine x_getR E dX9_becomes_91 F_RX9_78 sh_60 rf_60_53 94 rfl ?_
  refine x_iload_n 95 rfl 1 dX9_becomes_94 rfl rfl ?_
  refine x_iload_n 96 rfl 2 dX9_becomes_95 rfl rfl ?_
  obtain ⟨hz, h⟩ := x_ifn h
  refine x_iast E dX9_becomes_96 sh_79 _ rfl hz 97 rfl ?_
  refine x_iload_n 98 rfl 3 dX9_becomes_97 rfl rfl ?_
  cases h
  exact x_iret dX9_becomes_98 rfl rfl rfl
set_option maxHeartbeats 4000000 in
set_option maxRecDepth 100000 in
theorem c_Mo_becomes_60 {l : Launch} {s0 : State} {a0 : Array Value} {D : va_G} {cA : Nat → ClassId} {sp : Nat → Nat} (E : x_En CL l s0 a0 D cA sp) (v1 : Int32) (v2 : Int32) {σ : xS} {r : Int32} {σ1 : xS} (h : f_Mo_becomes_60 v1 v2 σ = some (r, σ1)) : zC l s0 D cA sp 0 M_Mo_becomes [.ref 60, .int v1, .int v2] σ (some (.int r)) σ1 := by
  unfold f_Mo_becomes_60 at h
  try dsimp only at h
  refine x_enter [some (.ref 60), some (.int v1), some (.int v2), none] rfl (Nat.le_of_ble_eq_true rfl) (by decide +kernel) rfl ?_
  refine x_aload_n 1 rfl 0 dX9_becomes_0 rfl rfl ?_
  refine x_getI E dX9_becomes_1 F_RX9_340 sh_60 4 rfl ?_
  refine x_bipush 6 rfl (v := 40) dX9_becomes_4 (by decide) ?_
  refine x_icmp_ne 9 rfl 47 dX9_becomes_6 (by decide) (fun hc => ?_) (fun hc => ?_)
  · replace h := x_ifF hc h
    exact x_wk (x_le_s (x_le_s (x_le_s (x_le_n x_le_0)))) (j_Mo_becomes_60_J47 E _ _ _ h)
  · replace h := x_ifT hc h
    refine x_iconst 10 rfl (v := 2) dX9_becomes_9 (by decide) ?_
    refine x_istore_n 11 rfl 3 dX9_becomes_10 rfl (by decide) [some (.ref 60), some (.int _), some (.int _), some (.int _)] rfl ?_
    obtain ⟨b8, b8h, h⟩ := x_bind h
    try dsimp only at h
    refine x_wk (x_le_s (x_le_s (x_le_s (x_le_s x_le_0)))) (x_loop (fun a o h hK hG => b_Mo_becomes_60_L11 (r := r) (σ1 := σ1) E _ _ a o h hK hG) _ _ _ b8h ?_)
    refine x_aload_n 38 rfl 0 dX9_becomes_37 rfl rfl ?_
    refine x_dup 39 rfl dX9_becomes_38 rfl ?_
    refine x_getI E dX9_becomes_39 F_RX9_340 sh_60 42 rfl ?_
    refine x_iconst 43 rfl (v := 1) dX9_becomes_42 (by decide) ?_
    refine x_isub 44 rfl dX9_becomes_43 ?_
    refine x_putI E dX9_becomes_44 F_RX9_340 sh_60 47 rfl ?_
    exact x_wk (x_le_s (x_le_s (x_le_s (x_le_n x_le_0)))) (j_Mo_becomes_60_J47 E _ _ _ h)
abbrev M_Mo_undo : xM := (yX9_undo, cX9_undo, 1, some .int, [])
theorem dX9_undo_0 : decode cX9_undo 0 = .ok (.aload_n 0, 1) := by decide +kernel
theorem dX9_undo_1 : decode cX9_undo 1 = .ok (.iconst 0, 1) := by decide +kernel
theorem dX9_undo_2 : decode cX9_undo 2 = .ok (.putfield 132, 3) := by decide +kernel
theorem dX9_undo_5 : decode cX9_undo 5 = .ok (.aload_n 0, 1) := by decide +kernel
theorem dX9_undo_6 : decode cX9_undo 6 = .ok (.getfield 340, 3) := by decide +kernel
theorem dX9_undo_9 : decode cX9_undo 9 = .ok (.ifCond .ne 5, 3) := by decide +kernel
theorem dX9_undo_12 : decode cX9_undo 12 = .ok (.iconst (-1), 1) := by decide +kernel
theorem dX9_undo_13 : decode cX9_undo 13 = .ok (.ireturn, 1) := by decide +kernel
theorem dX9_undo_14 : decode cX9_undo 14 = .ok (.aload_n 0, 1) := by decide +kernel
theorem dX9_undo_15 : decode cX9_undo 15 = .ok (.dup, 1) := by decide +kernel
theorem dX9_undo_16 : decode cX9_undo 16 = .ok (.getfield 340, 3) := by decide +kernel
theorem dX9_undo_19 : decode cX9_undo 19 = .ok (.iconst 1, 1) := by decide +kernel
theorem dX9_undo_20 : decode cX9_undo 20 = .ok (.isub, 1) := by decide +kernel
theorem dX9_undo_21 : decode cX9_undo 21 = .ok (.putfield 340, 3) := by decide +kernel
theorem dX9_undo_24 : decode cX9_undo 24 = .ok (.aload_n 0, 1) := by decide +kernel
theorem dX9_undo_25 : decode cX9_undo 25 = .ok (.getfield 78, 3) := by decide +kernel
theorem dX9_undo_28 : decode cX9_undo 28 = .ok (.aload_n 0, 1) := by decide +kernel
theorem dX9_undo_29 : decode cX9_undo 29 = .ok (.getfield 84, 3) := by decide +kernel
theorem dX9_undo_32 : decode cX9_undo 32 = .ok (.iconst 2, 1) := by decide +kernel
theorem dX9_undo_33 : decode cX9_undo 33 = .ok (.aload_n 0, 1) := by decide +kernel
theorem dX9_undo_34 : decode cX9_undo 34 = .ok (.getfield 340, 3) := by decide +kernel
theorem dX9_undo_37 : decode cX9_undo 37 = .ok (.imul, 1) := by decide +kernel
theorem dX9_undo_38 : decode cX9_undo 38 = .ok (.iaload, 1) := by decide +kernel
theorem dX9_undo_39 : decode cX9_undo 39 = .ok (.aload_n 0, 1) := by decide +kernel
theorem dX9_undo_40 : decode cX9_undo 40 = .ok (.getfield 84, 3) := by decide +kernel
theorem dX9_undo_43 : decode cX9_undo 43 = .ok (.iconst 2, 1) := by decide +kernel
theorem dX9_undo_44 : decode cX9_undo 44 = .ok (.aload_n 0, 1) := by decide +kernel
theorem dX9_undo_45 : decode cX9_undo 45 = .ok (.getfield 340, 3) := by decide +kernel
theorem dX9_undo_48 : decode cX9_undo 48 = .ok (.imul, 1) := by decide +kernel
theorem dX9_undo_49 : decode cX9_undo 49 = .ok (.iconst 1, 1) := by decide +kernel
theorem dX9_undo_50 : decode cX9_undo 50 = .ok (.iadd, 1) := by decide +kernel
theorem dX9_undo_51 : decode cX9_undo 51 = .ok (.iaload, 1) := by decide +kernel
theorem dX9_undo_52 : decode cX9_undo 52 = .ok (.iastore, 1) := by decide +kernel
theorem dX9_undo_53 : decode cX9_undo 53 = .ok (.aload_n 0, 1) := by decide +kernel
theorem dX9_undo_54 : decode cX9_undo 54 = .ok (.getfield 340, 3) := by decide +kernel
theorem dX9_undo_57 : decode cX9_undo 57 = .ok (.ireturn, 1) := by decide +kernel
def f_Mo_undo_60  (σ : xS) : Option (Int32 × xS) :=
  let σ1 := x_pI σ 60 0 (0 : Int32)
  if σ1.1 60 56 = 0 then
    some ((-1 : Int32), σ1)
  else
    let σ2 := x_pI σ1 60 56 (σ1.1 60 56 - (1 : Int32))
    if ((2 : Int32) * σ2.1 60 56) < 0 ∨ 80 ≤ ((2 : Int32) * σ2.1 60 56).toNatClampNeg then none else
    if (((2 : Int32) * σ2.1 60 56) + (1 : Int32)) < 0 ∨ 80 ≤ (((2 : Int32) * σ2.1 60 56) + (1 : Int32)).toNatClampNeg then none else
    if σ2.1 81 ((2 : Int32) * σ2.1 60 56).toNatClampNeg < 0 ∨ 12 ≤ (σ2.1 81 ((2 : Int32) * σ2.1 60 56).toNatClampNeg).toNatClampNeg then none else
    let σ3 := x_pI σ2 79 (σ2.1 81 ((2 : Int32) * σ2.1 60 56).toNatClampNeg).toNatClampNeg (σ2.1 81 (((2 : Int32) * σ2.1 60 56) + (1 : Int32)).toNatClampNeg)
    some (σ3.1 60 56, σ3)
set_option maxHeartbeats 4000000 in
set_option maxRecDepth 100000 in
theorem c_Mo_undo_60 {l : Launch} {s0 : State} {a0 : Array Value} {D : va_G} {cA : Nat → ClassId} {sp : Nat → Nat} (E : x_En CL l s0 a0 D cA sp)  {σ : xS} {r : Int32} {σ1 : xS} (h : f_Mo_undo_60  σ = some (r, σ1)) : zC l s0 D cA sp 0 M_Mo_undo [.ref 60] σ (some (.int r)) σ1 := by
  unfold f_Mo_undo_60 at h
  try dsimp only at h
  refine x_enter [some (.ref 60)] rfl (Nat.le_of_ble_eq_true rfl) (by decide +kernel) rfl ?_
  refine x_aload_n 1 rfl 0 dX9_undo_0 rfl rfl ?_
  refine x_iconst 2 rfl (v := 0) dX9_undo_1 (by decide) ?_
  refine x_putI E dX9_undo_2 F_RX9_132 sh_60 5 rfl ?_
  refine x_aload_n 6 rfl 0 dX9_undo_5 rfl rfl ?_
  refine x_getI E dX9_undo_6 F_RX9_340 sh_60 9 rfl ?_
  refine x_if_ne 12 rfl 14 dX9_undo_9 (by decide) (fun hc => ?_) (fun hc => ?_)
  · replace h := x_ifF hc h
    refine x_aload_n 15 rfl 0 dX9_undo_14 rfl rfl ?_
    refine x_dup 16 rfl dX9_undo_15 rfl ?_
    refine x_getI E dX9_undo_16 F_RX9_340 sh_60 19 rfl ?_
    refine x_iconst 20 rfl (v := 1) dX9_undo_19 (by decide) ?_
    refine x_isub 21 rfl dX9_undo_20 ?_
    refine x_putI E dX9_undo_21 F_RX9_340 sh_60 24 rfl ?_
    refine x_aload_n 25 rfl 0 dX9_undo_24 rfl rfl ?_
    refine x_getR E dX9_undo_25 F_RX9_78 sh_60 rf_60_53 28 rfl ?_
    refine x_aload_n 29 rfl 0 dX9_undo_28 rfl rfl ?_
    refine x_getR E dX9_undo_29 F_RX9_84 sh_60 rf_60_55 32 rfl ?_
    refine x_iconst 33 rfl (v := 2) dX9_undo_32 (by decide) ?_
    refine x_aload_n 34 rfl 0 dX9_undo_33 rfl rfl ?_
    refine x_getI E dX9_undo_34 F_RX9_340 sh_60 37 rfl ?_
    refine x_imul 38 rfl dX9_undo_37 ?_
    obtain ⟨hz, h⟩ := x_ifn h
    refine x_iald E dX9_undo_38 sh_81 _ rfl hz 39 rfl ?_
    refine x_aload_n 40 rfl 0 dX9_undo_39 rfl rfl ?_
    refine x_getR E dX9_undo_40 F_RX9_84 sh_60 rf_60_55 43 rfl ?_
    refine x_iconst 44 rfl (v := 2) dX9_undo_43 (by decide) ?_
    refine x_aload_n 45 rfl 0 dX9_undo_44 rfl rfl ?_
    refine x_getI E dX9_undo_45 F_RX9_340 sh_60 48 rfl ?_
    refine x_imul 49 rfl dX9_undo_48 ?_
    refine x_iconst 50 rfl (v := 1) dX9_undo_49 (by decide) ?_
    refine x_iadd 51 rfl dX9_undo_50 ?_
    obtain ⟨hz, h⟩ := x_ifn h
    refine x_iald E dX9_undo_51 sh_81 _ rfl hz 52 rfl ?_
    obtain ⟨hz, h⟩ := x_ifn h
    refine x_iast E dX9_undo_52 sh_79 _ rfl hz 53 rfl ?_
    refine x_aload_n 54 rfl 0 dX9_undo_53 rfl rfl ?_
    refine x_getI E dX9_undo_54 F_RX9_340 sh_60 57 rfl ?_
    cases h
    exact x_iret dX9_undo_57 rfl rfl rfl
  · replace h := x_ifT hc h
    refine x_iconst 13 rfl (v := -1) dX9_undo_12 (by decide) ?_
    cases h
    exact x_iret dX9_undo_13 rfl rfl rfl
abbrev M_Mo_works : xM := (yX9_works, cX9_works, 3, some .int, [])
theorem dX9_works_0 : decode cX9_works 0 = .ok (.iload_n 0, 1) := by decide +kernel
theorem dX9_works_1 : decode cX9_works 1 = .ok (.tableswitch 105 4 10 #[43, 57, 71, 82, 93, 97, 101], 43) := by decide +kernel
theorem dX9_works_44 : decode cX9_works 44 = .ok (.iload_n 1, 1) := by decide +kernel
theorem dX9_works_45 : decode cX9_works 45 = .ok (.ifCond .eq 11, 3) := by decide +kernel
theorem dX9_works_48 : decode cX9_works 48 = .ok (.iload_n 2, 1) := by decide +kernel
theorem dX9_works_49 : decode cX9_works 49 = .ok (.ifCond .eq 7, 3) := by decide +kernel
theorem dX9_works_52 : decode cX9_works 52 = .ok (.iconst 1, 1) := by decide +kernel
theorem dX9_works_53 : decode cX9_works 53 = .ok (.goto 4, 3) := by decide +kernel
theorem dX9_works_56 : decode cX9_works 56 = .ok (.iconst 0, 1) := by decide +kernel
theorem dX9_works_57 : decode cX9_works 57 = .ok (.ireturn, 1) := by decide +kernel
theorem dX9_works_58 : decode cX9_works 58 = .ok (.iload_n 1, 1) := by decide +kernel
theorem dX9_works_59 : decode cX9_works 59 = .ok (.ifCond .ne 7, 3) := by decide +kernel
theorem dX9_works_62 : decode cX9_works 62 = .ok (.iload_n 2, 1) := by decide +kernel
theorem dX9_works_63 : decode cX9_works 63 = .ok (.ifCond .eq 7, 3) := by decide +kernel
theorem dX9_works_66 : decode cX9_works 66 = .ok (.iconst 1, 1) := by decide +kernel
theorem dX9_works_67 : decode cX9_works 67 = .ok (.goto 4, 3) := by decide +kernel
theorem dX9_works_70 : decode cX9_works 70 = .ok (.iconst 0, 1) := by decide +kernel
theorem dX9_works_71 : decode cX9_works 71 = .ok (.ireturn, 1) := by decide +kernel
theorem dX9_works_72 : decode cX9_works 72 = .ok (.iload_n 1, 1) := by decide +kernel
theorem dX9_works_73 : decode cX9_works 73 = .ok (.iload_n 2, 1) := by decide +kernel
theorem dX9_works_74 : decode cX9_works 74 = .ok (.if_icmp .ge 7, 3) := by decide +kernel
theorem dX9_works_77 : decode cX9_works 77 = .ok (.iconst 1, 1) := by decide +kernel
theorem dX9_works_78 : decode cX9_works 78 = .ok (.goto 4, 3) := by decide +kernel
theorem dX9_works_81 : decode cX9_works 81 = .ok (.iconst 0, 1) := by decide +kernel
theorem dX9_works_82 : decode cX9_works 82 = .ok (.ireturn, 1) := by decide +kernel
theorem dX9_works_83 : decode cX9_works 83 = .ok (.iload_n 1, 1) := by decide +kernel
theorem dX9_works_84 : decode cX9_works 84 = .ok (.iload_n 2, 1) := by decide +kernel
theorem dX9_works_85 : decode cX9_works 85 = .ok (.if_icmp .ne 7, 3) := by decide +kernel
theorem dX9_works_88 : decode cX9_works 88 = .ok (.iconst 1, 1) := by decide +kernel
theorem dX9_works_89 : decode cX9_works 89 = .ok (.goto 4, 3) := by decide +kernel
theorem dX9_works_92 : decode cX9_works 92 = .ok (.iconst 0, 1) := by decide +kernel
theorem dX9_works_93 : decode cX9_works 93 = .ok (.ireturn, 1) := by decide +kernel
theorem dX9_works_94 : decode cX9_works 94 = .ok (.iload_n 1, 1) := by decide +kernel
theorem dX9_works_95 : decode cX9_works 95 = .ok (.iload_n 2, 1) := by decide +kernel
theorem dX9_works_96 : decode cX9_works 96 = .ok (.iadd, 1) := by decide +kernel
theorem dX9_works_97 : decode cX9_works 97 = .ok (.ireturn, 1) := by decide +kernel
theorem dX9_works_98 : decode cX9_works 98 = .ok (.iload_n 1, 1) := by decide +kernel
theorem dX9_works_99 : decode cX9_works 99 = .ok (.iload_n 2, 1) := by decide +kernel
theorem dX9_works_100 : decode cX9_works 100 = .ok (.isub, 1) := by decide +kernel
theorem dX9_works_101 : decode cX9_works 101 = .ok (.ireturn, 1) := by decide +kernel
theorem dX9_works_102 : decode cX9_works 102 = .ok (.iload_n 1, 1) := by decide +kernel
theorem dX9_works_103 : decode cX9_works 103 = .ok (.iload_n 2, 1) := by decide +kernel
theorem dX9_works_104 : decode cX9_works 104 = .ok (.imul, 1) := by decide +kernel
theorem dX9_works_105 : decode cX9_works 105 = .ok (.ireturn, 1) := by decide +kernel
theorem dX9_works_106 : decode cX9_works 106 = .ok (.iload_n 2, 1) := by decide +kernel
theorem dX9_works_107 : decode cX9_works 107 = .ok (.ifCond .ne 7, 3) := by decide +kernel
theorem dX9_works_110 : decode cX9_works 110 = .ok (.iconst 0, 1) := by decide +kernel
theorem dX9_works_111 : decode cX9_works 111 = .ok (.goto 6, 3) := by decide +kernel
theorem dX9_works_114 : decode cX9_works 114 = .ok (.iload_n 1, 1) := by decide +kernel
theorem dX9_works_115 : decode cX9_works 115 = .ok (.iload_n 2, 1) := by decide +kernel
theorem dX9_works_116 : decode cX9_works 116 = .ok (.idiv, 1) := by decide +kernel
theorem dX9_works_117 : decode cX9_works 117 = .ok (.ireturn, 1) := by decide +kernel
def f_Mo_works (v0 : Int32) (v1 : Int32) (v2 : Int32) (σ : xS) : Option (Int32 × xS) :=
  if v0 = (4 : Int32) then
    if v1 = 0 then
      some ((0 : Int32), σ)
    else
      if v2 = 0 then
        some ((0 : Int32), σ)
      else
        some ((1 : Int32), σ)
  else if v0 = (5 : Int32) then
    if v1 = 0 then
      if v2 = 0 then
        some ((0 : Int32), σ)
      else
        some ((1 : Int32), σ)
    else
      some ((1 : Int32), σ)
  else if v0 = (6 : Int32) then
    if v2 ≤ v1 then
      some ((0 : Int32), σ)
    else
      some ((1 : Int32), σ)
  else if v0 = (7 : Int32) then
    if v1 = v2 then
      some ((1 : Int32), σ)
    else
      some ((0 : Int32), σ)
  else if v0 = (8 : Int32) then
    some ((v1 + v2), σ)
  else if v0 = (9 : Int32) then
    some ((v1 - v2), σ)
  else if v0 = (10 : Int32) then
    some ((v1 * v2), σ)
  else 
    if v2 = 0 then
      some ((0 : Int32), σ)
    else
      if v2 = 0 then none else
      some ((v1 / v2), σ)
set_option maxHeartbeats 4000000 in
set_option maxRecDepth 100000 in
theorem c_Mo_works {l : Launch} {s0 : State} {a0 : Array Value} {D : va_G} {cA : Nat → ClassId} {sp : Nat → Nat} (E : x_En CL l s0 a0 D cA sp) (v0 : Int32) (v1 : Int32) (v2 : Int32) {σ : xS} {r : Int32} {σ1 : xS} (h : f_Mo_works v0 v1 v2 σ = some (r, σ1)) : zC l s0 D cA sp 0 M_Mo_works [.int v0, .int v1, .int v2] σ (some (.int r)) σ1 := by
  unfold f_Mo_works at h
  try dsimp only at h
  refine x_enter [some (.int v0), some (.int v1), some (.int v2)] rfl (Nat.le_of_ble_eq_true rfl) (by decide +kernel) rfl ?_
  refine x_iload_n 1 rfl 0 dX9_works_0 rfl rfl ?_
  refine x_case (4) (fun hc0 => ?_) (fun hc0 => ?_)
  · replace h := x_ifT hc0 h
    refine x_tabIn (off := 43) 44 dX9_works_1 (by rw [hc0]; decide) (by rw [hc0]; decide) (by rw [hc0]; rfl) (by decide) ?_
    refine x_iload_n 45 rfl 1 dX9_works_44 rfl rfl ?_
    refine x_if_eq 48 rfl 56 dX9_works_45 (by decide) (fun hc => ?_) (fun hc => ?_)
    · replace h := x_ifT hc h
      refine x_iconst 57 rfl (v := 0) dX9_works_56 (by decide) ?_
      cases h
      exact x_iret dX9_works_57 rfl rfl rfl
    · replace h := x_ifF hc h
      refine x_iload_n 49 rfl 2 dX9_works_48 rfl rfl ?_
      refine x_if_eq 52 rfl 56 dX9_works_49 (by decide) (fun hc => ?_) (fun hc => ?_)
      · replace h := x_ifT hc h
        refine x_iconst 57 rfl (v := 0) dX9_works_56 (by decide) ?_
        cases h
        exact x_iret dX9_works_57 rfl rfl rfl
      · replace h := x_ifF hc h
        refine x_iconst 53 rfl (v := 1) dX9_works_52 (by decide) ?_
        refine x_goto 57 dX9_works_53 (by decide) ?_
        cases h
        exact x_iret dX9_works_57 rfl rfl rfl
  replace h := x_ifF hc0 h
  refine x_case (5) (fun hc1 => ?_) (fun hc1 => ?_)
  · replace h := x_ifT hc1 h
    refine x_tabIn (off := 57) 58 dX9_works_1 (by rw [hc1]; decide) (by rw [hc1]; decide) (by rw [hc1]; rfl) (by decide) ?_
    refine x_iload_n 59 rfl 1 dX9_works_58 rfl rfl ?_
    refine x_if_ne 62 rfl 66 dX9_works_59 (by decide) (fun hc => ?_) (fun hc => ?_)
    · replace h := x_ifF hc h
      refine x_iconst 67 rfl (v := 1) dX9_works_66 (by decide) ?_
      refine x_goto 71 dX9_works_67 (by decide) ?_
      cases h
      exact x_iret dX9_works_71 rfl rfl rfl
    · replace h := x_ifT hc h
      refine x_iload_n 63 rfl 2 dX9_works_62 rfl rfl ?_
      refine x_if_eq 66 rfl 70 dX9_works_63 (by decide) (fun hc => ?_) (fun hc => ?_)
      · replace h := x_ifT hc h
        refine x_iconst 71 rfl (v := 0) dX9_works_70 (by decide) ?_
        cases h
        exact x_iret dX9_works_71 rfl rfl rfl
      · replace h := x_ifF hc h
        refine x_iconst 67 rfl (v := 1) dX9_works_66 (by decide) ?_
        refine x_goto 71 dX9_works_67 (by decide) ?_
        cases h
        exact x_iret dX9_works_71 rfl rfl rfl
  replace h := x_ifF hc1 h
  refine x_case (6) (fun hc2 => ?_) (fun hc2 => ?_)
  · replace h := x_ifT hc2 h
    refine x_tabIn (off := 71) 72 dX9_works_1 (by rw [hc2]; decide) (by rw [hc2]; decide) (by rw [hc2]; rfl) (by decide) ?_
    refine x_iload_n 73 rfl 1 dX9_works_72 rfl rfl ?_
    refine x_iload_n 74 rfl 2 dX9_works_73 rfl rfl ?_
    refine x_icmp_ge 77 rfl 81 dX9_works_74 (by decide) (fun hc => ?_) (fun hc => ?_)
    · replace h := x_ifT hc h
      refine x_iconst 82 rfl (v := 0) dX9_works_81 (by decide) ?_
      cases h
      exact x_iret dX9_works_82 rfl rfl rfl
    · replace h := x_ifF hc h
      refine x_iconst 78 rfl (v := 1) dX9_works_77 (by decide) ?_
      refine x_goto 82 dX9_works_78 (by decide) ?_
      cases h
      exact x_iret dX9_works_82 rfl rfl rfl
  replace h := x_ifF hc2 h
  refine x_case (7) (fun hc3 => ?_) (fun hc3 => ?_)
  · replace h := x_ifT hc3 h
    refine x_tabIn (off := 82) 83 dX9_works_1 (by rw [hc3]; decide) (by rw [hc3]; decide) (by rw [hc3]; rfl) (by decide) ?_
    refine x_iload_n 84 rfl 1 dX9_works_83 rfl rfl ?_
    refine x_iload_n 85 rfl 2 dX9_works_84 rfl rfl ?_
    refine x_icmp_ne 88 rfl 92 dX9_works_85 (by decide) (fun hc => ?_) (fun hc => ?_)
    · replace h := x_ifF hc h
      refine x_iconst 93 rfl (v := 0) dX9_works_92 (by decide) ?_
      cases h
      exact x_iret dX9_works_93 rfl rfl rfl
    · replace h := x_ifT hc h
      refine x_iconst 89 rfl (v := 1) dX9_works_88 (by decide) ?_
      refine x_goto 93 dX9_works_89 (by decide) ?_
      cases h
      exact x_iret dX9_works_93 rfl rfl rfl
  replace h := x_ifF hc3 h
  refine x_case (8) (fun hc4 => ?_) (fun hc4 => ?_)
  · replace h := x_ifT hc4 h
    refine x_tabIn (off := 93) 94 dX9_works_1 (by rw [hc4]; decide) (by rw [hc4]; decide) (by rw [hc4]; rfl) (by decide) ?_
    refine x_iload_n 95 rfl 1 dX9_works_94 rfl rfl ?_
    refine x_iload_n 96 rfl 2 dX9_works_95 rfl rfl ?_
    refine x_iadd 97 rfl dX9_works_96 ?_
    cases h
    exact x_iret dX9_works_97 rfl rfl rfl
  replace h := x_ifF hc4 h
  refine x_case (9) (fun hc5 => ?_) (fun hc5 => ?_)
  · replace h := x_ifT hc5 h
    refine x_tabIn (off := 97) 98 dX9_works_1 (by rw [hc5]; decide) (by rw [hc5]; decide) (by rw [hc5]; rfl) (by decide) ?_
    refine x_iload_n 99 rfl 1 dX9_works_98 rfl rfl ?_
    refine x_iload_n 100 rfl 2 dX9_works_99 rfl rfl ?_
    refine x_isub 101 rfl dX9_works_100 ?_
    cases h
    exact x_iret dX9_works_101 rfl rfl rfl
  replace h := x_ifF hc5 h
  refine x_case (10) (fun hc6 => ?_) (fun hc6 => ?_)
  · replace h := x_ifT hc6 h
    refine x_tabIn (off := 101) 102 dX9_works_1 (by rw [hc6]; decide) (by rw [hc6]; decide) (by rw [hc6]; rfl) (by decide) ?_
    refine x_iload_n 103 rfl 1 dX9_works_102 rfl rfl ?_
    refine x_iload_n 104 rfl 2 dX9_works_103 rfl rfl ?_
    refine x_imul 105 rfl dX9_works_104 ?_
    cases h
    exact x_iret dX9_works_105 rfl rfl rfl
  replace h := x_ifF hc6 h
  refine x_tabOut 106 dX9_works_1 (by have g0 := x_toNe hc0 (k := 4) (by decide); have g1 := x_toNe hc1 (k := 5) (by decide); have g2 := x_toNe hc2 (k := 6) (by decide); have g3 := x_toNe hc3 (k := 7) (by decide); have g4 := x_toNe hc4 (k := 8) (by decide); have g5 := x_toNe hc5 (k := 9) (by decide); have g6 := x_toNe hc6 (k := 10) (by decide); omega) (by decide) ?_
  refine x_iload_n 107 rfl 2 dX9_works_106 rfl rfl ?_
  refine x_if_ne 110 rfl 114 dX9_works_107 (by decide) (fun hc => ?_) (fun hc => ?_)
  · replace h := x_ifF hc h
    refine x_iload_n 115 rfl 1 dX9_works_114 rfl rfl ?_
    refine x_iload_n 116 rfl 2 dX9_works_115 rfl rfl ?_
    obtain ⟨hz, h⟩ := x_ifn h
    refine x_idiv 117 rfl dX9_works_116 hz ?_
    cases h
    exact x_iret dX9_works_117 rfl rfl rfl
  · replace h := x_ifT hc h
    refine x_iconst 111 rfl (v := 0) dX9_works_110 (by decide) ?_
    refine x_goto 117 dX9_works_111 (by decide) ?_
    cases h
    exact x_iret dX9_works_117 rfl rfl rfl
