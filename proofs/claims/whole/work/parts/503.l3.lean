def sp_op (c a b : Int32) : Int32 :=
  if c = -8 then (if a = 0 then 0 else if b = 0 then 0 else 1) else if c = -6 then (if a = b then 1 else 0) else if c = -5 then (if a < b then 1 else 0)
  else if c = -4 then (if b = 0 then 0 else a / b) else if c = -3 then a * b else if c = -2 then a - b else if c = -1 then a + b else (if a = 0 then (if b = 0 then 0 else 1) else 1)
def sp_ev (vals : Nat → Int32) : List Int32 → List Int32 → List Int32
  | [], st => st
  | c :: cs, st => if 0 ≤ c then sp_ev vals cs (c :: st) else if c ≤ -10 then sp_ev vals cs (vals ((-10 : Int32) - c).toNatClampNeg :: st)
    else if c = -7 then (match st with | a :: r => sp_ev vals cs ((if a = 0 then 1 else 0) :: r) | [] => [])
    else (match st with | b :: a :: r => sp_ev vals cs (sp_op c a b :: r) | _ => [])
theorem sp_ev_p {vals : Nat → Int32} {c : Int32} {cs st : List Int32} (h : 0 ≤ c) : sp_ev vals (c :: cs) st = sp_ev vals cs (c :: st) := by
  rw [sp_ev.eq_def]; exact if_pos h
theorem sp_ev_v {vals : Nat → Int32} {c : Int32} {cs st : List Int32} (h : ¬ 0 ≤ c) (g : c ≤ -10) : sp_ev vals (c :: cs) st = sp_ev vals cs (vals ((-10 : Int32) - c).toNatClampNeg :: st) := by
  rw [sp_ev.eq_def]; exact (if_neg h).trans (if_pos g)
theorem sp_ev_n {vals : Nat → Int32} {c a : Int32} {cs st : List Int32} (h : ¬ 0 ≤ c) (g : ¬ c ≤ -10) (e : c = -7) : sp_ev vals (c :: cs) (a :: st) = sp_ev vals cs ((if a = 0 then 1 else 0) :: st) := by
  rw [sp_ev.eq_def]; exact (if_neg h).trans ((if_neg g).trans (if_pos e))
theorem sp_ev_o {vals : Nat → Int32} {c a b : Int32} {cs st : List Int32} (h : ¬ 0 ≤ c) (g : ¬ c ≤ -10) (e : ¬ c = -7) : sp_ev vals (c :: cs) (b :: a :: st) = sp_ev vals cs (sp_op c a b :: st) := by
  rw [sp_ev.eq_def]; exact (if_neg h).trans ((if_neg g).trans (if_neg e))
theorem i_val {c : Int32} (h : c ≤ -10) (g : -18 < c) : ¬ ((-10 : Int32) - c < 0) ∧ ¬ ((8 : Int32) ≤ (-10 : Int32) - c) := by grind
def sp_hg : List Int32 → Nat → Prop
  | [], h => h = 1
  | c :: cs, h => if 0 ≤ c then h < 64 ∧ sp_hg cs (h + 1) else if c ≤ -10 then ((-10 : Int32) - c).toNatClampNeg < 8 ∧ -18 < c ∧ h < 64 ∧ sp_hg cs (h + 1) else if c = -7 then 1 ≤ h ∧ sp_hg cs h else 2 ≤ h ∧ sp_hg cs (h - 1)
def sp_stk (g : Nat → Int32) : List Int32 → Prop
  | [] => True
  | a :: r => g r.length = a ∧ sp_stk g r
theorem sp_stk.put {g : Nat → Int32} : ∀ {st : List Int32} {k : Nat} {v : Int32}, sp_stk g st → st.length ≤ k → sp_stk (fun j => if j = k then v else g j) st
  | [], _, _, _, _ => trivial
  | a :: r, k, v, h, hk => by
    have hk' : r.length + 1 ≤ k := hk
    refine ⟨?_, sp_stk.put h.2 (by omega)⟩
    show (if r.length = k then v else g r.length) = a
    rw [if_neg (by omega)]; exact h.1
theorem x_pI_at {σ : xS} {p k : Nat} {v : Int32} : (x_pI σ p k v).1 p = fun j => if j = k then v else σ.1 p j := by
  funext j; unfold x_pI; simp
theorem y_pI_ne {σ : xS} {p k q : Nat} {v : Int32} (h : q ≠ p) : (x_pI σ p k v).1 q = σ.1 q := by
  funext j; unfold x_pI; simp [h]
theorem x_pI_2 {σ : xS} {p k : Nat} {v : Int32} : (x_pI σ p k v).2 = σ.2 := rfl
theorem e_Ru_join (c a b : Int32) (σ : xS) (h : c ≠ -7) : f_Ru_join c a b σ = some (sp_op c a b, σ) := by
  unfold f_Ru_join sp_op
  simp only [if_neg h]
  by_cases h1 : c = -8
  · simp only [if_pos h1]; (repeat' split) <;> rfl
  simp only [if_neg h1]
  by_cases h1 : c = -6
  · simp only [if_pos h1]; split <;> rfl
  simp only [if_neg h1]
  by_cases h1 : c = -5
  · simp only [if_pos h1]
    by_cases h2 : b ≤ a
    · rw [if_pos h2, if_neg (i_nl.mpr h2)]
    · rw [if_neg h2, if_pos (i_nle.mp h2)]
  simp only [if_neg h1]
  by_cases h1 : c = -4
  · simp only [if_pos h1]; (repeat' split) <;> first | rfl | contradiction
  simp only [if_neg h1]
  by_cases h1 : c = -3
  · simp only [if_pos h1]
  simp only [if_neg h1]
  by_cases h1 : c = -2
  · simp only [if_pos h1]
  simp only [if_neg h1]
  by_cases h1 : c = -1
  · simp only [if_pos h1]
  simp only [if_neg h1]
  (repeat' split) <;> rfl
theorem i_m1 {k : Nat} : Int32.ofNat (k + 1) + -1 = Int32.ofNat k := by
  rw [← i_s]; grind
theorem i_m1' {k : Nat} : Int32.ofNat (k + 1) - 1 = Int32.ofNat k := by
  rw [← i_s]; grind
theorem i_lt1 {k : Nat} (h : k < 2147483648) : Int32.ofNat k < 1 ↔ k < 1 := i_lt (k := 1) h (by omega)
theorem i_lt2 {k : Nat} (h : k < 2147483648) : Int32.ofNat k < 2 ↔ k < 2 := i_lt (k := 2) h (by omega)
theorem i_64 {k : Nat} (h : k < 2147483648) : 64 ≤ Int32.ofNat k ↔ 64 ≤ k := i_le (j := 64) (by omega) h
def sp_at (g : Nat → Int32) : Nat → List Int32 → Prop
  | _, [] => True
  | p, c :: cs => g p = c ∧ sp_at g (p + 1) cs
theorem e_Ru_L19 (r : Nat) (hr : r < 6) : ∀ (cs st : List Int32) (p n : Nat) (σ : xS), sp_hg cs st.length → st.length ≤ 64 → cs.length < n → sp_at (σ.1 14) p cs → σ.1 16 r = Int32.ofNat (p + cs.length) → p + cs.length ≤ 700 → sp_stk (σ.1 17) st →
    x_ens (x_it (f_Ru_worth_13_L19 (Int32.ofNat r)) n (Int32.ofNat st.length, Int32.ofNat p, σ)) (fun b => b.1 = 1 ∧ sp_ev (σ.1 18) cs st = [b.2.2.1 17 0])
  | cs, st, p, 0, σ, _, _, hn, _, _, _, _ => by omega
  | [], st, p, n + 1, σ, hh, hl, hn, ha, ht, hp, hs => by
    refine x_nx fun P kL kR => ?_
    unfold f_Ru_worth_13_L19
    dsimp only
    simp only [List.length_nil, Nat.add_zero] at ht hp
    rw [if_neg (i_ix hr (by omega)), i_cl (by omega), ht, if_pos (by rw [i_le (by omega) (by omega)]; omega)]
    refine kL _ ?_
    match st, hh, hs with
    | [a], _, hs => exact ⟨rfl, by show [a] = _; rw [← hs.1]; rfl⟩
  | c :: cs, st, p, n + 1, σ, hh, hl, hn, ha, ht, hp, hs => by
    refine x_nx fun P kL kR => ?_
    unfold f_Ru_worth_13_L19
    dsimp only
    simp only [List.length_cons] at ht hp hn
    have hst : ∀ (st' : List Int32) (σ' : xS), sp_hg cs st'.length → st'.length ≤ 64 → (∀ q, q ≠ 17 → σ'.1 q = σ.1 q) → sp_stk (σ'.1 17) st' → sp_ev (σ.1 18) (c :: cs) st = sp_ev (σ.1 18) cs st' →
        x_ens (x_it (f_Ru_worth_13_L19 (Int32.ofNat r)) n (Int32.ofNat st'.length, Int32.ofNat p + 1, σ')) (fun b => b.1 = 1 ∧ sp_ev (σ.1 18) (c :: cs) st = [b.2.2.1 17 0]) := by
      intro st' σ' h1 h2 h3 h4 h5
      rw [i_s, h5]
      have := e_Ru_L19 r hr cs st' (p + 1) n σ' h1 h2 (by omega) (by rw [h3 14 (by omega)]; exact ha.2) (by rw [h3 16 (by omega), ht]; congr 1; omega) (by omega) h4
      rw [h3 18 (by omega)] at this
      exact this
    have e1 : (Int32.ofNat r).toNatClampNeg = r := i_cl (by omega)
    have e2 : (Int32.ofNat p).toNatClampNeg = p := i_cl (by omega)
    have g1 := ha.1
    rw [if_neg (i_ix hr (by omega)), e1, ht, if_neg (by rw [i_le (by omega) (by omega)]; omega), if_neg (by rw [i_le (by omega) (by omega)]; omega), if_neg (i_ix (by omega) (by omega)), e2, g1]
    unfold sp_hg at hh
    have jp : ∀ v : Int32, st.length < 64 → sp_hg cs (st.length + 1) → sp_ev (σ.1 18) (c :: cs) st = sp_ev (σ.1 18) cs (v :: st) → x_ens (x_it (f_Ru_worth_13_L19 (Int32.ofNat r)) n (Int32.ofNat st.length + 1, Int32.ofNat p + 1, x_pI σ 17 (Int32.ofNat st.length).toNatClampNeg v)) (fun b => b.1 = 1 ∧ sp_ev (σ.1 18) (c :: cs) st = [b.2.2.1 17 0]) := by
      intro v h1 h2 h3
      rw [i_s, i_cl (by omega)]
      refine hst (v :: st) _ h2 h1 (fun q hq => y_pI_ne hq) ?_ h3
      rw [x_pI_at]
      exact ⟨by simp, sp_stk.put hs (by omega)⟩
    by_cases c1 : 0 ≤ c
    · rw [if_pos c1] at hh ⊢
      unfold f_Ru_worth_13_J58
      dsimp only
      rw [if_neg (by rw [i_64 (by omega)]; omega), if_neg (i_nl.mpr c1), if_neg (i_ix (by omega) (by omega))]
      exact kR _ <| jp c hh.1 hh.2 (sp_ev_p c1)
    · rw [if_neg c1] at hh ⊢
      by_cases c2 : c ≤ -10
      · rw [if_pos c2] at hh
        rw [if_neg (i_nl.mpr c2)]
        unfold f_Ru_worth_13_J58 f_Ru_valueBy_13
        dsimp only
        rw [if_neg (by rw [i_64 (by omega)]; omega), if_pos (i_nle.mp c1)]
        have k1 : ¬ ((-10 : Int32) - c < 0) := (i_val c2 hh.2.1).1
        have k2 : ¬ ((8 : Int32) ≤ (-10 : Int32) - c) := (i_val c2 hh.2.1).2
        rw [if_neg k1, if_neg k2, if_neg (i_iv (i_nl.mp k1) hh.1)]
        dsimp only [Option.bind_some]
        rw [if_neg (i_ix (by omega) (by omega))]
        exact kR _ <| jp _ hh.2.2.1 hh.2.2.2 (sp_ev_v c1 c2)
      · rw [if_neg c2] at hh
        rw [if_pos (i_nle.mp c2)]
        by_cases c3 : c = -7
        · rw [if_pos c3] at hh ⊢
          rw [if_neg (by rw [i_lt1 (by omega)]; omega)]
          match st, hh, hs, hst, jp with
          | a :: st, hh, hs, hst, jp =>
            simp only [List.length_cons] at hh hl ⊢
            rw [i_m1', if_neg (i_ix (by omega) (by omega)), if_neg (i_ix (by omega) (by omega)), i_cl (by omega), hs.1]
            have kk : ∀ v : Int32, (if a = 0 then (1 : Int32) else 0) = v → x_ens (x_it (f_Ru_worth_13_L19 (Int32.ofNat r)) n (Int32.ofNat (st.length + 1), Int32.ofNat p + 1, x_pI σ 17 st.length v)) (fun b => b.1 = 1 ∧ sp_ev (σ.1 18) (c :: cs) (a :: st) = [b.2.2.1 17 0]) := by
              intro v hv
              refine hst (v :: st) _ hh.2 hl (fun q hq => y_pI_ne hq) ?_ ?_
              · rw [x_pI_at]
                exact ⟨by simp, sp_stk.put hs.2 (by omega)⟩
              · rw [sp_ev_n c1 c2 c3, hv]
            by_cases a0 : a = 0
            · rw [if_pos a0]
              try refine x_ens.gr (by rintro (h | h) <;> first | exact i_ge (by omega) h | omega | (rw [i_cl (by omega)] at h; omega)) ?_
              exact kR _ <| kk 1 (if_pos a0)
            · rw [if_neg a0]
              refine x_ens.gr (by rintro (h | h) <;> first | exact i_ge (by omega) h | omega | (rw [i_cl (by omega)] at h; omega)) ?_
              exact kR _ <| kk 0 (if_neg a0)
        · rw [if_neg c3] at hh ⊢
          rw [if_neg (by rw [i_lt2 (by omega)]; omega)]
          match st, hh, hs, hst with
          | b :: a :: st, hh, hs, hst =>
            simp only [List.length_cons] at hh hl ⊢
            rw [i_m1, i_m1', if_neg (i_ix (by omega) (by omega)), if_neg (i_ix (by omega) (by omega)), e_Ru_join _ _ _ _ c3]
            dsimp only [Option.bind_some]
            refine x_ens.gr (by rintro (h | h) <;> first | exact i_ge (by omega) h | omega | (rw [i_cl (by omega)] at h; omega)) ?_
            rw [i_cl (by omega), i_cl (by omega)]
            have q1 : σ.1 17 st.length = a := hs.2.1
            have q2 : σ.1 17 (st.length + 1) = b := hs.1
            rw [q1, q2]
            refine kR _ <| hst (sp_op c a b :: st) _ hh.2 (by show st.length + 1 ≤ 64; omega) (fun q hq => y_pI_ne hq) ?_ ?_
            · rw [x_pI_at]
              exact ⟨by simp, sp_stk.put hs.2.2 (by omega)⟩
            · exact sp_ev_o c1 c2 c3

def sp_pm (j : Nat) : Nat := if j < 3 then j + 5 else j - 3
def sp_om (c : Int32) : Int32 := if c = -1 then 8 else if c = -2 then 9 else if c = -3 then 10 else if c = -4 then 11 else if c = -5 then 6 else if c = -6 then 7 else if c = -7 then 3 else if c = -8 then 4 else 5
def sp_en (g : Nat → Int32) : Nat → List Int32 → Prop
  | p, [] => g p = 0
  | p, c :: cs => if 0 ≤ c then g p = 1 ∧ g (p + 1) = c ∧ sp_en g (p + 2) cs else if c ≤ -10 then g p = 2 ∧ g (p + 1) = Int32.ofNat (sp_pm ((-10 : Int32) - c).toNatClampNeg) ∧ sp_en g (p + 2) cs else g p = sp_om c ∧ sp_en g (p + 1) cs
theorem i_ops {c : Int32} (h : ¬ 0 ≤ c) (g : ¬ c ≤ -10) : c = -1 ∨ c = -2 ∨ c = -3 ∨ c = -4 ∨ c = -5 ∨ c = -6 ∨ c = -7 ∨ c = -8 ∨ c = -9 := by grind
theorem e_Mo_works {c a b : Int32} {σ : xS} (h : ¬ 0 ≤ c) (g : ¬ c ≤ -10) (e : ¬ c = -7) : f_Mo_works (sp_om c) a b σ = some (sp_op c a b, σ) := by
  rcases i_ops h g with rfl | rfl | rfl | rfl | rfl | rfl | rfl | rfl | rfl <;> simp [f_Mo_works, sp_om, sp_op] <;> ((repeat' split) <;> first | rfl | grind)
theorem sp_om_r {c : Int32} (h : ¬ 0 ≤ c) (g : ¬ c ≤ -10) : sp_om c ≠ 0 ∧ sp_om c ≠ 1 ∧ sp_om c ≠ 2 ∧ (sp_om c = 3 ↔ c = -7) := by
  rcases i_ops h g with rfl | rfl | rfl | rfl | rfl | rfl | rfl | rfl | rfl <;> decide
theorem i_s2 {k : Nat} : Int32.ofNat k + 1 + 1 = Int32.ofNat (k + 2) := by rw [i_s, i_s]
theorem e_Mo_L4 : ∀ (cs st : List Int32) (p n : Nat) (σ : xS), sp_hg cs st.length → st.length ≤ 64 → cs.length < n → sp_en (σ.1 66) p cs → p + 2 * cs.length < 4200 → sp_stk (σ.1 83) st →
    x_ens (x_it f_Mo_reckons_60_L4 n (Int32.ofNat st.length, Int32.ofNat p, σ)) (fun b => sp_ev (fun j => σ.1 82 (sp_pm j)) cs st = [b.2.2.1 83 0])
  | cs, st, p, 0, σ, _, _, hn, _, _, _ => by omega
  | [], st, p, n + 1, σ, hh, hl, hn, ha, hp, hs => by
    refine x_nx fun P kL kR => ?_
    unfold f_Mo_reckons_60_L4
    dsimp only
    simp only [List.length_nil, Nat.mul_zero, Nat.add_zero] at hp
    rw [if_neg (i_ix hp (by omega)), i_cl (by omega), show σ.1 66 p = 0 from ha, if_pos rfl]
    refine kL _ ?_
    match st, hh, hs with
    | [a], _, hs => exact (by show [a] = _; rw [← hs.1]; rfl)
  | c :: cs, st, p, n + 1, σ, hh, hl, hn, ha, hp, hs => by
    refine x_nx fun P kL kR => ?_
    unfold f_Mo_reckons_60_L4
    dsimp only
    simp only [List.length_cons] at hp hn
    have hst : ∀ (st' : List Int32) (σ' : xS) (d : Nat), d ≤ 2 → sp_en (σ.1 66) (p + d) cs → sp_hg cs st'.length → st'.length ≤ 64 → (∀ q, q ≠ 83 → σ'.1 q = σ.1 q) → sp_stk (σ'.1 83) st' → sp_ev (fun j => σ.1 82 (sp_pm j)) (c :: cs) st = sp_ev (fun j => σ.1 82 (sp_pm j)) cs st' →
        x_ens (x_it f_Mo_reckons_60_L4 n (Int32.ofNat st'.length, Int32.ofNat (p + d), σ')) (fun b => sp_ev (fun j => σ.1 82 (sp_pm j)) (c :: cs) st = [b.2.2.1 83 0]) := by
      intro st' σ' d hd h0 h1 h2 h3 h4 h5
      rw [h5]
      have := e_Mo_L4 cs st' (p + d) n σ' h1 h2 (by omega) (by rw [h3 66 (by omega)]; exact h0) (by omega) h4
      rw [h3 82 (by omega)] at this
      exact this
    have e2 : (Int32.ofNat p).toNatClampNeg = p := i_cl (by omega)
    have e3 : (Int32.ofNat (p + 1)).toNatClampNeg = p + 1 := i_cl (by omega)
    rw [if_neg (i_ix (by omega) (by omega)), e2, i_s]
    unfold sp_hg at hh
    unfold sp_en at ha
    have jp : ∀ v : Int32, st.length < 64 → sp_en (σ.1 66) (p + 2) cs → sp_hg cs (st.length + 1) → sp_ev (fun j => σ.1 82 (sp_pm j)) (c :: cs) st = sp_ev (fun j => σ.1 82 (sp_pm j)) cs (v :: st) → x_ens (x_it f_Mo_reckons_60_L4 n (Int32.ofNat st.length + 1, Int32.ofNat (p + 1) + 1, x_pI σ 83 (Int32.ofNat st.length).toNatClampNeg v)) (fun b => sp_ev (fun j => σ.1 82 (sp_pm j)) (c :: cs) st = [b.2.2.1 83 0]) := by
      intro v h1 h0 h2 h3
      rw [i_s, i_s, i_cl (by omega)]
      refine hst (v :: st) _ 2 (by omega) h0 h2 h1 (fun q hq => y_pI_ne hq) ?_ h3
      rw [x_pI_at]
      exact ⟨by simp, sp_stk.put hs (by omega)⟩
    by_cases c1 : 0 ≤ c
    · rw [if_pos c1] at hh ha
      rw [ha.1, if_neg (by decide), if_pos rfl]
      unfold f_Mo_reckons_60_J36
      dsimp only
      refine x_ens.gr (by rintro (h | h) <;> first | exact i_ge (by omega) h | omega | (rw [i_cl (by omega)] at h; omega)) ?_
      rw [if_pos rfl]
      refine x_ens.gr (by rintro (h | h) <;> first | exact i_ge (by omega) h | omega | (rw [i_cl (by omega)] at h; omega)) ?_
      refine x_ens.gr (by rintro (h | h) <;> first | exact i_ge (by omega) h | omega | (rw [i_cl (by omega)] at h; omega)) ?_
      rw [e3, ha.2.1]
      exact kR _ <| jp c hh.1 ha.2.2 hh.2 (sp_ev_p c1)
    · rw [if_neg c1] at hh ha
      by_cases c2 : c ≤ -10
      · rw [if_pos c2] at hh ha
        rw [ha.1, if_neg (by decide)]
        refine x_ens.gr (by rintro (h | h) <;> first | exact i_ge (by omega) h | omega | (rw [i_cl (by omega)] at h; omega)) ?_
        rw [if_neg (by decide), if_pos rfl]
        unfold f_Mo_reckons_60_J36
        dsimp only
        have hq : sp_pm ((-10 : Int32) - c).toNatClampNeg < 8 := by unfold sp_pm; split <;> omega
        rw [if_neg (by decide)]
        refine x_ens.gr (by rintro (h | h) <;> first | exact i_ge (by omega) h | omega | (rw [i_cl (by omega)] at h; omega)) ?_
        rw [e3, ha.2.1]
        refine x_ens.gr (by rintro (h | h) <;> first | exact i_ge (by omega) h | omega | (rw [i_cl (by omega)] at h; omega)) ?_
        refine x_ens.gr (by rintro (h | h) <;> first | exact i_ge (by omega) h | omega | (rw [i_cl (by omega)] at h; omega)) ?_
        rw [i_cl (k := sp_pm _) (by omega)]
        exact kR _ <| jp _ hh.2.2.1 ha.2.2 hh.2.2.2 (sp_ev_v c1 c2)
      · rw [if_neg c2] at hh ha
        obtain ⟨o1, o2, o3, o4⟩ := sp_om_r c1 c2
        rw [ha.1, if_neg o1]
        refine x_ens.gr (by rintro (h | h) <;> first | exact i_ge (by omega) h | omega | (rw [i_cl (by omega)] at h; omega)) ?_
        rw [if_neg o2, if_neg o3]
        by_cases c3 : c = -7
        · rw [if_pos c3] at hh
          rw [if_pos (o4.mpr c3)]
          match st, hh, hs, hst, jp with
          | a :: st, hh, hs, hst, jp =>
            simp only [List.length_cons] at hh hl ⊢
            rw [i_m1', if_neg (i_ix (by omega) (by omega)), i_cl (by omega), hs.1]
            have kk : ∀ v : Int32, (if a = 0 then (1 : Int32) else 0) = v → x_ens (x_it f_Mo_reckons_60_L4 n (Int32.ofNat (st.length + 1), Int32.ofNat (p + 1), x_pI σ 83 st.length v)) (fun b => sp_ev (fun j => σ.1 82 (sp_pm j)) (c :: cs) (a :: st) = [b.2.2.1 83 0]) := by
              intro v hv
              refine hst (v :: st) _ 1 (by omega) ha.2 hh.2 hl (fun q hq => y_pI_ne hq) ?_ ?_
              · rw [x_pI_at]
                exact ⟨by simp, sp_stk.put hs.2 (by omega)⟩
              · rw [sp_ev_n c1 c2 c3, hv]
            by_cases a0 : a = 0
            · rw [if_pos a0]
              refine x_ens.gr (by rintro (h | h) <;> first | exact i_ge (by omega) h | omega | (rw [i_cl (by omega)] at h; omega)) ?_
              exact kR _ <| kk 1 (if_pos a0)
            · rw [if_neg a0]
              refine x_ens.gr (by rintro (h | h) <;> first | exact i_ge (by omega) h | omega | (rw [i_cl (by omega)] at h; omega)) ?_
              exact kR _ <| kk 0 (if_neg a0)
        · rw [if_neg c3] at hh
          rw [if_neg (fun h => c3 (o4.mp h))]
          match st, hh, hs, hst with
          | b :: a :: st, hh, hs, hst =>
            simp only [List.length_cons] at hh hl ⊢
            rw [i_m1, i_m1', if_neg (i_ix (by omega) (by omega)), if_neg (i_ix (by omega) (by omega)), e_Mo_works c1 c2 c3]
            dsimp only [Option.bind_some]
            refine x_ens.gr (i_ix (by omega) (by omega)) ?_
            rw [i_cl (by omega), i_cl (by omega)]
            have q1 : σ.1 83 st.length = a := hs.2.1
            have q2 : σ.1 83 (st.length + 1) = b := hs.1
            rw [q1, q2]
            refine kR _ <| hst (sp_op c a b :: st) _ 1 (by omega) ha.2 hh.2 (by show st.length + 1 ≤ 64; omega) (fun q hq => y_pI_ne hq) ?_ ?_
            · rw [x_pI_at]
              exact ⟨by simp, sp_stk.put hs.2.2 (by omega)⟩
            · exact sp_ev_o c1 c2 c3
