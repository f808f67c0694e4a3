theorem i_nat {v : Int32} {n : Nat} (hn : n < 2147483648) (h : v ≤ Int32.ofNat n) : v.toNatClampNeg ≤ n := by
  rw [Int32.le_iff_toInt_le, i_ti hn] at h
  have : v.toNatClampNeg = v.toInt.toNat := rfl
  omega
theorem i_gd {v : Int32} {n : Nat} (hn : n < 2147483648) (h0 : ¬ v < 0) (h : v ≤ Int32.ofNat n) : ¬ (v < 0 ∨ n + 1 ≤ v.toNatClampNeg) := by
  have := i_nat hn h
  rintro (h1 | h1)
  · exact h0 h1
  · omega
def sp_tn (C : Nat → Nat → Int32) (v : Int32) : Int32 := if v < 12 then 0 else if v ≤ 480 then C 20 v.toNatClampNeg else 0
theorem i_12 {v : Int32} (h : ¬ v < 12) : ¬ v < 0 := by grind
theorem e_Sc_turnOf {C : Nat → Nat → Int32} {σ : xS} (K : y_K C σ) (v : Int32) : f_Sc_turnOf_7 v σ = some (sp_tn C v, σ) := by
  unfold f_Sc_turnOf_7 sp_tn
  by_cases h1 : v < 12
  · rw [if_pos h1, if_pos h1]
  · rw [if_neg h1, if_neg h1]
    by_cases h2 : v ≤ 480
    · rw [if_pos h2, if_pos h2, if_neg (i_gd (n := 480) (by omega) (i_12 h1) h2), K.2.2.2.2.2.2.2.2.2]
    · rw [if_neg h2, if_neg h2]
def sp_hi (C : Nat → Nat → Int32) (v : Int32) : Int32 := if v < 0 then C 7 0 else if v ≤ 600 then C 19 v.toNatClampNeg else C 7 0
theorem e_Sc_herIn {C : Nat → Nat → Int32} {σ : xS} (K : y_K C σ) (v : Int32) : f_Sc_herIn_7 v σ = some (sp_hi C v, σ) := by
  unfold f_Sc_herIn_7 sp_hi
  rw [K.1, K.2.2.2.2.2.2.2.2.1]
  by_cases h1 : v < 0
  · rw [if_pos h1, if_pos h1]
  · rw [if_neg h1, if_neg h1]
    by_cases h2 : v ≤ 600
    · rw [if_pos h2, if_pos h2, if_neg (i_gd (n := 600) (by omega) h1 h2)]
    · rw [if_neg h2, if_neg h2]
theorem e_Sc_placeOf (v who b : Int32) (σ : xS) : f_Sc_placeOf_7 v who b σ = some (if who = 0 then v else sp_wi (v + b) 12 480, σ) := by
  unfold f_Sc_placeOf_7
  rw [e_RH_within]
  split <;> rfl
def sp_fa (C : Nat → Nat → Int32) (t later : Int32) : Int32 := sp_face (C 10) (C 11) t later (sp_nc C)
theorem e_Sc_face {C : Nat → Nat → Int32} {σ : xS} (G : x_G C) (K : y_K C σ) (t later : Int32) : f_Sc_faceIn_7 t later σ = some (sp_fa C t later, σ) := by
  rw [e_Sc_faceIn (sp_nc C) G.2.2.1.2 t later σ (by rw [K.1]; exact G.2.2.1.1), K.2.2.2.1, K.2.2.2.2.1]; rfl
def sp_pl (C : Nat → Nat → Int32) (T : Nat → Int32) (late t who : Int32) : Int32 := if who = 0 then sp_hi C ((if 0 < t then t else 0) - late) else sp_wi (sp_hi C ((if 0 < t then t else 0) - late) + T 5) 12 480
theorem e_Tr_placeIn {C : Nat → Nat → Int32} {σ : xS} (K : y_K C σ) (t who : Int32) : f_Tr_placeIn_49_7 t who σ = some (sp_pl C (σ.1 50) (σ.1 49 2) t who, σ) := by
  unfold f_Tr_placeIn_49_7
  rw [e_Sc_herIn K]
  dsimp only [Option.bind_some]
  rw [e_Sc_placeOf]
  rfl
def sp_saw (C : Nat → Nat → Int32) (T : Nat → Int32) (late sh t : Int32) : Int32 := sp_pl C T late (t - T 1) (sp_fa C t sh)
abbrev sp_ck (C : Nat → Nat → Int32) (T : Nat → Int32) (n : Nat) (late sh t : Int32) : Prop := sp_nr T n (sp_saw C T late sh t) 6
def sp_ju (T : Nat → Int32) (v : Int32) : Int32 := sp_wi (v + v * T 3 / 100) 12 480
def sp_se (C : Nat → Nat → Int32) (T : Nat → Int32) (n : Nat) (late sh t : Int32) : Int32 := sp_tn C (if sp_ck C T n late sh t then sp_saw C T late sh t else sp_ju T (sp_saw C T late sh t))
def sp_ri (C : Nat → Nat → Int32) (T : Nat → Int32) (late t : Int32) : Int32 := sp_tn C (sp_pl C T late t (sp_fa C t 0))
def sp_told (C : Nat → Nat → Int32) (T : Nat → Int32) (n : Nat) (late sh ah : Int32) (t : Nat) : Int32 :=
  sp_wi (sp_se C T n late sh (Int32.ofNat (t + 1)) + ah * (sp_se C T n late sh (Int32.ofNat (t + 1)) - sp_se C T n late sh (Int32.ofNat t))) 0 999
def sp_aim (C : Nat → Nat → Int32) (T : Nat → Int32) (n : Nat) (late sh ah : Int32) (t : Nat) (r : Int32) : Int32 :=
  if T 4 = -1 then sp_told C T n late sh ah t
  else sp_wi (sp_w C (2 + (T 4).toNatClampNeg) (fun j => if j = 3 then sp_told C T n late sh ah t else if j = 4 then sp_se C T n late sh (Int32.ofNat t) else if j = 5 then r else if j = 6 then Int32.ofNat (t + 1) else if sp_ck C T n late sh (Int32.ofNat (t + 1)) then 1 else 0)) 0 999
def sp_rg (C : Nat → Nat → Int32) (T : Nat → Int32) (n : Nat) (late sh ah : Int32) : Nat → Int32
  | 0 => sp_ri C T late 0
  | t + 1 => sp_rg C T n late sh ah t + sp_wi (sp_aim C T n late sh ah t (sp_rg C T n late sh ah t) - sp_rg C T n late sh ah t) (-(T 2)) (T 2)
def sp_of (C : Nat → Nat → Int32) (T : Nat → Int32) (n : Nat) (late sh ah : Int32) : Nat → Int32
  | 0 => 0
  | t + 1 => sp_ri C T late (Int32.ofNat (t + 1)) - sp_rg C T n late sh ah (t + 1)
theorem e_Tr_rightIn {C : Nat → Nat → Int32} {σ : xS} (G : x_G C) (K : y_K C σ) (t : Int32) : f_Tr_rightIn_49_7 t σ = some (sp_ri C (σ.1 50) (σ.1 49 2) t, σ) := by
  unfold f_Tr_rightIn_49_7
  rw [e_Sc_face G K]
  dsimp only [Option.bind_some]
  rw [e_Tr_placeIn K]
  dsimp only [Option.bind_some]
  rw [e_Sc_turnOf K]
  rfl
theorem e_Tr_judged (v : Int32) (σ : xS) : f_Tr_judged_49 v σ = some (sp_ju (σ.1 50) v, σ) := by
  unfold f_Tr_judged_49; rw [e_RH_within]; rfl
theorem e_Tr_look {C : Nat → Nat → Int32} {σ : xS} {n : Nat} (G : x_G C) (K : y_K C σ) (hn : n ≤ 6) (h1 : σ.1 49 1 = Int32.ofNat n) :
    x_ens (f_Tr_look_49_7 σ) (fun q => q.2.1 49 5 = C 7 4 ∧ ∀ t, t ≤ sp_la C → q.2.1 51 t = sp_se C (σ.1 50) n (σ.1 49 2) (σ.1 49 3) (Int32.ofNat t) ∧ q.2.1 52 t = if sp_ck C (σ.1 50) n (σ.1 49 2) (σ.1 49 3) (Int32.ofNat t) then 1 else 0) := by
  unfold f_Tr_look_49_7
  have hla : σ.1 7 4 = Int32.ofNat (sp_la C) := by rw [K.1]; exact G.2.1.1
  have hlb := G.2.1.2
  have e0 : (if (600 : Int32) < σ.1 7 4 then (600 : Int32) else σ.1 7 4) = Int32.ofNat (sp_la C) := by
    rw [hla, if_neg (by rw [show (600 : Int32) = Int32.ofNat 600 from rfl, i_lt (by omega) (by omega)]; omega)]
  rw [e0]
  dsimp only
  refine x_ens.bi (P := fun b => (b.2.1 49 5 = Int32.ofNat (sp_la C) ∧ ∀ t, t < sp_la C + 1 → b.2.1 51 t = sp_se C (σ.1 50) n (σ.1 49 2) (σ.1 49 3) (Int32.ofNat t) ∧ b.2.1 52 t = if sp_ck C (σ.1 50) n (σ.1 49 2) (σ.1 49 3) (Int32.ofNat t) then 1 else 0)) ?_ ?_
  · refine x_iv.go (fun i a => a.1 = Int32.ofNat i ∧ x_fr [(51, 99999), (52, 99999)] (x_pI σ 49 5 (Int32.ofNat (sp_la C))) a.2 ∧ ∀ t, t < i → a.2.1 51 t = sp_se C (σ.1 50) n (σ.1 49 2) (σ.1 49 3) (Int32.ofNat t) ∧ a.2.1 52 t = if sp_ck C (σ.1 50) n (σ.1 49 2) (σ.1 49 3) (Int32.ofNat t) then 1 else 0) (sp_la C + 1) (by omega) ⟨rfl, x_fr.rf, by omega⟩ ?_
    rintro i ⟨v, τ⟩ hi ⟨rfl, hF, hI⟩
    dsimp only at hF hI
    have K1 : y_K C τ := (y_K.fr (W := [(49, 99999), (51, 99999), (52, 99999)]) K ((x_fr.trans (x_frI (p := 49) (k := 5) rfl x_fr.rf) (x_fr.su hF rfl))) rfl)
    have c50 : τ.1 50 = σ.1 50 := (hF.ce 50 rfl).trans (y_pI_ne (by omega))
    have c5 : τ.1 49 5 = Int32.ofNat (sp_la C) := by rw [hF.ce 49 rfl, x_pI_at]; rfl
    have c1 : τ.1 49 1 = Int32.ofNat n := by rw [hF.ce 49 rfl, x_pI_at]; exact h1
    have c2 : τ.1 49 2 = σ.1 49 2 := by rw [hF.ce 49 rfl, x_pI_at]; rfl
    have c3 : τ.1 49 3 = σ.1 49 3 := by rw [hF.ce 49 rfl, x_pI_at]; rfl
    unfold f_Tr_look_49_7_L16
    dsimp only
    rw [c5]
    by_cases hx : sp_la C < i
    · rw [if_pos (by rw [i_lt (by omega) (by omega)]; omega)]
      refine x_iv.l ⟨c5, fun t ht => hI t (by omega)⟩
    · rw [if_neg (by rw [i_lt (by omega) (by omega)]; omega), e_Sc_face G K1]
      dsimp only [Option.bind_some]
      rw [e_Tr_placeIn K1]
      dsimp only [Option.bind_some]
      rw [c1, e_RH_isNearMark_50 n hn, c50, c2, c3]
      dsimp only [Option.bind_some]
      have e1 : (Int32.ofNat i).toNatClampNeg = i := i_cl (by omega)
      rw [e1]
      refine x_ens.ok (by split <;> simp) ?_
      refine x_ens.gr (by rintro (h | h) <;> first | exact i_ge (by omega) h | omega | (rw [i_cl (by omega)] at h; omega)) ?_
      refine x_ens.gr (by rintro (h | h) <;> first | exact i_ge (by omega) h | omega | (rw [i_cl (by omega)] at h; omega)) ?_
      have hsaw : sp_pl C (σ.1 50) (σ.1 49 2) (Int32.ofNat i - σ.1 50 1) (sp_fa C (Int32.ofNat i) (σ.1 49 3)) = sp_saw C (σ.1 50) (σ.1 49 2) (σ.1 49 3) (Int32.ofNat i) := rfl
      have hck : sp_nr (σ.1 50) n (sp_saw C (σ.1 50) (σ.1 49 2) (σ.1 49 3) (Int32.ofNat i)) 6 ↔ sp_ck C (σ.1 50) n (σ.1 49 2) (σ.1 49 3) (Int32.ofNat i) := Iff.rfl
      rw [hsaw]
      simp only [hck]
      have K2 : y_K C (x_pI τ 52 i (if sp_ck C (σ.1 50) n (σ.1 49 2) (σ.1 49 3) (Int32.ofNat i) then 1 else 0)) := y_K.fr (W := [(52, 99999)]) K1 (x_frI (p := 52) rfl x_fr.rf) rfl
      have fin : ∀ v : Int32, v = sp_se C (σ.1 50) n (σ.1 49 2) (σ.1 49 3) (Int32.ofNat i) → ∀ t, t < i + 1 → (x_pI (x_pI τ 52 i (if sp_ck C (σ.1 50) n (σ.1 49 2) (σ.1 49 3) (Int32.ofNat i) then 1 else 0)) 51 i v).1 51 t = sp_se C (σ.1 50) n (σ.1 49 2) (σ.1 49 3) (Int32.ofNat t) ∧ (x_pI (x_pI τ 52 i (if sp_ck C (σ.1 50) n (σ.1 49 2) (σ.1 49 3) (Int32.ofNat i) then 1 else 0)) 51 i v).1 52 t = if sp_ck C (σ.1 50) n (σ.1 49 2) (σ.1 49 3) (Int32.ofNat t) then 1 else 0 := by
        intro v hv t ht
        rw [x_pI_at, y_pI_ne (q := 52) (by omega), x_pI_at, y_pI_ne (q := 51) (by omega)]
        dsimp only
        by_cases h : t = i
        · subst h
          rw [if_pos rfl, if_pos rfl]
          exact ⟨hv, rfl⟩
        · rw [if_neg h, if_neg h]
          exact hI t (by omega)
      have hz : (x_pI τ 52 i (if sp_ck C (σ.1 50) n (σ.1 49 2) (σ.1 49 3) (Int32.ofNat i) then 1 else 0)).1 52 i = if sp_ck C (σ.1 50) n (σ.1 49 2) (σ.1 49 3) (Int32.ofNat i) then 1 else 0 := by rw [x_pI_at]; exact if_pos rfl
      rw [hz]
      by_cases h : sp_ck C (σ.1 50) n (σ.1 49 2) (σ.1 49 3) (Int32.ofNat i)
      · simp only [if_pos h] at fin K2 ⊢
        rw [if_neg (by decide), e_Sc_turnOf K2]
        dsimp only [Option.bind_some]
        refine x_ens.gr (by rintro (h | h) <;> first | exact i_ge (by omega) h | omega | (rw [i_cl (by omega)] at h; omega)) ?_
        refine x_iv.r (by omega) ⟨i_s, x_frI (p := 51) rfl (x_frI (p := 52) rfl hF), fin _ ?_⟩
        unfold sp_se; rw [if_pos h]
      · simp only [if_neg h] at fin K2 ⊢
        rw [if_pos trivial, e_Tr_judged]
        dsimp only [Option.bind_some]
        rw [e_Sc_turnOf K2]
        dsimp only [Option.bind_some]
        refine x_ens.gr (by rintro (h | h) <;> first | exact i_ge (by omega) h | omega | (rw [i_cl (by omega)] at h; omega)) ?_
        refine x_iv.r (by omega) ⟨i_s, x_frI (p := 51) rfl (x_frI (p := 52) rfl hF), fin _ ?_⟩
        rw [y_pI_ne (by omega), c50]
        unfold sp_se; rw [if_neg h]
  · rintro b ⟨h1, h2⟩
    refine x_ens.so ⟨?_, fun t ht => h2 t (by omega)⟩
    rw [h1]; exact G.2.1.1.symm
