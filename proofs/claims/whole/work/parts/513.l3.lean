def x_Rel (σ : xS) : Prop := ∃ C, x_B C σ ∧ y_F C σ
def x_OP (w m : xS → Option (Int32 × xS)) : Prop := ∀ σ, x_Rel σ → ∃ k σ1 b σ2, w σ = some (k, σ1) ∧ m σ1 = some (b, σ2) ∧ σ2.1 60 0 = k ∧ (k = 0 → σ2.2 96 0 = b.toInt64) ∧ x_Rel σ2
def x_OS (f m : xS → Option (Int32 × xS)) : Prop := ∀ σ, x_Rel σ → ∃ a σ1 σ2, f σ = some (a, σ1) ∧ m σ1 = some (a, σ2) ∧ x_Rel σ2
def x_an (κ : Nat → Int32) (A : Int32 ⊕ Nat) (b : Int32) (τ : xS) : Prop := match A with
  | .inl v => τ.1 60 0 = 0 ∧ b = v
  | .inr k => τ.1 60 0 = κ k
def x_k1 (_ : Nat) : Int32 := 1
def x_k2 (k : Nat) : Int32 := if k = 2 then 1 else 2
theorem x_OPq {f : xS → Option ((Int32 ⊕ Nat) × xS)} {w m : xS → Option (Int32 × xS)} {κ : Nat → Int32} {A : (Nat → Nat → Int32) → (Nat → Nat → Int32) → Int32 ⊕ Nat} {W V : List (Nat × Nat)}
    (hc : ∀ C σ, x_B C σ → y_F C σ → x_ens (f σ) (fun q => q.1 = A C σ.1 ∧ y_F C q.2)) (hcf : ∀ σ q, f σ = some q → x_fr W σ q.2) (hW : (W.all fun w => x_in x_Q w.1 w.2 || x_in x_Q w.1 99999) = true)
    (hA : ∀ C (g g' : Nat → Nat → Int32), (∀ p, p ∈ [35, 36, 39, 40, 41, 58] → g' p = g p) → g' 55 4 = g 55 4 → g' 0 1 = g 0 1 → g' 59 = g 59 → A C g' = A C g)
    (hm : ∀ C σ, x_B C σ → x_ens (m σ) (fun q => x_an κ (A C σ.1) q.1 q.2 ∧ x_B C q.2)) (hmf : ∀ σ q, m σ = some q → x_fr V σ q.2) (hV : (V.all fun w => decide (60 ≤ w.1) && w.1 != 96) = true)
    (hw : ∀ σ v τ, f σ = some (.inl v, τ) → w σ = some (0, x_pL τ 96 0 v.toInt64)) (hw2 : ∀ C σ, x_B C σ → ∀ k τ, f σ = some (.inr k, τ) → A C σ.1 = .inr k → w σ = some (κ k, τ) ∧ κ k ≠ 0) : x_OP w m := by
  rintro σ ⟨C, B, F⟩
  obtain ⟨⟨a, τ⟩, e, h1, h2⟩ := hc C σ B F
  dsimp only at h1 h2
  have f1 := hcf _ _ e
  dsimp only at f1
  have f1' : x_fr x_Q σ τ := x_fr.su f1 hW
  have B1 := B.fr f1 hW
  have step : ∀ υ : xS, x_fr [(96, 99999)] τ υ → ∃ b σ2, m υ = some (b, σ2) ∧ x_an κ a b σ2 ∧ x_Rel σ2 ∧ σ2.2 96 0 = υ.2 96 0 := by
    intro υ f2
    have B2 := B1.fr f2 rfl
    have F2 := h2.fr f2 rfl
    obtain ⟨⟨b, σ2⟩, e2, h3, h4⟩ := hm C υ B2
    have f3 := hmf _ _ e2
    dsimp only at h3 h4 f3
    refine ⟨b, σ2, e2, ?_, ⟨C, h4, F2.fr f3 ?_⟩, f3.2 96 0 ?_⟩
    · have : A C υ.1 = A C σ.1 := by
        have f4 : x_fr x_Q σ υ := x_fr.trans f1' (x_fr.su f2 rfl)
        refine hA C _ _ ?_ (f4.ck 55 4 rfl) (f4.ck 0 1 rfl) (f4.ce 59 rfl)
        intro p hp
        simp only [List.mem_cons, List.mem_nil_iff, or_false] at hp
        rcases hp with rfl | rfl | rfl | rfl | rfl | rfl
        · exact f4.ce 35 rfl
        · exact f4.ce 36 rfl
        · exact f4.ce 39 rfl
        · exact f4.ce 40 rfl
        · exact f4.ce 41 rfl
        · exact f4.ce 58 rfl
      rw [h1, ← this]; exact h3
    · rw [List.all_eq_true] at hV ⊢
      intro w hw
      have := hV w hw
      simp only [Bool.and_eq_true] at this
      exact this.1
    · unfold x_in
      rw [List.any_eq_false]
      intro w hw h5
      have := List.all_eq_true.mp hV w hw
      simp only [Bool.and_eq_true, beq_iff_eq, bne_iff_ne] at this h5
      exact this.2 h5.1
  cases a with
  | inl v =>
    obtain ⟨b, σ2, e2, h3, h4, h5⟩ := step (x_pL τ 96 0 v.toInt64) (x_frL (p := 96) (k := 0) rfl x_fr.rf)
    refine ⟨0, _, b, σ2, hw _ _ _ e, e2, h3.1, fun _ => ?_, h4⟩
    rw [h5, h3.2]
    show (if 96 = 96 ∧ 0 = 0 then v.toInt64 else τ.2 96 0) = v.toInt64
    rw [if_pos ⟨rfl, rfl⟩]
  | inr k =>
    obtain ⟨b, σ2, e2, h3, h4, -⟩ := step τ x_fr.rf
    obtain ⟨h6, h7⟩ := hw2 C σ B k τ e h1.symm
    exact ⟨_, _, b, σ2, h6, e2, h3, fun h => absurd h h7, h4⟩
theorem x_60 {σ : xS} {v : Int32} : (x_pI σ 60 0 v).1 60 0 = v := by rw [x_pI_at]; rfl
theorem x_pI_pI {σ : xS} {p k : Nat} {v w : Int32} : x_pI (x_pI σ p k v) p k w = x_pI σ p k w := by
  unfold x_pI
  refine Prod.ext (funext fun a => funext fun b => ?_) rfl
  dsimp only
  split <;> rfl
theorem e_Mo_right {σ : xS} {v w : Int32} (h0 : σ.1 60 0 = 0) (hw : w ≠ 0) : f_Mo_right_60 v w σ = some (if v = 0 then (0, x_pI σ 60 0 w) else (1, σ)) := by
  unfold f_Mo_right_60
  rw [if_pos h0]
  by_cases h : v = 0
  · rw [if_pos h, if_pos h]; dsimp only; rw [x_60, if_neg hw]
  · rw [if_neg h, if_neg h, if_pos h0]
theorem e_Mo_within {σ : xS} {v lo hi : Int32} : f_Mo_within v lo hi σ = some (if lo ≤ v ∧ v ≤ hi then 1 else 0, σ) := by
  unfold f_Mo_within
  by_cases h : v < lo
  · rw [if_pos h, if_neg (fun x => i_nl.mpr x.1 h)]
  · rw [if_neg h]
    by_cases h2 : hi < v
    · rw [if_pos h2, if_neg (fun x => i_nl.mpr x.2 h2)]
    · rw [if_neg h2, if_pos ⟨i_nl.mp h, i_nl.mp h2⟩]
theorem e_Mo_isWhat {σ : xS} {v hi : Int32} (h0 : σ.1 60 0 = 0) : f_Mo_isWhat_60 v hi σ = some (if 0 ≤ v ∧ v ≤ hi then (1, σ) else (0, x_pI σ 60 0 1)) := by
  unfold f_Mo_isWhat_60
  rw [e_Mo_within]
  dsimp only [Option.bind_some]
  rw [e_Mo_right h0 (by decide)]
  by_cases h : 0 ≤ v ∧ v ≤ hi
  · simp only [if_pos h, Option.bind_some]; rw [if_neg (by decide)]; rfl
  · simp only [if_neg h, Option.bind_some]; rw [if_pos trivial]; rfl
theorem e_Mo_isTenth {C : Nat → Nat → Int32} {σ : xS} {v : Int32} (G : x_G C) (M : x_M C σ) (h0 : σ.1 60 0 = 0) : f_Mo_isTenth_60 v σ = some (if 0 ≤ v ∧ v ≤ C 7 4 then (1, σ) else (0, x_pI σ 60 0 1)) := by
  unfold f_Mo_isTenth_60
  rw [e_Mo_right h0 (by decide), if_pos rfl]
  by_cases h : v < 0
  · rw [if_pos h, if_neg (fun x => i_nl.mpr x.1 h)]; rfl
  · rw [if_neg h, G.last M, ← G.2.1.1]
    dsimp only [Option.bind_some]
    by_cases h2 : C 7 4 < v
    · rw [if_pos h2, e_Mo_right h0 (by decide), if_pos rfl, if_neg (fun x => i_nl.mpr x.2 h2)]; rfl
    · rw [if_neg h2, e_Mo_right h0 (by decide), if_neg (by decide), if_pos ⟨i_nl.mp h, i_nl.mp h2⟩]; rfl
theorem e_RH_isTenth {C : Nat → Nat → Int32} {σ : xS} {v : Int32} (K : y_K C σ) : f_RH_isTenth_0 v σ = some (if 0 ≤ v ∧ v ≤ C 7 4 then 1 else 0, σ) := by
  unfold f_RH_isTenth_0
  rw [K.1]
  by_cases h : v < 0
  · rw [if_pos h, if_neg (fun x => i_nl.mpr x.1 h)]
  · rw [if_neg h]
    by_cases h2 : C 7 4 < v
    · rw [if_pos h2, if_neg (fun x => i_nl.mpr x.2 h2)]
    · rw [if_neg h2, if_pos ⟨i_nl.mp h, i_nl.mp h2⟩]
theorem x_B.t0 {C : Nat → Nat → Int32} {σ : xS} {v : Int32} (B : x_B C σ) : x_B C (x_pI σ 60 0 v) := B.fr (W := [(60, 0)]) (x_frI (p := 60) (k := 0) rfl x_fr.rf) rfl
def A_all (C : Nat → Nat → Int32) (S : Nat → Int32) (v : Int32) : Int32 ⊕ Nat :=
  if 0 ≤ v ∧ v ≤ 6 then .inl (
    if v = 0 then sp_SH C S (sp_nk C) 0 0 0 else if v = 1 then sp_fo (wst_mo (sp_of C S (sp_nk C) 0 0 0)) 0 0 (sp_la C + 1)
    else if v = 2 then (sp_fo (wst_ls (sp_of C S (sp_nk C) 0 0 0) (S 0)) 0 (0, 0) (sp_la C + 1)).1 else if v = 3 then sp_ff (sp_of C S (sp_nk C) 0 0 0) (S 0) 0 (sp_la C + 1)
    else if v = 4 then (sp_fo (wst_sw (sp_of C S (sp_nk C) 0 0 0)) 0 (0, 0) (sp_la C + 1)).1 else if v = 5 then sp_fo (fun i c => c + sp_shn C S 0 (sp_of C S (sp_nk C) 0 0 0) i) 0 0 (sp_la C + 1)
    else sp_fo (fun i => wst_tu (sp_rg C S (sp_nk C) 0 0 0) (i + 1)) 0 0 (sp_la C)) else .inr 2
theorem sp_shn_c {C : Nat → Nat → Int32} {T T' : Nat → Int32} {late : Int32} {g g' : Nat → Int32} {t : Nat} (h0 : T 0 = T' 0) (h5 : T 5 = T' 5) (hg : g t = g' t) : sp_shn C T late g t = sp_shn C T' late g' t := by
  unfold sp_shn sp_pl; rw [h0, h5, hg]
theorem sp_shn_b {C : Nat → Nat → Int32} {T : Nat → Int32} {late : Int32} {g : Nat → Int32} {t : Nat} : sp_shn C T late g t = 0 ∨ sp_shn C T late g t = 1 := by
  unfold sp_shn; (repeat' split) <;> simp
theorem e_Tr_shown {C : Nat → Nat → Int32} {σ : xS} (G : x_G C) (K : y_K C σ) (hl : σ.1 49 5 = C 7 4) : x_ens (f_Tr_shown_49_7 σ) (fun q => q.1 = sp_fo (fun i c => c + sp_shn C (σ.1 50) (σ.1 49 2) (σ.1 54) i) 0 0 (sp_la C + 1)) := by
  have hb := G.2.1.2
  unfold f_Tr_shown_49_7
  refine x_ens.bi (P := fun b => b.1 = sp_fo (fun i c => c + sp_shn C (σ.1 50) (σ.1 49 2) (σ.1 54) i) 0 0 (sp_la C + 1)) ?_ (fun b hb => x_ens.so hb)
  refine x_iv.go (fun i a => a.1 = sp_fo (fun i c => c + sp_shn C (σ.1 50) (σ.1 49 2) (σ.1 54) i) 0 0 i ∧ a.2.1 = Int32.ofNat i ∧ x_fr [(17, 99999), (18, 99999)] σ a.2.2) (sp_la C + 1) (by omega) ⟨rfl, rfl, x_fr.rf⟩ ?_
  rintro i ⟨c, v, τ⟩ hi ⟨h1, h2, f1⟩
  dsimp only at h1 h2 f1
  subst h1 h2
  unfold f_Tr_shown_49_7_L4
  dsimp only
  rw [f1.ce 49 rfl, hl, G.2.1.1]
  by_cases hx : sp_la C < i
  · rw [if_pos (by rw [i_lt (by omega) (by omega)]; omega)]
    have : i = sp_la C + 1 := by omega
    subst this
    exact x_iv.l rfl
  · rw [if_neg (by rw [i_lt (by omega) (by omega)]; omega)]
    refine x_ens.bf (e_Tr_isShown (i := i) G (K.fr f1 rfl) (by omega)) (fun q e => fr_Tr_isShown_49_7 e) ?_
    intro q hq f2
    rw [f1.ce 50 rfl, f1.ce 49 rfl, f1.ce 54 rfl] at hq
    have e : sp_fo (fun i c => c + sp_shn C (σ.1 50) (σ.1 49 2) (σ.1 54) i) 0 0 (i + 1) = sp_fo (fun i c => c + sp_shn C (σ.1 50) (σ.1 49 2) (σ.1 54) i) 0 0 i + sp_shn C (σ.1 50) (σ.1 49 2) (σ.1 54) i := by rw [sp_fo]; rw [Nat.zero_add]
    rcases @sp_shn_b C (σ.1 50) (σ.1 49 2) (σ.1 54) i with h | h
    · rw [h] at hq e
      rw [if_pos hq]
      exact x_iv.r (by omega) ⟨e.symm, i_s, x_fr.trans f1 (x_fr.su f2 rfl)⟩
    · rw [h] at hq e
      rw [if_neg (by rw [hq]; decide)]
      exact x_iv.r (by omega) ⟨e.symm, i_s, x_fr.trans f1 (x_fr.su f2 rfl)⟩
theorem c_all {C : Nat → Nat → Int32} {σ : xS} {v : Int32} (B : x_B C σ) (F : y_F C σ) : x_ens (f_RH_all_0 v σ) (fun q => q.1 = A_all C (σ.1 36) v ∧ y_F C q.2) := by
  unfold f_RH_all_0 A_all
  have G := B.1
  by_cases h : 0 ≤ v ∧ v ≤ 6
  · rw [if_neg (i_nl.mpr h.1), if_pos h.2, if_pos h]
    refine x_ens.bi (e_RH_walkAsSet B F) ?_
    rintro q1 ⟨⟨a1, a2, a3, a4, a5⟩, B1, e36⟩
    have F1 : y_F C q1.2 := Or.inr ⟨a1, a2, a3, a4, a5⟩
    have l5 := G.l5 a3
    have hb := G.2.1.2
    rw [e36] at a2 a5
    have of : ∀ t, t < sp_la C + 1 → q1.2.1 54 t = sp_of C (σ.1 36) (sp_nk C) 0 0 0 t := fun t ht => (a5 t (by omega)).2.2
    rw [e36, e_Tr_sharpBy l5 hb, e_Tr_mostOff l5 hb, e_Tr_longestSoft l5 hb, e_Tr_firstSoft l5 hb, e_Tr_swings l5 hb, e_Tr_turned l5 hb, a2 0 (by omega), sp_fo_cnt of, sp_fo_mo of, sp_fo_ls of, sp_ff_congr (fun j hj => of j (by omega))]
    dsimp only [Option.bind_some]
    by_cases v0 : v = 0
    · simp only [if_pos v0]; exact x_ens.so ⟨rfl, F1⟩
    simp only [if_neg v0]
    by_cases v1 : v = 1
    · simp only [if_pos v1]; exact x_ens.so ⟨rfl, F1⟩
    simp only [if_neg v1]
    by_cases v2 : v = 2
    · simp only [if_pos v2]; exact x_ens.so ⟨rfl, F1⟩
    simp only [if_neg v2]
    by_cases v3 : v = 3
    · simp only [if_pos v3]; exact x_ens.so ⟨rfl, F1⟩
    simp only [if_neg v3]
    by_cases v4 : v = 4
    · simp only [if_pos v4]
      refine x_ens.so ⟨?_, F1⟩
      rw [sp_fo_congr (st := wst_sw (q1.2.1 54)) (st' := wst_sw (sp_of C (σ.1 36) (sp_nk C) 0 0 0)) (fun j _ h2 x => by unfold wst_sw; rw [of j (by omega)])]
    simp only [if_neg v4]
    by_cases v5 : v = 5
    · simp only [if_pos v5]
      refine x_ens.bf (e_Tr_shown G B1.2.1 a3) (fun q e => fr_Tr_shown_49_7 e) ?_
      intro q hq f2
      refine x_ens.so ⟨?_, ?_⟩
      · rw [hq, a4, sp_fo_congr (fun j _ h2 x => by rw [sp_shn_c (a2 0 (by omega)) (a2 5 (by omega)) (of j (by omega))])]
      · refine Or.inr ⟨?_, ?_, ?_, ?_, ?_⟩
        · rw [f2.ck 0 9 rfl]; exact a1
        · rw [f2.ce 50 rfl, f2.ce 36 rfl, e36]; exact a2
        · rw [f2.ce 49 rfl]; exact a3
        · rw [f2.ce 49 rfl]; exact a4
        · rw [f2.ce 51 rfl, f2.ce 53 rfl, f2.ce 54 rfl, f2.ce 36 rfl, e36]; exact a5
    simp only [if_neg v5]
    refine x_ens.so ⟨?_, F1⟩
    rw [sp_fo_congr (fun j _ h2 x => by unfold wst_tu; rw [(a5 (j + 1) (by omega)).2.1, (a5 (j + 1 - 1) (by omega)).2.1])]
    rfl
  · rw [if_neg h]
    by_cases h1 : v < 0
    · rw [if_pos h1]; exact x_ens.so ⟨rfl, F⟩
    · rw [if_neg h1, if_neg (fun x => h ⟨i_nl.mp h1, x⟩)]; exact x_ens.so ⟨rfl, F⟩

theorem i_abs {a b : Int32} (h1 : 0 ≤ a) (h2 : a ≤ 999) (h3 : 0 ≤ b) (h4 : b ≤ 999) : (if b ≤ a then a - b else b - a) = sp_abs (a - b) := by unfold sp_abs; grind
theorem sp_tn_r {C : Nat → Nat → Int32} (G : x_G C) (v : Int32) : 0 ≤ sp_tn C v ∧ sp_tn C v ≤ 999 := by
  unfold sp_tn
  by_cases h1 : v < 12
  · rw [if_pos h1]; decide
  · rw [if_neg h1]
    by_cases h2 : v ≤ 480
    · rw [if_pos h2]
      have := G.2.2.2.2.2.2.2.2.2.2.2.1 v (i_nl.mp h1) h2
      rw [this.1]; exact this.2
    · rw [if_neg h2]; decide
theorem i_rg1 {r a w : Int32} (h1 : 0 ≤ r) (h2 : r ≤ 999) (h3 : 0 ≤ a) (h4 : a ≤ 999) (h5 : 1 ≤ w) (h6 : w ≤ 90) (h : a - r < -w) : 0 ≤ r + -w ∧ r + -w ≤ 999 := by
  constructor <;> lia
theorem i_rg2 {r a w : Int32} (h1 : 0 ≤ r) (h2 : r ≤ 999) (h3 : 0 ≤ a) (h4 : a ≤ 999) (h5 : 1 ≤ w) (h6 : w ≤ 90) (h : w < a - r) : 0 ≤ r + w ∧ r + w ≤ 999 := by
  constructor <;> lia
theorem i_rg3 {r a : Int32} : r + (a - r) = a := by grind
theorem i_rg {r a w : Int32} (h1 : 0 ≤ r) (h2 : r ≤ 999) (h3 : 0 ≤ a) (h4 : a ≤ 999) (h5 : 1 ≤ w) (h6 : w ≤ 90) : 0 ≤ r + sp_wi (a - r) (-w) w ∧ r + sp_wi (a - r) (-w) w ≤ 999 := by
  unfold sp_wi
  by_cases h : a - r < -w
  · rw [if_pos h]; exact i_rg1 h1 h2 h3 h4 h5 h6 h
  · rw [if_neg h]
    by_cases h' : w < a - r
    · rw [if_pos h']; exact i_rg2 h1 h2 h3 h4 h5 h6 h'
    · rw [if_neg h', i_rg3]; exact ⟨h3, h4⟩
theorem sp_aim_r {C : Nat → Nat → Int32} {T : Nat → Int32} {n : Nat} {late sh ah : Int32} {t : Nat} {r : Int32} : 0 ≤ sp_aim C T n late sh ah t r ∧ sp_aim C T n late sh ah t r ≤ 999 := by
  unfold sp_aim sp_told
  split
  · exact i_w9
  · exact i_w9
theorem sp_rg_r {C : Nat → Nat → Int32} {T : Nat → Int32} {n : Nat} {late sh ah : Int32} (G : x_G C) (h2 : 1 ≤ T 2 ∧ T 2 ≤ 90) : ∀ t, 0 ≤ sp_rg C T n late sh ah t ∧ sp_rg C T n late sh ah t ≤ 999
  | 0 => by unfold sp_rg sp_ri; exact sp_tn_r G _
  | t + 1 => by
    have := sp_rg_r (n := n) (late := late) (sh := sh) (ah := ah) G h2 t
    unfold sp_rg
    exact i_rg this.1 this.2 sp_aim_r.1 sp_aim_r.2 h2.1 h2.2
theorem m_all {C : Nat → Nat → Int32} {σ : xS} {v : Int32} (B : x_B C σ) : x_ens (f_Mo_all_60 v σ) (fun q => x_an x_k1 (A_all C (σ.1 36) v) q.1 q.2 ∧ x_B C q.2) := by
  unfold f_Mo_all_60 A_all
  dsimp only
  rw [e_Mo_isWhat x_60]
  dsimp only [Option.bind_some]
  by_cases h : 0 ≤ v ∧ v ≤ 6
  · simp only [if_pos h]
    rw [if_neg (by decide)]
    have B1 := B.t0 (v := 0)
    have G := B.1
    have hb := G.2.1.2
    obtain ⟨S1, R1⟩ := B1.S
    have e36 : (x_pI σ 60 0 0).1 36 = σ.1 36 := y_pI_ne (by omega)
    rw [e36] at S1 R1
    refine x_ens.bf (e_Mo_goesThrough G B1.2.2.1 S1 R1 B1.2.2.2.2.2.1.1 B1.2.2.2.2.2.1.2.1 B1.2.2.2.2.2.1.2.2 (by decide) (by decide)) (fun q e => fr_Mo_goesThrough_60 e) ?_
    intro q1 h1 f1
    have B2 := B1.fr f1 rfl
    have M2 := B2.2.2.1
    have S2 := S1.fr f1 rfl rfl
    have k0 : q1.2.1 60 0 = 0 := (f1.ck 60 0 rfl).trans x_60
    have of : ∀ t, t < sp_la C + 1 → q1.2.1 86 t = sp_of C (σ.1 36) (sp_nk C) 0 0 0 t := fun t ht => (h1 t (by omega)).2.2
    have rg : ∀ t, t < sp_la C + 1 → q1.2.1 85 t = sp_rg C (σ.1 36) (sp_nk C) 0 0 0 t := fun t ht => (h1 t (by omega)).2.1
    rw [e_Mo_sharpMany G M2, e_Mo_mostOff G M2, e_Mo_longestSoft G M2, e_Mo_firstSoft G M2, e_Mo_swings G M2, S2.1.1, sp_fo_cnt of, sp_fo_mo of, sp_fo_ls of, sp_ff_congr (fun j hj => of j (by omega)), ← sp_sw_eq (fun i hi => (of i hi).symm)]
    dsimp only [Option.bind_some]
    by_cases v0 : v = 0
    · simp only [if_pos v0]; exact x_ens.so ⟨⟨k0, rfl⟩, B2⟩
    simp only [if_neg v0]
    by_cases v1 : v = 1
    · simp only [if_pos v1]; exact x_ens.so ⟨⟨k0, rfl⟩, B2⟩
    simp only [if_neg v1]
    by_cases v2 : v = 2
    · simp only [if_pos v2]; exact x_ens.so ⟨⟨k0, rfl⟩, B2⟩
    simp only [if_neg v2]
    by_cases v3 : v = 3
    · simp only [if_pos v3]; exact x_ens.so ⟨⟨k0, rfl⟩, B2⟩
    simp only [if_neg v3]
    by_cases v4 : v = 4
    · simp only [if_pos v4]; exact x_ens.so ⟨⟨k0, rfl⟩, B2⟩
    simp only [if_neg v4]
    by_cases v5 : v = 5
    · simp only [if_pos v5]
      refine x_ens.bi (P := fun b => b.1 = sp_fo (fun i c => c + sp_shn C (σ.1 36) 0 (sp_of C (σ.1 36) (sp_nk C) 0 0 0) i) 0 0 (sp_la C + 1) ∧ x_fr [(82, 99999), (83, 99999)] q1.2 b.2.2) ?_ (fun b hb => x_ens.so ⟨⟨(hb.2.ck 60 0 rfl).trans k0, hb.1⟩, B2.fr hb.2 rfl⟩)
      refine x_iv.go (fun i a => a.1 = sp_fo (fun i c => c + sp_shn C (σ.1 36) 0 (sp_of C (σ.1 36) (sp_nk C) 0 0 0) i) 0 0 i ∧ a.2.1 = Int32.ofNat i ∧ x_fr [(82, 99999), (83, 99999)] q1.2 a.2.2) (sp_la C + 1) (by omega) ⟨rfl, rfl, x_fr.rf⟩ ?_
      rintro i ⟨c, u, τ⟩ hi ⟨h3, h4, f3⟩
      dsimp only at h3 h4 f3
      subst h3 h4
      unfold f_Mo_all_60_L74
      dsimp only
      have B3 := B2.fr f3 rfl
      rw [G.last B3.2.2.1]
      dsimp only [Option.bind_some]
      by_cases hx : sp_la C < i
      · rw [if_pos (by rw [i_lt (by omega) (by omega)]; omega)]
        have : i = sp_la C + 1 := by omega
        subst this
        exact x_iv.l ⟨rfl, f3⟩
      · rw [if_neg (by rw [i_lt (by omega) (by omega)]; omega), if_pos v5]
        refine x_ens.bf (e_Mo_isShown (i := i) G B3.2.2.1 (S2.fr f3 rfl rfl) R1 B3.2.2.2.2.2.1.1 (by decide) (by decide) (by omega)) (fun q e => fr_Mo_isShown_60 e) ?_
        intro q hq f4
        rw [f3.ce 86 rfl, sp_shn_c rfl rfl (of i (by omega))] at hq
        have e : sp_fo (fun i c => c + sp_shn C (σ.1 36) 0 (sp_of C (σ.1 36) (sp_nk C) 0 0 0) i) 0 0 (i + 1) = sp_fo (fun i c => c + sp_shn C (σ.1 36) 0 (sp_of C (σ.1 36) (sp_nk C) 0 0 0) i) 0 0 i + sp_shn C (σ.1 36) 0 (sp_of C (σ.1 36) (sp_nk C) 0 0 0) i := by rw [sp_fo]; rw [Nat.zero_add]
        rcases @sp_shn_b C (σ.1 36) 0 (sp_of C (σ.1 36) (sp_nk C) 0 0 0) i with h | h
        · rw [h] at hq e
          rw [if_pos hq]
          exact x_iv.r (by omega) ⟨e.symm, i_s, x_fr.trans f3 (x_fr.su f4 rfl)⟩
        · rw [h] at hq e
          rw [if_neg (by rw [hq]; decide)]
          exact x_iv.r (by omega) ⟨e.symm, i_s, x_fr.trans f3 (x_fr.su f4 rfl)⟩
    simp only [if_neg v5]
    refine x_ens.bi (P := fun b => b.1 = sp_fo (fun i => wst_tu (sp_rg C (σ.1 36) (sp_nk C) 0 0 0) (i + 1)) 0 0 (sp_la C) ∧ b.2.2 = q1.2) ?_ (fun b hb => x_ens.so ⟨⟨by rw [hb.2]; exact k0, hb.1⟩, by rw [hb.2]; exact B2⟩)
    refine x_iv.go (fun i a => a.1 = sp_fo (fun i => wst_tu (sp_rg C (σ.1 36) (sp_nk C) 0 0 0) (i + 1)) 0 0 (i - 1) ∧ a.2 = (Int32.ofNat i, q1.2)) (sp_la C + 1) (by omega) ⟨rfl, rfl⟩ ?_
    rintro i ⟨c, u, τ⟩ hi ⟨h3, h4⟩
    dsimp only at h3 h4
    cases h4
    subst h3
    unfold f_Mo_all_60_L74
    dsimp only
    rw [G.last M2]
    dsimp only [Option.bind_some]
    by_cases hx : sp_la C < i
    · rw [if_pos (by rw [i_lt (by omega) (by omega)]; omega)]
      have : i = sp_la C + 1 := by omega
      subst this
      exact x_iv.l ⟨rfl, rfl⟩
    · rw [if_neg (by rw [i_lt (by omega) (by omega)]; omega), if_neg v5]
      by_cases i0 : i = 0
      · subst i0
        rw [if_pos i_z, i_a0]
        exact x_iv.r (by omega) ⟨rfl, by rw [i_s]⟩
      · obtain ⟨j, rfl⟩ : ∃ j, i = j + 1 := ⟨i - 1, by omega⟩
        rw [if_neg (by rw [← i_z, i_ej (by omega) (by omega)]; omega), i_m1', i_cl (by omega), i_cl (by omega)]
        refine x_ens.gr (by rintro (h | h) <;> first | exact i_ge (by omega) h | omega | (rw [i_cl (by omega)] at h; omega)) ?_
        refine x_ens.gr (by rintro (h | h) <;> first | exact i_ge (by omega) h | omega | (rw [i_cl (by omega)] at h; omega)) ?_
        rw [e_Mo_off, rg _ (by omega), rg _ (by omega)]
        dsimp only [Option.bind_some]
        have r1 := sp_rg_r (n := sp_nk C) (late := 0) (sh := 0) (ah := 0) G R1.2.2.1
        rw [i_abs (r1 _).1 (r1 _).2 (r1 _).1 (r1 _).2]
        refine x_iv.r (by omega) ⟨?_, by rw [i_s]⟩
        show _ = sp_fo (fun i => wst_tu (sp_rg C (σ.1 36) (sp_nk C) 0 0 0) (i + 1)) 0 0 (j + 1)
        rw [sp_fo]; rw [Nat.zero_add]; rfl
  · simp only [if_neg h]
    rw [if_pos trivial, x_pI_pI]
    exact x_ens.so ⟨x_60, B.t0⟩
theorem o_all (v : Int32) : x_OP (w_all v) (f_Mo_all_60 v) := by
  refine x_OPq (f := f_RH_all_0 v) (κ := x_k1) (A := fun C g => A_all C (g 36) v) (fun C σ B F => c_all B F) (fun σ q e => fr_RH_all_0 e) rfl (fun C g g' h _ _ _ => by rw [h 36 (by simp)]) (fun C σ B => m_all B) (fun σ q e => fr_Mo_all_60 e) rfl ?_ ?_
  · intro σ u τ e; unfold w_all; rw [e]; rfl
  · intro C σ B k τ e hk
    have : k = 2 := by
      unfold A_all at hk
      split at hk
      · cases hk
      · cases hk; rfl
    subst this
    unfold w_all; rw [e]; exact ⟨rfl, by decide⟩
