theorem sp_SH_c {C : Nat → Nat → Int32} {T T' : Nat → Int32} {n : Nat} {late sh ah : Int32} (h : ∀ k, k < 12 → T k = T' k) (hn : n ≤ 6) : sp_SH C T n late sh ah = sp_SH C T' n late sh ah := by
  unfold sp_SH
  rw [h 0 (by omega)]
  exact sp_fo_cnt (fun t _ => sp_of_c (h 1 (by omega)) (h 2 (by omega)) (h 3 (by omega)) (h 4 (by omega)) (h 5 (by omega)) (fun i hi => h (6 + i) (by omega)) t)
theorem sp_SH_0 {C : Nat → Nat → Int32} {T : Nat → Int32} {n : Nat} {late sh ah : Int32} (G : x_G C) : 0 ≤ sp_SH C T n late sh ah := by
  obtain ⟨k, h1, h2⟩ := @sp_cnt_n (sp_of C T n late sh ah) (T 0) (sp_la C + 1) (by have := G.2.1.2; omega)
  unfold sp_SH
  rw [h2]; exact i_0k (by have := G.2.1.2; omega)
abbrev x_WC : List (Nat × Nat) := [(0, 9), (17, 99999), (18, 99999), (49, 99999), (50, 99999), (51, 99999), (52, 99999), (53, 99999), (54, 99999)]
abbrev x_WM : List (Nat × Nat) := [(60, 59), (60, 60), (60, 64), (79, 99999), (82, 99999), (83, 99999), (84, 99999), (85, 99999), (86, 99999)]
abbrev x_W8 : List (Nat × Nat) := [(82, 99999), (83, 99999), (84, 99999), (85, 99999), (86, 99999)]
theorem c_take {C : Nat → Nat → Int32} {σ : xS} (G : x_G C) (K : y_K C σ) : ∃ τ, f_RH_takeSettings_0 σ = some ((), τ) ∧ y_K C τ ∧ (∀ k, k < 12 → τ.1 50 k = σ.1 36 k) ∧ τ.1 49 1 = Int32.ofNat (sp_nk C) ∧ τ.1 49 2 = 0 ∧ τ.1 49 3 = 0 ∧ τ.1 49 4 = 0 ∧ τ.1 0 9 = 0 ∧ x_fr x_WC σ τ := by
  obtain ⟨τ, e, t1, t2, t3, t4, t5, t6, f⟩ := e_RH_take σ
  exact ⟨τ, e, K.fr f rfl, t1, t2.trans (by rw [K.1]; exact G.2.2.2.1.1), t3, t4, t5, t6, x_fr.su f rfl⟩
theorem c_as {C : Nat → Nat → Int32} {τ : xS} {T : Nat → Int32} {n : Nat} {late sh ah : Int32} (G : x_G C) (K : y_K C τ) (hn : n ≤ 6) (hT : ∀ k, k < 12 → τ.1 50 k = T k) (hok : sp_hok C T) (h1 : τ.1 49 1 = Int32.ofNat n) (h2 : τ.1 49 2 = late) (h3 : τ.1 49 3 = sh) (h4 : τ.1 49 4 = ah) :
    x_ens (f_RH_sharpAsTried_0 τ) (fun q => q.1 = sp_SH C T n late sh ah ∧ x_fr [(17, 99999), (18, 99999), (49, 5), (51, 99999), (52, 99999), (53, 99999), (54, 99999)] τ q.2) := by
  refine (e_RH_sharpAsTried G K hn (by unfold sp_hok; rw [hT 4 (by omega)]; exact hok) h1).im ?_
  rintro q ⟨h, f⟩
  refine ⟨?_, f⟩
  rw [h, h2, h3, h4, sp_SH_c hT hn]
theorem c_fol {C : Nat → Nat → Int32} {τ : xS} {T : Nat → Int32} {n : Nat} {ah : Int32} {β : Type} {k : Int32 × xS → Option β} {Q : β → Prop} (G : x_G C) (K : y_K C τ) (hn : n ≤ 6) (hT : ∀ k, k < 12 → τ.1 50 k = T k) (hok : sp_hok C T) (h5 : τ.1 49 5 = C 7 4) (h2 : τ.1 49 2 = 0) (h4 : τ.1 49 4 = ah)
    (hs : ∀ t, t ≤ sp_la C → τ.1 51 t = sp_se C T n 0 0 (Int32.ofNat t) ∧ τ.1 52 t = if sp_ck C T n 0 0 (Int32.ofNat t) then 1 else 0)
    (hk : ∀ q : Int32 × xS, q.1 = sp_SH C T n 0 0 ah → (∀ t, t < sp_la C + 1 → q.2.1 54 t = sp_of C T n 0 0 ah t) → x_fr [(17, 99999), (18, 99999), (53, 99999), (54, 99999)] τ q.2 → x_ens (k q) Q) :
    x_ens ((f_Tr_follow_49_7 τ).bind fun q7 => (f_Tr_sharpBy_49 (q7.2.1 50 0) q7.2).bind k) Q := by
  have hm : ∀ i, i < n → τ.1 50 (6 + i) = T (6 + i) := fun i hi => hT _ (by omega)
  have e1 := hT 1 (by omega)
  have e3 := hT 3 (by omega)
  have e5 := hT 5 (by omega)
  refine x_ens.bf (e_Tr_follow (n := n) (late := 0) (sh := 0) (ah := ah) G K (by unfold sp_hok; rw [hT 4 (by omega)]; exact hok) h5 h2 h4 (fun t ht => ⟨?_, ?_⟩)) (fun q e => fr_Tr_follow_49_7 e) ?_
  · rw [(hs t ht).1]; exact (sp_se_c e1 e3 e5 hm _).symm
  · rw [(hs t ht).2]
    by_cases h : sp_ck C T n 0 0 (Int32.ofNat t)
    · rw [if_pos h, if_pos ((sp_ck_c e1 e5 hm _).mpr h)]
    · rw [if_neg h, if_neg (fun x => h ((sp_ck_c e1 e5 hm _).mp x))]
  · intro q h f
    rw [e_Tr_sharpBy (G.l5 ((f.ck 49 5 rfl).trans h5)) G.2.1.2]
    dsimp only [Option.bind_some]
    have of : ∀ t, t < sp_la C + 1 → q.2.1 54 t = sp_of C T n 0 0 ah t := fun t ht => (h t (by omega)).2.trans (sp_of_c e1 (hT 2 (by omega)) e3 (hT 4 (by omega)) e5 hm t)
    refine hk _ ?_ of f
    dsimp only
    unfold sp_SH
    rw [f.ce 50 rfl, hT 0 (by omega)]
    exact sp_fo_cnt of
theorem c_look {C : Nat → Nat → Int32} {τ : xS} {T : Nat → Int32} {n : Nat} (G : x_G C) (K : y_K C τ) (hn : n ≤ 6) (hT : ∀ k, k < 12 → τ.1 50 k = T k) (h1 : τ.1 49 1 = Int32.ofNat n) (h2 : τ.1 49 2 = 0) (h3 : τ.1 49 3 = 0) :
    x_ens (f_Tr_look_49_7 τ) (fun q => q.2.1 49 5 = C 7 4 ∧ (∀ t, t ≤ sp_la C → q.2.1 51 t = sp_se C T n 0 0 (Int32.ofNat t) ∧ q.2.1 52 t = if sp_ck C T n 0 0 (Int32.ofNat t) then 1 else 0) ∧ x_fr [(49, 5), (51, 99999), (52, 99999)] τ q.2) := by
  have hm : ∀ i, i < n → τ.1 50 (6 + i) = T (6 + i) := fun i hi => hT _ (by omega)
  have e1 := hT 1 (by omega)
  have e3 := hT 3 (by omega)
  have e5 := hT 5 (by omega)
  obtain ⟨q, e, h5, h⟩ := e_Tr_look G K hn h1
  refine ⟨q, e, h5, fun t ht => ?_, fr_Tr_look_49_7 e⟩
  obtain ⟨a, b⟩ := h t ht
  rw [h2, h3] at a b
  refine ⟨a.trans (sp_se_c e1 e3 e5 hm _), b.trans ?_⟩
  by_cases h : sp_ck C T n 0 0 (Int32.ofNat t)
  · rw [if_pos h, if_pos ((sp_ck_c e1 e5 hm _).mpr h)]
  · rw [if_neg h, if_neg (fun x => h ((sp_ck_c e1 e5 hm _).mp x))]
theorem x_S.up {C : Nat → Nat → Int32} {S : Nat → Int32} {σ τ : xS} {p : Nat} {v : Int32} (A : x_S S (sp_nk C) σ) (h79 : τ.1 79 = sp_up (σ.1 79) (sp_q p) v) (h4 : τ.1 60 4 = σ.1 60 4) : x_S (sp_up S p v) (sp_nk C) τ := by
  obtain ⟨⟨a0, a1, a2, a3, a4, a5⟩, a6, a7⟩ := A
  have q : ∀ {k : Nat}, σ.1 79 (sp_q k) = S k → τ.1 79 (sp_q k) = sp_up S p v k := fun h => by rw [h79]; exact sp_up_q h
  refine ⟨⟨q (k := 0) a0, q (k := 1) a1, q (k := 2) a2, q (k := 3) a3, q (k := 5) a4, q (k := 4) a5⟩, fun i hi => ?_, h4.trans a7⟩
  have := q (k := 6 + i) (by rw [sp_q_6]; exact a6 i hi)
  rw [sp_q_6] at this
  exact this
theorem sp_up_up {T : Nat → Int32} {p : Nat} {v w : Int32} : sp_up (sp_up T p v) p w = sp_up T p w := by
  funext k; unfold sp_up; split <;> rfl
theorem sp_up_id {T : Nat → Int32} {p : Nat} : sp_up T p (T p) = T := by
  funext k; unfold sp_up; split
  · rename_i h; rw [h]
  · rfl
theorem x_pI_up {σ : xS} {p k : Nat} {v : Int32} : (x_pI σ p k v).1 p = sp_up (σ.1 p) k v := x_pI_at
theorem m_sw {C : Nat → Nat → Int32} {S : Nat → Int32} {σ : xS} {p : Nat} {v : Int32} (B : x_B C σ) (A : x_S S (sp_nk C) σ) (R : x_R C S (sp_nk C)) (hA : x_A C (Int32.ofNat p) v) (hp : p < 12) :
    x_ens (f_Mo_sharpWith_60 (Int32.ofNat (sp_q p)) v σ) (fun q => q.1 = sp_SH C (sp_up S p v) (sp_nk C) 0 0 0 ∧ x_fr x_W8 σ q.2) := by
  unfold f_Mo_sharpWith_60
  have hq := sp_q_lt hp
  have eq : (Int32.ofNat (sp_q p)).toNatClampNeg = sp_q p := i_cl (by omega)
  dsimp only
  rw [eq]
  refine x_ens.gr (by rintro (h | h) <;> first | exact i_ge (by omega) h | omega | (rw [i_cl (by omega)] at h; omega)) ?_
  refine x_ens.gr (by rintro (h | h) <;> first | exact i_ge (by omega) h | omega | (rw [i_cl (by omega)] at h; omega)) ?_
  have f1 : x_fr [(79, 99999)] σ (x_pI σ 79 (sp_q p) v) := x_frI (p := 79) rfl x_fr.rf
  refine x_ens.bf (e_Mo_takesSharp (T := sp_up S p v) (n := sp_nk C) (late := 0) (sh := 0) (ah := 0) B.1 (B.2.2.1.fr f1 rfl rfl rfl rfl rfl rfl rfl) (A.up (p := p) (v := v) x_pI_up rfl) (R.up hA hp) B.2.2.2.2.2.1.1 B.2.2.2.2.2.1.2.1 B.2.2.2.2.2.1.2.2 (by decide) (by decide)) (fun q e => fr_Mo_takesSharp_60 e) ?_
  rintro q3 ⟨h1, -, -⟩ f3
  refine x_ens.gr (by rintro (h | h) <;> first | exact i_ge (by omega) h | omega | (rw [i_cl (by omega)] at h; omega)) ?_
  refine x_ens.so ⟨h1, ?_, ?_⟩
  · intro a b hab
    dsimp only
    by_cases h : a = 79
    · subst h
      rw [x_pI_up, f3.ce 79 rfl, x_pI_up, sp_up_up, sp_up_id]
    · rw [y_pI_ne h, f3.1 a b hab, y_pI_ne h]
  · intro a b hab
    exact f3.2 a b hab
def wst_am (val sc : Nat → Int32) (i : Nat) (c : Int32 × Int32) : Int32 × Int32 := if sc i ≤ c.2 then c else (val i, sc i)
theorem sp_fo_1 {γ : Type} {st : Nat → γ → γ} {c : γ} {i : Nat} : sp_fo st 0 c (i + 1) = st i (sp_fo st 0 c i) := by rw [sp_fo]; rw [Nat.zero_add]
theorem i_abn {v : Int32} (h1 : -30 ≤ v) (h2 : v ≤ 30) : ∃ k : Nat, k ≤ 30 ∧ sp_abs v = Int32.ofNat k := by
  have h : 0 ≤ sp_abs v ∧ sp_abs v ≤ 30 := by unfold sp_abs; grind
  exact ⟨_, i_nat (n := 30) (by omega) h.2, (i_ex h.1).1⟩
def sp_le (v : Int32) (i : Nat) : Int32 := if 0 ≤ v then v - Int32.ofNat i else v + Int32.ofNat i
theorem sp_le_r {v : Int32} {i : Nat} (h1 : -30 ≤ v) (h2 : v ≤ 30) (hi : i ≤ (sp_abs v).toNatClampNeg) : -30 ≤ sp_le v i ∧ sp_le v i ≤ 30 := by
  obtain ⟨k, hk, e⟩ := i_abn h1 h2
  rw [e, i_cl (by omega)] at hi
  have h3 : 0 ≤ Int32.ofNat i := i_0k (by omega)
  have h4 : Int32.ofNat i ≤ sp_abs v := by rw [e]; exact (i_le (by omega) (by omega)).mpr hi
  unfold sp_le
  unfold sp_abs at h4
  grind
def A_learn (C : Nat → Nat → Int32) (S : Nat → Int32) : Int32 := (sp_fo (wst_am Int32.ofNat (fun i => sp_SH C (sp_up S 3 (sp_le (S 3) i)) (sp_nk C) 0 0 0)) 0 (0, -1) ((sp_abs (S 3)).toNatClampNeg + 1)).1
theorem c_learn {C : Nat → Nat → Int32} {σ : xS} (B : x_B C σ) (F : y_F C σ) : x_ens (f_RH_learn_0 σ) (fun q => q.1 = A_learn C (σ.1 36) ∧ y_F C q.2) := by
  unfold f_RH_learn_0 A_learn
  dsimp only
  have G := B.1
  have R := B.S.2
  have r3 := R.2.2.2.1
  obtain ⟨l, hl, el⟩ := i_abn r3.1 r3.2
  have hl2 : (sp_abs (σ.1 36 3)).toNatClampNeg = l := by rw [el]; exact i_cl (by omega)
  rw [hl2]
  refine x_ens.bi (P := fun b => (b.1, b.2.1) = sp_fo (wst_am Int32.ofNat (fun i => sp_SH C (sp_up (σ.1 36) 3 (sp_le (σ.1 36 3) i)) (sp_nk C) 0 0 0)) 0 (0, -1) (l + 1) ∧ y_F C b.2.2.2) ?_ (fun b hb => x_ens.so ⟨congrArg Prod.fst hb.1, hb.2⟩)
  refine x_iv.go (fun i a => (a.1, a.2.1) = sp_fo (wst_am Int32.ofNat (fun i => sp_SH C (sp_up (σ.1 36) 3 (sp_le (σ.1 36 3) i)) (sp_nk C) 0 0 0)) 0 (0, -1) i ∧ a.2.2.1 = Int32.ofNat i ∧ y_F C a.2.2.2 ∧ x_fr x_WC σ a.2.2.2) (l + 1) (by omega) ⟨rfl, rfl, F, x_fr.rf⟩ ?_
  rintro i ⟨c1, c2, u, τ⟩ hi ⟨h1, h2, h3, f1⟩
  dsimp only at h1 h2 h3 f1
  subst h2
  unfold f_RH_learn_0_L17
  dsimp only
  rw [show (if 0 ≤ σ.1 36 3 then σ.1 36 3 else 0 - σ.1 36 3) = sp_abs (σ.1 36 3) from rfl, el]
  by_cases hx : l < i
  · rw [if_pos ((i_lt (by omega) (by omega)).mpr hx)]
    have : i = l + 1 := by omega
    subst this
    exact x_iv.l ⟨h1, h3⟩
  · rw [if_neg (fun x => hx ((i_lt (by omega) (by omega)).mp x))]
    have K1 := B.2.1.fr f1 rfl
    obtain ⟨υ, e, K2, t1, t2, t3, t4, t5, t6, f2⟩ := c_take G K1
    rw [e]
    dsimp only [Option.bind_some]
    have key : x_ens (f_RH_learn_0_J53 (σ.1 36 3) c1 c2 (Int32.ofNat i) 3 (sp_le (σ.1 36 3) i) υ) (x_iv (fun i a => (a.1, a.2.1) = sp_fo (wst_am Int32.ofNat (fun i => sp_SH C (sp_up (σ.1 36) 3 (sp_le (σ.1 36 3) i)) (sp_nk C) 0 0 0)) 0 (0, -1) i ∧ a.2.2.1 = Int32.ofNat i ∧ y_F C a.2.2.2 ∧ x_fr x_WC σ a.2.2.2) (l + 1) (fun b => (b.1, b.2.1) = sp_fo (wst_am Int32.ofNat (fun i => sp_SH C (sp_up (σ.1 36) 3 (sp_le (σ.1 36 3) i)) (sp_nk C) 0 0 0)) 0 (0, -1) (l + 1) ∧ y_F C b.2.2.2) i) := by
      unfold f_RH_learn_0_J53
      refine x_ens.gr (by decide) ?_
      have f3 : x_fr x_WC σ (x_pI υ 50 3 (sp_le (σ.1 36 3) i)) := x_frI (p := 50) rfl (x_fr.trans f1 f2)
      refine x_ens.bi (c_as (T := sp_up (σ.1 36) 3 (sp_le (σ.1 36 3) i)) (n := sp_nk C) (late := 0) (sh := 0) (ah := 0) G (B.2.1.fr f3 rfl) R.2.2.2.2.2.2.1 ?_ ?_ t2 t3 t4 t5) ?_
      · intro k hk
        show (x_pI υ 50 3 _).1 50 k = _
        rw [x_pI_up]
        by_cases h : k = 3
        · subst h; rw [sp_up_eq, sp_up_eq]
        · rw [sp_up_ne h, sp_up_ne h, t1 k hk, f1.ce 36 rfl]
      · exact R.2.2.2.2.2.1
      · rintro q ⟨hq, f4⟩
        have hs : sp_fo (wst_am Int32.ofNat (fun i => sp_SH C (sp_up (σ.1 36) 3 (sp_le (σ.1 36 3) i)) (sp_nk C) 0 0 0)) 0 (0, -1) (i + 1) = if q.1 ≤ c2 then (c1, c2) else (Int32.ofNat i, q.1) := by
          rw [sp_fo_1, ← h1, hq]; rfl
        have F4 : y_F C q.2 := Or.inl (by rw [f4.ck 0 9 rfl]; exact t6)
        have f5 : x_fr x_WC σ q.2 := x_fr.trans f3 (x_fr.su f4 rfl)
        by_cases hc : q.1 ≤ c2
        · rw [if_pos hc] at hs ⊢
          exact x_iv.r (by omega) ⟨hs.symm, i_s, F4, f5⟩
        · rw [if_neg hc] at hs ⊢
          exact x_iv.r (by omega) ⟨hs.symm, i_s, F4, f5⟩
    by_cases h0 : 0 ≤ σ.1 36 3
    · rw [if_pos h0, show σ.1 36 3 - Int32.ofNat i = sp_le (σ.1 36 3) i from (if_pos h0).symm]; exact key
    · rw [if_neg h0, show σ.1 36 3 + Int32.ofNat i = sp_le (σ.1 36 3) i from (if_neg h0).symm]; exact key
theorem i_le0 {v : Int32} {i : Nat} (h1 : -30 ≤ v) (h2 : v ≤ 30) (hi : i ≤ (sp_abs v).toNatClampNeg) : (if v ≤ 0 then v + Int32.ofNat i else v - Int32.ofNat i) = sp_le v i := by
  unfold sp_le
  by_cases h : v = 0
  · subst h
    have : i = 0 := by
      have e : (sp_abs 0).toNatClampNeg = 0 := by decide
      rw [e] at hi; omega
    subst this; decide
  · by_cases h3 : 0 ≤ v
    · rw [if_pos h3, if_neg (by grind)]
    · rw [if_neg h3, if_pos (by grind)]
theorem m_learn {C : Nat → Nat → Int32} {σ : xS} (B : x_B C σ) : x_ens (f_Mo_learn_60 σ) (fun q => q.1 = A_learn C (σ.1 36) ∧ x_B C q.2) := by
  unfold f_Mo_learn_60 A_learn
  dsimp only
  obtain ⟨B1, S1, R1⟩ := B.m0
  have r3 := R1.2.2.2.1
  rw [S1.1.2.2.2.1]
  obtain ⟨l, hl, el⟩ := i_abn r3.1 r3.2
  have hl2 : (sp_abs (σ.1 36 3)).toNatClampNeg = l := by rw [el]; exact i_cl (by omega)
  rw [hl2]
  refine x_ens.bi (P := fun b => (b.1, b.2.1) = sp_fo (wst_am Int32.ofNat (fun i => sp_SH C (sp_up (σ.1 36) 3 (sp_le (σ.1 36 3) i)) (sp_nk C) 0 0 0)) 0 (0, -1) (l + 1) ∧ x_B C b.2.2.2) ?_ (fun b hb => x_ens.so ⟨congrArg Prod.fst hb.1, hb.2⟩)
  refine x_iv.go (fun i a => (a.1, a.2.1) = sp_fo (wst_am Int32.ofNat (fun i => sp_SH C (sp_up (σ.1 36) 3 (sp_le (σ.1 36 3) i)) (sp_nk C) 0 0 0)) 0 (0, -1) i ∧ a.2.2.1 = Int32.ofNat i ∧ x_fr x_W8 (x_pI σ 60 0 0) a.2.2.2) (l + 1) (by omega) ⟨rfl, rfl, x_fr.rf⟩ ?_
  rintro i ⟨c1, c2, u, τ⟩ hi ⟨h1, h2, f1⟩
  dsimp only at h1 h2 f1
  subst h2
  unfold f_Mo_learn_60_L19
  dsimp only
  rw [e_off0, el]
  dsimp only [Option.bind_some]
  have B2 := B1.fr f1 rfl
  by_cases hx : l < i
  · rw [if_pos ((i_lt (by omega) (by omega)).mpr hx)]
    have : i = l + 1 := by omega
    subst this
    exact x_iv.l ⟨h1, B2⟩
  · rw [if_neg (fun x => hx ((i_lt (by omega) (by omega)).mp x))]
    have key : x_ens (f_Mo_learn_60_J46 (σ.1 36 3) c1 c2 (Int32.ofNat i) 3 (sp_le (σ.1 36 3) i) τ) (x_iv (fun i a => (a.1, a.2.1) = sp_fo (wst_am Int32.ofNat (fun i => sp_SH C (sp_up (σ.1 36) 3 (sp_le (σ.1 36 3) i)) (sp_nk C) 0 0 0)) 0 (0, -1) i ∧ a.2.2.1 = Int32.ofNat i ∧ x_fr x_W8 (x_pI σ 60 0 0) a.2.2.2) (l + 1) (fun b => (b.1, b.2.1) = sp_fo (wst_am Int32.ofNat (fun i => sp_SH C (sp_up (σ.1 36) 3 (sp_le (σ.1 36 3) i)) (sp_nk C) 0 0 0)) 0 (0, -1) (l + 1) ∧ x_B C b.2.2.2) i) := by
      unfold f_Mo_learn_60_J46
      refine x_ens.bi (m_sw (S := σ.1 36) (p := 3) (v := sp_le (σ.1 36 3) i) B2 (S1.fr f1 rfl rfl) R1 (Or.inr (Or.inr (Or.inr (Or.inl ⟨rfl, sp_le_r r3.1 r3.2 (by omega)⟩)))) (by omega)) ?_
      rintro q ⟨hq, f4⟩
      have hs : sp_fo (wst_am Int32.ofNat (fun i => sp_SH C (sp_up (σ.1 36) 3 (sp_le (σ.1 36 3) i)) (sp_nk C) 0 0 0)) 0 (0, -1) (i + 1) = if q.1 ≤ c2 then (c1, c2) else (Int32.ofNat i, q.1) := by
        rw [sp_fo_1, ← h1, hq]; rfl
      by_cases hc : q.1 ≤ c2
      · rw [if_pos hc] at hs
        dsimp only
        rw [if_neg (i_nl.mpr hc)]
        exact x_iv.r (by omega) ⟨hs.symm, i_s, x_fr.trans f1 f4⟩
      · rw [if_neg hc] at hs
        dsimp only
        rw [if_pos (i_nle.mp hc)]
        exact x_iv.r (by omega) ⟨hs.symm, i_s, x_fr.trans f1 f4⟩
    rw [← i_le0 r3.1 r3.2 (show i ≤ (sp_abs (σ.1 36 3)).toNatClampNeg by omega)] at key
    by_cases h0 : σ.1 36 3 ≤ 0
    · rw [if_pos h0] at key ⊢; exact key
    · rw [if_neg h0] at key ⊢; exact key
theorem o_learn : x_OS f_RH_learn_0 f_Mo_learn_60 := by
  refine x_OSq (A := fun C g => A_learn C (g 36)) (fun C σ B F => c_learn B F) (fun σ q e => fr_RH_learn_0 e) rfl (fun C g g' h => by rw [h 36 (by simp)]) (fun C σ B => m_learn B) (fun σ q e => fr_Mo_learn_60 e) rfl
