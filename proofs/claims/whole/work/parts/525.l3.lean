theorem x_scI {γ α β : Type} {body : α → Option (β ⊕ α)} (en : Nat → γ → xS → α) (st : Nat → γ → γ) (Inv : Nat → γ → xS → Prop) {Q : β → Prop} (N : Nat) {n : Nat} {c0 : γ} {τ0 : xS} (hN : N < n) (h0 : Inv 0 c0 τ0)
    (h : ∀ i c τ, i < N → Inv i c τ → x_ens (body (en i c τ)) (fun o => ∃ τ', Inv (i + 1) (st i c) τ' ∧ o = .inr (en (i + 1) (st i c) τ')))
    (h' : ∀ c τ, c = sp_fo st 0 c0 N → Inv N c τ → x_ens (body (en N c τ)) (fun o => ∃ b, o = .inl b ∧ Q b)) : x_ens (x_it body n (en 0 c0 τ0)) Q := by
  refine x_iv.go (fun i a => ∃ τ, Inv i (sp_fo st 0 c0 i) τ ∧ a = en i (sp_fo st 0 c0 i) τ) N hN ⟨τ0, h0, rfl⟩ ?_
  rintro i a hi ⟨τ, h1, rfl⟩
  by_cases hx : i = N
  · subst hx
    obtain ⟨o, e, b, rfl, hb⟩ := h' _ τ rfl h1
    rw [e]
    exact x_iv.l hb
  · obtain ⟨o, e, τ', h2, rfl⟩ := h i _ τ (by omega) h1
    rw [e]
    refine x_iv.r (by omega) ⟨τ', ?_, ?_⟩
    · rw [sp_fo_1]; exact h2
    · rw [sp_fo_1]
theorem x_am1 {β : Type} {val sc : Nat → Int32} {i : Nat} {c1 c2 u q w : Int32} {τ : xS} {Inv : xS → Prop} (hu : u = val i) (hq : q = sc i) (hi : Inv τ) : x_ens (if q ≤ c2 then some (Sum.inr (c1, c2, w, τ)) else some (Sum.inr (u, q, w, τ)) : Option (β ⊕ (Int32 × Int32 × Int32 × xS))) (fun o => ∃ τ', Inv τ' ∧ o = .inr ((wst_am val sc i (c1, c2)).1, (wst_am val sc i (c1, c2)).2, w, τ')) := by
  subst hu hq
  unfold wst_am
  dsimp only
  by_cases h : sc i ≤ c2
  · rw [if_pos h, if_pos h]; exact x_ens.so ⟨τ, hi, rfl⟩
  · rw [if_neg h, if_neg h]; exact x_ens.so ⟨τ, hi, rfl⟩
theorem x_am2 {β : Type} {val sc : Nat → Int32} {i : Nat} {c1 c2 u q w : Int32} {τ : xS} {Inv : xS → Prop} (hu : u = val i) (hq : q = sc i) (hi : Inv τ) : x_ens (if c2 < q then some (Sum.inr (u, q, w, τ)) else some (Sum.inr (c1, c2, w, τ)) : Option (β ⊕ (Int32 × Int32 × Int32 × xS))) (fun o => ∃ τ', Inv τ' ∧ o = .inr ((wst_am val sc i (c1, c2)).1, (wst_am val sc i (c1, c2)).2, w, τ')) := by
  subst hu hq
  unfold wst_am
  dsimp only
  by_cases h : sc i ≤ c2
  · rw [if_pos h, if_neg (i_nl.mpr h)]; exact x_ens.so ⟨τ, hi, rfl⟩
  · rw [if_neg h, if_pos (i_nle.mp h)]; exact x_ens.so ⟨τ, hi, rfl⟩
theorem sp_fo_i {γ : Type} {st : Nat → γ → γ} {c d : γ} {N : Nat} (h : st 0 c = st 0 d) (hN : 0 < N) : sp_fo st 0 c N = sp_fo st 0 d N := by
  obtain ⟨k, rfl⟩ : ∃ k, N = k + 1 := ⟨N - 1, by omega⟩
  rw [← sp_fo_s, ← sp_fo_s, h]
def x_Lk (C : Nat → Nat → Int32) (S : Nat → Int32) (τ : xS) : Prop := y_K C τ ∧ τ.1 49 5 = C 7 4 ∧ τ.1 49 2 = 0 ∧ (∀ t, t ≤ sp_la C → τ.1 51 t = sp_se C S (sp_nk C) 0 0 (Int32.ofNat t) ∧ τ.1 52 t = if sp_ck C S (sp_nk C) 0 0 (Int32.ofNat t) then 1 else 0) ∧ τ.1 0 9 = 0
theorem x_Lk.fr {C : Nat → Nat → Int32} {S : Nat → Int32} {τ υ : xS} (L : x_Lk C S τ) (f : x_fr [(17, 99999), (18, 99999), (49, 4), (50, 99999), (53, 99999), (54, 99999)] τ υ) : x_Lk C S υ := by
  obtain ⟨a, b, c, d, e⟩ := L
  refine ⟨a.fr f rfl, (f.ck 49 5 rfl).trans b, (f.ck 49 2 rfl).trans c, ?_, (f.ck 0 9 rfl).trans e⟩
  rw [f.ce 51 rfl, f.ce 52 rfl]; exact d
theorem c_lk {C : Nat → Nat → Int32} {σ : xS} {β : Type} {k : Unit × xS → Option β} {Q : β → Prop} (B : x_B C σ) (hk : ∀ q : Unit × xS, x_Lk C (σ.1 36) q.2 → (∀ k, k < 12 → q.2.1 50 k = σ.1 36 k) → q.2.1 49 4 = 0 → x_ens (k q) Q) : x_ens ((f_RH_takeSettings_0 σ).bind fun q => (f_Tr_look_49_7 q.2).bind k) Q := by
  have G := B.1
  have hn := B.S.2.2.2.2.2.2.2.1
  obtain ⟨υ, e, K2, t1, t2, t3, t4, t5, t6, f2⟩ := c_take G B.2.1
  rw [e]
  dsimp only [Option.bind_some]
  refine x_ens.bi (c_look G K2 hn t1 t2 t3 t4) ?_
  rintro q ⟨h1, h2, f3⟩
  refine hk q ⟨K2.fr f3 rfl, h1, (f3.ck 49 2 rfl).trans t3, h2, (f3.ck 0 9 rfl).trans t6⟩ ?_ ((f3.ck 49 4 rfl).trans t5)
  rw [f3.ce 50 rfl]; exact t1
theorem c_tp {C : Nat → Nat → Int32} {S : Nat → Int32} {τ : xS} {p : Nat} {v : Int32} {β : Type} {k : Int32 × xS → Option β} {Q : β → Prop} (G : x_G C) (R : x_R C S (sp_nk C)) (hp : p = 2 ∨ p = 4) (hA : x_A C (Int32.ofNat p) v) (L : x_Lk C S τ) (h50 : ∀ k, k < 12 → k ≠ p → τ.1 50 k = S k) (h4 : τ.1 49 4 = 0)
    (hk : ∀ q : Int32 × xS, q.1 = sp_SH C (sp_up S p v) (sp_nk C) 0 0 0 → (∀ t, t < sp_la C + 1 → q.2.1 54 t = sp_of C (sp_up S p v) (sp_nk C) 0 0 0 t) → x_Lk C S q.2 → (∀ k, k < 12 → k ≠ p → q.2.1 50 k = S k) → q.2.1 49 4 = 0 → x_ens (k q) Q) :
    x_ens ((f_Tr_follow_49_7 (x_pI τ 50 p v)).bind fun q7 => (f_Tr_sharpBy_49 (q7.2.1 50 0) q7.2).bind k) Q := by
  have f1 : x_fr [(17, 99999), (18, 99999), (49, 4), (50, 99999), (53, 99999), (54, 99999)] τ (x_pI τ 50 p v) := x_frI (p := 50) rfl x_fr.rf
  have L1 := L.fr f1
  have hp12 : p < 12 := by omega
  have hm : ∀ i, i < sp_nk C → S (6 + i) = sp_up S p v (6 + i) := fun i hi => (sp_up_ne (by omega)).symm
  refine c_fol (T := sp_up S p v) (n := sp_nk C) (ah := 0) G L1.1 R.2.2.2.2.2.2.1 ?_ (R.up hA hp12).2.2.2.2.2.1 L1.2.1 L1.2.2.1 ?_ ?_ ?_
  · intro k hk
    rw [x_pI_up]
    by_cases h : k = p
    · subst h; rw [sp_up_eq, sp_up_eq]
    · rw [sp_up_ne h, sp_up_ne h]; exact h50 k hk h
  · rw [y_pI_ne (by omega)]; exact h4
  · intro t ht
    have e1 : S 1 = sp_up S p v 1 := (sp_up_ne (by omega)).symm
    have e3 : S 3 = sp_up S p v 3 := (sp_up_ne (by omega)).symm
    have e5 : S 5 = sp_up S p v 5 := (sp_up_ne (by omega)).symm
    obtain ⟨a, b⟩ := L1.2.2.2.1 t ht
    refine ⟨a.trans (sp_se_c e1 e3 e5 hm _), b.trans ?_⟩
    by_cases h : sp_ck C S (sp_nk C) 0 0 (Int32.ofNat t)
    · rw [if_pos h, if_pos ((sp_ck_c e1 e5 hm _).mp h)]
    · rw [if_neg h, if_neg (fun x => h ((sp_ck_c e1 e5 hm _).mpr x))]
  · intro q q1 q2 f2
    refine hk q q1 q2 (L1.fr (x_fr.su f2 rfl)) ?_ ?_
    · intro k hk h
      rw [f2.ce 50 rfl, x_pI_up, sp_up_ne h]; exact h50 k hk h
    · rw [f2.ck 49 4 rfl, y_pI_ne (by omega)]; exact h4
theorem c_ta {C : Nat → Nat → Int32} {S : Nat → Int32} {τ : xS} {w : Int32} {β : Type} {k : Int32 × xS → Option β} {Q : β → Prop} (G : x_G C) (R : x_R C S (sp_nk C)) (L : x_Lk C S τ) (h50 : ∀ k, k < 12 → τ.1 50 k = S k)
    (hk : ∀ q : Int32 × xS, q.1 = sp_SH C S (sp_nk C) 0 0 w → x_Lk C S q.2 → (∀ k, k < 12 → q.2.1 50 k = S k) → x_ens (k q) Q) :
    x_ens ((f_Tr_follow_49_7 (x_pI τ 49 4 w)).bind fun q7 => (f_Tr_sharpBy_49 (q7.2.1 50 0) q7.2).bind k) Q := by
  have f1 : x_fr [(17, 99999), (18, 99999), (49, 4), (50, 99999), (53, 99999), (54, 99999)] τ (x_pI τ 49 4 w) := x_frI (p := 49) (k := 4) rfl x_fr.rf
  have L1 := L.fr f1
  refine c_fol (T := S) (n := sp_nk C) (ah := w) G L1.1 R.2.2.2.2.2.2.1 ?_ R.2.2.2.2.2.1 L1.2.1 L1.2.2.1 ?_ L1.2.2.2.1 ?_
  · intro k hk; rw [y_pI_ne (by omega)]; exact h50 k hk
  · rw [x_pI_at]; rfl
  · intro q q1 q2 f2
    refine hk q q1 (L1.fr (x_fr.su f2 rfl)) ?_
    intro k hk; rw [f2.ce 50 rfl, y_pI_ne (by omega)]; exact h50 k hk
def wsc_wr (C : Nat → Nat → Int32) (S : Nat → Int32) (i : Nat) : Int32 := sp_SH C (sp_up S 2 (Int32.ofNat (i + 1))) (sp_nk C) 0 0 0
def A_wrists (C : Nat → Nat → Int32) (S : Nat → Int32) : Int32 := (sp_fo (wst_am (fun i => Int32.ofNat (i + 1)) (wsc_wr C S)) 0 (1, -1) 90).1
theorem x_A2 {C : Nat → Nat → Int32} {i : Nat} (hi : i < 90) : x_A C (Int32.ofNat 2) (Int32.ofNat (i + 1)) := Or.inr (Or.inr (Or.inl ⟨rfl, (i_le (j := 1) (by omega) (by omega)).mpr (by omega), (i_le (k := 90) (by omega) (by omega)).mpr (by omega)⟩))
theorem c_wrists {C : Nat → Nat → Int32} {σ : xS} (B : x_B C σ) (F : y_F C σ) : x_ens (f_RH_wrists_0 σ) (fun q => q.1 = A_wrists C (σ.1 36) ∧ y_F C q.2) := by
  unfold f_RH_wrists_0 A_wrists
  have G := B.1
  have R := B.S.2
  refine c_lk B ?_
  intro q8 L h50 h4
  refine x_ens.bi (P := fun b => b.1 = (sp_fo (wst_am (fun i => Int32.ofNat (i + 1)) (wsc_wr C (σ.1 36))) 0 (1, -1) 90).1 ∧ y_F C b.2.2.2) ?_ (fun b hb => x_ens.so hb)
  refine x_scI (fun i (c : Int32 × Int32) τ => (c.1, c.2, Int32.ofNat (i + 1), τ)) (wst_am (fun i => Int32.ofNat (i + 1)) (wsc_wr C (σ.1 36))) (fun i c τ => x_Lk C (σ.1 36) τ ∧ (∀ k, k < 12 → k ≠ 2 → τ.1 50 k = σ.1 36 k) ∧ τ.1 49 4 = 0) 90 (c0 := (1, -1)) (by omega) ⟨L, fun k hk _ => h50 k hk, h4⟩ ?_ ?_
  · rintro i ⟨c1, c2⟩ τ hi ⟨L1, g1, g2⟩
    unfold f_RH_wrists_0_L21
    dsimp only
    rw [if_neg (show ¬ (90 : Int32) < Int32.ofNat (i + 1) from fun x => by have := (i_lt (j := 90) (by omega) (by omega)).mp x; omega)]
    refine c_tp G R (Or.inl rfl) (x_A2 hi) L1 g1 g2 ?_
    intro q hq of L2 g3 g4
    try dsimp only
    rw [i_s]
    exact x_am1 (val := fun i => Int32.ofNat (i + 1)) (sc := wsc_wr C (σ.1 36)) (Inv := fun τ => x_Lk C (σ.1 36) τ ∧ (∀ k, k < 12 → k ≠ 2 → τ.1 50 k = σ.1 36 k) ∧ τ.1 49 4 = 0) rfl hq ⟨L2, g3, g4⟩
  · rintro c τ hc ⟨L1, -, -⟩
    unfold f_RH_wrists_0_L21
    dsimp only
    rw [if_pos (show (90 : Int32) < Int32.ofNat (90 + 1) by decide)]
    exact x_ens.so ⟨_, rfl, by rw [hc], Or.inl L1.2.2.2.2⟩
theorem m_wrists {C : Nat → Nat → Int32} {σ : xS} (B : x_B C σ) : x_ens (f_Mo_wrists_60 σ) (fun q => q.1 = A_wrists C (σ.1 36) ∧ x_B C q.2) := by
  unfold f_Mo_wrists_60 A_wrists
  dsimp only
  obtain ⟨B1, S1, R1⟩ := B.m0
  have hini : wst_am (fun i => Int32.ofNat (i + 1)) (wsc_wr C (σ.1 36)) 0 (1, -1) = wst_am (fun i => Int32.ofNat (i + 1)) (wsc_wr C (σ.1 36)) 0 (0, -1) := by
    have h : ¬ wsc_wr C (σ.1 36) 0 ≤ -1 := i_nle.mpr (by have : 0 ≤ wsc_wr C (σ.1 36) 0 := sp_SH_0 B.1; grind)
    unfold wst_am
    rw [if_neg h, if_neg h]
  rw [sp_fo_i hini (by omega)]
  refine x_ens.bi (P := fun b => b.1 = (sp_fo (wst_am (fun i => Int32.ofNat (i + 1)) (wsc_wr C (σ.1 36))) 0 (0, -1) 90).1 ∧ x_B C b.2.2.2) ?_ (fun b hb => x_ens.so hb)
  refine x_scI (fun i (c : Int32 × Int32) τ => (c.1, c.2, Int32.ofNat (i + 1), τ)) (wst_am (fun i => Int32.ofNat (i + 1)) (wsc_wr C (σ.1 36))) (fun i c τ => x_fr x_W8 (x_pI σ 60 0 0) τ) 90 (c0 := (0, -1)) (by omega) x_fr.rf ?_ ?_
  · rintro i ⟨c1, c2⟩ τ hi f1
    unfold f_Mo_wrists_60_L11
    dsimp only
    rw [if_neg (show ¬ (90 : Int32) < Int32.ofNat (i + 1) from fun x => by have := (i_lt (j := 90) (by omega) (by omega)).mp x; omega)]
    refine x_ens.bi (m_sw (S := σ.1 36) (p := 2) (v := Int32.ofNat (i + 1)) (B1.fr f1 rfl) (S1.fr f1 rfl rfl) R1 (x_A2 hi) (by omega)) ?_
    rintro q ⟨hq, f4⟩
    try dsimp only
    rw [i_s]
    exact x_am2 (val := fun i => Int32.ofNat (i + 1)) (sc := wsc_wr C (σ.1 36)) (Inv := fun τ => x_fr x_W8 (x_pI σ 60 0 0) τ) rfl hq (x_fr.trans f1 f4)
  · rintro c τ hc f1
    unfold f_Mo_wrists_60_L11
    dsimp only
    rw [if_pos (show (90 : Int32) < Int32.ofNat (90 + 1) by decide)]
    exact x_ens.so ⟨_, rfl, by rw [hc], B1.fr f1 rfl⟩
theorem o_wrists : x_OS f_RH_wrists_0 f_Mo_wrists_60 :=
  x_OSq (A := fun C g => A_wrists C (g 36)) (fun C σ B F => c_wrists B F) (fun σ q e => fr_RH_wrists_0 e) rfl (fun C g g' h => by rw [h 36 (by simp)]) (fun C σ B => m_wrists B) (fun σ q e => fr_Mo_wrists_60 e) rfl
def sp_ow (i : Nat) : Int32 := if (Int32.ofNat i &&& 1) = 0 then Int32.ofNat i / 2 else -((Int32.ofNat i + 1) / 2)
theorem e_RH_ow {i : Nat} {σ : xS} : f_RH_outward (Int32.ofNat i) σ = some (sp_ow i, σ) := by
  unfold f_RH_outward sp_ow; split <;> rfl
theorem sp_ow_m : ∀ i, i < 49 → (if (Int32.ofNat i - Int32.ofNat i / 2 * 2) = 1 then 0 - ((Int32.ofNat i + 1) / 2) else Int32.ofNat i / 2) = sp_ow i := by decide +kernel
theorem x_i2p {γ : Type} {c : Prop} [Decidable c] {f : Int32 → γ} {a b : Int32} : (if c then f a else f b) = f (if c then a else b) := by split <;> rfl
def wsc_foretell (C : Nat → Nat → Int32) (S : Nat → Int32) (i : Nat) : Int32 := sp_SH C S (sp_nk C) 0 0 (sp_ow i)
def A_foretell (C : Nat → Nat → Int32) (S : Nat → Int32) (v : Int32) : Int32 ⊕ Nat := if 0 ≤ v ∧ v ≤ 1 then .inl (if v = 0 then (sp_fo (wst_am sp_ow (wsc_foretell C S)) 0 (0, -1) 49).1 else (sp_fo (wst_am sp_ow (wsc_foretell C S)) 0 (0, -1) 49).2) else .inr 2
theorem m_foretell {C : Nat → Nat → Int32} {σ : xS} {v : Int32} (B : x_B C σ) : x_ens (f_Mo_foretell_60 v σ) (fun q => x_an x_k1 (A_foretell C (σ.1 36) v) q.1 q.2 ∧ x_B C q.2) := by
  unfold f_Mo_foretell_60 A_foretell
  dsimp only
  obtain ⟨B1, S1, R1⟩ := B.m0
  rw [e_Mo_isWhat x_60]
  dsimp only [Option.bind_some]
  by_cases h : 0 ≤ v ∧ v ≤ 1
  · simp only [if_pos h]
    rw [if_neg (by decide)]
    refine x_ens.bi (P := fun b => (b.1, b.2.1) = sp_fo (wst_am sp_ow (wsc_foretell C (σ.1 36))) 0 (0, -1) 49 ∧ x_fr ((60, 64) :: x_W8) (x_pI σ 60 0 0) b.2.2.2) ?_ ?_
    · refine x_scI (fun i (c : Int32 × Int32) τ => (c.1, c.2, Int32.ofNat i, τ)) (wst_am sp_ow (wsc_foretell C (σ.1 36))) (fun i c τ => x_fr ((60, 64) :: x_W8) (x_pI σ 60 0 0) τ) 49 (c0 := (0, -1)) (by omega) x_fr.rf ?_ ?_
      · rintro i ⟨c1, c2⟩ τ hi f1
        unfold f_Mo_foretell_60_L23
        dsimp only
        rw [if_neg (show ¬ (48 : Int32) < Int32.ofNat i from fun x => by have := (i_lt (j := 48) (by omega) (by omega)).mp x; omega), x_i2p (f := fun y => f_Mo_foretell_60_J54 v c1 c2 (Int32.ofNat i) y τ), sp_ow_m i hi]
        unfold f_Mo_foretell_60_J54
        dsimp only
        have f2 : x_fr ((60, 64) :: x_W8) (x_pI σ 60 0 0) (x_pI τ 60 64 (sp_ow i)) := x_frI (p := 60) (k := 64) rfl f1
        have e2 : (x_pI τ 60 64 (sp_ow i)).1 60 64 = sp_ow i := by rw [x_pI_at]; rfl
        refine x_ens.bf (e_Mo_takesSharp (T := σ.1 36) (n := sp_nk C) B.1 (B1.2.2.1.fr f2 rfl rfl rfl rfl rfl rfl rfl) (S1.fr f2 rfl rfl) R1 (late := 0) (by rw [f2.ck 60 59 rfl]; exact B1.2.2.2.2.2.1.1) (sh := 0) (by rw [f2.ck 60 60 rfl]; exact B1.2.2.2.2.2.1.2.1) e2 (by decide) (by decide)) (fun q e => fr_Mo_takesSharp_60 e) ?_
        rintro q ⟨hq, -, -⟩ f3
        try dsimp only
        rw [i_s]
        refine x_am2 (val := sp_ow) (sc := wsc_foretell C (σ.1 36)) (Inv := fun τ => x_fr ((60, 64) :: x_W8) (x_pI σ 60 0 0) τ) ?_ hq (x_fr.trans f2 (x_fr.su f3 rfl))
        rw [f3.ck 60 64 rfl]; exact e2
      · rintro c τ hc f1
        unfold f_Mo_foretell_60_L23
        dsimp only
        rw [if_pos (show (48 : Int32) < Int32.ofNat 49 by decide)]
        exact x_ens.so ⟨_, rfl, hc, f1⟩
    · rintro b ⟨hb, f⟩
      have f2 : x_fr ((60, 64) :: x_W8) (x_pI σ 60 0 0) (x_pI b.2.2.2 60 64 0) := x_frI (p := 60) (k := 64) rfl f
      have B2 : x_B C (x_pI b.2.2.2 60 64 0) := B1.fr2 (x_fr.su f2 rfl) (f2.ce 79 rfl) (f2.ck 60 59 rfl) (f2.ck 60 60 rfl) (by rw [x_pI_at]; exact B1.2.2.2.2.2.1.2.2.symm) (f2.ck 60 4 rfl)
      have z : (x_pI b.2.2.2 60 64 0).1 60 0 = 0 := (f2.ck 60 0 rfl).trans x_60
      rw [← hb]
      by_cases h0 : v = 0
      · rw [if_pos h0, if_pos h0]; exact x_ens.so ⟨⟨z, rfl⟩, B2⟩
      · rw [if_neg h0, if_neg h0]; exact x_ens.so ⟨⟨z, rfl⟩, B2⟩
  · simp only [if_neg h]
    rw [if_pos trivial, x_pI_pI]; exact x_ens.so ⟨x_60, B.t0⟩
def wsc_shift (C : Nat → Nat → Int32) (S : Nat → Int32) (i : Nat) : Int32 := sp_SH C S (sp_nk C) 0 (sp_ow i) 0
def A_shift (C : Nat → Nat → Int32) (S : Nat → Int32) (v : Int32) : Int32 ⊕ Nat := if 0 ≤ v ∧ v ≤ 1 then .inl (if v = 0 then (sp_fo (wst_am sp_ow (wsc_shift C S)) 0 (0, -1) 49).1 else (sp_fo (wst_am sp_ow (wsc_shift C S)) 0 (0, -1) 49).2) else .inr 2
theorem m_shift {C : Nat → Nat → Int32} {σ : xS} {v : Int32} (B : x_B C σ) : x_ens (f_Mo_shift_60 v σ) (fun q => x_an x_k1 (A_shift C (σ.1 36) v) q.1 q.2 ∧ x_B C q.2) := by
  unfold f_Mo_shift_60 A_shift
  dsimp only
  obtain ⟨B1, S1, R1⟩ := B.m0
  rw [e_Mo_isWhat x_60]
  dsimp only [Option.bind_some]
  by_cases h : 0 ≤ v ∧ v ≤ 1
  · simp only [if_pos h]
    rw [if_neg (by decide)]
    refine x_ens.bi (P := fun b => (b.1, b.2.1) = sp_fo (wst_am sp_ow (wsc_shift C (σ.1 36))) 0 (0, -1) 49 ∧ x_fr ((60, 60) :: x_W8) (x_pI σ 60 0 0) b.2.2.2) ?_ ?_
    · refine x_scI (fun i (c : Int32 × Int32) τ => (c.1, c.2, Int32.ofNat i, τ)) (wst_am sp_ow (wsc_shift C (σ.1 36))) (fun i c τ => x_fr ((60, 60) :: x_W8) (x_pI σ 60 0 0) τ) 49 (c0 := (0, -1)) (by omega) x_fr.rf ?_ ?_
      · rintro i ⟨c1, c2⟩ τ hi f1
        unfold f_Mo_shift_60_L23
        dsimp only
        rw [if_neg (show ¬ (48 : Int32) < Int32.ofNat i from fun x => by have := (i_lt (j := 48) (by omega) (by omega)).mp x; omega), x_i2p (f := fun y => f_Mo_shift_60_J54 v c1 c2 (Int32.ofNat i) y τ), sp_ow_m i hi]
        unfold f_Mo_shift_60_J54
        dsimp only
        have f2 : x_fr ((60, 60) :: x_W8) (x_pI σ 60 0 0) (x_pI τ 60 60 (sp_ow i)) := x_frI (p := 60) (k := 60) rfl f1
        have e2 : (x_pI τ 60 60 (sp_ow i)).1 60 60 = sp_ow i := by rw [x_pI_at]; rfl
        refine x_ens.bf (e_Mo_takesSharp (T := σ.1 36) (n := sp_nk C) B.1 (B1.2.2.1.fr f2 rfl rfl rfl rfl rfl rfl rfl) (S1.fr f2 rfl rfl) R1 (late := 0) (by rw [f2.ck 60 59 rfl]; exact B1.2.2.2.2.2.1.1) e2 (ah := 0) (by rw [f2.ck 60 64 rfl]; exact B1.2.2.2.2.2.1.2.2) (by decide) (by decide)) (fun q e => fr_Mo_takesSharp_60 e) ?_
        rintro q ⟨hq, -, -⟩ f3
        try dsimp only
        rw [i_s]
        refine x_am2 (val := sp_ow) (sc := wsc_shift C (σ.1 36)) (Inv := fun τ => x_fr ((60, 60) :: x_W8) (x_pI σ 60 0 0) τ) ?_ hq (x_fr.trans f2 (x_fr.su f3 rfl))
        rw [f3.ck 60 60 rfl]; exact e2
      · rintro c τ hc f1
        unfold f_Mo_shift_60_L23
        dsimp only
        rw [if_pos (show (48 : Int32) < Int32.ofNat 49 by decide)]
        exact x_ens.so ⟨_, rfl, hc, f1⟩
    · rintro b ⟨hb, f⟩
      have f2 : x_fr ((60, 60) :: x_W8) (x_pI σ 60 0 0) (x_pI b.2.2.2 60 60 0) := x_frI (p := 60) (k := 60) rfl f
      have B2 : x_B C (x_pI b.2.2.2 60 60 0) := B1.fr2 (x_fr.su f2 rfl) (f2.ce 79 rfl) (f2.ck 60 59 rfl) (by rw [x_pI_at]; exact B1.2.2.2.2.2.1.2.1.symm) (f2.ck 60 64 rfl) (f2.ck 60 4 rfl)
      have z : (x_pI b.2.2.2 60 60 0).1 60 0 = 0 := (f2.ck 60 0 rfl).trans x_60
      rw [← hb]
      by_cases h0 : v = 0
      · rw [if_pos h0, if_pos h0]; exact x_ens.so ⟨⟨z, rfl⟩, B2⟩
      · rw [if_neg h0, if_neg h0]; exact x_ens.so ⟨⟨z, rfl⟩, B2⟩
  · simp only [if_neg h]
    rw [if_pos trivial, x_pI_pI]; exact x_ens.so ⟨x_60, B.t0⟩
theorem c_foretell {C : Nat → Nat → Int32} {σ : xS} {v : Int32} (B : x_B C σ) (F : y_F C σ) : x_ens (f_RH_foretell_0 v σ) (fun q => q.1 = A_foretell C (σ.1 36) v ∧ y_F C q.2) := by
  unfold f_RH_foretell_0 A_foretell
  have G := B.1
  have R := B.S.2
  by_cases h : 0 ≤ v ∧ v ≤ 1
  · rw [if_neg (i_nl.mpr h.1), if_pos h.2, if_pos h]
    refine c_lk B ?_
    intro q8 L h50 h4
    refine x_ens.bi (P := fun b => (b.1, b.2.1) = sp_fo (wst_am sp_ow (wsc_foretell C (σ.1 36))) 0 (0, -1) 49 ∧ y_F C b.2.2.2) ?_ ?_
    · refine x_scI (fun i (c : Int32 × Int32) τ => (c.1, c.2, Int32.ofNat i, τ)) (wst_am sp_ow (wsc_foretell C (σ.1 36))) (fun i c τ => x_Lk C (σ.1 36) τ ∧ (∀ k, k < 12 → τ.1 50 k = σ.1 36 k)) 49 (c0 := (0, -1)) (by omega) ⟨L, h50⟩ ?_ ?_
      · rintro i ⟨c1, c2⟩ τ hi ⟨L1, g1⟩
        unfold f_RH_foretell_0_L41
        dsimp only
        rw [if_neg (show ¬ (48 : Int32) < Int32.ofNat i from fun x => by have := (i_lt (j := 48) (by omega) (by omega)).mp x; omega), e_RH_ow]
        dsimp only [Option.bind_some]
        refine c_ta G R L1 g1 ?_
        intro q hq L2 g3
        try dsimp only
        rw [i_s]
        exact x_am1 (val := sp_ow) (sc := wsc_foretell C (σ.1 36)) (Inv := fun τ => x_Lk C (σ.1 36) τ ∧ (∀ k, k < 12 → τ.1 50 k = σ.1 36 k)) rfl hq ⟨L2, g3⟩
      · rintro c τ hc ⟨L1, -⟩
        unfold f_RH_foretell_0_L41
        dsimp only
        rw [if_pos (show (48 : Int32) < Int32.ofNat 49 by decide)]
        exact x_ens.so ⟨_, rfl, hc, Or.inl L1.2.2.2.2⟩
    · rintro b ⟨hb, Fb⟩
      rw [← hb]
      by_cases h0 : v = 0
      · rw [if_pos h0, if_pos h0]; exact x_ens.so ⟨rfl, Fb⟩
      · rw [if_neg h0, if_neg h0]; exact x_ens.so ⟨rfl, Fb⟩
  · rw [if_neg h]
    by_cases h1 : v < 0
    · rw [if_pos h1]; exact x_ens.so ⟨rfl, F⟩
    · rw [if_neg h1, if_neg (fun x => h ⟨i_nl.mp h1, x⟩)]; exact x_ens.so ⟨rfl, F⟩
theorem o_foretell (v : Int32) : x_OP (w_foretell v) (f_Mo_foretell_60 v) := by
  refine x_OPq (f := f_RH_foretell_0 v) (κ := x_k1) (A := fun C g => A_foretell C (g 36) v) (fun C σ B F => c_foretell B F) (fun σ q e => fr_RH_foretell_0 e) rfl (fun C g g' h h55 h01 h59 => by simp only [h 35 (by simp), h 36 (by simp), h 39 (by simp), h 40 (by simp), h 41 (by simp), h 58 (by simp), h55, h01, h59]) (fun C σ B => m_foretell B) (fun σ q e => fr_Mo_foretell_60 e) rfl ?_ ?_
  · intro σ u τ e; unfold w_foretell; rw [e]; rfl
  · intro C σ B k τ e hk
    unfold A_foretell at hk
    (repeat' split at hk) <;> cases hk <;> (unfold w_foretell; rw [e]; exact ⟨rfl, by decide⟩)
theorem c_shift {C : Nat → Nat → Int32} {σ : xS} {v : Int32} (B : x_B C σ) (F : y_F C σ) : x_ens (f_RH_shift_0 v σ) (fun q => q.1 = A_shift C (σ.1 36) v ∧ y_F C q.2) := by
  unfold f_RH_shift_0 A_shift
  have G := B.1
  have R := B.S.2
  by_cases h : 0 ≤ v ∧ v ≤ 1
  · rw [if_neg (i_nl.mpr h.1), if_pos h.2, if_pos h]
    refine x_ens.bi (P := fun b => (b.1, b.2.1) = sp_fo (wst_am sp_ow (wsc_shift C (σ.1 36))) 0 (0, -1) 49 ∧ y_F C b.2.2.2) ?_ ?_
    · refine x_scI (fun i (c : Int32 × Int32) τ => (c.1, c.2, Int32.ofNat i, τ)) (wst_am sp_ow (wsc_shift C (σ.1 36))) (fun i c τ => y_F C τ ∧ x_fr x_WC σ τ) 49 (c0 := (0, -1)) (by omega) ⟨F, x_fr.rf⟩ ?_ ?_
      · rintro i ⟨c1, c2⟩ τ hi ⟨F1, f1⟩
        unfold f_RH_shift_0_L27
        dsimp only
        rw [if_neg (show ¬ (48 : Int32) < Int32.ofNat i from fun x => by have := (i_lt (j := 48) (by omega) (by omega)).mp x; omega)]
        obtain ⟨υ, e, K2, t1, t2, t3, t4, t5, t6, f2⟩ := c_take G (B.2.1.fr f1 rfl)
        rw [e]
        dsimp only [Option.bind_some]
        rw [e_RH_ow]
        dsimp only [Option.bind_some]
        have f3 : x_fr x_WC σ (x_pI υ 49 3 (sp_ow i)) := x_frI (p := 49) rfl (x_fr.trans f1 f2)
        refine x_ens.bi (c_as (T := σ.1 36) (n := sp_nk C) (late := 0) (sh := sp_ow i) (ah := 0) G (B.2.1.fr f3 rfl) R.2.2.2.2.2.2.1 (fun k hk => ?_) R.2.2.2.2.2.1 t2 t3 (by rw [x_pI_at]; rfl) t5) ?_
        · rw [y_pI_ne (by omega), t1 k hk, f1.ce 36 rfl]
        · rintro q ⟨hq, f4⟩
          rw [e_RH_ow]
          dsimp only [Option.bind_some]
          rw [i_s]
          exact x_am1 (val := sp_ow) (sc := wsc_shift C (σ.1 36)) (Inv := fun τ => y_F C τ ∧ x_fr x_WC σ τ) rfl hq ⟨Or.inl (by rw [f4.ck 0 9 rfl]; exact t6), x_fr.trans f3 (x_fr.su f4 rfl)⟩
      · rintro c τ hc ⟨F1, f1⟩
        unfold f_RH_shift_0_L27
        dsimp only
        rw [if_pos (show (48 : Int32) < Int32.ofNat 49 by decide)]
        exact x_ens.so ⟨_, rfl, hc, F1⟩
    · rintro b ⟨hb, Fb⟩
      rw [← hb]
      by_cases h0 : v = 0
      · rw [if_pos h0, if_pos h0]; exact x_ens.so ⟨rfl, Fb⟩
      · rw [if_neg h0, if_neg h0]; exact x_ens.so ⟨rfl, Fb⟩
  · rw [if_neg h]
    by_cases h1 : v < 0
    · rw [if_pos h1]; exact x_ens.so ⟨rfl, F⟩
    · rw [if_neg h1, if_neg (fun x => h ⟨i_nl.mp h1, x⟩)]; exact x_ens.so ⟨rfl, F⟩
theorem o_shift (v : Int32) : x_OP (w_shift v) (f_Mo_shift_60 v) := by
  refine x_OPq (f := f_RH_shift_0 v) (κ := x_k1) (A := fun C g => A_shift C (g 36) v) (fun C σ B F => c_shift B F) (fun σ q e => fr_RH_shift_0 e) rfl (fun C g g' h h55 h01 h59 => by simp only [h 35 (by simp), h 36 (by simp), h 39 (by simp), h 40 (by simp), h 41 (by simp), h 58 (by simp), h55, h01, h59]) (fun C σ B => m_shift B) (fun σ q e => fr_Mo_shift_60 e) rfl ?_ ?_
  · intro σ u τ e; unfold w_shift; rw [e]; rfl
  · intro C σ B k τ e hk
    unfold A_shift at hk
    (repeat' split at hk) <;> cases hk <;> (unfold w_shift; rw [e]; exact ⟨rfl, by decide⟩)
