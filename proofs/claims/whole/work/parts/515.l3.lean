theorem x_B.walk {C : Nat → Nat → Int32} {σ : xS} (B : x_B C σ) (F : y_F C σ) : x_ens (f_RH_walkAsSet_0 σ) (fun q => y_F C q.2 ∧ y_K C q.2 ∧ q.2.1 49 5 = Int32.ofNat (sp_la C) ∧ q.2.1 50 0 = σ.1 36 0 ∧ q.2.1 36 = σ.1 36 ∧ ∀ t, t < sp_la C + 1 → q.2.1 54 t = sp_of C (σ.1 36) (sp_nk C) 0 0 0 t) := by
  obtain ⟨q, e, F1, B1, e36⟩ := e_RH_walkAsSet B F
  refine ⟨q, e, Or.inr F1, B1.2.1, B.1.l5 F1.2.2.1, ?_, e36, ?_⟩
  · have := F1.2.1 0 (by omega); rw [e36] at this; exact this
  · intro t ht; have := (F1.2.2.2.2 t (by omega)).2.2; rw [e36] at this; exact this
def wst_sh (g : Nat → Int32) (h n : Int32) (i : Nat) (c : Int32 × Int32) : Int32 × Int32 := (c.1 + (if (if h < sp_abs (g i) then 0 else c.2 + 1) < n then 0 else 1), if h < sp_abs (g i) then 0 else c.2 + 1)
def A_shots (C : Nat → Nat → Int32) (S : Nat → Int32) (n : Int32) : Int32 ⊕ Nat := if 1 ≤ n ∧ n ≤ 601 then .inl (sp_fo (wst_sh (sp_of C S (sp_nk C) 0 0 0) (S 0) n) 0 (0, 0) (sp_la C + 1)).1 else .inr 1
theorem sp_fo_sh {g g' : Nat → Int32} {h n : Int32} {l : Nat} (e : ∀ t, t < l → g t = g' t) : sp_fo (wst_sh g h n) 0 (0, 0) l = sp_fo (wst_sh g' h n) 0 (0, 0) l :=
  sp_fo_congr (fun j _ h2 x => by unfold wst_sh; rw [e j (by omega)])
theorem c_shots {C : Nat → Nat → Int32} {σ : xS} {n : Int32} (B : x_B C σ) (F : y_F C σ) : x_ens (f_RH_shots_0 n σ) (fun q => q.1 = A_shots C (σ.1 36) n ∧ y_F C q.2) := by
  unfold f_RH_shots_0 A_shots
  have hb := B.1.2.1.2
  by_cases h : 1 ≤ n ∧ n ≤ 601
  · rw [if_neg (i_nl.mpr h.1), if_pos h.2, if_pos h]
    refine x_ens.bi (B.walk F) ?_
    rintro q ⟨F1, K1, l5, h0, -, of⟩
    have := x_sc (body := f_RH_shots_0_L33 n) (fun i (c : Int32 × Int32) => (c.1, c.2, Int32.ofNat i, q.2)) (wst_sh (q.2.1 54) (σ.1 36 0) n) (fun c => (c.1, c.2, Int32.ofNat (sp_la C + 1), q.2)) (sp_la C + 1) ?_ ?_ (sp_la C + 1) 10000 0 (0, 0) (by omega) (by omega)
    · rw [i_z] at this
      dsimp only at this
      rw [this]
      refine x_ens.so ⟨?_, F1⟩
      rw [sp_fo_sh of]
    · intro i c hi
      unfold f_RH_shots_0_L33 f_RH_shots_0_J64
      dsimp only
      rw [K1.1, B.1.2.1.1, if_neg (by rw [i_lt (by omega) (by omega)]; omega), e_Tr_isSharp (by omega), i_s, h0]
      dsimp only [Option.bind_some]
      unfold wst_sh
      by_cases h1 : σ.1 36 0 < sp_abs (q.2.1 54 i)
      · simp only [if_pos h1]
        by_cases h2 : (0 : Int32) < n
        · simp only [if_pos h2]; rfl
        · simp only [if_neg h2]; rfl
      · simp only [if_neg h1]
        by_cases h2 : c.2 + 1 < n
        · simp only [if_pos h2]; rfl
        · simp only [if_neg h2]; rfl
    · intro c
      unfold f_RH_shots_0_L33
      dsimp only
      rw [K1.1, B.1.2.1.1, if_pos (by rw [i_lt (by omega) (by omega)]; omega)]
  · rw [if_neg h]
    by_cases h1 : n < 1
    · rw [if_pos h1]; exact x_ens.so ⟨rfl, F⟩
    · rw [if_neg h1, if_neg (fun x => h ⟨i_nl.mp h1, x⟩)]; exact x_ens.so ⟨rfl, F⟩
theorem m_shots {C : Nat → Nat → Int32} {σ : xS} {n : Int32} (B : x_B C σ) : x_ens (f_Mo_shots_60 n σ) (fun q => x_an x_k1 (A_shots C (σ.1 36) n) q.1 q.2 ∧ x_B C q.2) := by
  unfold f_Mo_shots_60 A_shots
  dsimp only
  have hb := B.1.2.1.2
  obtain ⟨B1, S1, R1⟩ := B.m0
  rw [e_Mo_wr x_60 (by decide)]
  by_cases h : 1 ≤ n ∧ n ≤ 601
  · simp only [if_pos h]
    rw [if_neg (by decide)]
    refine x_ens.bi (B1.go S1 R1 x_60) ?_
    rintro q ⟨h1, B2, S2, k0, f1⟩
    have := x_sc (body := f_Mo_shots_60_L34 n) (fun i (c : Int32 × Int32) => (c.1, c.2, Int32.ofNat i, q.2)) (wst_sh (q.2.1 86) (σ.1 36 0) n) (fun c => (c.1, c.2, Int32.ofNat (sp_la C + 1), q.2)) (sp_la C + 1) ?_ ?_ (sp_la C + 1) 10000 0 (0, 0) (by omega) (by omega)
    · rw [i_z] at this
      dsimp only at this
      rw [this]
      refine x_ens.so ⟨⟨k0, ?_⟩, B2⟩
      rw [sp_fo_sh (fun t ht => (h1 t (by omega)).2.2)]
    · intro i c hi
      unfold f_Mo_shots_60_L34 f_Mo_shots_60_J59
      dsimp only
      rw [B.1.last B2.2.2.1]
      dsimp only [Option.bind_some]
      rw [if_neg (by rw [i_lt (by omega) (by omega)]; omega), e_Mo_isSharp (by omega), i_s, S2.1.1]
      dsimp only [Option.bind_some]
      unfold wst_sh
      by_cases h1 : σ.1 36 0 < sp_abs (q.2.1 86 i)
      · simp only [if_pos h1]
        by_cases h2 : (0 : Int32) < n
        · simp only [if_pos h2]; rfl
        · simp only [if_neg h2]; rfl
      · simp only [if_neg h1]
        by_cases h2 : c.2 + 1 < n
        · simp only [if_pos h2]; rfl
        · simp only [if_neg h2]; rfl
    · intro c
      unfold f_Mo_shots_60_L34
      dsimp only
      rw [B.1.last B2.2.2.1]
      dsimp only [Option.bind_some]
      rw [if_pos (by rw [i_lt (by omega) (by omega)]; omega)]
  · simp only [if_neg h]
    rw [if_pos trivial, x_pI_pI]; exact x_ens.so ⟨x_60, B.t0⟩
theorem o_shots (n : Int32) : x_OP (w_shots n) (f_Mo_shots_60 n) := by
  refine x_OPq (f := f_RH_shots_0 n) (κ := x_k1) (A := fun C g => A_shots C (g 36) n) (fun C σ B F => c_shots B F) (fun σ q e => fr_RH_shots_0 e) rfl (fun C g g' h h55 h01 h59 => by simp only [h 35 (by simp), h 36 (by simp), h 39 (by simp), h 40 (by simp), h 41 (by simp), h 58 (by simp), h55, h01, h59]) (fun C σ B => m_shots B) (fun σ q e => fr_Mo_shots_60 e) rfl ?_ ?_
  · intro σ u τ e; unfold w_shots; rw [e]; rfl
  · intro C σ B k τ e hk
    unfold A_shots at hk
    (repeat' split at hk) <;> cases hk <;> (unfold w_shots; rw [e]; exact ⟨rfl, by decide⟩)
def sp_hl (P : Nat → Prop) [DecidablePred P] : Nat → Int32
  | 0 => -1
  | k + 1 => if P (60 - k) then Int32.ofNat (60 - k) else sp_hl P k
def sp_shw (C : Nat → Nat → Int32) (S : Nat → Int32) (h : Int32) : Int32 := sp_fo (wst_cnt (sp_of C S (sp_nk C) 0 0 0) h) 0 0 (sp_la C + 1)
def A_holes (C : Nat → Nat → Int32) (S : Nat → Int32) (n : Int32) : Int32 ⊕ Nat := if 0 ≤ n ∧ n ≤ 601 then .inl (sp_hl (fun v => ¬ sp_shw C S (Int32.ofNat v) < n) 60) else .inr 1
theorem c_holes_L {C : Nat → Nat → Int32} {σ : xS} {S : Nat → Int32} {n : Int32} (G : x_G C) (l5 : σ.1 49 5 = Int32.ofNat (sp_la C)) (of : ∀ t, t < sp_la C + 1 → σ.1 54 t = sp_of C S (sp_nk C) 0 0 0 t) : ∀ (k m : Nat), k ≤ 60 → k < m →
    x_ens (x_it (f_RH_holes_0_L27 n) m (Int32.ofNat (61 - k), σ)) (fun b => b = .inl (.inl (sp_hl (fun v => ¬ sp_shw C S (Int32.ofNat v) < n) k), σ) ∨ (sp_hl (fun v => ¬ sp_shw C S (Int32.ofNat v) < n) k = -1 ∧ ∃ j, b = .inr (j, σ)))
  | k, 0, _, h => by omega
  | 0, m + 1, _, _ => by
    refine x_nx fun P kL kR => ?_
    unfold f_RH_holes_0_L27
    dsimp only
    rw [if_pos (show (60 : Int32) < Int32.ofNat (61 - 0) by decide)]
    exact kL _ (Or.inr ⟨rfl, _, rfl⟩)
  | k + 1, m + 1, hk, hm => by
    refine x_nx fun P kL kR => ?_
    unfold f_RH_holes_0_L27
    dsimp only
    rw [if_neg (show ¬ (60 : Int32) < Int32.ofNat (61 - (k + 1)) from fun h => by have := (i_lt (j := 60) (by omega) (by omega)).mp h; omega), e_Tr_sharpBy l5 G.2.1.2, sp_fo_cnt of]
    dsimp only [Option.bind_some]
    have e : 61 - (k + 1) = 60 - k := by omega
    have e2 : 60 - k + 1 = 61 - k := by omega
    rw [e]
    by_cases h : sp_shw C S (Int32.ofNat (60 - k)) < n
    · rw [if_pos (show sp_fo (wst_cnt (sp_of C S (sp_nk C) 0 0 0) (Int32.ofNat (60 - k))) 0 0 (sp_la C + 1) < n from h), i_s, e2]
      refine kR _ ?_
      rw [sp_hl, if_neg (fun x => x h)]
      exact c_holes_L G l5 of k m (by omega) (by omega)
    · rw [if_neg (show ¬ sp_fo (wst_cnt (sp_of C S (sp_nk C) 0 0 0) (Int32.ofNat (60 - k))) 0 0 (sp_la C + 1) < n from h)]
      refine kL _ (Or.inl ?_)
      rw [sp_hl, if_pos h]
theorem c_holes {C : Nat → Nat → Int32} {σ : xS} {n : Int32} (B : x_B C σ) (F : y_F C σ) : x_ens (f_RH_holes_0 n σ) (fun q => q.1 = A_holes C (σ.1 36) n ∧ y_F C q.2) := by
  unfold f_RH_holes_0 A_holes
  by_cases h : 0 ≤ n ∧ n ≤ 601
  · rw [if_neg (i_nl.mpr h.1), if_pos h.2, if_pos h]
    refine x_ens.bi (B.walk F) ?_
    rintro q ⟨F1, K1, l5, h0, -, of⟩
    refine x_ens.bi (c_holes_L (n := n) B.1 l5 of 60 10000 (by omega) (by omega)) ?_
    rintro b (rfl | ⟨h2, j, rfl⟩)
    · exact x_ens.so ⟨rfl, F1⟩
    · rw [h2]; exact x_ens.so ⟨rfl, F1⟩
  · rw [if_neg h]
    by_cases h1 : n < 0
    · rw [if_pos h1]; exact x_ens.so ⟨rfl, F⟩
    · rw [if_neg h1, if_neg (fun x => h ⟨i_nl.mp h1, x⟩)]; exact x_ens.so ⟨rfl, F⟩
theorem x_pI_same {σ : xS} {p k : Nat} {v : Int32} (h : σ.1 p k = v) : x_pI σ p k v = σ := by
  unfold x_pI
  refine Prod.ext (funext fun a => funext fun b => ?_) rfl
  dsimp only
  split
  · rename_i e; rw [e.1, e.2]; exact h.symm
  · rfl
theorem m_holes {C : Nat → Nat → Int32} {σ : xS} {n : Int32} (B : x_B C σ) : x_ens (f_Mo_holes_60 n σ) (fun q => x_an x_k1 (A_holes C (σ.1 36) n) q.1 q.2 ∧ x_B C q.2) := by
  unfold f_Mo_holes_60 A_holes
  dsimp only
  obtain ⟨B1, S1, R1⟩ := B.m0
  rw [e_Mo_wr x_60 (by decide)]
  by_cases h : 0 ≤ n ∧ n ≤ 601
  · simp only [if_pos h]
    rw [if_neg (by decide)]
    refine x_ens.bi (B1.go S1 R1 x_60) ?_
    rintro q ⟨h1, B2, S2, k0, f1⟩
    refine x_ens.bi (P := fun b => b.1 = sp_hl (fun v => ¬ sp_shw C (σ.1 36) (Int32.ofNat v) < n) 60 ∧ ∃ w, b.2.2 = x_pI q.2 79 0 w) ?_ ?_
    · refine x_iv.go (fun i a => a.1 = sp_hl (fun v => ¬ sp_shw C (σ.1 36) (Int32.ofNat v) < n) i ∧ a.2.1 = Int32.ofNat (60 - i) ∧ ∃ w, a.2.2 = x_pI q.2 79 0 w) 60 (by omega) ⟨rfl, rfl, q.2.1 79 0, (x_pI_same rfl).symm⟩ ?_
      rintro i ⟨c, u, τ⟩ hi ⟨h3, h4, w, h5⟩
      dsimp only at h3 h4 h5
      subst h3 h4 h5
      unfold f_Mo_holes_60_L40
      dsimp only
      by_cases hx : i = 60
      · subst hx
        rw [if_pos (by decide)]
        exact x_iv.l ⟨rfl, w, rfl⟩
      · rw [if_neg (by rw [← i_z, i_le (by omega) (by omega)]; omega), x_pI_pI]
        have M3 : x_M C (x_pI q.2 79 0 (Int32.ofNat (60 - i))) := x_M.fr (W := [(79, 0)]) B2.2.2.1 (x_frI (p := 79) (k := 0) rfl x_fr.rf) rfl rfl rfl rfl rfl rfl rfl
        rw [e_Mo_sharpMany B.1 M3]
        dsimp only [Option.bind_some]
        have e : sp_fo (wst_cnt ((x_pI q.2 79 0 (Int32.ofNat (60 - i))).1 86) ((x_pI q.2 79 0 (Int32.ofNat (60 - i))).1 79 0)) 0 0 (sp_la C + 1) = sp_shw C (σ.1 36) (Int32.ofNat (60 - i)) := by
          rw [y_pI_ne (by omega), x_pI_at]
          exact sp_fo_cnt (fun t ht => (h1 t (by omega)).2.2)
        rw [e]
        have e3 : Int32.ofNat (60 - i) + -1 = Int32.ofNat (60 - (i + 1)) := by rw [show 60 - i = (60 - (i + 1)) + 1 by omega]; exact i_m1
        rw [e3]
        by_cases hs : sp_shw C (σ.1 36) (Int32.ofNat (60 - i)) < n
        · rw [if_pos hs]
          refine x_iv.r (by omega) ⟨?_, rfl, _, rfl⟩
          show _ = sp_hl _ (i + 1)
          rw [sp_hl, if_neg (fun x => x hs)]
        · rw [if_neg hs]
          refine x_iv.r (by omega) ⟨?_, rfl, _, rfl⟩
          show _ = sp_hl _ (i + 1)
          rw [sp_hl, if_pos hs]
    · rintro b ⟨h3, w, h4⟩
      refine x_ens.so ⟨⟨?_, h3⟩, ?_⟩
      · rw [h4, x_pI_pI, x_pI_same rfl]; exact k0
      · rw [h4, x_pI_pI, x_pI_same rfl]; exact B2
  · simp only [if_neg h]
    rw [if_pos trivial, x_pI_pI]; exact x_ens.so ⟨x_60, B.t0⟩
theorem o_holes (n : Int32) : x_OP (w_holes n) (f_Mo_holes_60 n) := by
  refine x_OPq (f := f_RH_holes_0 n) (κ := x_k1) (A := fun C g => A_holes C (g 36) n) (fun C σ B F => c_holes B F) (fun σ q e => fr_RH_holes_0 e) rfl (fun C g g' h h55 h01 h59 => by simp only [h 35 (by simp), h 36 (by simp), h 39 (by simp), h 40 (by simp), h 41 (by simp), h 58 (by simp), h55, h01, h59]) (fun C σ B => m_holes B) (fun σ q e => fr_Mo_holes_60 e) rfl ?_ ?_
  · intro σ u τ e; unfold w_holes; rw [e]; rfl
  · intro C σ B k τ e hk
    unfold A_holes at hk
    (repeat' split at hk) <;> cases hk <;> (unfold w_holes; rw [e]; exact ⟨rfl, by decide⟩)
