def wst_de (C : Nat → Nat → Int32) (h r : Int32) (i : Nat) (c : Int32 × Int32) : Int32 × Int32 := if sp_abs (sp_tn C (Int32.ofNat (12 + i)) - r) ≤ h then (if c.1 = -1 then Int32.ofNat (12 + i) else c.1, Int32.ofNat (12 + i)) else c
theorem wst_de_e {C : Nat → Nat → Int32} {h r : Int32} {i : Nat} {c : Int32 × Int32} : wst_de C h r i c = if sp_abs (sp_tn C (Int32.ofNat (12 + i)) - r) ≤ h then (if c.1 = -1 then Int32.ofNat (12 + i) else c.1, Int32.ofNat (12 + i)) else c := rfl
def A_depth (C : Nat → Nat → Int32) (S : Nat → Int32) (r v : Int32) : Int32 ⊕ Nat := if 0 ≤ v ∧ v ≤ 1 then (if 0 ≤ r ∧ r ≤ 999 then .inl (if v = 0 then (sp_fo (wst_de C (S 0) r) 0 (-1, -1) 469).1 else (sp_fo (wst_de C (S 0) r) 0 (-1, -1) 469).2) else .inr 1) else .inr 2
theorem i_01 {v : Int32} (h : 0 ≤ v ∧ v ≤ 1) : v = 0 ∨ v = 1 := by grind
theorem c_depth {C : Nat → Nat → Int32} {σ : xS} {r v : Int32} (B : x_B C σ) (F : y_F C σ) : x_ens (f_RH_depth_0 r v σ) (fun q => q.1 = A_depth C (σ.1 36) r v ∧ y_F C q.2) := by
  unfold f_RH_depth_0 A_depth
  by_cases h : 0 ≤ v ∧ v ≤ 1
  · rw [if_neg (i_nl.mpr h.1), if_pos h.2, if_pos h]
    by_cases hr : 0 ≤ r ∧ r ≤ 999
    · rw [if_neg (i_nl.mpr hr.1), if_pos hr.2, if_pos hr]
      refine x_ens.bi (P := fun b => b.1 = (if v = 0 then (sp_fo (wst_de C (σ.1 36 0) r) 0 (-1, -1) 469).1 else (sp_fo (wst_de C (σ.1 36 0) r) 0 (-1, -1) 469).2) ∧ b.2.2 = σ) ?_ (fun b hb => x_ens.so ⟨by rw [hb.1], by rw [hb.2]; exact F⟩)
      refine x_iv.go (fun i a => a.1 = (if v = 0 then (sp_fo (wst_de C (σ.1 36 0) r) 0 (-1, -1) i).1 else (sp_fo (wst_de C (σ.1 36 0) r) 0 (-1, -1) i).2) ∧ ((sp_fo (wst_de C (σ.1 36 0) r) 0 (-1, -1) i).1 = -1 ↔ (sp_fo (wst_de C (σ.1 36 0) r) 0 (-1, -1) i).2 = -1) ∧ a.2 = (Int32.ofNat (12 + i), σ)) 469 (by omega) ⟨by split <;> rfl, Iff.rfl, rfl⟩ ?_
      rintro i ⟨c, u, τ⟩ hi ⟨h3, h4, h5⟩
      dsimp only at h3 h5
      cases h5
      subst h3
      unfold f_RH_depth_0_L48
      dsimp only
      by_cases hx : i = 469
      · subst hx
        rw [if_pos (by decide)]
        exact x_iv.l ⟨rfl, rfl⟩
      · rw [if_neg (show ¬ (480 : Int32) < Int32.ofNat (12 + i) from fun h => by have := (i_lt (j := 480) (by omega) (by omega)).mp h; omega), e_Sc_turnOf B.2.1]
        dsimp only [Option.bind_some]
        have hs : sp_fo (wst_de C (σ.1 36 0) r) 0 (-1, -1) (i + 1) = wst_de C (σ.1 36 0) r i (sp_fo (wst_de C (σ.1 36 0) r) 0 (-1, -1) i) := by rw [sp_fo]; rw [Nat.zero_add]
        generalize sp_fo (wst_de C (σ.1 36 0) r) 0 (-1, -1) i = c at hs h4 ⊢
        have ea : (if 0 ≤ sp_tn C (Int32.ofNat (12 + i)) - r then sp_tn C (Int32.ofNat (12 + i)) - r else 0 - (sp_tn C (Int32.ofNat (12 + i)) - r)) = sp_abs (sp_tn C (Int32.ofNat (12 + i)) - r) := rfl
        rw [ea]
        have nm1 : ¬ Int32.ofNat (12 + i) = -1 := i_m11 (i_0k (by omega))
        have ei : Int32.ofNat (12 + i) + 1 = Int32.ofNat (12 + (i + 1)) := i_s
        rw [wst_de_e] at hs
        unfold f_RH_depth_0_J87
        by_cases hw : sp_abs (sp_tn C (Int32.ofNat (12 + i)) - r) ≤ σ.1 36 0
        · rw [if_neg (i_nl.mpr hw), if_neg (by decide)]
          rw [if_pos hw] at hs
          have hv := i_01 h
          rcases hv with rfl | rfl
          · simp only [if_true] at *
            by_cases hc : c.1 = -1
            · rw [if_pos hc]
              rw [if_pos hc] at hs
              exact x_iv.r (by omega) ⟨by rw [hs], by rw [hs], by rw [ei]⟩
            · rw [if_neg hc, if_neg (by decide)]
              rw [if_neg hc] at hs
              refine x_iv.r (by omega) ⟨by rw [hs], by rw [hs]; exact ⟨fun e => absurd e hc, fun e => absurd e nm1⟩, by rw [ei]⟩
          · have n1 : ¬ (1 : Int32) = 0 := by decide
            simp only [if_neg n1] at *
            by_cases hc : c.1 = -1
            · rw [if_pos (h4.mp hc)]
              rw [if_pos hc] at hs
              exact x_iv.r (by omega) ⟨by rw [hs], by rw [hs], by rw [ei]⟩
            · rw [if_neg (fun e => hc (h4.mpr e)), if_pos trivial]
              rw [if_neg hc] at hs
              refine x_iv.r (by omega) ⟨by rw [hs], by rw [hs]; exact ⟨fun e => absurd e hc, fun e => absurd e nm1⟩, by rw [ei]⟩
        · rw [if_pos (i_nle.mp hw), if_pos rfl]
          rw [if_neg hw] at hs
          exact x_iv.r (by omega) ⟨by rw [hs], by rw [hs]; exact h4, by rw [ei]⟩
    · rw [if_neg hr]
      by_cases h1 : r < 0
      · rw [if_pos h1]; exact x_ens.so ⟨rfl, F⟩
      · rw [if_neg h1, if_neg (fun x => hr ⟨i_nl.mp h1, x⟩)]; exact x_ens.so ⟨rfl, F⟩
  · rw [if_neg h]
    by_cases h1 : v < 0
    · rw [if_pos h1]; exact x_ens.so ⟨rfl, F⟩
    · rw [if_neg h1, if_neg (fun x => h ⟨i_nl.mp h1, x⟩)]; exact x_ens.so ⟨rfl, F⟩
theorem m_depth {C : Nat → Nat → Int32} {σ : xS} {r v : Int32} (B : x_B C σ) : x_ens (f_Mo_depth_60 r v σ) (fun q => x_an x_k2 (A_depth C (σ.1 36) r v) q.1 q.2 ∧ x_B C q.2) := by
  unfold f_Mo_depth_60 A_depth
  dsimp only
  obtain ⟨B1, S1, R1⟩ := B.m0
  rw [e_Mo_isWhat x_60]
  dsimp only [Option.bind_some]
  by_cases h : 0 ≤ v ∧ v ≤ 1
  · simp only [if_pos h]
    rw [if_neg (by decide), e_Mo_wr x_60 (by decide)]
    by_cases hr : 0 ≤ r ∧ r ≤ 999
    · simp only [if_pos hr]
      rw [if_neg (by decide)]
      refine x_ens.bi (P := fun b => (b.1, b.2.1) = sp_fo (wst_de C (σ.1 36 0) r) 0 (-1, -1) 469 ∧ x_fr [(82, 99999), (83, 99999)] (x_pI σ 60 0 0) b.2.2.2) ?_ ?_
      · refine x_iv.go (fun i a => (a.1, a.2.1) = sp_fo (wst_de C (σ.1 36 0) r) 0 (-1, -1) i ∧ a.2.2.1 = Int32.ofNat (12 + i) ∧ x_fr [(82, 99999), (83, 99999)] (x_pI σ 60 0 0) a.2.2.2) 469 (by omega) ⟨rfl, rfl, x_fr.rf⟩ ?_
        rintro i ⟨c1, c2, u, τ⟩ hi ⟨h3, h4, f3⟩
        dsimp only at h3 h4 f3
        subst h4
        unfold f_Mo_depth_60_L41
        dsimp only
        by_cases hx : i = 469
        · subst hx
          rw [if_pos (by decide)]
          exact x_iv.l ⟨h3, f3⟩
        · rw [if_neg (show ¬ (480 : Int32) < Int32.ofNat (12 + i) from fun h => by have := (i_lt (j := 480) (by omega) (by omega)).mp h; omega)]
          have k1 : (12 : Int32) ≤ Int32.ofNat (12 + i) := (i_le (j := 12) (by omega) (by omega)).mpr (by omega)
          have k2 : Int32.ofNat (12 + i) ≤ (480 : Int32) := (i_le (k := 480) (by omega) (by omega)).mpr (by omega)
          refine x_ens.bf (e_Mo_turnOf B.1 (B1.2.2.1.fr f3 rfl rfl rfl rfl rfl rfl rfl) k1 k2) (fun q e => fr_Mo_turnOf_60 e) ?_
          intro q1 hq1 f4
          rw [hq1, e_Mo_off, i_abs (sp_tn_r B.1 _).1 (sp_tn_r B.1 _).2 hr.1 hr.2]
          dsimp only [Option.bind_some]
          have f5 := x_fr.trans f3 (x_fr.su f4 rfl)
          rw [f5.ck 79 0 rfl, S1.1.1]
          have hs : sp_fo (wst_de C (σ.1 36 0) r) 0 (-1, -1) (i + 1) = wst_de C (σ.1 36 0) r i (c1, c2) := by rw [sp_fo, ← h3]; rw [Nat.zero_add]
          rw [wst_de_e] at hs
          have ei : Int32.ofNat (12 + i) + 1 = Int32.ofNat (12 + (i + 1)) := i_s
          by_cases hw : sp_abs (sp_tn C (Int32.ofNat (12 + i)) - r) ≤ σ.1 36 0
          · rw [if_pos hw] at hs ⊢
            dsimp only at hs
            by_cases hc : c1 = -1
            · rw [if_pos hc] at hs ⊢
              exact x_iv.r (by omega) ⟨hs.symm, ei, f5⟩
            · rw [if_neg hc] at hs ⊢
              exact x_iv.r (by omega) ⟨hs.symm, ei, f5⟩
          · rw [if_neg hw] at hs ⊢
            exact x_iv.r (by omega) ⟨hs.symm, ei, f5⟩
      · rintro b ⟨h3, f3⟩
        have k0 := (f3.ck 60 0 rfl).trans x_60
        have B3 := B1.fr f3 rfl
        rw [← h3]
        by_cases hv : v = 0
        · simp only [if_pos hv]; exact x_ens.so ⟨⟨k0, rfl⟩, B3⟩
        · simp only [if_neg hv]; exact x_ens.so ⟨⟨k0, rfl⟩, B3⟩
    · simp only [if_neg hr]
      rw [if_pos trivial, x_pI_pI]; exact x_ens.so ⟨x_60, B.t0⟩
  · simp only [if_neg h]
    rw [if_pos trivial, x_pI_pI]; exact x_ens.so ⟨x_60, B.t0⟩
theorem o_depth (r v : Int32) : x_OP (w_depth r v) (f_Mo_depth_60 r v) := by
  refine x_OPq (f := f_RH_depth_0 r v) (κ := x_k2) (A := fun C g => A_depth C (g 36) r v) (fun C σ B F => c_depth B F) (fun σ q e => fr_RH_depth_0 e) rfl (fun C g g' h h55 h01 h59 => by simp only [h 35 (by simp), h 36 (by simp), h 39 (by simp), h 40 (by simp), h 41 (by simp), h 58 (by simp), h55, h01, h59]) (fun C σ B => m_depth B) (fun σ q e => fr_Mo_depth_60 e) rfl ?_ ?_
  · intro σ u τ e; unfold w_depth; rw [e]; rfl
  · intro C σ B k τ e hk
    unfold A_depth at hk
    (repeat' split at hk) <;> cases hk <;> (unfold w_depth; rw [e]; exact ⟨rfl, by decide⟩)
def wst_qu (C : Nat → Nat → Int32) (S : Nat → Int32) (i : Nat) (c : Int32 × Int32) : Int32 × Int32 := if c.1 < sp_abs (sp_ri C S 0 (Int32.ofNat (i + 1)) - sp_ri C S 0 (Int32.ofNat i)) ∨ c.2 = 0 then (sp_abs (sp_ri C S 0 (Int32.ofNat (i + 1)) - sp_ri C S 0 (Int32.ofNat i)), Int32.ofNat (i + 1)) else c
theorem wst_qu_e {C : Nat → Nat → Int32} {S : Nat → Int32} {i : Nat} {c : Int32 × Int32} : wst_qu C S i c = if c.1 < sp_abs (sp_ri C S 0 (Int32.ofNat (i + 1)) - sp_ri C S 0 (Int32.ofNat i)) ∨ c.2 = 0 then (sp_abs (sp_ri C S 0 (Int32.ofNat (i + 1)) - sp_ri C S 0 (Int32.ofNat i)), Int32.ofNat (i + 1)) else c := rfl
def A_quickest (C : Nat → Nat → Int32) (S : Nat → Int32) (v : Int32) : Int32 ⊕ Nat := if 0 ≤ v ∧ v ≤ 1 then .inl (if v = 0 then (sp_fo (wst_qu C S) 0 (0, 0) (sp_la C)).1 else (sp_fo (wst_qu C S) 0 (0, 0) (sp_la C)).2) else .inr 2
theorem c_quickest {C : Nat → Nat → Int32} {σ : xS} {v : Int32} (B : x_B C σ) (F : y_F C σ) : x_ens (f_RH_quickest_0 v σ) (fun q => q.1 = A_quickest C (σ.1 36) v ∧ y_F C q.2) := by
  unfold f_RH_quickest_0 A_quickest
  have hb := B.1.2.1.2
  by_cases h : 0 ≤ v ∧ v ≤ 1
  · rw [if_neg (i_nl.mpr h.1), if_pos h.2, if_pos h]
    obtain ⟨τ, e, t1, t2, t3, t4, t5, t6, f1⟩ := e_RH_take σ
    rw [e]
    dsimp only [Option.bind_some]
    have K1 := B.2.1.fr f1 rfl
    have := x_sc (body := f_RH_quickest_0_L31 v) (fun i (c : Int32 × Int32) => (c.1, c.2, Int32.ofNat (i + 1), τ)) (wst_qu C (σ.1 36)) (fun c => (c.1, c.2, Int32.ofNat (sp_la C + 1), τ)) (sp_la C) ?_ ?_ (sp_la C) 10000 0 (0, 0) (by omega) (by omega)
    · rw [show Int32.ofNat (0 + 1) = 1 from rfl] at this
      dsimp only at this
      rw [this]
      dsimp only [Option.bind_some]
      by_cases hv : v = 0
      · simp only [if_pos hv]; exact x_ens.so ⟨rfl, Or.inl t6⟩
      · simp only [if_neg hv]; exact x_ens.so ⟨rfl, Or.inl t6⟩
    · intro i c hi
      unfold f_RH_quickest_0_L31
      dsimp only
      rw [K1.1, B.1.2.1.1, if_neg (by rw [i_lt (by omega) (by omega)]; omega), e_Tr_rightIn B.1 K1, i_m1']
      dsimp only [Option.bind_some]
      rw [e_Tr_rightIn B.1 K1, t3, sp_ri_c (t1 5 (by omega)), sp_ri_c (t1 5 (by omega)), i_s]
      dsimp only [Option.bind_some]
      unfold wst_qu
      have ea : ∀ x : Int32, (if 0 ≤ x then x else 0 - x) = sp_abs x := fun x => rfl
      rw [ea]
      by_cases h1 : c.1 < sp_abs (sp_ri C (σ.1 36) 0 (Int32.ofNat (i + 1)) - sp_ri C (σ.1 36) 0 (Int32.ofNat i))
      · rw [if_pos h1, if_pos (Or.inl h1)]
      · rw [if_neg h1]
        by_cases h2 : c.2 = 0
        · rw [if_pos h2, if_pos (Or.inr h2)]
        · rw [if_neg h2, if_neg (fun x => x.elim h1 h2)]
    · intro c
      unfold f_RH_quickest_0_L31
      dsimp only
      rw [K1.1, B.1.2.1.1, if_pos (by rw [i_lt (by omega) (by omega)]; omega)]
  · rw [if_neg h]
    by_cases h1 : v < 0
    · rw [if_pos h1]; exact x_ens.so ⟨rfl, F⟩
    · rw [if_neg h1, if_neg (fun x => h ⟨i_nl.mp h1, x⟩)]; exact x_ens.so ⟨rfl, F⟩
theorem i_ltk {k : Nat} (h : k < 2147483648) : Int32.ofNat k ≤ 0 ↔ Int32.ofNat k = 0 := by
  rw [← i_z, i_le h (by omega), i_ej h (by omega)]; omega
theorem m_right {C : Nat → Nat → Int32} {σ : xS} {T : Nat → Int32} {n : Nat} {t : Int32} (G : x_G C) (M : x_M C σ) (S : x_S T n σ) (R : x_R C T n) (hl : σ.1 60 59 = 0) (h0 : 0 ≤ t) (h1 : t ≤ Int32.ofNat (sp_la C)) {γ : Type} {f : Int32 × xS → Option γ} {Q : γ → Prop} (k : ∀ q : Int32 × xS, q.1 = sp_ri C T 0 t → x_fr [(82, 99999), (83, 99999)] σ q.2 → x_ens (f q) Q) :
    x_ens ((f_Mo_whoseIn_60 t σ).bind fun q2 => (f_Mo_inchesOf_60 t q2.1 q2.2).bind fun q3 => (f_Mo_turnOf_60 q3.1 q3.2).bind f) Q := by
  unfold f_Mo_whoseIn_60
  rw [e_Mo_who G M]
  dsimp only [Option.bind_some]
  rw [e_Mo_inchesOf G M S.1.2.2.2.2.1 R.2.2.2.2.1 hl (by decide) (by decide) h0 h1]
  dsimp only [Option.bind_some]
  have r := sp_pl_r (C := C) (T := T) (late := 0) (who := sp_fa C t 0) G h1 (by decide) (by decide)
  exact x_ens.bf (e_Mo_turnOf G M r.1 r.2) (fun q e => fr_Mo_turnOf_60 e) (fun q hq f => k q hq (x_fr.su f rfl))
theorem m_quickest {C : Nat → Nat → Int32} {σ : xS} {v : Int32} (B : x_B C σ) : x_ens (f_Mo_quickest_60 v σ) (fun q => x_an x_k1 (A_quickest C (σ.1 36) v) q.1 q.2 ∧ x_B C q.2) := by
  unfold f_Mo_quickest_60 A_quickest
  dsimp only
  have hb := B.1.2.1.2
  obtain ⟨B1, S1, R1⟩ := B.m0
  rw [e_Mo_isWhat x_60]
  dsimp only [Option.bind_some]
  by_cases h : 0 ≤ v ∧ v ≤ 1
  · simp only [if_pos h]
    rw [if_neg (by decide)]
    refine x_ens.bi (P := fun b => (b.1, b.2.1) = sp_fo (wst_qu C (σ.1 36)) 0 (0, 0) (sp_la C) ∧ x_fr [(82, 99999), (83, 99999)] (x_pI σ 60 0 0) b.2.2.2) ?_ ?_
    · refine x_iv.go (fun i a => (a.1, a.2.1) = sp_fo (wst_qu C (σ.1 36)) 0 (0, 0) i ∧ (∃ k, k < 1000 ∧ a.2.1 = Int32.ofNat k) ∧ a.2.2.1 = Int32.ofNat (i + 1) ∧ x_fr [(82, 99999), (83, 99999)] (x_pI σ 60 0 0) a.2.2.2) (sp_la C) (by omega) ⟨rfl, ⟨0, by omega, rfl⟩, rfl, x_fr.rf⟩ ?_
      rintro i ⟨c1, c2, u, τ⟩ hi ⟨h3, ⟨k, hk, hk2⟩, h4, f3⟩
      dsimp only at h3 h4 f3 hk2
      subst h4
      unfold f_Mo_quickest_60_L23
      dsimp only
      have B3 := B1.fr f3 rfl
      have S3 := S1.fr f3 rfl rfl
      rw [B.1.last B3.2.2.1]
      dsimp only [Option.bind_some]
      by_cases hx : i = sp_la C
      · rw [if_pos (by rw [i_lt (by omega) (by omega)]; omega)]
        subst hx
        exact x_iv.l ⟨h3, f3⟩
      · rw [if_neg (by rw [i_lt (by omega) (by omega)]; omega)]
        refine m_right B.1 B3.2.2.1 S3 R1 B3.2.2.2.2.2.1.1 (i_0k (by omega)) ((i_le (by omega) (by omega)).mpr (by omega)) ?_
        intro q4 hq4 f4
        have f5 := x_fr.trans f3 f4
        have B5 := B1.fr f5 rfl
        rw [i_m1']
        refine m_right B.1 B5.2.2.1 (S1.fr f5 rfl rfl) R1 B5.2.2.2.2.2.1.1 (i_0k (by omega)) ((i_le (by omega) (by omega)).mpr (by omega)) ?_
        intro q7 hq7 f7
        have f8 := x_fr.trans f5 f7
        have r1 : ∀ t, 0 ≤ sp_ri C (σ.1 36) 0 t ∧ sp_ri C (σ.1 36) 0 t ≤ 999 := fun t => sp_tn_r B.1 _
        rw [hq4, hq7, e_Mo_off, i_abs (r1 _).1 (r1 _).2 (r1 _).1 (r1 _).2]
        dsimp only [Option.bind_some]
        have hs : sp_fo (wst_qu C (σ.1 36)) 0 (0, 0) (i + 1) = wst_qu C (σ.1 36) i (c1, c2) := by rw [sp_fo, ← h3]; rw [Nat.zero_add]
        rw [wst_qu_e] at hs
        dsimp only at hs
        by_cases h2 : c2 ≤ 0
        · rw [if_pos h2]
          rw [if_pos (Or.inr (by rw [hk2] at h2 ⊢; exact (i_ltk (by omega)).mp h2))] at hs
          exact x_iv.r (by omega) ⟨hs.symm, ⟨i + 1, by omega, rfl⟩, i_s, f8⟩
        · rw [if_neg h2]
          by_cases h1 : c1 < sp_abs (sp_ri C (σ.1 36) 0 (Int32.ofNat (i + 1)) - sp_ri C (σ.1 36) 0 (Int32.ofNat i))
          · rw [if_pos h1]
            rw [if_pos (Or.inl h1)] at hs
            exact x_iv.r (by omega) ⟨hs.symm, ⟨i + 1, by omega, rfl⟩, i_s, f8⟩
          · rw [if_neg h1]
            rw [if_neg (fun x => x.elim h1 (fun e => h2 (by rw [e]; decide)))] at hs
            exact x_iv.r (by omega) ⟨hs.symm, ⟨k, hk, hk2⟩, i_s, f8⟩
    · rintro b ⟨h3, f3⟩
      have k0 := (f3.ck 60 0 rfl).trans x_60
      have B3 := B1.fr f3 rfl
      rw [← h3]
      by_cases hv : v = 0
      · simp only [if_pos hv]; exact x_ens.so ⟨⟨k0, rfl⟩, B3⟩
      · simp only [if_neg hv]; exact x_ens.so ⟨⟨k0, rfl⟩, B3⟩
  · simp only [if_neg h]
    rw [if_pos trivial, x_pI_pI]; exact x_ens.so ⟨x_60, B.t0⟩
theorem o_quickest (v : Int32) : x_OP (w_quickest v) (f_Mo_quickest_60 v) := by
  refine x_OPq (f := f_RH_quickest_0 v) (κ := x_k1) (A := fun C g => A_quickest C (g 36) v) (fun C σ B F => c_quickest B F) (fun σ q e => fr_RH_quickest_0 e) rfl (fun C g g' h h55 h01 h59 => by simp only [h 35 (by simp), h 36 (by simp), h 39 (by simp), h 40 (by simp), h 41 (by simp), h 58 (by simp), h55, h01, h59]) (fun C σ B => m_quickest B) (fun σ q e => fr_Mo_quickest_60 e) rfl ?_ ?_
  · intro σ u τ e; unfold w_quickest; rw [e]; rfl
  · intro C σ B k τ e hk
    unfold A_quickest at hk
    (repeat' split at hk) <;> cases hk <;> (unfold w_quickest; rw [e]; exact ⟨rfl, by decide⟩)
