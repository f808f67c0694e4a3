def wsc_slip (C : Nat → Nat → Int32) (S : Nat → Int32) (i : Nat) : Int32 := sp_SH C S (sp_nk C) (Int32.ofNat i) 0 0
def wst_sl (sc : Nat → Int32) (i : Nat) (c : Int32 × Int32) : Int32 × Int32 := if c.2 ≤ sc i then c else (Int32.ofNat i, sc i)
def A_slip (C : Nat → Nat → Int32) (S : Nat → Int32) (v : Int32) : Int32 ⊕ Nat := if 0 ≤ v ∧ v ≤ 1 then .inl (if v = 0 then (sp_fo (wst_sl (wsc_slip C S)) 0 (0, wsc_slip C S 0) 31).1 else (sp_fo (wst_sl (wsc_slip C S)) 0 (0, wsc_slip C S 0) 31).2) else .inr 2
theorem i_lr {x : Int32} : x ≤ x := by grind
theorem c_late {C : Nat → Nat → Int32} {σ τ : xS} {i : Nat} (B : x_B C σ) (f1 : x_fr x_WC σ τ) : x_ens (f_RH_sharpLate_0 (Int32.ofNat i) τ) (fun q => q.1 = wsc_slip C (σ.1 36) i ∧ y_F C q.2 ∧ x_fr x_WC σ q.2) := by
  unfold f_RH_sharpLate_0
  have G := B.1
  have R := B.S.2
  obtain ⟨υ, e, K2, t1, t2, t3, t4, t5, t6, f2⟩ := c_take G (B.2.1.fr f1 rfl)
  rw [e]
  dsimp only [Option.bind_some]
  have f3 : x_fr x_WC σ (x_pI υ 49 2 (Int32.ofNat i)) := x_frI (p := 49) rfl (x_fr.trans f1 f2)
  obtain ⟨q, eq, hq, f4⟩ := c_as (T := σ.1 36) (n := sp_nk C) (late := Int32.ofNat i) (sh := 0) (ah := 0) G (B.2.1.fr f3 rfl) R.2.2.2.2.2.2.1 (fun k hk => by rw [y_pI_ne (by omega), t1 k hk, f1.ce 36 rfl]) R.2.2.2.2.2.1 t2 (by rw [x_pI_at]; rfl) t4 t5
  exact x_ens.be eq (x_ens.of (x := q) rfl ⟨hq, Or.inl (by rw [f4.ck 0 9 rfl]; exact t6), x_fr.trans f3 (x_fr.su f4 rfl)⟩)
theorem sp_sl_1 {sc : Nat → Int32} : ∀ k, sp_fo (wst_sl sc) 0 (0, sc 0) (k + 1) = sp_fo (fun i => wst_sl sc (i + 1)) 0 (0, sc 0) k
  | 0 => by
    show wst_sl sc 0 (0, sc 0) = (0, sc 0)
    unfold wst_sl
    rw [if_pos i_lr]
  | k + 1 => by
    have e1 := sp_fo_1 (st := wst_sl sc) (c := (0, sc 0)) (i := k + 1)
    have e2 := sp_fo_1 (st := fun i => wst_sl sc (i + 1)) (c := (0, sc 0)) (i := k)
    rw [e1, e2, sp_sl_1 k]
theorem c_slip {C : Nat → Nat → Int32} {σ : xS} {v : Int32} (B : x_B C σ) (F : y_F C σ) : x_ens (f_RH_slip_0 v σ) (fun q => q.1 = A_slip C (σ.1 36) v ∧ y_F C q.2) := by
  unfold f_RH_slip_0 A_slip
  by_cases h : 0 ≤ v ∧ v ≤ 1
  · rw [if_neg (i_nl.mpr h.1), if_pos h.2, if_pos h]
    refine x_ens.bi (c_late (i := 0) B x_fr.rf) ?_
    rintro q5 ⟨h5, F5, f5⟩
    have hf : sp_fo (wst_sl (wsc_slip C (σ.1 36))) 0 (0, wsc_slip C (σ.1 36) 0) 31 = sp_fo (fun i => wst_sl (wsc_slip C (σ.1 36)) (i + 1)) 0 (0, wsc_slip C (σ.1 36) 0) 30 := sp_sl_1 30
    rw [hf]
    refine x_ens.bi (P := fun b => (b.1, b.2.1) = sp_fo (fun i => wst_sl (wsc_slip C (σ.1 36)) (i + 1)) 0 (0, wsc_slip C (σ.1 36) 0) 30 ∧ y_F C b.2.2.2) ?_ ?_
    · rw [h5]
      refine x_scI (fun i (c : Int32 × Int32) τ => (c.1, c.2, Int32.ofNat (i + 1), τ)) (fun i => wst_sl (wsc_slip C (σ.1 36)) (i + 1)) (fun i c τ => y_F C τ ∧ x_fr x_WC σ τ) 30 (c0 := (0, wsc_slip C (σ.1 36) 0)) (by omega) ⟨F5, f5⟩ ?_ ?_
      · rintro i ⟨c1, c2⟩ τ hi ⟨F1, f1⟩
        unfold f_RH_slip_0_L31
        dsimp only
        rw [if_neg (show ¬ (30 : Int32) < Int32.ofNat (i + 1) from fun x => by have := (i_lt (j := 30) (by omega) (by omega)).mp x; omega)]
        refine x_ens.bi (c_late (i := i + 1) B f1) ?_
        rintro q ⟨hq, F4, f4⟩
        rw [hq]
        try dsimp only
        unfold wst_sl
        try dsimp only
        by_cases hc : c2 ≤ wsc_slip C (σ.1 36) (i + 1)
        · rw [if_pos hc, if_pos hc]; exact x_ens.so ⟨_, ⟨F4, f4⟩, by rw [i_s]⟩
        · rw [if_neg hc, if_neg hc]; exact x_ens.so ⟨_, ⟨F4, f4⟩, by rw [i_s]⟩
      · rintro c τ hc ⟨F1, f1⟩
        unfold f_RH_slip_0_L31
        dsimp only
        rw [if_pos (show (30 : Int32) < Int32.ofNat (30 + 1) by decide)]
        exact x_ens.so ⟨_, rfl, hc, F1⟩
    · rintro b ⟨hb, Fb⟩
      rw [← hb]
      by_cases h0 : v = 0
      · rw [if_pos h0, if_pos h0]; exact x_ens.so ⟨rfl, Fb⟩
      · rw [if_neg h0, if_neg h0]; exact x_ens.so ⟨rfl, Fb⟩
  · rw [if_neg h]
    by_cases h1 : v < 0
    · rw [if_pos h1]; exact x_ens.so ⟨rfl, F⟩
    · rw [if_neg h1, if_neg (fun x => h ⟨i_nl.mp h1, x⟩)]; exact x_ens.so ⟨rfl, F⟩
def wst_sl2 (sc : Nat → Int32) (i : Nat) (c : Int32 × Int32) : Int32 × Int32 := if c.1 = -1 ∨ sc i < c.2 then (Int32.ofNat i, sc i) else c
theorem sp_sl_eq {sc : Nat → Int32} : ∀ k, k < 1000 → sp_fo (wst_sl2 sc) 0 (-1, 0) (k + 1) = sp_fo (wst_sl sc) 0 (0, sc 0) (k + 1) ∧ 0 ≤ (sp_fo (wst_sl sc) 0 (0, sc 0) (k + 1)).1
  | 0, _ => by
    show wst_sl2 sc 0 (-1, 0) = wst_sl sc 0 (0, sc 0) ∧ 0 ≤ (wst_sl sc 0 (0, sc 0)).1
    unfold wst_sl2 wst_sl
    rw [if_pos (Or.inl rfl), if_pos i_lr]
    exact ⟨rfl, show (0 : Int32) ≤ 0 by decide⟩
  | k + 1, hk => by
    obtain ⟨h1, h2⟩ := @sp_sl_eq sc k (by omega)
    have e1 := sp_fo_1 (st := wst_sl2 sc) (c := (-1, 0)) (i := k + 1)
    have e2 := sp_fo_1 (st := wst_sl sc) (c := (0, sc 0)) (i := k + 1)
    rw [e1, e2, h1]
    generalize sp_fo (wst_sl sc) 0 (0, sc 0) (k + 1) = c at h2
    unfold wst_sl2 wst_sl
    by_cases hc : c.2 ≤ sc (k + 1)
    · rw [if_pos hc, if_neg (fun x => x.elim (i_m11 h2) (i_nl.mpr hc))]; exact ⟨rfl, h2⟩
    · rw [if_neg hc, if_pos (Or.inr (i_nle.mp hc))]; exact ⟨rfl, i_0k (by omega)⟩
theorem m_slip {C : Nat → Nat → Int32} {σ : xS} {v : Int32} (B : x_B C σ) : x_ens (f_Mo_slip_60 v σ) (fun q => x_an x_k1 (A_slip C (σ.1 36) v) q.1 q.2 ∧ x_B C q.2) := by
  unfold f_Mo_slip_60 A_slip
  dsimp only
  obtain ⟨B1, S1, R1⟩ := B.m0
  rw [e_Mo_isWhat x_60]
  dsimp only [Option.bind_some]
  by_cases h : 0 ≤ v ∧ v ≤ 1
  · simp only [if_pos h]
    rw [if_neg (by decide)]
    rw [← (@sp_sl_eq (wsc_slip C (σ.1 36)) 30 (by omega)).1]
    refine x_ens.bi (P := fun b => (b.1, b.2.1) = sp_fo (wst_sl2 (wsc_slip C (σ.1 36))) 0 (-1, 0) 31 ∧ x_fr ((60, 59) :: x_W8) (x_pI σ 60 0 0) b.2.2) ?_ ?_
    · refine x_scI (fun i (c : Int32 × Int32) τ => (c.1, c.2, τ)) (wst_sl2 (wsc_slip C (σ.1 36))) (fun i c τ => x_fr ((60, 59) :: x_W8) (x_pI σ 60 0 0) τ ∧ τ.1 60 59 = Int32.ofNat i) 31 (c0 := (-1, 0)) (by omega) ⟨x_frI (p := 60) (k := 59) rfl x_fr.rf, by rw [x_pI_at]; rfl⟩ ?_ ?_
      · rintro i ⟨c1, c2⟩ τ hi ⟨f1, e1⟩
        unfold f_Mo_slip_60_L25
        dsimp only
        rw [e1, if_neg (show ¬ (30 : Int32) < Int32.ofNat i from fun x => by have := (i_lt (j := 30) (by omega) (by omega)).mp x; omega)]
        refine x_ens.bf (e_Mo_takesSharp (T := σ.1 36) (n := sp_nk C) (late := Int32.ofNat i) (sh := 0) (ah := 0) B.1 (B1.2.2.1.fr f1 rfl rfl rfl rfl rfl rfl rfl) (S1.fr f1 rfl rfl) R1 e1 (by rw [f1.ck 60 60 rfl]; exact B1.2.2.2.2.2.1.2.1) (by rw [f1.ck 60 64 rfl]; exact B1.2.2.2.2.2.1.2.2) (i_0k (by omega)) ((i_le (k := 100) (by omega) (by omega)).mpr (by omega))) (fun q e => fr_Mo_takesSharp_60 e) ?_
        rintro q ⟨hq, -, -⟩ f3
        have e3 : q.2.1 60 59 = Int32.ofNat i := by rw [f3.ck 60 59 rfl]; exact e1
        have hq' : q.1 = wsc_slip C (σ.1 36) i := hq
        unfold f_Mo_slip_60_J54
        dsimp only
        rw [e3, hq', i_s]
        have f4 : x_fr ((60, 59) :: x_W8) (x_pI σ 60 0 0) (x_pI q.2 60 59 (Int32.ofNat (i + 1))) := x_frI (p := 60) (k := 59) rfl (x_fr.trans f1 (x_fr.su f3 rfl))
        have e4 : (x_pI q.2 60 59 (Int32.ofNat (i + 1))).1 60 59 = Int32.ofNat (i + 1) := by rw [x_pI_at]; rfl
        unfold wst_sl2
        dsimp only
        by_cases h1 : c1 = -1
        · rw [if_pos h1, if_pos (Or.inl h1)]; exact x_ens.so ⟨_, ⟨f4, e4⟩, rfl⟩
        · rw [if_neg h1]
          by_cases h2 : wsc_slip C (σ.1 36) i < c2
          · rw [if_pos h2, if_pos (Or.inr h2)]; exact x_ens.so ⟨_, ⟨f4, e4⟩, rfl⟩
          · rw [if_neg h2, if_neg (fun x => x.elim h1 h2)]; exact x_ens.so ⟨_, ⟨f4, e4⟩, rfl⟩
      · rintro c τ hc ⟨f1, e1⟩
        unfold f_Mo_slip_60_L25
        dsimp only
        rw [e1, if_pos (show (30 : Int32) < Int32.ofNat 31 by decide)]
        exact x_ens.so ⟨_, rfl, hc, f1⟩
    · rintro b ⟨hb, f⟩
      have f2 : x_fr ((60, 59) :: x_W8) (x_pI σ 60 0 0) (x_pI b.2.2 60 59 0) := x_frI (p := 60) (k := 59) rfl f
      have B2 : x_B C (x_pI b.2.2 60 59 0) := B1.fr2 (x_fr.su f2 rfl) (f2.ce 79 rfl) (by rw [x_pI_at]; exact B1.2.2.2.2.2.1.1.symm) (f2.ck 60 60 rfl) (f2.ck 60 64 rfl) (f2.ck 60 4 rfl)
      have z : (x_pI b.2.2 60 59 0).1 60 0 = 0 := (f2.ck 60 0 rfl).trans x_60
      rw [← hb]
      by_cases h0 : v = 0
      · rw [if_pos h0, if_pos h0]; exact x_ens.so ⟨⟨z, rfl⟩, B2⟩
      · rw [if_neg h0, if_neg h0]; exact x_ens.so ⟨⟨z, rfl⟩, B2⟩
  · simp only [if_neg h]
    rw [if_pos trivial, x_pI_pI]; exact x_ens.so ⟨x_60, B.t0⟩
theorem o_slip (v : Int32) : x_OP (w_slip v) (f_Mo_slip_60 v) := by
  refine x_OPq (f := f_RH_slip_0 v) (κ := x_k1) (A := fun C g => A_slip C (g 36) v) (fun C σ B F => c_slip B F) (fun σ q e => fr_RH_slip_0 e) rfl (fun C g g' h h55 h01 h59 => by simp only [h 35 (by simp), h 36 (by simp), h 39 (by simp), h 40 (by simp), h 41 (by simp), h 58 (by simp), h55, h01, h59]) (fun C σ B => m_slip B) (fun σ q e => fr_Mo_slip_60 e) rfl ?_ ?_
  · intro σ u τ e; unfold w_slip; rw [e]; rfl
  · intro C σ B k τ e hk
    unfold A_slip at hk
    (repeat' split at hk) <;> cases hk <;> (unfold w_slip; rw [e]; exact ⟨rfl, by decide⟩)
