theorem x_OSq {f m : xS → Option (Int32 × xS)} {A : (Nat → Nat → Int32) → (Nat → Nat → Int32) → Int32} {W V : List (Nat × Nat)}
    (hc : ∀ C σ, x_B C σ → y_F C σ → x_ens (f σ) (fun q => q.1 = A C σ.1 ∧ y_F C q.2)) (hcf : ∀ σ q, f σ = some q → x_fr W σ q.2) (hW : (W.all fun w => x_in x_Q w.1 w.2 || x_in x_Q w.1 99999) = true)
    (hA : ∀ C (g g' : Nat → Nat → Int32), (∀ p, p ∈ [35, 36, 39, 40, 41, 58] → g' p = g p) → A C g' = A C g)
    (hm : ∀ C σ, x_B C σ → x_ens (m σ) (fun q => q.1 = A C σ.1 ∧ x_B C q.2)) (hmf : ∀ σ q, m σ = some q → x_fr V σ q.2) (hV : (V.all fun w => decide (60 ≤ w.1)) = true) : x_OS f m := by
  rintro σ ⟨C, B, F⟩
  obtain ⟨⟨a, τ⟩, e, h1, h2⟩ := hc C σ B F
  dsimp only at h1 h2
  have f1 := hcf _ _ e
  dsimp only at f1
  have f4 : x_fr x_Q σ τ := x_fr.su f1 hW
  have B1 := B.fr f1 hW
  obtain ⟨⟨b, σ2⟩, e2, h3, h4⟩ := hm C τ B1
  have f3 := hmf _ _ e2
  dsimp only at h3 h4 f3
  have : A C τ.1 = A C σ.1 := by
    refine hA C _ _ ?_
    intro p hp
    simp only [List.mem_cons, List.mem_nil_iff, or_false] at hp
    rcases hp with rfl | rfl | rfl | rfl | rfl | rfl
    · exact f4.ce 35 rfl
    · exact f4.ce 36 rfl
    · exact f4.ce 39 rfl
    · exact f4.ce 40 rfl
    · exact f4.ce 41 rfl
    · exact f4.ce 58 rfl
  refine ⟨a, τ, σ2, e, ?_, ⟨C, h4, h2.fr f3 hV⟩⟩
  rw [e2, h3, this, ← h1]
def wst_bo (C : Nat → Nat → Int32) (S : Nat → Int32) (i : Nat) (c : Int32) : Int32 := if c < sp_abs (sp_tn C (sp_pl C S 0 (Int32.ofNat i) 0) - sp_tn C (sp_pl C S 0 (Int32.ofNat i) 1)) then sp_abs (sp_tn C (sp_pl C S 0 (Int32.ofNat i) 0) - sp_tn C (sp_pl C S 0 (Int32.ofNat i) 1)) else c
def A_both (C : Nat → Nat → Int32) (S : Nat → Int32) : Int32 := (sp_fo (wst_bo C S) 0 0 (sp_la C + 1) + 1) / 2
theorem c_both {C : Nat → Nat → Int32} {σ : xS} (B : x_B C σ) (F : y_F C σ) : x_ens (f_RH_both_0 σ) (fun q => q.1 = A_both C (σ.1 36) ∧ y_F C q.2) := by
  unfold f_RH_both_0 A_both
  have hb := B.1.2.1.2
  have := x_sc (body := f_RH_both_0_L4) (fun i (c : Int32) => (c, Int32.ofNat i, σ)) (wst_bo C (σ.1 36)) (fun c => (c, Int32.ofNat (sp_la C + 1), σ)) (sp_la C + 1) ?_ ?_ (sp_la C + 1) 10000 0 0 (by omega) (by omega)
  · rw [i_z] at this
    rw [this]
    dsimp only [Option.bind_some]
    refine x_ens.so ⟨?_, F⟩
    dsimp only
  · intro i c hi
    unfold f_RH_both_0_L4
    dsimp only
    rw [B.2.1.1, B.1.2.1.1, if_neg (by rw [i_lt (by omega) (by omega)]; omega), e_Sc_herIn B.2.1]
    dsimp only [Option.bind_some]
    rw [e_Sc_placeOf]
    dsimp only [Option.bind_some]
    rw [e_Sc_turnOf B.2.1]
    dsimp only [Option.bind_some]
    rw [e_Sc_turnOf B.2.1, i_s]
    dsimp only [Option.bind_some]
    have p0 : sp_hi C (Int32.ofNat i) = sp_pl C (σ.1 36) 0 (Int32.ofNat i) 0 := by unfold sp_pl; rw [if_pos rfl, i_t0 (i_0k (by omega))]
    have p1 : sp_wi (sp_hi C (Int32.ofNat i) + σ.1 36 5) 12 480 = sp_pl C (σ.1 36) 0 (Int32.ofNat i) 1 := by unfold sp_pl; rw [if_neg (by decide), i_t0 (i_0k (by omega))]
    rw [if_neg (show ¬ (1 : Int32) = 0 by decide), p1, p0]
    have ea : ∀ x : Int32, (if 0 ≤ x then x else 0 - x) = sp_abs x := fun x => rfl
    rw [ea]
    unfold wst_bo
    rfl
  · intro c
    unfold f_RH_both_0_L4
    dsimp only
    rw [B.2.1.1, B.1.2.1.1, if_pos (by rw [i_lt (by omega) (by omega)]; omega)]
theorem m_place {C : Nat → Nat → Int32} {σ : xS} {T : Nat → Int32} {n : Nat} {t who : Int32} (G : x_G C) (M : x_M C σ) (S : x_S T n σ) (R : x_R C T n) (hl : σ.1 60 59 = 0) (h0 : 0 ≤ t) (h1 : t ≤ Int32.ofNat (sp_la C)) {γ : Type} {f : Int32 × xS → Option γ} {Q : γ → Prop} (k : ∀ q : Int32 × xS, q.1 = sp_tn C (sp_pl C T 0 t who) → x_fr [(82, 99999), (83, 99999)] σ q.2 → x_ens (f q) Q) :
    x_ens ((f_Mo_inchesOf_60 t who σ).bind fun q3 => (f_Mo_turnOf_60 q3.1 q3.2).bind f) Q := by
  rw [e_Mo_inchesOf G M S.1.2.2.2.2.1 R.2.2.2.2.1 hl (by decide) (by decide) h0 h1]
  dsimp only [Option.bind_some]
  have r := sp_pl_r (C := C) (T := T) (late := 0) (who := who) G h1 (by decide) (by decide)
  exact x_ens.bf (e_Mo_turnOf G M r.1 r.2) (fun q e => fr_Mo_turnOf_60 e) (fun q hq f => k q hq (x_fr.su f rfl))
theorem m_both {C : Nat → Nat → Int32} {σ : xS} (B : x_B C σ) : x_ens (f_Mo_both_60 σ) (fun q => q.1 = A_both C (σ.1 36) ∧ x_B C q.2) := by
  unfold f_Mo_both_60 A_both
  dsimp only
  have hb := B.1.2.1.2
  obtain ⟨B1, S1, R1⟩ := B.m0
  refine x_ens.bi (P := fun b => b.1 = sp_fo (wst_bo C (σ.1 36)) 0 0 (sp_la C + 1) ∧ x_fr [(82, 99999), (83, 99999)] (x_pI σ 60 0 0) b.2.2) ?_ (fun b hb => x_ens.so ⟨by dsimp only; rw [hb.1], B1.fr hb.2 rfl⟩)
  refine x_iv.go (fun i a => a.1 = sp_fo (wst_bo C (σ.1 36)) 0 0 i ∧ a.2.1 = Int32.ofNat i ∧ x_fr [(82, 99999), (83, 99999)] (x_pI σ 60 0 0) a.2.2) (sp_la C + 1) (by omega) ⟨rfl, rfl, x_fr.rf⟩ ?_
  rintro i ⟨c1, u, τ⟩ hi ⟨h3, h4, f3⟩
  dsimp only at h3 h4 f3
  subst h4
  unfold f_Mo_both_60_L9
  dsimp only
  have B3 := B1.fr f3 rfl
  rw [B.1.last B3.2.2.1]
  dsimp only [Option.bind_some]
  by_cases hx : sp_la C < i
  · rw [if_pos (by rw [i_lt (by omega) (by omega)]; omega)]
    have : i = sp_la C + 1 := by omega
    subst this
    exact x_iv.l ⟨h3, f3⟩
  · rw [if_neg (by rw [i_lt (by omega) (by omega)]; omega)]
    refine m_place B.1 B3.2.2.1 (S1.fr f3 rfl rfl) R1 B3.2.2.2.2.2.1.1 (i_0k (by omega)) ((i_le (by omega) (by omega)).mpr (by omega)) ?_
    intro q4 hq4 f4
    have f5 := x_fr.trans f3 f4
    have B5 := B1.fr f5 rfl
    refine m_place B.1 B5.2.2.1 (S1.fr f5 rfl rfl) R1 B5.2.2.2.2.2.1.1 (i_0k (by omega)) ((i_le (by omega) (by omega)).mpr (by omega)) ?_
    intro q7 hq7 f7
    have f8 := x_fr.trans f5 f7
    have r1 := sp_tn_r B.1
    rw [hq4, hq7, e_Mo_off, i_abs (r1 _).1 (r1 _).2 (r1 _).1 (r1 _).2]
    dsimp only [Option.bind_some]
    have hs : sp_fo (wst_bo C (σ.1 36)) 0 0 (i + 1) = wst_bo C (σ.1 36) i c1 := by rw [sp_fo, ← h3]; rw [Nat.zero_add]
    rw [show wst_bo C (σ.1 36) i c1 = if c1 < sp_abs (sp_tn C (sp_pl C (σ.1 36) 0 (Int32.ofNat i) 0) - sp_tn C (sp_pl C (σ.1 36) 0 (Int32.ofNat i) 1)) then sp_abs (sp_tn C (sp_pl C (σ.1 36) 0 (Int32.ofNat i) 0) - sp_tn C (sp_pl C (σ.1 36) 0 (Int32.ofNat i) 1)) else c1 from rfl] at hs
    by_cases h2 : sp_abs (sp_tn C (sp_pl C (σ.1 36) 0 (Int32.ofNat i) 0) - sp_tn C (sp_pl C (σ.1 36) 0 (Int32.ofNat i) 1)) ≤ c1
    · rw [if_pos h2]
      rw [if_neg (i_nl.mpr h2)] at hs
      exact x_iv.r (by omega) ⟨hs.symm, i_s, f8⟩
    · rw [if_neg h2]
      rw [if_pos (i_nle.mp h2)] at hs
      exact x_iv.r (by omega) ⟨hs.symm, i_s, f8⟩
theorem o_both : x_OS f_RH_both_0 f_Mo_both_60 :=
  x_OSq (A := fun C g => A_both C (g 36)) (fun C σ B F => c_both B F) (fun σ q e => fr_RH_both_0 e) rfl (fun C g g' h => by rw [h 36 (by simp)]) (fun C σ B => m_both B) (fun σ q e => fr_Mo_both_60 e) rfl
def wst_li (C : Nat → Nat → Int32) (S : Nat → Int32) (m k : Int32) (i : Nat) (c : Int32 × Int64 × Int64) : Int32 × Int64 × Int64 :=
  if sp_shw C S (S 0 + Int32.ofNat i) = 0 then c
  else if c.1 = -1 ∨ lg_cmp (((Int32.ofNat i * m).toInt64 * (sp_shw C S (S 0 + Int32.ofNat i)).toInt64 + k.toInt64 * (Int32.ofNat (sp_la C + 1)).toInt64) * c.2.2) (c.2.1 * (sp_shw C S (S 0 + Int32.ofNat i)).toInt64) < 0
  then (Int32.ofNat i, (Int32.ofNat i * m).toInt64 * (sp_shw C S (S 0 + Int32.ofNat i)).toInt64 + k.toInt64 * (Int32.ofNat (sp_la C + 1)).toInt64, (sp_shw C S (S 0 + Int32.ofNat i)).toInt64) else c
theorem wst_li_e {C : Nat → Nat → Int32} {S : Nat → Int32} {m k : Int32} {i : Nat} {c : Int32 × Int64 × Int64} : wst_li C S m k i c = if sp_shw C S (S 0 + Int32.ofNat i) = 0 then c
  else if c.1 = -1 ∨ lg_cmp (((Int32.ofNat i * m).toInt64 * (sp_shw C S (S 0 + Int32.ofNat i)).toInt64 + k.toInt64 * (Int32.ofNat (sp_la C + 1)).toInt64) * c.2.2) (c.2.1 * (sp_shw C S (S 0 + Int32.ofNat i)).toInt64) < 0
  then (Int32.ofNat i, (Int32.ofNat i * m).toInt64 * (sp_shw C S (S 0 + Int32.ofNat i)).toInt64 + k.toInt64 * (Int32.ofNat (sp_la C + 1)).toInt64, (sp_shw C S (S 0 + Int32.ofNat i)).toInt64) else c := rfl
def A_light (C : Nat → Nat → Int32) (S : Nat → Int32) (m k : Int32) : Int32 ⊕ Nat := if (0 ≤ m ∧ m ≤ 99) ∧ 1 ≤ k ∧ k ≤ 99 then .inl (sp_fo (wst_li C S m k) 0 (-1, 0, 1) (61 - (S 0).toNatClampNeg)).1 else .inr 1
theorem sp_cnt_n {g : Nat → Int32} {h : Int32} : ∀ {n : Nat}, n < 1000 → ∃ k : Nat, k ≤ n ∧ sp_fo (wst_cnt g h) 0 0 n = Int32.ofNat k
  | 0, _ => ⟨0, by omega, rfl⟩
  | n + 1, hn => by
    obtain ⟨k, h1, h2⟩ := @sp_cnt_n g h n (by omega)
    rw [sp_fo, h2]
    unfold wst_cnt
    split
    · exact ⟨k, by omega, i_a0⟩
    · exact ⟨k + 1, by omega, i_s⟩
theorem l_of {k : Nat} (h : k < 2147483648) : (Int32.ofNat k).toInt64 = Int64.ofNat k := by
  rw [← Int64.toInt_inj, Int32.toInt_toInt64, i_ti h, Int64.toInt_ofNat_of_lt (by simp; omega)]
theorem l_0 {k : Nat} (h : k < 1000) : (lg_cmp (Int32.ofNat k).toInt64 0 ≤ 0 ↔ Int32.ofNat k = 0) ∧ (lg_cmp (Int32.ofNat k).toInt64 0 = 0 ↔ Int32.ofNat k = 0) := by
  rw [l_of (by omega)]
  unfold lg_cmp
  by_cases hk : k = 0
  · subst hk; decide
  · have h1 : Int64.ofNat k > 0 := by
      show (0 : Int64) < Int64.ofNat k
      rw [Int64.lt_iff_toInt_lt, Int64.toInt_ofNat_of_lt (by simp; omega)]
      show (0 : Int) < k
      omega
    have h2 : ¬ Int32.ofNat k = 0 := by rw [← i_z, i_ej (by omega) (by omega)]; exact hk
    rw [if_pos h1]
    exact ⟨⟨fun x => absurd x (by decide), fun x => absurd x h2⟩, ⟨fun x => absurd x (by decide), fun x => absurd x h2⟩⟩
theorem i_60 {h : Int32} {i : Nat} (h1 : 1 ≤ h) (h2 : h ≤ 60) (hi : i < 100) : ((60 : Int32) - h < Int32.ofNat i ↔ 61 - h.toNatClampNeg ≤ i) ∧ h.toNatClampNeg ≤ 60 := by
  obtain ⟨k, rfl, hk⟩ : ∃ k : Nat, h = Int32.ofNat k ∧ k ≤ 60 := ⟨h.toNatClampNeg, (i_ex (by grind)).1, i_nat (n := 60) (by omega) h2⟩
  rw [i_cl (by omega)]
  have e : (60 : Int32) - Int32.ofNat k = Int32.ofNat (60 - k) := by
    have : Int32.ofNat (60 - k) + Int32.ofNat k = 60 := by rw [← Int32.ofNat_add, show 60 - k + k = 60 by omega]; rfl
    rw [← this]; grind
  rw [e, i_lt (by omega) (by omega)]
  omega
theorem l_1 {l : Nat} (h : l ≤ 600) : (Int32.ofNat l).toInt64 + 1 = (Int32.ofNat (l + 1)).toInt64 := by
  rw [l_of (by omega), l_of (by omega), Int64.ofNat_add]; rfl

theorem c_light {C : Nat → Nat → Int32} {σ : xS} {m k : Int32} (B : x_B C σ) (F : y_F C σ) : x_ens (f_RH_light_0 m k σ) (fun q => q.1 = A_light C (σ.1 36) m k ∧ y_F C q.2) := by
  unfold f_RH_light_0 A_light
  have hb := B.1.2.1.2
  have R := B.S.2.1
  by_cases h : (0 ≤ m ∧ m ≤ 99) ∧ 1 ≤ k ∧ k ≤ 99
  · rw [if_neg (i_nl.mpr h.1.1), if_neg (i_nl.mpr h.1.2), if_neg (i_nl.mpr h.2.1), if_pos h.2.2, if_pos h]
    refine x_ens.bi (B.walk F) ?_
    rintro q ⟨F1, K1, l5, h0, e36, of⟩
    have hn := (i_60 (i := 0) R.1 R.2 (by omega)).2
    have := x_sc (body := f_RH_light_0_L46 m k) (fun i (c : Int32 × Int64 × Int64) => (c.1, c.2.1, c.2.2, Int32.ofNat i, q.2)) (wst_li C (σ.1 36) m k) (fun c => (c.1, c.2.1, c.2.2, Int32.ofNat (61 - (σ.1 36 0).toNatClampNeg), q.2)) (61 - (σ.1 36 0).toNatClampNeg) ?_ ?_ (61 - (σ.1 36 0).toNatClampNeg) 10000 0 (-1, 0, 1) (by omega) (by omega)
    · rw [i_z] at this
      dsimp only at this ⊢
      rw [this]
      refine x_ens.so ?_
      exact ⟨rfl, F1⟩
    · intro i c hi
      unfold f_RH_light_0_L46
      dsimp only
      rw [e36, if_neg (fun x => by have := (i_60 R.1 R.2 (by omega)).1.mp x; omega), e_Tr_sharpBy l5 hb, sp_fo_cnt of]
      dsimp only [Option.bind_some]
      have es : sp_fo (wst_cnt (sp_of C (σ.1 36) (sp_nk C) 0 0 0) (σ.1 36 0 + Int32.ofNat i)) 0 0 (sp_la C + 1) = sp_shw C (σ.1 36) (σ.1 36 0 + Int32.ofNat i) := rfl
      rw [es, K1.1, B.1.2.1.1, i_s, i_s, wst_li_e]
      obtain ⟨n, hn1, hn2⟩ := @sp_cnt_n (sp_of C (σ.1 36) (sp_nk C) 0 0 0) (σ.1 36 0 + Int32.ofNat i) (sp_la C + 1) (by omega)
      rw [es] at hn2
      have l0 := l_0 (k := n) (by omega)
      rw [← hn2] at l0
      by_cases hz : sp_shw C (σ.1 36) (σ.1 36 0 + Int32.ofNat i) = 0
      · rw [if_pos (l0.1.mpr hz), if_pos hz]
      · rw [if_neg (fun x => hz (l0.1.mp x)), if_neg hz]
        by_cases hc : c.1 = -1
        · rw [if_pos hc, if_pos (Or.inl hc)]
        · rw [if_neg hc]
          generalize lg_cmp _ _ = z
          by_cases hl : z < 0
          · rw [if_neg (i_nle.mpr hl), if_pos (Or.inr hl)]
          · rw [if_pos (i_nl.mp hl), if_neg (fun x => x.elim hc hl)]
    · intro c
      unfold f_RH_light_0_L46
      dsimp only
      rw [e36, if_pos ((i_60 R.1 R.2 (by omega)).1.mpr (by omega))]
  · rw [if_neg h]
    by_cases h1 : m < 0
    · rw [if_pos h1]; exact x_ens.so ⟨rfl, F⟩
    rw [if_neg h1]
    by_cases h2 : 99 < m
    · rw [if_pos h2]; exact x_ens.so ⟨rfl, F⟩
    rw [if_neg h2]
    by_cases h3 : k < 1
    · rw [if_pos h3]; exact x_ens.so ⟨rfl, F⟩
    rw [if_neg h3, if_neg (fun x => h ⟨⟨i_nl.mp h1, i_nl.mp h2⟩, i_nl.mp h3, x⟩)]; exact x_ens.so ⟨rfl, F⟩
theorem m_light {C : Nat → Nat → Int32} {σ : xS} {m k : Int32} (B : x_B C σ) : x_ens (f_Mo_light_60 m k σ) (fun q => x_an x_k1 (A_light C (σ.1 36) m k) q.1 q.2 ∧ x_B C q.2) := by
  unfold f_Mo_light_60 A_light f_Mo_light_60_J30
  dsimp only
  have hb := B.1.2.1.2
  obtain ⟨B1, S1, R1⟩ := B.m0
  have R := R1.1
  have bad : x_ens (f_Mo_light_60_J31 m k 0 (x_pI σ 60 0 0)) (fun q => x_an x_k1 (.inr 1) q.1 q.2 ∧ x_B C q.2) := by
    unfold f_Mo_light_60_J31
    rw [e_Mo_right0 x_60 (by decide)]
    dsimp only [Option.bind_some]
    rw [if_pos rfl, x_pI_pI]; exact x_ens.so ⟨x_60, B.t0⟩
  rw [e_Mo_within]
  dsimp only [Option.bind_some]
  rw [e_Mo_within]
  dsimp only [Option.bind_some]
  by_cases h1 : 0 ≤ m ∧ m ≤ 99
  · rw [if_pos h1, if_neg (by decide)]
    by_cases h2 : 1 ≤ k ∧ k ≤ 99
    · rw [if_pos h2, if_neg (by decide), if_pos ⟨h1, h2⟩]
      unfold f_Mo_light_60_J31
      rw [e_Mo_right1 x_60 (by decide)]
      dsimp only [Option.bind_some]
      rw [if_neg (by decide)]
      refine x_ens.bi (B1.go S1 R1 x_60) ?_
      rintro q ⟨hg, B2, S2, k0, f1⟩
      have hn := (i_60 (i := 0) R.1 R.2 (by omega)).2
      rw [S2.1.1]
      refine x_ens.bi (P := fun b => (b.1, b.2.1, b.2.2.1) = sp_fo (wst_li C (σ.1 36) m k) 0 (-1, 0, 1) (61 - (σ.1 36 0).toNatClampNeg) ∧ ∃ w, b.2.2.2.2 = x_pI q.2 79 0 w) ?_ ?_
      · refine x_iv.go (fun i a => (a.1, a.2.1, a.2.2.1) = sp_fo (wst_li C (σ.1 36) m k) 0 (-1, 0, 1) i ∧ a.2.2.2.1 = Int32.ofNat i ∧ ∃ w, a.2.2.2.2 = x_pI q.2 79 0 w) (61 - (σ.1 36 0).toNatClampNeg) (by omega) ⟨rfl, rfl, q.2.1 79 0, (x_pI_same rfl).symm⟩ ?_
        rintro i ⟨c1, c2, c3, u, τ⟩ hi ⟨h3, h4, w, h5⟩
        dsimp only at h3 h4 h5
        subst h4 h5
        unfold f_Mo_light_60_L63
        dsimp only
        by_cases hx : 61 - (σ.1 36 0).toNatClampNeg ≤ i
        · rw [if_pos ((i_60 R.1 R.2 (by omega)).1.mpr hx)]
          have : i = 61 - (σ.1 36 0).toNatClampNeg := by omega
          subst this
          exact x_iv.l ⟨h3, w, rfl⟩
        · rw [if_neg (fun x => hx ((i_60 R.1 R.2 (by omega)).1.mp x)), x_pI_pI]
          have M3 : x_M C (x_pI q.2 79 0 (σ.1 36 0 + Int32.ofNat i)) := x_M.fr (W := [(79, 0)]) B2.2.2.1 (x_frI (p := 79) (k := 0) rfl x_fr.rf) rfl rfl rfl rfl rfl rfl rfl
          rw [e_Mo_sharpMany B.1 M3]
          dsimp only [Option.bind_some]
          have e : sp_fo (wst_cnt ((x_pI q.2 79 0 (σ.1 36 0 + Int32.ofNat i)).1 86) ((x_pI q.2 79 0 (σ.1 36 0 + Int32.ofNat i)).1 79 0)) 0 0 (sp_la C + 1) = sp_shw C (σ.1 36) (σ.1 36 0 + Int32.ofNat i) := by
            rw [y_pI_ne (by omega), x_pI_at]
            exact sp_fo_cnt (fun t ht => (hg t (by omega)).2.2)
          rw [e, B.1.last M3]
          dsimp only [Option.bind_some]
          rw [l_1 hb, i_s]
          have hs : sp_fo (wst_li C (σ.1 36) m k) 0 (-1, 0, 1) (i + 1) = wst_li C (σ.1 36) m k i (c1, c2, c3) := by rw [sp_fo, ← h3]; rw [Nat.zero_add]
          rw [wst_li_e] at hs
          dsimp only at hs
          obtain ⟨n, hn1, hn2⟩ := @sp_cnt_n (sp_of C (σ.1 36) (sp_nk C) 0 0 0) (σ.1 36 0 + Int32.ofNat i) (sp_la C + 1) (by omega)
          have l0 := l_0 (k := n) (by omega)
          rw [← hn2] at l0
          have es : sp_fo (wst_cnt (sp_of C (σ.1 36) (sp_nk C) 0 0 0) (σ.1 36 0 + Int32.ofNat i)) 0 0 (sp_la C + 1) = sp_shw C (σ.1 36) (σ.1 36 0 + Int32.ofNat i) := rfl
          rw [es] at l0
          by_cases hz : sp_shw C (σ.1 36) (σ.1 36 0 + Int32.ofNat i) = 0
          · rw [if_pos (l0.2.mpr hz)]
            rw [if_pos hz] at hs
            exact x_iv.r (by omega) ⟨hs.symm, rfl, _, rfl⟩
          · rw [if_neg (fun x => hz (l0.2.mp x))]
            rw [if_neg hz] at hs
            by_cases hc : c1 = -1
            · rw [if_pos hc]
              rw [if_pos (Or.inl hc)] at hs
              exact x_iv.r (by omega) ⟨hs.symm, rfl, _, rfl⟩
            · rw [if_neg hc]
              by_cases hl : lg_cmp (((Int32.ofNat i * m).toInt64 * (sp_shw C (σ.1 36) (σ.1 36 0 + Int32.ofNat i)).toInt64 + k.toInt64 * (Int32.ofNat (sp_la C + 1)).toInt64) * c3) (c2 * (sp_shw C (σ.1 36) (σ.1 36 0 + Int32.ofNat i)).toInt64) < 0
              · rw [if_pos hl]
                rw [if_pos (Or.inr hl)] at hs
                exact x_iv.r (by omega) ⟨hs.symm, rfl, _, rfl⟩
              · rw [if_neg hl]
                rw [if_neg (fun x => x.elim hc hl)] at hs
                exact x_iv.r (by omega) ⟨hs.symm, rfl, _, rfl⟩
      · rintro b ⟨h3, w, h4⟩
        have e1 := congrArg Prod.fst h3
        dsimp only at e1
        refine x_ens.so ?_
        rw [h4, x_pI_pI, x_pI_same S2.1.1]
        exact ⟨⟨k0, e1⟩, B2⟩
    · rw [if_neg h2, if_pos rfl, if_neg (fun x => h2 x.2)]; exact bad
  · rw [if_neg h1, if_pos rfl, if_neg (fun x => h1 x.1)]; exact bad
theorem o_light (m k : Int32) : x_OP (w_light m k) (f_Mo_light_60 m k) := by
  refine x_OPq (f := f_RH_light_0 m k) (κ := x_k1) (A := fun C g => A_light C (g 36) m k) (fun C σ B F => c_light B F) (fun σ q e => fr_RH_light_0 e) rfl (fun C g g' h h55 h01 h59 => by simp only [h 35 (by simp), h 36 (by simp), h 39 (by simp), h 40 (by simp), h 41 (by simp), h 58 (by simp), h55, h01, h59]) (fun C σ B => m_light B) (fun σ q e => fr_Mo_light_60 e) rfl ?_ ?_
  · intro σ u τ e; unfold w_light; rw [e]; rfl
  · intro C σ B k τ e hk
    unfold A_light at hk
    (repeat' split at hk) <;> cases hk <;> (unfold w_light; rw [e]; exact ⟨rfl, by decide⟩)
