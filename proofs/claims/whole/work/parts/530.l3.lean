theorem i_div {k m : Nat} (hk : k < 2147483648) (hm : m < 2147483648) : Int32.ofNat k / Int32.ofNat m = Int32.ofNat (k / m) := by
  have hd : k / m ≤ k := Nat.div_le_self k m
  rw [← Int32.toInt_inj, Int32.toInt_div, i_ti hk, i_ti hm, i_ti (by omega)]
  have e : (k : Int).tdiv (m : Int) = ((k / m : Nat) : Int) := by
    rw [Int.tdiv_eq_ediv_of_nonneg (by omega)]; rfl
  rw [e]
  generalize k / m = d at hd
  exact Int.bmod_eq_of_le (by omega) (by omega)
theorem i_mod {k m : Nat} (hk : k < 2147483648) (hm : m < 2147483648) : Int32.ofNat k - Int32.ofNat k / Int32.ofNat m * Int32.ofNat m = Int32.ofNat (k % m) := by
  rw [i_div hk hm, ← Int32.ofNat_mul, i_subn (Nat.div_mul_le_self k m)]
  congr 1
  have := Nat.div_add_mod k m
  rw [Nat.mul_comm] at this
  omega
def sp_dr (s : Int32) : Nat := ((s.toBitVec >>> 16) &&& 32767#32).toNat
theorem sp_dr_r {s : Int32} : sp_dr s ≤ 32767 := by
  unfold sp_dr
  rw [BitVec.toNat_and]
  exact Nat.and_le_right
theorem wbv_of {b : BitVec 32} : BitVec.ofNat 32 b.toNat = b := by simp
theorem sp_dr_c {s : Int32} : (s.toUInt32 >>> ((16 : Int32).toUInt32 &&& Int32.toUInt32 31)).toInt32 &&& 32767 = Int32.ofNat (sp_dr s) :=
  Int32.toBitVec_inj.mp (show (s.toBitVec >>> 16) &&& 32767#32 = BitVec.ofNat 32 ((s.toBitVec >>> 16) &&& 32767#32).toNat from wbv_of.symm)
theorem wbv_327 {i : Nat} (h : i < 32) : (32767#32).getLsbD i = decide (i < 15) := by
  rw [BitVec.getLsbD_ofNat, show 32767 = 2 ^ 15 - 1 from rfl, Nat.testBit_two_pow_sub_one]
  simp [h]
theorem wbv_sh2 {x : BitVec 32} : (x >>> 16) &&& 32767#32 = (x.sshiftRight 16) &&& 32767#32 := by
  apply BitVec.eq_of_getLsbD_eq
  intro i hi
  rw [BitVec.getLsbD_and, BitVec.getLsbD_and, wbv_327 hi, BitVec.getLsbD_ushiftRight, BitVec.getLsbD_sshiftRight]
  by_cases h : i < 15
  · rw [decide_eq_true h, Bool.and_true, Bool.and_true, decide_eq_false (show ¬ 32 ≤ i by omega), if_pos (show 16 + i < 32 by omega)]; rfl
  · rw [decide_eq_false h, Bool.and_false, Bool.and_false]
theorem sp_dr_m {s : Int32} : (s >>> ((16 : Int32) &&& 31)) &&& 32767 = Int32.ofNat (sp_dr s) := by
  rw [← sp_dr_c]
  exact Int32.toBitVec_inj.mp (wbv_sh2 (x := s.toBitVec)).symm
def sp_sd (s : Int32) : Int32 := s * 1103515245 + 12345
def wst_tk (C : Nat → Nat → Int32) (S : Nat → Int32) (m : Nat) (th : Int32) (i : Nat) (c : Int32 × Int32 × Int32 × Int32) : Int32 × Int32 × Int32 × Int32 :=
  (sp_sd c.1, c.2.1 + (if wsc_slip C S (sp_dr (sp_sd c.1) % m) < th then 0 else 1), c.2.2.1 + wsc_slip C S (sp_dr (sp_sd c.1) % m), if i = 0 then wsc_slip C S (sp_dr (sp_sd c.1) % m) else if wsc_slip C S (sp_dr (sp_sd c.1) % m) < c.2.2.2 then wsc_slip C S (sp_dr (sp_sd c.1) % m) else c.2.2.2)
theorem wst_tk_e {C : Nat → Nat → Int32} {S : Nat → Int32} {m : Nat} {th : Int32} {i : Nat} {c : Int32 × Int32 × Int32 × Int32} : wst_tk C S m th i c = (sp_sd c.1, c.2.1 + (if wsc_slip C S (sp_dr (sp_sd c.1) % m) < th then 0 else 1), c.2.2.1 + wsc_slip C S (sp_dr (sp_sd c.1) % m), if i = 0 then wsc_slip C S (sp_dr (sp_sd c.1) % m) else if wsc_slip C S (sp_dr (sp_sd c.1) % m) < c.2.2.2 then wsc_slip C S (sp_dr (sp_sd c.1) % m) else c.2.2.2) := rfl
def sp_tk (C : Nat → Nat → Int32) (S : Nat → Int32) (a n m th : Int32) : Int32 × Int32 × Int32 × Int32 := sp_fo (wst_tk C S m.toNatClampNeg th) 0 (a, 0, 0, 0) n.toNatClampNeg
def A_takes (C : Nat → Nat → Int32) (S : Nat → Int32) (a n m th v : Int32) : Int32 ⊕ Nat := if 0 ≤ v ∧ v ≤ 2 then (if 0 ≤ n ∧ n ≤ 40 then (if 1 ≤ m ∧ m ≤ 30 then (if 0 ≤ th ∧ th ≤ 601 then .inl (if v = 0 then (sp_tk C S a n m th).2.1 else if v = 1 then (sp_tk C S a n m th).2.2.1 else (sp_tk C S a n m th).2.2.2) else .inr 1) else .inr 1) else .inr 1) else .inr 2
theorem i_rge {n : Int32} {b : Nat} (hb : b < 1000) (h : 0 ≤ n) (h2 : n ≤ Int32.ofNat b) : ∃ k : Nat, k ≤ b ∧ n = Int32.ofNat k ∧ n.toNatClampNeg = k := ⟨_, i_nat (by omega) h2, (i_ex h).1, rfl⟩
theorem i_1r {m : Int32} (h : 1 ≤ m) : 0 ≤ m := by grind
theorem c_takes {C : Nat → Nat → Int32} {σ : xS} {a n m th v : Int32} (B : x_B C σ) (F : y_F C σ) : x_ens (f_RH_takes_0 a n m th v σ) (fun q => q.1 = A_takes C (σ.1 36) a n m th v ∧ y_F C q.2) := by
  unfold f_RH_takes_0 A_takes
  by_cases hv : 0 ≤ v ∧ v ≤ 2
  · rw [if_neg (i_nl.mpr hv.1), if_pos hv.2, if_pos hv]
    by_cases hn : 0 ≤ n ∧ n ≤ 40
    · rw [if_neg (i_nl.mpr hn.1), if_neg (i_nl.mpr hn.2), if_pos hn]
      by_cases hm : 1 ≤ m ∧ m ≤ 30
      · rw [if_neg (i_nl.mpr hm.1), if_neg (i_nl.mpr hm.2), if_pos hm]
        by_cases ht : 0 ≤ th ∧ th ≤ 601
        · rw [if_neg (i_nl.mpr ht.1), if_pos ht.2, if_pos ht]
          unfold sp_tk
          obtain ⟨kn, kn1, kn2, kn3⟩ := i_rge (b := 40) (by omega) hn.1 hn.2
          obtain ⟨km, km1, km2, km3⟩ := i_rge (b := 30) (by omega) (i_1r hm.1) hm.2
          have km0 : 1 ≤ km := by
            have := hm.1
            rw [km2] at this
            exact (i_le (j := 1) (by omega) (by omega)).mp this
          rw [kn3, km3]
          refine x_ens.bi (P := fun b => (b.1, b.2.1, b.2.2.1, b.2.2.2.1) = sp_fo (wst_tk C (σ.1 36) km th) 0 (a, 0, 0, 0) kn ∧ y_F C b.2.2.2.2.2) ?_ ?_
          · refine x_scI (fun i (c : Int32 × Int32 × Int32 × Int32) τ => (c.1, c.2.1, c.2.2.1, c.2.2.2, Int32.ofNat i, τ)) (wst_tk C (σ.1 36) km th) (fun i c τ => y_F C τ ∧ x_fr x_WC σ τ) kn (c0 := (a, 0, 0, 0)) (by omega) ⟨F, x_fr.rf⟩ ?_ ?_
            · rintro i ⟨c1, c2, c3, c4⟩ τ hi ⟨F1, f1⟩
              unfold f_RH_takes_0_L82
              dsimp only
              rw [kn2, if_neg (fun x => by have := (i_le (by omega) (by omega)).mp x; omega), if_neg (show ¬ m = 0 from fun x => by rw [x] at hm; exact absurd hm.1 (by decide)), show c1 * 1103515245 + 12345 = sp_sd c1 from rfl, sp_dr_c, km2, i_mod (by have := @sp_dr_r (sp_sd c1); omega) (by omega)]
              refine x_ens.bi (c_late (i := sp_dr (sp_sd c1) % km) B f1) ?_
              rintro q ⟨hq, F4, f4⟩
              rw [hq, wst_tk_e]
              unfold f_RH_takes_0_J131
              dsimp only
              generalize wsc_slip C (σ.1 36) (sp_dr (sp_sd c1) % km) = w
              have fin : ∀ y : Int32, (if w < th then (0 : Int32) else 1) = y → x_ens (if Int32.ofNat i = 0 then some (Sum.inr (sp_sd c1, c2 + y, c3 + w, w, Int32.ofNat i + 1, q.2)) else some (Sum.inr (sp_sd c1, c2 + y, c3 + w, if w < c4 then w else c4, Int32.ofNat i + 1, q.2)) : Option ((Int32 × Int32 × Int32 × Int32 × Int32 × xS) ⊕ (Int32 × Int32 × Int32 × Int32 × Int32 × xS))) (fun o => ∃ τ', (y_F C τ' ∧ x_fr x_WC σ τ') ∧ o = .inr (sp_sd c1, c2 + (if w < th then 0 else 1), c3 + w, if i = 0 then w else if w < c4 then w else c4, Int32.ofNat (i + 1), τ')) := by
                intro y hy
                rw [← hy, i_s]
                by_cases h0 : i = 0
                · rw [if_pos (show Int32.ofNat i = 0 by rw [h0]; rfl), if_pos h0]; exact x_ens.so ⟨_, ⟨F4, f4⟩, rfl⟩
                · rw [if_neg (show ¬ Int32.ofNat i = 0 by rw [i_ne0 (by omega)]; exact h0), if_neg h0]; exact x_ens.so ⟨_, ⟨F4, f4⟩, rfl⟩
              by_cases hw : w < th
              · rw [if_pos hw]; exact fin 0 (if_pos hw)
              · rw [if_neg hw]; exact fin 1 (if_neg hw)
            · rintro c τ hc ⟨F1, f1⟩
              unfold f_RH_takes_0_L82
              dsimp only
              rw [kn2, if_pos i_lr]
              exact x_ens.so ⟨_, rfl, hc, F1⟩
          · rintro b ⟨hb, Fb⟩
            rw [← hb]
            dsimp only
            by_cases h0 : v = 0
            · rw [if_pos h0, if_pos h0]; exact x_ens.so ⟨rfl, Fb⟩
            · rw [if_neg h0, if_neg h0]
              by_cases h1 : v = 1
              · rw [if_pos h1, if_pos h1]; exact x_ens.so ⟨rfl, Fb⟩
              · rw [if_neg h1, if_neg h1]; exact x_ens.so ⟨rfl, Fb⟩
        · rw [if_neg ht]
          by_cases h1 : th < 0
          · rw [if_pos h1]; exact x_ens.so ⟨rfl, F⟩
          · rw [if_neg h1, if_neg (fun x => ht ⟨i_nl.mp h1, x⟩)]; exact x_ens.so ⟨rfl, F⟩
      · rw [if_neg hm]
        by_cases h1 : m < 1
        · rw [if_pos h1]; exact x_ens.so ⟨rfl, F⟩
        · rw [if_neg h1, if_pos (i_nle.mp (fun x => hm ⟨i_nl.mp h1, x⟩))]; exact x_ens.so ⟨rfl, F⟩
    · rw [if_neg hn]
      by_cases h1 : n < 0
      · rw [if_pos h1]; exact x_ens.so ⟨rfl, F⟩
      · rw [if_neg h1, if_pos (i_nle.mp (fun x => hn ⟨i_nl.mp h1, x⟩))]; exact x_ens.so ⟨rfl, F⟩
  · rw [if_neg hv]
    by_cases h1 : v < 0
    · rw [if_pos h1]; exact x_ens.so ⟨rfl, F⟩
    · rw [if_neg h1, if_neg (fun x => hv ⟨i_nl.mp h1, x⟩)]; exact x_ens.so ⟨rfl, F⟩
theorem x_pI_kk {σ : xS} {p k : Nat} {v : Int32} : (x_pI σ p k v).1 p k = v := by rw [x_pI_at]; exact if_pos rfl
theorem x_pI_kn {σ : xS} {p k j : Nat} {v : Int32} (h : j ≠ k) : (x_pI σ p k v).1 p j = σ.1 p j := by rw [x_pI_at]; exact if_neg h
theorem m_draw {τ : xS} {m s : Int32} {km : Nat} (e73 : τ.1 60 73 = s) (hm : ¬ m = 0) (km2 : m = Int32.ofNat km) (hk : km ≤ 30) : f_Mo_draw_60 m τ = some (Int32.ofNat (sp_dr (sp_sd s) % km), x_pI τ 60 73 (sp_sd s)) := by
  unfold f_Mo_draw_60
  dsimp only
  rw [e73, show s * 1103515245 + 12345 = sp_sd s from rfl, if_neg hm]
  generalize sp_sd s = s9
  rw [x_pI_kk, sp_dr_m, km2, i_mod (by have := @sp_dr_r s9; omega) (by omega)]
theorem m_takes {C : Nat → Nat → Int32} {σ : xS} {a n m th v : Int32} (B : x_B C σ) : x_ens (f_Mo_takes_60 a n m th v σ) (fun q => x_an x_k2 (A_takes C (σ.1 36) a n m th v) q.1 q.2 ∧ x_B C q.2) := by
  unfold f_Mo_takes_60 A_takes f_Mo_takes_60_J52
  dsimp only
  obtain ⟨B1, S1, R1⟩ := B.m0
  have bad : x_ens (f_Mo_takes_60_J53 a n m th v 0 (x_pI σ 60 0 0)) (fun q => x_an x_k2 (.inr 1) q.1 q.2 ∧ x_B C q.2) := by
    unfold f_Mo_takes_60_J53
    rw [e_Mo_right x_60 (by decide), if_pos rfl]
    dsimp only [Option.bind_some]
    rw [if_pos rfl, x_pI_pI]; exact x_ens.so ⟨x_60, B.t0⟩
  rw [e_Mo_isWhat x_60]
  dsimp only [Option.bind_some]
  by_cases hv : 0 ≤ v ∧ v ≤ 2
  · rw [if_pos hv, if_pos hv]
    dsimp only
    rw [if_neg (by decide), e_Mo_within]
    dsimp only [Option.bind_some]
    by_cases hn : 0 ≤ n ∧ n ≤ 40
    · rw [if_pos hn, if_pos hn, if_neg (by decide), e_Mo_within]
      dsimp only [Option.bind_some]
      by_cases hm : 1 ≤ m ∧ m ≤ 30
      · rw [if_pos hm, if_pos hm, if_neg (by decide), e_Mo_within]
        dsimp only [Option.bind_some]
        by_cases ht : 0 ≤ th ∧ th ≤ 601
        · rw [if_pos ht, if_pos ht, if_neg (by decide)]
          unfold sp_tk f_Mo_takes_60_J53
          rw [e_Mo_right x_60 (by decide), if_neg (by decide)]
          dsimp only [Option.bind_some]
          rw [if_neg (by decide)]
          obtain ⟨kn, kn1, kn2, kn3⟩ := i_rge (b := 40) (by omega) hn.1 hn.2
          obtain ⟨km, km1, km2, km3⟩ := i_rge (b := 30) (by omega) (i_1r hm.1) hm.2
          have km0 : 1 ≤ km := by
            have := hm.1
            rw [km2] at this
            exact (i_le (j := 1) (by omega) (by omega)).mp this
          rw [kn3, km3]
          refine x_ens.bi (P := fun b => (∃ s, (s, b.1, b.2.1, b.2.2.1) = sp_fo (wst_tk C (σ.1 36) km th) 0 (a, 0, 0, 0) kn) ∧ x_fr ((60, 59) :: (60, 73) :: x_W8) (x_pI σ 60 0 0) b.2.2.2.2) ?_ ?_
          · refine x_scI (fun i (c : Int32 × Int32 × Int32 × Int32) τ => (c.2.1, c.2.2.1, c.2.2.2, Int32.ofNat i, τ)) (wst_tk C (σ.1 36) km th) (fun i c τ => x_fr ((60, 59) :: (60, 73) :: x_W8) (x_pI σ 60 0 0) τ ∧ τ.1 60 73 = c.1) kn (c0 := (a, 0, 0, 0)) (by omega) ⟨x_frI (p := 60) (k := 73) rfl x_fr.rf, by rw [x_pI_at]; rfl⟩ ?_ ?_
            · rintro i ⟨c1, c2, c3, c4⟩ τ hi ⟨f1, e73⟩
              dsimp only at e73
              unfold f_Mo_takes_60_L79
              dsimp only
              rw [kn2, if_neg (fun x => by have := (i_le (by omega) (by omega)).mp x; omega), m_draw e73 (show ¬ m = 0 from fun x => by rw [x] at hm; exact absurd hm.1 (by decide)) km2 km1, wst_tk_e]
              dsimp only [Option.bind_some]
              generalize sp_sd c1 = s9
              have hdm : sp_dr s9 % km < 31 := by have := Nat.mod_lt (sp_dr s9) (show km > 0 by omega); omega
              have f2 : x_fr ((60, 59) :: (60, 73) :: x_W8) (x_pI σ 60 0 0) (x_pI (x_pI τ 60 73 (s9)) 60 59 (Int32.ofNat (sp_dr (s9) % km))) := x_frI (p := 60) (k := 59) rfl (x_frI (p := 60) (k := 73) rfl f1)
              refine x_ens.bf (e_Mo_takesSharp (T := σ.1 36) (n := sp_nk C) (late := Int32.ofNat (sp_dr (s9) % km)) (sh := 0) (ah := 0) B.1 (B1.2.2.1.fr f2 rfl rfl rfl rfl rfl rfl rfl) (S1.fr f2 rfl rfl) R1 x_pI_kk (by rw [f2.ck 60 60 rfl]; exact B1.2.2.2.2.2.1.2.1) (by rw [f2.ck 60 64 rfl]; exact B1.2.2.2.2.2.1.2.2) (i_0k (by omega)) ((i_le (k := 100) (by omega) (by omega)).mpr (by omega))) (fun q e => fr_Mo_takesSharp_60 e) ?_
              rintro q ⟨hq, -, -⟩ f3
              have hq' : q.1 = wsc_slip C (σ.1 36) (sp_dr (s9) % km) := hq
              have e4 : q.2.1 60 73 = s9 := by rw [f3.ck 60 73 rfl, x_pI_kn (by omega), x_pI_kk]
              have f4 : x_fr ((60, 59) :: (60, 73) :: x_W8) (x_pI σ 60 0 0) q.2 := x_fr.trans f2 (x_fr.su f3 rfl)
              rw [hq']
              unfold f_Mo_takes_60_J114
              dsimp only
              generalize wsc_slip C (σ.1 36) (sp_dr (s9) % km) = w
              have fin : ∀ y : Int32, (if w < th then (0 : Int32) else 1) = y → x_ens (if Int32.ofNat i = 0 then some (Sum.inr (c2 + y, c3 + w, w, Int32.ofNat i + 1, q.2)) else if c4 ≤ w then some (Sum.inr (c2 + y, c3 + w, c4, Int32.ofNat i + 1, q.2)) else some (Sum.inr (c2 + y, c3 + w, w, Int32.ofNat i + 1, q.2)) : Option ((Int32 × Int32 × Int32 × Int32 × xS) ⊕ (Int32 × Int32 × Int32 × Int32 × xS))) (fun o => ∃ τ', (x_fr ((60, 59) :: (60, 73) :: x_W8) (x_pI σ 60 0 0) τ' ∧ τ'.1 60 73 = s9) ∧ o = .inr (c2 + (if w < th then 0 else 1), c3 + w, if i = 0 then w else if w < c4 then w else c4, Int32.ofNat (i + 1), τ')) := by
                intro y hy
                rw [← hy, i_s]
                by_cases h0 : i = 0
                · rw [if_pos (show Int32.ofNat i = 0 by rw [h0]; rfl), if_pos h0]; exact x_ens.so ⟨_, ⟨f4, e4⟩, rfl⟩
                · rw [if_neg (show ¬ Int32.ofNat i = 0 by rw [i_ne0 (by omega)]; exact h0), if_neg h0]
                  by_cases hc : c4 ≤ w
                  · rw [if_pos hc, if_neg (i_nl.mpr hc)]; exact x_ens.so ⟨_, ⟨f4, e4⟩, rfl⟩
                  · rw [if_neg hc, if_pos (i_nle.mp hc)]; exact x_ens.so ⟨_, ⟨f4, e4⟩, rfl⟩
              by_cases hw : w < th
              · rw [if_pos hw]; exact fin 0 (if_pos hw)
              · rw [if_neg hw]; exact fin 1 (if_neg hw)
            · rintro c τ hc ⟨f1, e73⟩
              unfold f_Mo_takes_60_L79
              dsimp only
              rw [kn2, if_pos i_lr]
              exact x_ens.so ⟨_, rfl, ⟨c.1, hc⟩, f1⟩
          · rintro b ⟨⟨s, hb⟩, f⟩
            have f2 : x_fr ((60, 59) :: (60, 73) :: x_W8) (x_pI σ 60 0 0) (x_pI b.2.2.2.2 60 59 0) := x_frI (p := 60) (k := 59) rfl f
            have B2 : x_B C (x_pI b.2.2.2.2 60 59 0) := B1.fr2 (x_fr.su f2 rfl) (f2.ce 79 rfl) (by rw [x_pI_at]; exact B1.2.2.2.2.2.1.1.symm) (f2.ck 60 60 rfl) (f2.ck 60 64 rfl) (f2.ck 60 4 rfl)
            have z : (x_pI b.2.2.2.2 60 59 0).1 60 0 = 0 := (f2.ck 60 0 rfl).trans x_60
            rw [← hb]
            dsimp only
            by_cases h0 : v = 0
            · rw [if_pos h0, if_pos h0]; exact x_ens.so ⟨⟨z, rfl⟩, B2⟩
            · rw [if_neg h0, if_neg h0]
              by_cases h1 : v = 1
              · rw [if_pos h1, if_pos h1]; exact x_ens.so ⟨⟨z, rfl⟩, B2⟩
              · rw [if_neg h1, if_neg h1]; exact x_ens.so ⟨⟨z, rfl⟩, B2⟩
        · rw [if_neg ht, if_pos rfl, if_neg ht]; exact bad
      · rw [if_neg hm, if_pos rfl, if_neg hm]; exact bad
    · rw [if_neg hn, if_pos rfl, if_neg hn]; exact bad
  · rw [if_neg hv, if_neg hv]
    dsimp only
    rw [if_pos rfl, x_pI_pI]; exact x_ens.so ⟨x_60, B.t0⟩
theorem o_takes (a n m th v : Int32) : x_OP (w_takes a n m th v) (f_Mo_takes_60 a n m th v) := by
  refine x_OPq (f := f_RH_takes_0 a n m th v) (κ := x_k2) (A := fun C g => A_takes C (g 36) a n m th v) (fun C σ B F => c_takes B F) (fun σ q e => fr_RH_takes_0 e) rfl (fun C g g' h h55 h01 h59 => by simp only [h 35 (by simp), h 36 (by simp), h 39 (by simp), h 40 (by simp), h 41 (by simp), h 58 (by simp), h55, h01, h59]) (fun C σ B => m_takes B) (fun σ q e => fr_Mo_takes_60 e) rfl ?_ ?_
  · intro σ u τ e; unfold w_takes; rw [e]; rfl
  · intro C σ B k τ e hk
    unfold A_takes at hk
    (repeat' split at hk) <;> cases hk <;> (unfold w_takes; rw [e]; exact ⟨rfl, by decide⟩)
