def sp_s (i : Nat) : Int32 := if i = 0 then 24 else if i = 1 then 16 else if i = 2 then 8 else if i = 3 then 0 else -8
def sp_cb (v : Int32) (i : Nat) : Int32 := (v.toUInt32 >>> ((sp_s i).toUInt32 &&& Int32.toUInt32 31)).toInt32 &&& 255
def sp_mb (v : Int32) (i : Nat) : Int32 := (v >>> (sp_s i &&& 31)) &&& 255
theorem wbv_255 {i : Nat} (h : i < 32) : (255#32).getLsbD i = decide (i < 8) := by
  rw [BitVec.getLsbD_ofNat, show 255 = 2 ^ 8 - 1 from rfl, Nat.testBit_two_pow_sub_one]
  simp [h]
theorem wbv_sh {x : BitVec 32} {n : Nat} (hn : n ≤ 24) : (x >>> n) &&& 255#32 = (x.sshiftRight n) &&& 255#32 := by
  apply BitVec.eq_of_getLsbD_eq
  intro i hi
  rw [BitVec.getLsbD_and, BitVec.getLsbD_and, wbv_255 hi, BitVec.getLsbD_ushiftRight, BitVec.getLsbD_sshiftRight]
  by_cases h : i < 8
  · rw [decide_eq_true h, Bool.and_true, Bool.and_true, decide_eq_false (show ¬ 32 ≤ i by omega), if_pos (show n + i < 32 by omega)]; rfl
  · rw [decide_eq_false h, Bool.and_false, Bool.and_false]
theorem sp_cm {v : Int32} {i : Nat} (hi : i < 4) : sp_cb v i = sp_mb v i := by
  have : i = 0 ∨ i = 1 ∨ i = 2 ∨ i = 3 := by omega
  unfold sp_cb sp_mb
  rcases this with rfl | rfl | rfl | rfl
  · exact Int32.toBitVec_inj.mp (wbv_sh (x := v.toBitVec) (n := 24) (by omega))
  · exact Int32.toBitVec_inj.mp (wbv_sh (x := v.toBitVec) (n := 16) (by omega))
  · exact Int32.toBitVec_inj.mp (wbv_sh (x := v.toBitVec) (n := 8) (by omega))
  · exact Int32.toBitVec_inj.mp (wbv_sh (x := v.toBitVec) (n := 0) (by omega))
theorem sp_s_s {i : Nat} (hi : i < 4) : sp_s i + -8 = sp_s (i + 1) ∧ ¬ sp_s i < 0 := by
  have : i = 0 ∨ i = 1 ∨ i = 2 ∨ i = 3 := by omega
  rcases this with rfl | rfl | rfl | rfl <;> decide
theorem c_add {σ τ : xS} {n m : Nat} {W : Nat → Int32} {v : Int32} (h1 : τ.1 0 1 = Int32.ofNat (n + 4 * m)) (hb : n + 4 * m + 4 ≤ 700) (h2 : ∀ k, k < n → τ.1 1 k = σ.1 1 k) (h3 : ∀ j, j < 4 * m → τ.1 1 (n + j) = W j) (hW : ∀ i, i < 4 → W (4 * m + i) = sp_mb v i) :
    x_ens (f_RH_addBytes_0 v τ) (fun q => q.2.1 0 1 = Int32.ofNat (n + 4 * (m + 1)) ∧ (∀ k, k < n → q.2.1 1 k = σ.1 1 k) ∧ ∀ j, j < 4 * (m + 1) → q.2.1 1 (n + j) = W j) := by
  unfold f_RH_addBytes_0
  refine x_ens.bi (P := fun b => b.2.1 0 1 = Int32.ofNat (n + 4 * (m + 1)) ∧ (∀ k, k < n → b.2.1 1 k = σ.1 1 k) ∧ ∀ j, j < 4 * (m + 1) → b.2.1 1 (n + j) = W j) ?_ (fun b hb => x_ens.so hb)
  refine x_iv.go (fun i a => a.1 = sp_s i ∧ a.2.1 0 1 = Int32.ofNat (n + 4 * m + i) ∧ (∀ k, k < n → a.2.1 1 k = σ.1 1 k) ∧ ∀ j, j < 4 * m + i → a.2.1 1 (n + j) = W j) 4 (by omega) ⟨rfl, h1, h2, h3⟩ ?_
  rintro i ⟨u, υ⟩ hi ⟨a1, a2, a3, a4⟩
  dsimp only at a1 a2 a3 a4
  subst a1
  unfold f_RH_addBytes_0_L3
  dsimp only
  by_cases hx : i = 4
  · subst hx
    rw [if_pos (by decide)]
    exact x_iv.l ⟨a2, a3, a4⟩
  · obtain ⟨s1, s2⟩ := sp_s_s (show i < 4 by omega)
    rw [if_neg s2, a2, if_neg (fun h => by have := (i_le (by omega) (by omega)).mp h; omega), i_cl (by omega)]
    refine x_ens.gr (by rintro (h | h) <;> first | exact i_ge (by omega) h | omega | (rw [i_cl (by omega)] at h; omega)) ?_
    have e : (x_pI υ 1 (n + 4 * m + i) (sp_cb v i)).1 0 1 = Int32.ofNat (n + 4 * m + i) := by rw [y_pI_ne (by omega)]; exact a2
    rw [show (v.toUInt32 >>> ((sp_s i).toUInt32 &&& Int32.toUInt32 31)).toInt32 &&& 255 = sp_cb v i from rfl, e, i_s, s1]
    refine x_iv.r (by omega) ⟨rfl, by rw [x_pI_at]; rfl, fun k hk => ?_, fun j hj => ?_⟩
    · dsimp only
      rw [y_pI_ne (by omega), x_pI_at]
      dsimp only
      rw [if_neg (by omega)]; exact a3 k hk
    · dsimp only
      rw [y_pI_ne (by omega), x_pI_at]
      dsimp only
      by_cases h : j = 4 * m + i
      · subst h
        rw [if_pos (by omega), hW i (by omega), sp_cm (by omega)]
      · rw [if_neg (by omega)]; exact a4 j (by omega)
theorem m_lay {σ τ : xS} {n m : Nat} {W : Nat → Int32} {v : Int32} (h1 : τ.1 60 15 = Int32.ofNat (n + 4 * m)) (hb : n + 4 * m + 4 ≤ 700) (h2 : ∀ k, k < n → τ.1 67 k = σ.1 67 k) (h3 : ∀ j, j < 4 * m → τ.1 67 (n + j) = W j) (hW : ∀ i, i < 4 → W (4 * m + i) = sp_mb v i) :
    x_ens (f_Mo_lays_60 v τ) (fun q => q.2.1 60 15 = Int32.ofNat (n + 4 * (m + 1)) ∧ (∀ k, k < n → q.2.1 67 k = σ.1 67 k) ∧ ∀ j, j < 4 * (m + 1) → q.2.1 67 (n + j) = W j) := by
  unfold f_Mo_lays_60
  refine x_ens.bi (P := fun b => b.2.1 60 15 = Int32.ofNat (n + 4 * (m + 1)) ∧ (∀ k, k < n → b.2.1 67 k = σ.1 67 k) ∧ ∀ j, j < 4 * (m + 1) → b.2.1 67 (n + j) = W j) ?_ (fun b hb => x_ens.so hb)
  refine x_iv.go (fun i a => a.1 = sp_s i ∧ a.2.1 60 15 = Int32.ofNat (n + 4 * m + i) ∧ (∀ k, k < n → a.2.1 67 k = σ.1 67 k) ∧ ∀ j, j < 4 * m + i → a.2.1 67 (n + j) = W j) 4 (by omega) ⟨rfl, h1, h2, h3⟩ ?_
  rintro i ⟨u, υ⟩ hi ⟨a1, a2, a3, a4⟩
  dsimp only at a1 a2 a3 a4
  subst a1
  unfold f_Mo_lays_60_L3
  dsimp only
  by_cases hx : i = 4
  · subst hx
    rw [if_pos (by decide)]
    exact x_iv.l ⟨a2, a3, a4⟩
  · obtain ⟨s1, s2⟩ := sp_s_s (show i < 4 by omega)
    rw [if_neg s2, a2, i_cl (by omega)]
    refine x_ens.gr (by rintro (h | h) <;> first | exact i_ge (by omega) h | omega | (rw [i_cl (by omega)] at h; omega)) ?_
    have e : (x_pI υ 67 (n + 4 * m + i) (sp_mb v i)).1 60 15 = Int32.ofNat (n + 4 * m + i) := by rw [y_pI_ne (by omega)]; exact a2
    rw [show (v >>> (sp_s i &&& 31)) &&& 255 = sp_mb v i from rfl, e, i_s, s1]
    refine x_iv.r (by omega) ⟨rfl, by rw [x_pI_at]; rfl, fun k hk => ?_, fun j hj => ?_⟩
    · dsimp only
      rw [y_pI_ne (by omega), x_pI_at]
      dsimp only
      rw [if_neg (by omega)]; exact a3 k hk
    · dsimp only
      rw [y_pI_ne (by omega), x_pI_at]
      dsimp only
      by_cases h : j = 4 * m + i
      · subst h
        rw [if_pos (by omega), hW i (by omega)]
      · rw [if_neg (by omega)]; exact a4 j (by omega)
theorem x_B.tx {C : Nat → Nat → Int32} {σ τ : xS} (B : x_B C σ) (h : x_fr [(0, 1), (1, 99999), (60, 0), (60, 15), (67, 99999)] σ τ) (h7 : τ.1 60 15 = τ.1 0 1 ∧ 0 ≤ τ.1 0 1 ∧ τ.1 0 1 ≤ 700 ∧ ∀ k, k < (τ.1 0 1).toNatClampNeg → τ.1 1 k = τ.1 67 k) : x_B C τ := by
  obtain ⟨b1, b2, b3, b4, b5, b6, b7, b8, b9, b10, b11⟩ := B
  refine ⟨b1, b2.fr h rfl, b3.fr h rfl rfl rfl rfl rfl rfl rfl, b4.of (h.ce 35 rfl) (h.ce 36 rfl) (h.ce 37 rfl) (h.ce 38 rfl) (h.ce 39 rfl) (h.ce 40 rfl) (h.ce 41 rfl) (h.ce 79 rfl) (h.ce 81 rfl) (h.ce 90 rfl) (h.ce 91 rfl) (h.ck 60 56 rfl) (h.ck 60 74 rfl) (h.ck 60 76 rfl), (h.ck 60 4 rfl).trans b5, ?_, h7, ?_, ?_, ?_, ?_⟩
  · rw [h.ck 60 59 rfl, h.ck 60 60 rfl, h.ck 60 64 rfl]; exact b6
  · rw [h.ck 0 11 rfl, h.ck 60 17 rfl]; exact b8
  · rw [h.ce 59 rfl, h.ce 68 rfl]; exact b9
  · rw [h.ck 0 7 rfl, h.ck 60 78 rfl]
    refine ⟨b10.1, b10.2.imp id (fun x => ⟨x.1, x.2.of (h.ce 42 rfl) (h.ce 43 rfl) (h.ce 44 rfl) (h.ce 45 rfl) (h.ce 46 rfl) (h.ce 47 rfl) (h.ce 48 rfl) (h.ce 92 rfl) (h.ce 93 rfl) (h.ce 94 rfl) (h.ce 95 rfl) (h.ck 60 79 rfl) (h.ck 60 80 rfl) (h.ck 60 81 rfl)⟩)⟩
  · rw [h.ck 55 4 rfl, h.ck 60 68 rfl, h.ce 58 rfl, h.ce 87 rfl]; exact b11
def sp_wd (a b c d e : Int32) (j : Nat) : Int32 := sp_mb (if j / 4 = 0 then a else if j / 4 = 1 then b else if j / 4 = 2 then c else if j / 4 = 3 then d else e) (j % 4)
theorem i_20 {n : Nat} (h : n ≤ 700) : Int32.ofNat n + 20 ≤ 700 ↔ n + 20 ≤ 700 := by
  have : Int32.ofNat n + 20 = Int32.ofNat (n + 20) := (Int32.ofNat_add n 20).symm
  rw [this]
  exact i_le (k := 700) (by omega) (by omega)
theorem o_feed (a b c d e : Int32) : x_OS (f_RH_feed_0 a b c d e) (f_Mo_feed_60 a b c d e) := by
  rintro σ ⟨C, B, F⟩
  obtain ⟨t1, t2, t3, t4⟩ := B.2.2.2.2.2.2.1
  obtain ⟨n, hn, e01, hk⟩ : ∃ n : Nat, n ≤ 700 ∧ σ.1 0 1 = Int32.ofNat n ∧ ∀ k, k < n → σ.1 1 k = σ.1 67 k := ⟨_, i_nat (n := 700) (by omega) t3, (i_ex t2).1, t4⟩
  by_cases h : n + 20 ≤ 700
  · have hw : ∀ m i, m < 5 → i < 4 → sp_wd a b c d e (4 * m + i) = sp_mb (if m = 0 then a else if m = 1 then b else if m = 2 then c else if m = 3 then d else e) i := by
      intro m i hm hi
      unfold sp_wd
      rw [show (4 * m + i) / 4 = m by omega, show (4 * m + i) % 4 = i by omega]
    have ec : x_ens (f_RH_feed_0 a b c d e σ) (fun q => q.1 = Int32.ofNat (n + 20) ∧ q.2.1 0 1 = Int32.ofNat (n + 20) ∧ (∀ k, k < n → q.2.1 1 k = σ.1 1 k) ∧ ∀ j, j < 20 → q.2.1 1 (n + j) = sp_wd a b c d e j) := by
      unfold f_RH_feed_0
      rw [e01, if_pos ((i_20 hn).mpr h)]
      refine x_ens.bi (c_add (σ := σ) (n := n) (m := 0) (W := sp_wd a b c d e) e01 (by omega) (fun _ _ => rfl) (fun j hj => by omega) (fun i hi => hw 0 i (by omega) hi)) ?_
      rintro q1 ⟨h1, h2, h3⟩
      refine x_ens.bi (c_add (σ := σ) (n := n) (m := 1) (W := sp_wd a b c d e) h1 (by omega) h2 h3 (fun i hi => hw 1 i (by omega) hi)) ?_
      rintro q2 ⟨h1, h2, h3⟩
      refine x_ens.bi (c_add (σ := σ) (n := n) (m := 2) (W := sp_wd a b c d e) h1 (by omega) h2 h3 (fun i hi => hw 2 i (by omega) hi)) ?_
      rintro q3 ⟨h1, h2, h3⟩
      refine x_ens.bi (c_add (σ := σ) (n := n) (m := 3) (W := sp_wd a b c d e) h1 (by omega) h2 h3 (fun i hi => hw 3 i (by omega) hi)) ?_
      rintro q4 ⟨h1, h2, h3⟩
      refine x_ens.bi (c_add (σ := σ) (n := n) (m := 4) (W := sp_wd a b c d e) h1 (by omega) h2 h3 (fun i hi => hw 4 i (by omega) hi)) ?_
      rintro q5 ⟨h1, h2, h3⟩
      exact x_ens.so ⟨h1, h1, h2, h3⟩
    obtain ⟨⟨r1, σ1⟩, d1, c0, c1, c2, c3⟩ := ec
    have f1 := fr_RH_feed_0 d1
    dsimp only at f1 c0 c1 c2 c3
    subst c0
    have em : x_ens (f_Mo_feed_60 a b c d e σ1) (fun q => q.1 = Int32.ofNat (n + 20) ∧ q.2.1 60 15 = Int32.ofNat (n + 20) ∧ (∀ k, k < n → q.2.1 67 k = σ.1 67 k) ∧ ∀ j, j < 20 → q.2.1 67 (n + j) = sp_wd a b c d e j) := by
      unfold f_Mo_feed_60
      dsimp only
      have e15 : (x_pI σ1 60 0 0).1 60 15 = Int32.ofNat n := by
        show σ1.1 60 15 = _
        rw [f1.ck 60 15 rfl, t1]; exact e01
      have e67 : (x_pI σ1 60 0 0).1 67 = σ.1 67 := by rw [y_pI_ne (by omega)]; exact f1.ce 67 rfl
      rw [e15, if_pos ((i_20 hn).mpr h)]
      refine x_ens.bi (m_lay (σ := σ) (n := n) (m := 0) (W := sp_wd a b c d e) e15 (by omega) (fun k _ => by rw [e67]) (fun j hj => by omega) (fun i hi => hw 0 i (by omega) hi)) ?_
      rintro q1 ⟨h1, h2, h3⟩
      refine x_ens.bi (m_lay (σ := σ) (n := n) (m := 1) (W := sp_wd a b c d e) h1 (by omega) h2 h3 (fun i hi => hw 1 i (by omega) hi)) ?_
      rintro q2 ⟨h1, h2, h3⟩
      refine x_ens.bi (m_lay (σ := σ) (n := n) (m := 2) (W := sp_wd a b c d e) h1 (by omega) h2 h3 (fun i hi => hw 2 i (by omega) hi)) ?_
      rintro q3 ⟨h1, h2, h3⟩
      refine x_ens.bi (m_lay (σ := σ) (n := n) (m := 3) (W := sp_wd a b c d e) h1 (by omega) h2 h3 (fun i hi => hw 3 i (by omega) hi)) ?_
      rintro q4 ⟨h1, h2, h3⟩
      refine x_ens.bi (m_lay (σ := σ) (n := n) (m := 4) (W := sp_wd a b c d e) h1 (by omega) h2 h3 (fun i hi => hw 4 i (by omega) hi)) ?_
      rintro q5 ⟨h1, h2, h3⟩
      exact x_ens.so ⟨h1, h1, h2, h3⟩
    obtain ⟨⟨r2, σ2⟩, d2, m0, m1, m2, m3⟩ := em
    have f2 := fr_Mo_feed_60 d2
    dsimp only at f2 m0 m1 m2 m3
    subst m0
    have f : x_fr [(0, 1), (1, 99999), (60, 0), (60, 15), (67, 99999)] σ σ2 := x_fr.trans (x_fr.su f1 rfl) (x_fr.su f2 rfl)
    have g01 : σ2.1 0 1 = Int32.ofNat (n + 20) := (f2.ck 0 1 rfl).trans c1
    refine ⟨Int32.ofNat (n + 20), σ1, σ2, d1, d2, C, B.tx f ⟨by rw [m1, g01], ?_, ?_, ?_⟩, F.of f rfl rfl⟩
    · rw [g01]; exact (i_nb (b := 700) (by omega) h).1
    · rw [g01]; exact (i_nb (b := 700) (by omega) h).2
    · intro k hk2
      rw [g01, i_cl (by omega)] at hk2
      rw [f2.ce 1 rfl]
      rcases Nat.lt_or_ge k n with h4 | h4
      · rw [c2 k h4, m2 k h4]; exact hk k h4
      · obtain ⟨j, rfl⟩ : ∃ j, k = n + j := ⟨k - n, by omega⟩
        rw [c3 j (by omega), m3 j (by omega)]
  · refine ⟨-1, σ, x_pI σ 60 0 0, ?_, ?_, C, B.t0, F.fr (W := [(60, 0)]) (x_frI (p := 60) (k := 0) rfl x_fr.rf) rfl⟩
    · unfold f_RH_feed_0; rw [e01, if_neg (fun x => h ((i_20 hn).mp x))]
    · unfold f_Mo_feed_60
      dsimp only
      rw [show (x_pI σ 60 0 0).1 60 15 = σ.1 60 15 from rfl, t1, e01, if_neg (fun x => h ((i_20 hn).mp x))]
