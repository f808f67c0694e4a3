theorem x_R.c {C : Nat → Nat → Int32} {T T' : Nat → Int32} {n : Nat} (R : x_R C T n) (h : ∀ k, k < 12 → T' k = T k) : x_R C T' n := by
  obtain ⟨r0, r1, r2, r3, r5, r4, r6, r7⟩ := R
  unfold x_R sp_hok
  rw [h 0 (by omega), h 1 (by omega), h 2 (by omega), h 3 (by omega), h 4 (by omega), h 5 (by omega)]
  exact ⟨r0, r1, r2, r3, r5, r4, r6, fun i hi => by rw [h (6 + i) (by omega)]; exact r7 i hi⟩
theorem x_R.up {C : Nat → Nat → Int32} {T : Nat → Int32} {p : Nat} {v : Int32} (R : x_R C T (sp_nk C)) (hA : x_A C (Int32.ofNat p) v) (hp : p < 12) : x_R C (sp_up T p v) (sp_nk C) := by
  obtain ⟨r0, r1, r2, r3, r5, r4, r6, r7⟩ := R
  have ej : ∀ {k : Nat}, k < 100 → Int32.ofNat p = Int32.ofNat k → p = k := fun hk e => (i_ej (by omega) (by omega)).mp e
  unfold x_R sp_hok
  rcases hA with ⟨e, h⟩ | ⟨e, h⟩ | ⟨e, h⟩ | ⟨e, h⟩ | ⟨e, h⟩ | ⟨e, h⟩ | ⟨i, hi, e, h⟩
  · have := ej (k := 0) (by omega) e; subst this
    rw [sp_up_eq, sp_up_ne (k := 1) (by omega), sp_up_ne (k := 2) (by omega), sp_up_ne (k := 3) (by omega), sp_up_ne (k := 4) (by omega), sp_up_ne (k := 5) (by omega)]
    exact ⟨h, r1, r2, r3, r5, r4, r6, fun j hj => by rw [sp_up_ne (by omega)]; exact r7 j hj⟩
  · have := ej (k := 1) (by omega) e; subst this
    rw [sp_up_eq, sp_up_ne (k := 0) (by omega), sp_up_ne (k := 2) (by omega), sp_up_ne (k := 3) (by omega), sp_up_ne (k := 4) (by omega), sp_up_ne (k := 5) (by omega)]
    exact ⟨r0, h, r2, r3, r5, r4, r6, fun j hj => by rw [sp_up_ne (by omega)]; exact r7 j hj⟩
  · have := ej (k := 2) (by omega) e; subst this
    rw [sp_up_eq, sp_up_ne (k := 0) (by omega), sp_up_ne (k := 1) (by omega), sp_up_ne (k := 3) (by omega), sp_up_ne (k := 4) (by omega), sp_up_ne (k := 5) (by omega)]
    exact ⟨r0, r1, h, r3, r5, r4, r6, fun j hj => by rw [sp_up_ne (by omega)]; exact r7 j hj⟩
  · have := ej (k := 3) (by omega) e; subst this
    rw [sp_up_eq, sp_up_ne (k := 0) (by omega), sp_up_ne (k := 1) (by omega), sp_up_ne (k := 2) (by omega), sp_up_ne (k := 4) (by omega), sp_up_ne (k := 5) (by omega)]
    exact ⟨r0, r1, r2, h, r5, r4, r6, fun j hj => by rw [sp_up_ne (by omega)]; exact r7 j hj⟩
  · have := ej (k := 4) (by omega) e; subst this
    rw [sp_up_eq, sp_up_ne (k := 0) (by omega), sp_up_ne (k := 1) (by omega), sp_up_ne (k := 2) (by omega), sp_up_ne (k := 3) (by omega), sp_up_ne (k := 5) (by omega)]
    exact ⟨r0, r1, r2, r3, r5, h, r6, fun j hj => by rw [sp_up_ne (by omega)]; exact r7 j hj⟩
  · have := ej (k := 5) (by omega) e; subst this
    rw [sp_up_eq, sp_up_ne (k := 0) (by omega), sp_up_ne (k := 1) (by omega), sp_up_ne (k := 2) (by omega), sp_up_ne (k := 3) (by omega), sp_up_ne (k := 4) (by omega)]
    exact ⟨r0, r1, r2, r3, h, r4, r6, fun j hj => by rw [sp_up_ne (by omega)]; exact r7 j hj⟩
  · have := ej (k := 6 + i) (by omega) e; subst this
    rw [sp_up_ne (k := 0) (by omega), sp_up_ne (k := 1) (by omega), sp_up_ne (k := 2) (by omega), sp_up_ne (k := 3) (by omega), sp_up_ne (k := 4) (by omega), sp_up_ne (k := 5) (by omega)]
    refine ⟨r0, r1, r2, r3, r5, r4, r6, fun j hj => ?_⟩
    by_cases hc : j = i
    · subst hc; rw [sp_up_eq]; exact h
    · rw [sp_up_ne (by omega)]; exact r7 j hj
theorem x_A.pl {C : Nat → Nat → Int32} {p v : Int32} (hA : x_A C p v) (hk : sp_nk C ≤ 6) : ∃ k : Nat, k < 12 ∧ p = Int32.ofNat k ∧ (k < 6 ∨ ∃ i, i < sp_nk C ∧ k = 6 + i) := by
  rcases hA with ⟨e, h⟩ | ⟨e, h⟩ | ⟨e, h⟩ | ⟨e, h⟩ | ⟨e, h⟩ | ⟨e, h⟩ | ⟨i, hi, e, h⟩
  · exact ⟨0, by omega, e, Or.inl (by omega)⟩
  · exact ⟨1, by omega, e, Or.inl (by omega)⟩
  · exact ⟨2, by omega, e, Or.inl (by omega)⟩
  · exact ⟨3, by omega, e, Or.inl (by omega)⟩
  · exact ⟨4, by omega, e, Or.inl (by omega)⟩
  · exact ⟨5, by omega, e, Or.inl (by omega)⟩
  · exact ⟨6 + i, by omega, e, Or.inr ⟨i, hi, rfl⟩⟩
theorem x_R.old {C : Nat → Nat → Int32} {T : Nat → Int32} {p : Nat} (R : x_R C T (sp_nk C)) (h : p < 6 ∨ ∃ i, i < sp_nk C ∧ p = 6 + i) : x_A C (Int32.ofNat p) (T p) := by
  obtain ⟨r0, r1, r2, r3, r5, r4, r6, r7⟩ := R
  rcases h with h | ⟨i, hi, rfl⟩
  · have : p = 0 ∨ p = 1 ∨ p = 2 ∨ p = 3 ∨ p = 4 ∨ p = 5 := by omega
    rcases this with rfl | rfl | rfl | rfl | rfl | rfl
    · exact Or.inl ⟨rfl, r0⟩
    · exact Or.inr (Or.inl ⟨rfl, r1⟩)
    · exact Or.inr (Or.inr (Or.inl ⟨rfl, r2⟩))
    · exact Or.inr (Or.inr (Or.inr (Or.inl ⟨rfl, r3⟩)))
    · exact Or.inr (Or.inr (Or.inr (Or.inr (Or.inl ⟨rfl, r4⟩))))
    · exact Or.inr (Or.inr (Or.inr (Or.inr (Or.inr (Or.inl ⟨rfl, r5⟩)))))
  · exact Or.inr (Or.inr (Or.inr (Or.inr (Or.inr (Or.inr ⟨i, hi, rfl, r7 i hi⟩)))))
theorem x_pn_q {p : Nat} (hp : p < 12) : x_pn (Int32.ofNat p) = Int32.ofNat (sp_q p) := by
  have : p = 0 ∨ p = 1 ∨ p = 2 ∨ p = 3 ∨ p = 4 ∨ p = 5 ∨ p = 6 ∨ p = 7 ∨ p = 8 ∨ p = 9 ∨ p = 10 ∨ p = 11 := by omega
  rcases this with rfl | rfl | rfl | rfl | rfl | rfl | rfl | rfl | rfl | rfl | rfl | rfl <;> decide
theorem sp_q_6 {i : Nat} : sp_q (6 + i) = 6 + i := by unfold sp_q; rw [if_neg (by omega), if_neg (by omega)]
theorem sp_q_lt {p : Nat} (hp : p < 12) : sp_q p < 12 := by unfold sp_q; split; omega; split <;> omega
theorem x_U.q {C : Nat → Nat → Int32} {σ : xS} (U : x_U C σ 35 79 81 90 91 56 74 76) {p : Nat} (h : p < 6 ∨ ∃ i, i < sp_nk C ∧ p = 6 + i) : σ.1 79 (sp_q p) = σ.1 36 p := by
  obtain ⟨-, ⟨u0, u1, u2, u3, u4, u5⟩, u6, -⟩ := U
  rcases h with h | ⟨i, hi, rfl⟩
  · have : p = 0 ∨ p = 1 ∨ p = 2 ∨ p = 3 ∨ p = 4 ∨ p = 5 := by omega
    rcases this with rfl | rfl | rfl | rfl | rfl | rfl
    · exact u0
    · exact u1
    · exact u2
    · exact u3
    · exact u5
    · exact u4
  · rw [sp_q_6]; exact u6 i hi
theorem x_U.set {C : Nat → Nat → Int32} {σ τ : xS} {p : Nat} {v : Int32} (U : x_U C σ 35 79 81 90 91 56 74 76) (hA : x_A C (Int32.ofNat p) v) (hp : p < 12) (a1 : τ.1 36 = sp_up (σ.1 36) p v) (m1 : τ.1 79 = sp_up (σ.1 79) (sp_q p) v)
    (ha : τ.1 60 56 = τ.1 35 3 ∧ 0 ≤ τ.1 35 3 ∧ τ.1 35 3 ≤ 40 ∧ ∀ i, i < (τ.1 35 3).toNatClampNeg → x_A C (τ.1 37 i) (τ.1 38 i) ∧ τ.1 81 (2 * i) = x_pn (τ.1 37 i) ∧ τ.1 81 (2 * i + 1) = τ.1 38 i)
    (e6 : τ.1 35 6 = σ.1 35 6) (e8 : τ.1 35 8 = σ.1 35 8) (e39 : τ.1 39 = σ.1 39) (e40 : τ.1 40 = σ.1 40) (e41 : τ.1 41 = σ.1 41) (e90 : τ.1 90 = σ.1 90) (e91 : τ.1 91 = σ.1 91) (e74 : τ.1 60 74 = σ.1 60 74) (e76 : τ.1 60 76 = σ.1 60 76) : x_U C τ 35 79 81 90 91 56 74 76 := by
  have q := fun {k : Nat} (h : k < 6 ∨ ∃ i, i < sp_nk C ∧ k = 6 + i) => sp_up_q (p := p) (v := v) (U.q h)
  obtain ⟨u1, u2, u3, u4, u5, u6⟩ := U
  refine ⟨?_, ?_, ?_, ha, ?_, ?_⟩
  · show x_R C (τ.1 36) (sp_nk C)
    rw [a1]; exact u1.up hA hp
  · show τ.1 79 0 = τ.1 36 0 ∧ τ.1 79 1 = τ.1 36 1 ∧ τ.1 79 2 = τ.1 36 2 ∧ τ.1 79 3 = τ.1 36 3 ∧ τ.1 79 4 = τ.1 36 5 ∧ τ.1 79 5 = τ.1 36 4
    rw [a1, m1]
    exact ⟨q (k := 0) (Or.inl (by omega)), q (k := 1) (Or.inl (by omega)), q (k := 2) (Or.inl (by omega)), q (k := 3) (Or.inl (by omega)), q (k := 5) (Or.inl (by omega)), q (k := 4) (Or.inl (by omega))⟩
  · intro i hi
    show τ.1 79 (6 + i) = τ.1 36 (6 + i)
    rw [a1, m1]
    have := q (k := 6 + i) (Or.inr ⟨i, hi, rfl⟩)
    rw [sp_q_6] at this
    exact this
  · show τ.1 60 74 = τ.1 35 6 ∧ 0 ≤ τ.1 35 6 ∧ τ.1 35 6 ≤ 8 ∧ ∀ i, i < (τ.1 35 6).toNatClampNeg → τ.1 90 (2 * i) = τ.1 39 i ∧ τ.1 90 (2 * i + 1) = τ.1 40 i ∧ 0 ≤ τ.1 39 i ∧ τ.1 39 i ≤ C 7 4
    rw [e74, e6, e90, e39, e40]; exact u5
  · show τ.1 60 76 = τ.1 35 8 ∧ 0 ≤ τ.1 35 8 ∧ τ.1 35 8 ≤ 16 ∧ ∀ i, i < (τ.1 35 8).toNatClampNeg → τ.1 91 i = τ.1 41 i ∧ 12 ≤ τ.1 41 i ∧ τ.1 41 i ≤ 480
    rw [e76, e8, e91, e41]; exact u6
abbrev x_V : List (Nat × Nat) := [(0, 9), (35, 99999), (36, 99999), (37, 99999), (38, 99999), (39, 99999), (40, 99999), (41, 99999), (59, 99999), (60, 0), (60, 56), (60, 74), (60, 76), (68, 99999), (79, 99999), (81, 99999), (90, 99999), (91, 99999), (96, 99999)]
theorem x_B.re {C : Nat → Nat → Int32} {σ τ : xS} (B : x_B C σ) (h : x_fr x_V σ τ) (U : x_U C τ 35 79 81 90 91 56 74 76) (h59 : ∀ k, k < 3 → τ.1 59 k = τ.1 68 k) : x_B C τ := by
  obtain ⟨b1, b2, b3, b4, b5, b6, b7, b8, b9, b10, b11⟩ := B
  refine ⟨b1, b2.fr h rfl, b3.fr h rfl rfl rfl rfl rfl rfl rfl, U, (h.ck 60 4 rfl).trans b5, ?_, ?_, ?_, h59, ?_, ?_⟩
  · rw [h.ck 60 59 rfl, h.ck 60 60 rfl, h.ck 60 64 rfl]; exact b6
  · rw [h.ck 60 15 rfl, h.ck 0 1 rfl, h.ce 1 rfl, h.ce 67 rfl]; exact b7
  · rw [h.ck 0 11 rfl, h.ck 60 17 rfl]; exact b8
  · rw [h.ck 0 7 rfl, h.ck 60 78 rfl]
    refine ⟨b10.1, b10.2.imp id (fun x => ⟨x.1, x.2.of (h.ce 42 rfl) (h.ce 43 rfl) (h.ce 44 rfl) (h.ce 45 rfl) (h.ce 46 rfl) (h.ce 47 rfl) (h.ce 48 rfl) (h.ce 92 rfl) (h.ce 93 rfl) (h.ce 94 rfl) (h.ce 95 rfl) (h.ck 60 79 rfl) (h.ck 60 80 rfl) (h.ck 60 81 rfl)⟩)⟩
  · rw [h.ck 55 4 rfl, h.ck 60 68 rfl, h.ce 58 rfl, h.ce 87 rfl]; exact b11
theorem i_n40 {n : Nat} (h : n ≤ 40) : 0 ≤ Int32.ofNat n ∧ Int32.ofNat n ≤ 40 := ⟨i_0k (by omega), (i_le (k := 40) (by omega) (by omega)).mpr h⟩
theorem x_U.n {C : Nat → Nat → Int32} {σ : xS} (U : x_U C σ 35 79 81 90 91 56 74 76) : ∃ n : Nat, n ≤ 40 ∧ σ.1 35 3 = Int32.ofNat n ∧ σ.1 60 56 = Int32.ofNat n ∧ ∀ i, i < n → x_A C (σ.1 37 i) (σ.1 38 i) ∧ σ.1 81 (2 * i) = x_pn (σ.1 37 i) ∧ σ.1 81 (2 * i + 1) = σ.1 38 i := by
  obtain ⟨-, -, -, ⟨a1, a2, a3, a4⟩, -⟩ := U
  have k := i_ex a2
  exact ⟨_, i_nat (n := 40) (by omega) a3, k.1, a1.trans k.1, a4⟩
theorem x_bs {α : Type} {o : Option (α × xS)} {q : α × xS} (h : o = some q) : (o.bind fun q => some (q.1, q.2)) = some q := by rw [h]; rfl
theorem y_F.of {C : Nat → Nat → Int32} {W : List (Nat × Nat)} {σ τ : xS} (F : y_F C σ) (h : x_fr W σ τ) (h9 : x_in W 0 9 = false) (hs : (W.all fun w => w.1 != 36 && w.1 != 49 && w.1 != 50 && w.1 != 51 && w.1 != 53 && w.1 != 54) = true) : y_F C τ := by
  have k : ∀ p, (p = 36 ∨ p = 49 ∨ p = 50 ∨ p = 51 ∨ p = 53 ∨ p = 54) → τ.1 p = σ.1 p := by
    intro p hp
    refine h.ce p ?_
    rw [List.all_eq_true] at hs ⊢
    intro w hw
    have := hs w hw
    simp only [Bool.and_eq_true, bne_iff_ne] at this ⊢
    rcases hp with rfl | rfl | rfl | rfl | rfl | rfl <;> simp [this]
  unfold y_F x_F1
  rw [h.ck 0 9 h9, k 50 (by simp), k 36 (by simp), k 49 (by simp), k 51 (by simp), k 53 (by simp), k 54 (by simp)]
  exact F
theorem x_act {C : Nat → Nat → Int32} {σ : xS} {p : Nat} {v : Int32} (B : x_B C σ) (hA : x_A C (Int32.ofNat p) v) (hp : p < 12) (r : Int32) : ∃ σ1, f_RH_set_0 (Int32.ofNat p) v 1 r σ = some (σ.1 36 p, σ1) ∧
    ∀ τ, x_fr [(96, 99999)] σ1 τ → ∃ σ2, f_Mo_becomes_60 (Int32.ofNat (sp_q p)) v (x_pI τ 60 0 0) = some (σ.1 36 p, σ2) ∧ x_B C σ2 ∧ y_F C σ2 ∧ σ2.1 60 0 = 0 ∧ σ2.2 96 0 = τ.2 96 0 := by
  have U := B.2.2.2.1
  have hk6 := B.1.2.2.2.1.2
  obtain ⟨p', hp', e', hv⟩ := hA.pl hk6
  have ep := (i_ej (by omega) (by omega)).mp e'
  subst ep
  obtain ⟨n, hn, e35, e60, hacts⟩ := U.n
  have hs : n - sp_1 n + 1 ≤ 40 ∧ n - sp_1 n + sp_1 n = n := by unfold sp_1; split <;> omega
  have s1 : x_fr [(0, 9)] σ (x_pI σ 0 9 0) := x_frI (p := 0) (k := 9) rfl x_fr.rf
  obtain ⟨q1, d1, c1, c2, c3, c4, c5, c6⟩ := e_Se_act (σ := x_pI σ 0 9 0) (n := n) (v := v) (by rw [y_pI_ne (by omega)]; exact e35) hn hp
  have f1 := fr_Se_act_35 d1
  rw [y_pI_ne (q := 36) (by omega)] at c1 c2 c6
  rw [y_pI_ne (q := 37) (by omega), y_pI_ne (q := 38) (by omega)] at c4
  refine ⟨q1.2, ?_, ?_⟩
  · unfold f_RH_set_0
    rw [if_neg (by decide)]
    dsimp only
    rw [d1]
    dsimp only [Option.bind_some]
    rw [c1]
  · intro τ hτ
    have G1 : x_fr [(0, 9), (35, 3), (36, 99999), (37, 99999), (38, 99999), (60, 0), (96, 99999)] σ (x_pI τ 60 0 0) := x_frI (p := 60) (k := 0) rfl (x_fr.trans (x_fr.trans (x_fr.su s1 rfl) (x_fr.su f1 rfl)) (x_fr.su hτ rfl))
    obtain ⟨q2, d2, m1, m2, m3, m4, m5, m6⟩ := e_Mo_becomes (σ := x_pI τ 60 0 0) (p := sp_q p) (n := n) (v := v) ((G1.ck 60 56 rfl).trans e60) hn (sp_q_lt hp)
    have f2 := fr_Mo_becomes_60 d2
    have t35 : q2.2.1 35 = q1.2.1 35 := (f2.ce 35 rfl).trans ((y_pI_ne (by omega)).trans (hτ.ce 35 rfl))
    have t36 : q2.2.1 36 = q1.2.1 36 := (f2.ce 36 rfl).trans ((y_pI_ne (by omega)).trans (hτ.ce 36 rfl))
    have t37 : q2.2.1 37 = q1.2.1 37 := (f2.ce 37 rfl).trans ((y_pI_ne (by omega)).trans (hτ.ce 37 rfl))
    have t38 : q2.2.1 38 = q1.2.1 38 := (f2.ce 38 rfl).trans ((y_pI_ne (by omega)).trans (hτ.ce 38 rfl))
    rw [G1.ce 79 rfl] at m1 m2 m6
    rw [G1.ce 81 rfl] at m4
    have F : x_fr [(0, 9), (35, 3), (36, 99999), (37, 99999), (38, 99999), (60, 0), (60, 56), (79, 99999), (81, 99999), (96, 99999)] σ q2.2 := x_fr.trans (x_fr.su G1 rfl) (x_fr.su f2 rfl)
    refine ⟨q2.2, ?_, B.re (x_fr.su F rfl) (U.set hA hp (by rw [t36]; exact c2) m2 ⟨?_, ?_, ?_, ?_⟩ (F.ck 35 6 rfl) (F.ck 35 8 rfl) (F.ce 39 rfl) (F.ce 40 rfl) (F.ce 41 rfl) (F.ce 90 rfl) (F.ce 91 rfl) (F.ck 60 74 rfl) (F.ck 60 76 rfl)) ?_, Or.inl ?_, ?_, f2.2 96 0 rfl⟩
    · rw [d2]
      congr 1
      exact Prod.ext (m1.trans (U.q hv)) rfl
    · rw [m3, t35, c3]
    · rw [t35, c3]; exact (i_n40 hs.1).1
    · rw [t35, c3]; exact (i_n40 hs.1).2
    · intro i hi
      rw [t35, c3, i_cl (by omega)] at hi
      rw [t37, t38]
      by_cases h : i = n - sp_1 n
      · subst h
        rw [c5, c6, m5, m6]
        exact ⟨U.1.old hv, (x_pn_q hp).symm, U.q hv⟩
      · have := hacts (i + sp_1 n) (by omega)
        rw [(c4 i (by omega)).1, (c4 i (by omega)).2, m4 (2 * i) (by omega), m4 (2 * i + 1) (by omega), show 2 * i + 2 * sp_1 n = 2 * (i + sp_1 n) by omega, show 2 * i + 1 + 2 * sp_1 n = 2 * (i + sp_1 n) + 1 by omega]
        exact this
    · intro k hk
      rw [F.ce 59 rfl, F.ce 68 rfl]; exact B.2.2.2.2.2.2.2.2.1 k hk
    · rw [f2.ck 0 9 rfl, y_pI_ne (by omega), hτ.ck 0 9 rfl, f1.ck 0 9 rfl, x_pI_at]; rfl
    · exact (f2.ck 60 0 rfl).trans x_60
theorem x_ref {C : Nat → Nat → Int32} {σ τ : xS} {k : Nat} (B : x_B C σ) (F : y_F C σ) (hk : k < 3) (hτ : x_fr [(96, 99999)] (x_pI σ 59 k (σ.1 59 k + 1)) τ) : x_B C (x_pI (x_pI τ 60 0 0) 68 k ((x_pI τ 60 0 0).1 68 k + 1)) ∧ y_F C (x_pI (x_pI τ 60 0 0) 68 k ((x_pI τ 60 0 0).1 68 k + 1)) := by
  have f0 : x_fr [(59, 99999)] σ (x_pI σ 59 k (σ.1 59 k + 1)) := x_frI (p := 59) rfl x_fr.rf
  have f : x_fr [(59, 99999), (60, 0), (68, 99999), (96, 99999)] σ (x_pI (x_pI τ 60 0 0) 68 k ((x_pI τ 60 0 0).1 68 k + 1)) := x_frI (p := 68) rfl (x_frI (p := 60) (k := 0) rfl (x_fr.trans (x_fr.su f0 rfl) (x_fr.su hτ rfl)))
  refine ⟨B.re (x_fr.su f rfl) (B.2.2.2.1.of (f.ce 35 rfl) (f.ce 36 rfl) (f.ce 37 rfl) (f.ce 38 rfl) (f.ce 39 rfl) (f.ce 40 rfl) (f.ce 41 rfl) (f.ce 79 rfl) (f.ce 81 rfl) (f.ce 90 rfl) (f.ce 91 rfl) (f.ck 60 56 rfl) (f.ck 60 74 rfl) (f.ck 60 76 rfl)) ?_, F.of f rfl rfl⟩
  intro j hj
  have b := B.2.2.2.2.2.2.2.2.1
  rw [y_pI_ne (q := 59) (by omega), y_pI_ne (q := 59) (by omega), hτ.ce 59 rfl, x_pI_at, x_pI_at, y_pI_ne (q := 68) (by omega), hτ.ce 68 rfl, y_pI_ne (q := 68) (by omega)]
  dsimp only
  by_cases h : j = k
  · subst h; rw [if_pos rfl, if_pos rfl, b j hj]
  · rw [if_neg h, if_neg h]; exact b j hj
theorem e_RH_set0 {p v r : Int32} {σ : xS} : f_RH_set_0 p v 0 r σ = some (r, x_pI σ 59 1 (σ.1 59 1 + 1)) := by
  unfold f_RH_set_0; rw [if_pos rfl]
theorem e_Mo_refuses {k : Nat} (hk : k < 3) {r : Int32} {σ : xS} : f_Mo_refuses_60 (Int32.ofNat k) r σ = some (r, x_pI σ 68 k (σ.1 68 k + 1)) := by
  unfold f_Mo_refuses_60
  rw [if_neg (i_ix hk (by omega)), if_neg (i_ix hk (by omega)), i_cl (by omega)]
theorem o_hole (v : Int32) : x_OS (f_RH_hole_0 v) (f_Mo_hole_60 v) := by
  rintro σ ⟨C, B, F⟩
  by_cases h : 1 ≤ v ∧ v ≤ 60
  · obtain ⟨σ1, e1, k⟩ := x_act (p := 0) (v := v) B (by unfold x_A; first | exact Or.inl ⟨rfl, h⟩ | exact Or.inr (Or.inl ⟨rfl, h⟩) | exact Or.inr (Or.inr (Or.inl ⟨rfl, h⟩)) | exact Or.inr (Or.inr (Or.inr (Or.inl ⟨rfl, h⟩))) | exact Or.inr (Or.inr (Or.inr (Or.inr (Or.inr (Or.inl ⟨rfl, h⟩)))))) (by omega) (-1)
    obtain ⟨σ2, e2, B2, F2, -⟩ := k σ1 x_fr.rf
    refine ⟨σ.1 36 0, σ1, σ2, ?_, ?_, C, B2, F2⟩
    · unfold f_RH_hole_0
      rw [if_neg (i_nl.mpr h.1), if_neg (i_nl.mpr h.2)]
      exact x_bs e1
    · unfold f_Mo_hole_60
      dsimp only
      rw [e_Mo_within]
      dsimp only [Option.bind_some]
      rw [if_pos h, if_neg (by decide)]
      exact x_bs e2
  · obtain ⟨B2, F2⟩ := x_ref (k := 1) B F (by omega) x_fr.rf
    refine ⟨-1, x_pI σ 59 1 (σ.1 59 1 + 1), _, ?_, ?_, C, B2, F2⟩
    · unfold f_RH_hole_0
      rw [e_RH_set0]
      dsimp only [Option.bind_some]
      by_cases h1 : v < 1
      · rw [if_pos h1]
      · rw [if_neg h1, if_pos (i_nle.mp (fun x => h ⟨i_nl.mp h1, x⟩))]
    · unfold f_Mo_hole_60
      dsimp only
      rw [e_Mo_within]
      dsimp only [Option.bind_some]
      rw [if_neg h, if_pos rfl]
      exact x_bs (e_Mo_refuses (k := 1) (by omega))
theorem o_lag (v : Int32) : x_OS (f_RH_lag_0 v) (f_Mo_lag_60 v) := by
  rintro σ ⟨C, B, F⟩
  by_cases h : 0 ≤ v ∧ v ≤ 24
  · obtain ⟨σ1, e1, k⟩ := x_act (p := 1) (v := v) B (by unfold x_A; first | exact Or.inl ⟨rfl, h⟩ | exact Or.inr (Or.inl ⟨rfl, h⟩) | exact Or.inr (Or.inr (Or.inl ⟨rfl, h⟩)) | exact Or.inr (Or.inr (Or.inr (Or.inl ⟨rfl, h⟩))) | exact Or.inr (Or.inr (Or.inr (Or.inr (Or.inr (Or.inl ⟨rfl, h⟩)))))) (by omega) (-1)
    obtain ⟨σ2, e2, B2, F2, -⟩ := k σ1 x_fr.rf
    refine ⟨σ.1 36 1, σ1, σ2, ?_, ?_, C, B2, F2⟩
    · unfold f_RH_lag_0
      rw [if_neg (i_nl.mpr h.1), if_neg (i_nl.mpr h.2)]
      exact x_bs e1
    · unfold f_Mo_lag_60
      dsimp only
      rw [e_Mo_within]
      dsimp only [Option.bind_some]
      rw [if_pos h, if_neg (by decide)]
      exact x_bs e2
  · obtain ⟨B2, F2⟩ := x_ref (k := 1) B F (by omega) x_fr.rf
    refine ⟨-1, x_pI σ 59 1 (σ.1 59 1 + 1), _, ?_, ?_, C, B2, F2⟩
    · unfold f_RH_lag_0
      rw [e_RH_set0]
      dsimp only [Option.bind_some]
      by_cases h1 : v < 0
      · rw [if_pos h1]
      · rw [if_neg h1, if_pos (i_nle.mp (fun x => h ⟨i_nl.mp h1, x⟩))]
    · unfold f_Mo_lag_60
      dsimp only
      rw [e_Mo_within]
      dsimp only [Option.bind_some]
      rw [if_neg h, if_pos rfl]
      exact x_bs (e_Mo_refuses (k := 1) (by omega))
theorem o_wrist (v : Int32) : x_OS (f_RH_wrist_0 v) (f_Mo_wrist_60 v) := by
  rintro σ ⟨C, B, F⟩
  by_cases h : 1 ≤ v ∧ v ≤ 90
  · obtain ⟨σ1, e1, k⟩ := x_act (p := 2) (v := v) B (by unfold x_A; first | exact Or.inl ⟨rfl, h⟩ | exact Or.inr (Or.inl ⟨rfl, h⟩) | exact Or.inr (Or.inr (Or.inl ⟨rfl, h⟩)) | exact Or.inr (Or.inr (Or.inr (Or.inl ⟨rfl, h⟩))) | exact Or.inr (Or.inr (Or.inr (Or.inr (Or.inr (Or.inl ⟨rfl, h⟩)))))) (by omega) (-1)
    obtain ⟨σ2, e2, B2, F2, -⟩ := k σ1 x_fr.rf
    refine ⟨σ.1 36 2, σ1, σ2, ?_, ?_, C, B2, F2⟩
    · unfold f_RH_wrist_0
      rw [if_neg (i_nl.mpr h.1), if_neg (i_nl.mpr h.2)]
      exact x_bs e1
    · unfold f_Mo_wrist_60
      dsimp only
      rw [e_Mo_within]
      dsimp only [Option.bind_some]
      rw [if_pos h, if_neg (by decide)]
      exact x_bs e2
  · obtain ⟨B2, F2⟩ := x_ref (k := 1) B F (by omega) x_fr.rf
    refine ⟨-1, x_pI σ 59 1 (σ.1 59 1 + 1), _, ?_, ?_, C, B2, F2⟩
    · unfold f_RH_wrist_0
      rw [e_RH_set0]
      dsimp only [Option.bind_some]
      by_cases h1 : v < 1
      · rw [if_pos h1]
      · rw [if_neg h1, if_pos (i_nle.mp (fun x => h ⟨i_nl.mp h1, x⟩))]
    · unfold f_Mo_wrist_60
      dsimp only
      rw [e_Mo_within]
      dsimp only [Option.bind_some]
      rw [if_neg h, if_pos rfl]
      exact x_bs (e_Mo_refuses (k := 1) (by omega))
theorem o_eye (v : Int32) : x_OS (f_RH_eye_0 v) (f_Mo_eye_60 v) := by
  rintro σ ⟨C, B, F⟩
  by_cases h : -30 ≤ v ∧ v ≤ 30
  · obtain ⟨σ1, e1, k⟩ := x_act (p := 3) (v := v) B (by unfold x_A; first | exact Or.inl ⟨rfl, h⟩ | exact Or.inr (Or.inl ⟨rfl, h⟩) | exact Or.inr (Or.inr (Or.inl ⟨rfl, h⟩)) | exact Or.inr (Or.inr (Or.inr (Or.inl ⟨rfl, h⟩))) | exact Or.inr (Or.inr (Or.inr (Or.inr (Or.inr (Or.inl ⟨rfl, h⟩)))))) (by omega) (-99)
    obtain ⟨σ2, e2, B2, F2, -⟩ := k σ1 x_fr.rf
    refine ⟨σ.1 36 3, σ1, σ2, ?_, ?_, C, B2, F2⟩
    · unfold f_RH_eye_0
      rw [if_neg (i_nl.mpr h.1), if_neg (i_nl.mpr h.2)]
      exact x_bs e1
    · unfold f_Mo_eye_60
      dsimp only
      rw [e_Mo_within]
      dsimp only [Option.bind_some]
      rw [if_pos h, if_neg (by decide)]
      exact x_bs e2
  · obtain ⟨B2, F2⟩ := x_ref (k := 1) B F (by omega) x_fr.rf
    refine ⟨-99, x_pI σ 59 1 (σ.1 59 1 + 1), _, ?_, ?_, C, B2, F2⟩
    · unfold f_RH_eye_0
      rw [e_RH_set0]
      dsimp only [Option.bind_some]
      by_cases h1 : v < -30
      · rw [if_pos h1]
      · rw [if_neg h1, if_pos (i_nle.mp (fun x => h ⟨i_nl.mp h1, x⟩))]
    · unfold f_Mo_eye_60
      dsimp only
      rw [e_Mo_within]
      dsimp only [Option.bind_some]
      rw [if_neg h, if_pos rfl]
      exact x_bs (e_Mo_refuses (k := 1) (by omega))
theorem o_behind (v : Int32) : x_OS (f_RH_behind_0 v) (f_Mo_behind_60 v) := by
  rintro σ ⟨C, B, F⟩
  by_cases h : 0 ≤ v ∧ v ≤ 200
  · obtain ⟨σ1, e1, k⟩ := x_act (p := 5) (v := v) B (by unfold x_A; first | exact Or.inl ⟨rfl, h⟩ | exact Or.inr (Or.inl ⟨rfl, h⟩) | exact Or.inr (Or.inr (Or.inl ⟨rfl, h⟩)) | exact Or.inr (Or.inr (Or.inr (Or.inl ⟨rfl, h⟩))) | exact Or.inr (Or.inr (Or.inr (Or.inr (Or.inr (Or.inl ⟨rfl, h⟩)))))) (by omega) (-1)
    obtain ⟨σ2, e2, B2, F2, -⟩ := k σ1 x_fr.rf
    refine ⟨σ.1 36 5, σ1, σ2, ?_, ?_, C, B2, F2⟩
    · unfold f_RH_behind_0
      rw [if_neg (i_nl.mpr h.1), if_neg (i_nl.mpr h.2)]
      exact x_bs e1
    · unfold f_Mo_behind_60
      dsimp only
      rw [e_Mo_within]
      dsimp only [Option.bind_some]
      rw [if_pos h, if_neg (by decide)]
      exact x_bs e2
  · obtain ⟨B2, F2⟩ := x_ref (k := 1) B F (by omega) x_fr.rf
    refine ⟨-1, x_pI σ 59 1 (σ.1 59 1 + 1), _, ?_, ?_, C, B2, F2⟩
    · unfold f_RH_behind_0
      rw [e_RH_set0]
      dsimp only [Option.bind_some]
      by_cases h1 : v < 0
      · rw [if_pos h1]
      · rw [if_neg h1, if_pos (i_nle.mp (fun x => h ⟨i_nl.mp h1, x⟩))]
    · unfold f_Mo_behind_60
      dsimp only
      rw [e_Mo_within]
      dsimp only [Option.bind_some]
      rw [if_neg h, if_pos rfl]
      exact x_bs (e_Mo_refuses (k := 1) (by omega))
