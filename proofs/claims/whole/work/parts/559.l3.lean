section LV
variable {g : Nat → Int32} {n m i : Nat} {c : List Int32} {i0 : Nat} {τ υ : xS}
theorem i_tn {t : Int32} {s : Nat} (hs : s ≤ 600) (h1 : 1 ≤ t) (h2 : t ≤ 99) : ∃ u : Nat, t = Int32.ofNat u ∧ u ≤ 99 ∧ (Int32.ofNat s + t = Int32.ofNat (s + u)) := by
  obtain ⟨a, b⟩ := i_ex (v := t) (by grind)
  have := i_nat (n := 99) (by omega) h2
  refine ⟨t.toNatClampNeg, a, this, ?_⟩
  rw [Int32.ofNat_add, ← a]
theorem i_lim {s : Nat} {t : Int32} (hs : s ≤ 600) : (1 ≤ t ∧ t ≤ (if (600 : Int32) - Int32.ofNat s < 99 then (600 : Int32) - Int32.ofNat s else 99)) ↔ (1 ≤ t ∧ t ≤ 99) ∧ Int32.ofNat s + t ≤ 600 := by
  have h : (600 : Int32) - Int32.ofNat s = Int32.ofNat (600 - s) := i_subn (k := 600) hs
  rw [h]
  constructor
  · rintro ⟨a, b⟩
    by_cases hx : Int32.ofNat (600 - s) < 99
    · rw [if_pos hx] at b
      have b2 : t ≤ 99 := by grind
      obtain ⟨u, e1, e2, e3⟩ := i_tn hs a b2
      refine ⟨⟨a, b2⟩, ?_⟩
      rw [e1, i_le (by omega) (by omega)] at b
      rw [e3]; exact (i_le (k := 600) (by omega) (by omega)).mpr (by omega)
    · rw [if_neg hx] at b
      obtain ⟨u, e1, e2, e3⟩ := i_tn hs a b
      refine ⟨⟨a, b⟩, ?_⟩
      have hx' : ¬ 600 - s < 99 := fun y => hx ((i_lt (k := 99) (by omega) (by omega)).mpr y)
      rw [e3]; exact (i_le (k := 600) (by omega) (by omega)).mpr (by omega)
  · rintro ⟨⟨a, b⟩, d⟩
    refine ⟨a, ?_⟩
    obtain ⟨u, e1, e2, e3⟩ := i_tn hs a b
    rw [e3] at d
    have d' := (i_le (k := 600) (by omega) (by omega)).mp d
    by_cases hx : Int32.ofNat (600 - s) < 99
    · rw [if_pos hx, e1, i_le (by omega) (by omega)]; omega
    · rw [if_neg hx]; exact b
theorem t_tenths {v : Int32} (h : x_kh (tk_i g n) m τ i c) (k : x_mh g n m υ i) (hi : i0 < i) (hv : 12 ≤ v ∧ v ≤ 480) (d : x_d1 τ υ) (hk : τ.1 21 1 < 12) : x_ens (f_Re_readTenths_2_21 v τ) (fun qc => (qc.1 = 0 ∨ qc.1 = 1) ∧ x_ens ((f_Mo_readsMove_60_J46 v υ).bind fun q => l_fin q.2) (fun qm => x_rs g n m i0 c x_d1 qc qm.2)) := by
  obtain ⟨d1, d2, kk, s, b1, b2, e1, e2, e3, e4, e5, e6, e7⟩ := id d
  have hkk : kk < 12 := by rw [e1] at hk; exact (i_lt (k := 12) (by omega) (by omega)).mp hk
  unfold f_Re_readTenths_2_21
  rw [e3]
  refine k_nt (z := fun q => some ((0 : Int32), q)) h ?_ ?_
  · intro h2 hlo hhi q q1 q2 q3
    obtain ⟨⟨t1, t2⟩, t3⟩ := (i_lim b2).mp ⟨hlo, hhi⟩
    obtain ⟨u, u1, u2, u3⟩ := i_tn b2 t1 t2
    have su : s + u ≤ 600 := by rw [u3] at t3; exact (i_le (k := 600) (by omega) (by omega)).mp t3
    have c1 : q.2.1 21 1 = Int32.ofNat kk := (q3.ck 21 1 rfl).trans e1
    have c4 : q.2.1 21 4 = Int32.ofNat s := (q3.ck 21 4 rfl).trans e3
    refine x_ens.bi (P := fun q5 => q5.2 = x_pI (x_pI (x_pI (x_pI q.2 22 kk v) 23 kk (tk_i g n i).2.1) 21 1 (Int32.ofNat (kk + 1))) 21 4 (Int32.ofNat (s + u))) ?_ ?_
    · unfold f_Sc_addMove_21
      rw [c1, if_neg (show ¬ (12 : Int32) ≤ Int32.ofNat kk from fun x => by have := (i_le (j := 12) (by omega) (by omega)).mp x; omega), i_cl (by omega)]
      refine x_ens.gr (by rintro (h | h) <;> first | exact i_ge (by omega) h | omega | (rw [i_cl (by omega)] at h; omega)) ?_
      dsimp only
      rw [y_pI_ne (q := 21) (show 21 ≠ 22 by omega), c1, i_cl (by omega)]
      refine x_ens.gr (by rintro (h | h) <;> first | exact i_ge (by omega) h | omega | (rw [i_cl (by omega)] at h; omega)) ?_
      rw [y_pI_ne (q := 21) (show 21 ≠ 23 by omega), y_pI_ne (q := 21) (show 21 ≠ 22 by omega), c1, i_s, x_pI_kn (show 4 ≠ 1 by omega), y_pI_ne (q := 21) (show 21 ≠ 23 by omega), y_pI_ne (q := 21) (show 21 ≠ 22 by omega), c4, q1, u3]
      exact x_ens.so rfl
    · intro q5 e5'
      rw [e5']
      have hl : i < m := k.1.lt k.2.2.2 (by rw [h2]; decide)
      refine x_ens.bi (P := fun qc => (qc.1 = 0 ∨ qc.1 = 1) ∧ x_ens ((f_Mo_readsMove_60_J46 v υ).bind fun q => l_fin q.2) (fun qm => x_rs g n m i0 c x_d1 qc qm.2)) ?_ (fun qc hq => x_ens.ok hq.1 (x_ens.so hq))
      have kc : x_kh (tk_i g n) m (x_pI (x_pI (x_pI (x_pI q.2 22 kk v) 23 kk (tk_i g n i).2.1) 21 1 (Int32.ofNat (kk + 1))) 21 4 (Int32.ofNat (s + u))) (tk_ad m i) c := q2.fr (W := [(22, 99999), (23, 99999), (21, 1), (21, 4)]) (x_frI (p := 21) (k := 4) rfl (x_frI (p := 21) (k := 1) rfl (x_frI (p := 23) rfl (x_frI (p := 22) rfl x_fr.rf)))) rfl rfl rfl rfl rfl rfl rfl
      have mm : x_ens (f_Mo_readsMove_60_J46 v υ) (fun q => x_mh g n m q.2 (tk_ad m i) ∧ ∃ ρ, x_fr x_WT ρ q.2 ∧ ρ = x_pI (x_pI (x_pI (x_pI (x_pI υ 60 35 v) 69 kk v) 70 kk (tk_i g n i).2.1) 60 34 (Int32.ofNat (s + u))) 60 28 (Int32.ofNat (kk + 1))) := by
        unfold f_Mo_readsMove_60_J46
        refine x_ens.bi (l_here (lo := 1) (hi := 99) (by decide) k) ?_
        intro q8 h8
        unfold x_nr at h8
        rw [if_pos h2, if_pos ⟨t1, t2⟩] at h8
        obtain ⟨z1, z2, z3⟩ := h8
        rw [if_neg (by rw [z1]; decide), z2, z3, e4, if_pos t3]
        unfold f_Mo_readsMove_60_J78
        rw [k.good]
        dsimp only [Option.bind_some]
        rw [if_neg (show ¬ (1 : Int32) = 0 by decide), x_pI_kn (show 28 ≠ 35 by omega), e2, i_cl (by omega)]
        refine x_ens.gr (by rintro (h | h) <;> first | exact i_ge (by omega) h | omega | (rw [i_cl (by omega)] at h; omega)) ?_
        rw [y_pI_ne (q := 60) (show 60 ≠ 69 by omega), x_pI_kn (show 28 ≠ 35 by omega), e2, i_cl (by omega)]
        refine x_ens.gr (by rintro (h | h) <;> first | exact i_ge (by omega) h | omega | (rw [i_cl (by omega)] at h; omega)) ?_
        rw [x_pI_kn (show 24 ≠ 35 by omega), z3]
        simp only [y_pI_ne (show 60 ≠ 70 by omega), y_pI_ne (show 60 ≠ 69 by omega), x_pI_kn (show 34 ≠ 35 by omega), x_pI_kn (show 24 ≠ 35 by omega), x_pI_kn (show 28 ≠ 35 by omega), x_pI_kn (show 28 ≠ 34 by omega), e4, e2, z3, i_s, u3]
        refine x_ens.bi (l_go (k.fr (W := [(60, 35), (69, 99999), (70, 99999), (60, 34), (60, 28)]) (x_frI (p := 60) (k := 28) rfl (x_frI (p := 60) (k := 34) rfl (x_frI (p := 70) rfl (x_frI (p := 69) rfl (x_frI (p := 60) (k := 35) rfl x_fr.rf))))) rfl rfl rfl rfl rfl rfl rfl rfl rfl rfl)) ?_
        rintro q9 ⟨y1, y2⟩
        exact x_ens.so ⟨y1, _, y2, rfl⟩
      obtain ⟨qm, em, m1, ρ, m2, m3⟩ := mm
      rw [em]
      dsimp only [Option.bind_some]
      refine rs_end kc m1 (by rw [tk_ad_lt hl]; omega) ?_
      intro τ' υ' fτ fυ
      have fυ2 : x_fr x_WT ρ υ' := x_fr.trans m2 fυ
      rw [m3] at fυ2
      unfold x_d1
      rw [fτ.ck 21 0 rfl, fτ.ck 21 1 rfl, fτ.ck 21 4 rfl, fτ.ce 22 rfl, fτ.ce 23 rfl, fυ2.ck 60 27 rfl, fυ2.ck 60 28 rfl, fυ2.ck 60 34 rfl, fυ2.ck 60 35 rfl, fυ2.ce 69 rfl, fυ2.ce 70 rfl]
      have r22 : q.2.1 22 = τ.1 22 := q3.ce 22 rfl
      have r23 : q.2.1 23 = τ.1 23 := q3.ce 23 rfl
      have r210 : q.2.1 21 0 = τ.1 21 0 := q3.ck 21 0 rfl
      refine ⟨?_, ?_, kk + 1, s + u, by omega, su, ?_, x_pI_kk, x_pI_kk, ?_, ?_, ?_, ?_⟩
      · rw [x_pI_kn (by omega), x_pI_kn (by omega), y_pI_ne (by omega), y_pI_ne (by omega), r210, d1, x_pI_kn (by omega), x_pI_kn (by omega), y_pI_ne (by omega), y_pI_ne (by omega), x_pI_kn (by omega)]
      · rw [x_pI_kn (by omega), x_pI_kn (by omega), y_pI_ne (by omega), y_pI_ne (by omega), r210]; exact d2
      · rw [x_pI_kn (by omega)]; exact x_pI_kk
      · rw [x_pI_kn (by omega)]; exact x_pI_kk
      · rw [y_pI_ne (by omega), y_pI_ne (by omega), x_pI_up, y_pI_ne (by omega), r23, sp_sum, sp_up_eq, sp_sum_congr (g' := τ.1 23) (fun j hj => sp_up_ne (by omega)), e5, u3]
      · intro j hj
        rw [y_pI_ne (q := 69) (by omega), y_pI_ne (q := 69) (by omega), y_pI_ne (q := 69) (by omega), x_pI_up, y_pI_ne (q := 69) (by omega), y_pI_ne (q := 70) (by omega), y_pI_ne (q := 70) (by omega), x_pI_up, y_pI_ne (q := 70) (by omega), y_pI_ne (q := 70) (by omega), y_pI_ne (q := 22) (by omega), y_pI_ne (q := 22) (by omega), y_pI_ne (q := 22) (by omega), x_pI_up, y_pI_ne (q := 23) (by omega), y_pI_ne (q := 23) (by omega), x_pI_up, y_pI_ne (q := 23) (by omega), r22, r23]
        by_cases e : j = kk
        · subst e
          rw [sp_up_eq, sp_up_eq, sp_up_eq, sp_up_eq]
          exact ⟨rfl, rfl, hv, t1, t2⟩
        · rw [sp_up_ne e, sp_up_ne e, sp_up_ne e, sp_up_ne e]
          exact e6 j (by omega)
      · rw [if_neg (by omega), x_pI_kn (by omega), x_pI_kn (by omega), y_pI_ne (by omega), y_pI_ne (by omega), x_pI_kk, y_pI_ne (q := 22) (by omega), y_pI_ne (q := 22) (by omega), y_pI_ne (q := 22) (by omega), x_pI_up, show kk + 1 - 1 = kk by omega, sp_up_eq]
  · intro f q hf q6 q7
    refine x_ens.so ⟨Or.inl rfl, ?_⟩
    unfold f_Mo_readsMove_60_J46
    obtain ⟨q8, e8, h8⟩ := l_here (lo := 1) (hi := 99) (by decide) k
    rw [e8]
    dsimp only [Option.bind_some]
    unfold x_nr at h8
    by_cases h2 : (tk_i g n i).1 = 2
    · rw [if_pos h2] at h8 hf
      rw [i_lim b2] at hf
      obtain ⟨hf, rfl⟩ := hf
      by_cases h3 : 1 ≤ (tk_i g n i).2.1 ∧ (tk_i g n i).2.1 ≤ 99
      · rw [if_pos h3] at h8
        obtain ⟨z1, z2, z3⟩ := h8
        rw [if_neg (by rw [z1]; decide), z2, z3, e4, if_neg (fun x => hf ⟨h3, x⟩)]
        obtain ⟨q9, e9, h9, -⟩ := l_wrong k (k := 2) (by decide)
        rw [e9]
        dsimp only [Option.bind_some]
        unfold f_Mo_readsMove_60_J78
        rw [h9.good]
        dsimp only [Option.bind_some]
        rw [if_pos rfl]
        dsimp only [Option.bind_some]
        exact rs_bad rfl q6 q7 h9
      · rw [if_neg h3] at h8
        rw [if_pos h8.1]
        dsimp only [Option.bind_some]
        exact rs_bad rfl q6 q7 h8.2.1
    · rw [if_neg h2] at h8 hf
      subst hf
      rw [if_pos h8.1]
      dsimp only [Option.bind_some]
      exact rs_bad rfl q6 q7 h8.2.1
end LV
