section LS
variable {g : Nat → Int32} {n m i : Nat} {c : List Int32} {τ υ : xS} {b2 b17 : Bool}
theorem d4_bit {p r w : Nat} {v lo hi : Int32} (h : x_sl p r w v lo hi) (d : x_d4 τ υ) : (τ.1 6 p = 0 ↔ ¬ x_bt (υ.1 60 37) w = true) := by
  obtain ⟨-, -, q0, q1, q2, q3, q5⟩ := d
  rcases h with ⟨rfl, rfl, rfl, rfl, rfl, rfl⟩ | ⟨rfl, rfl, rfl, rfl, rfl, rfl⟩ | ⟨rfl, rfl, rfl, rfl, rfl, rfl⟩ | ⟨rfl, rfl, rfl, rfl, rfl, rfl⟩
  · exact q5
  · exact q0
  · exact q1
  · exact q2
theorem t_sett {p r w : Nat} {v lo hi : Int32} (hs : x_sl p r w v lo hi) (h : x_kh (tk_i g n) m τ i c) (k : x_mh g n m υ i) (hi' : i < m) (d : x_D4 b2 b17 τ υ) : x_ens (f_Re_readSetting_2_21 (Int32.ofNat p) lo hi τ) (fun qc => (qc.1 = 0 ∨ qc.1 = 1) ∧ x_ens ((f_Mo_once_60 v υ).bind fun q57 => if q57.1 = 0 then l_fin q57.2 else (f_Mo_number_60 lo hi q57.2).bind fun q60 => l_fin (x_pI q60.2 74 r q60.1)) (fun qm => x_rs g n m i c (fun τ' υ' => x_D4 b2 b17 τ' υ' ∧ ∀ j, τ'.1 26 (6 + j) = τ.1 26 (6 + j)) qc qm.2)) := by
  obtain ⟨hp, hr, ho, hlo0⟩ := hs.b
  have hbit := d4_bit hs d.1
  obtain ⟨qo, eo, o1⟩ := l_once ho k hi'
  have fo := fr_Mo_once_60 eo
  rw [eo]
  dsimp only [Option.bind_some]
  unfold f_Re_readSetting_2_21
  refine x_ens.bi (k_first hp h) ?_
  intro q1 hq1
  by_cases e : τ.1 6 p = 0
  · rw [if_pos e] at hq1
    rw [if_neg (hbit.mp e)] at o1
    obtain ⟨o1, o2, o3⟩ := o1
    obtain ⟨f1, f2, f3⟩ := hq1
    rw [if_neg (show ¬ q1.1 = 0 by rw [f1]; decide), if_neg (show ¬ qo.1 = 0 by rw [o1]; decide)]
    refine x_ens.bi (k_adv f3) ?_
    rintro qa ⟨a1, a2⟩
    rw [tk_ad_lt hi'] at a1
    obtain ⟨qn, en, n1, n2⟩ := l_num (lo := lo) (hi := hi) hlo0 o2
    rw [en]
    dsimp only [Option.bind_some]
    refine k_nt (z := fun q => some ((0 : Int32), q)) a1 ?_ ?_
    · intro h2 hlo hhi q q1' q2 q3
      unfold x_nr at n2
      rw [if_pos h2, if_pos ⟨hlo, hhi⟩] at n2
      have hl : i + 1 < m := k.1.lt a1.2.2.2.1 (by rw [h2]; decide)
      rw [i_cl (by omega), q1', n2.1]
      refine x_ens.gr (by rintro (x | x); exact i_ge (by omega) x; omega) ?_
      have kc : x_kh (tk_i g n) m (x_pI q.2 26 p (tk_i g n (i + 1)).2.1) (tk_ad m (i + 1)) c := q2.fr (W := [(26, 99999)]) (x_frI (p := 26) rfl x_fr.rf) rfl rfl rfl rfl rfl rfl rfl
      have km : x_mh g n m (x_pI qn.2 74 r (tk_i g n (i + 1)).2.1) (tk_ad m (i + 1)) := n2.2.fr (W := [(74, 99999)]) (x_frI (p := 74) rfl x_fr.rf) rfl rfl rfl rfl rfl rfl rfl rfl rfl rfl
      refine x_ens.bi (rs_end (i0 := i) (D := fun τ' υ' => x_D4 b2 b17 τ' υ' ∧ ∀ j, τ'.1 26 (6 + j) = τ.1 26 (6 + j)) kc km (by rw [tk_ad_lt hl]; omega) ?_) (fun qc hq => x_ens.ok hq.1 (x_ens.so hq))
      intro τ' υ' fτ fυ
      have hp6 : p < 6 := by rcases hs with ⟨rfl, _⟩ | ⟨rfl, _⟩ | ⟨rfl, _⟩ | ⟨rfl, _⟩ <;> omega
      refine ⟨d4_set hs d ⟨hlo, hhi⟩ ?_ ?_ ?_ ?_, fun j => by rw [fτ.ce 26 rfl, x_pI_up, sp_up_ne (by omega), q3.ce 26 rfl, a2.ce 26 rfl, f2, y_pI_ne (by omega)]⟩
      · rw [fτ.ce 26 rfl, x_pI_up, q3.ce 26 rfl, a2.ce 26 rfl, f2, y_pI_ne (by omega)]
      · rw [fτ.ce 6 rfl, y_pI_ne (by omega), q3.ce 6 rfl, a2.ce 6 rfl, f2, x_pI_up]
      · rw [fυ.ce 74 rfl, x_pI_up, n1.ce 74 rfl, fo.ce 74 rfl]
      · rw [fυ.ck 60 37 rfl, y_pI_ne (by omega), n1.ck 60 37 rfl, o3]
    · intro f q hf q6 q7
      refine x_ens.so ⟨Or.inl rfl, ?_⟩
      have hbd : x_bad g n qn.2 f (i + 1) := by
        unfold x_nr at n2
        by_cases h2 : (tk_i g n (i + 1)).1 = 2
        · rw [if_pos h2] at n2 hf
          rw [if_neg hf.1] at n2
          rw [hf.2]; exact n2
        · rw [if_neg h2] at n2 hf
          rw [hf]; exact n2
      exact rs_bad rfl q6 q7 (hbd.fr (W := [(74, 99999)]) (x_frI (p := 74) rfl x_fr.rf) rfl rfl)
  · rw [if_neg e] at hq1
    have hb : x_bt (υ.1 60 37) w = true := by
      by_cases hb : x_bt (υ.1 60 37) w = true
      · exact hb
      · exact absurd (hbit.mpr hb) e
    rw [if_pos hb] at o1
    rw [if_pos hq1.1, if_pos o1.1]
    exact x_ens.so ⟨Or.inl rfl, rs_bad rfl hq1.2.1 hq1.2.2 o1.2⟩
end LS
