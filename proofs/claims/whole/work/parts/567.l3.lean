theorem d4_eye {x : Int32} {τ υ τ' υ' : xS} {b2 b17 : Bool} (d : x_D4 b2 b17 τ υ) (hx : -30 ≤ x ∧ x ≤ 30) (h26 : τ'.1 26 = sp_up (τ.1 26) 3 x) (h6 : τ'.1 6 = sp_up (τ.1 6) 3 1) (h74 : υ'.1 74 = sp_up (υ.1 74) 3 x) (h37 : υ'.1 60 37 = υ.1 60 37 ||| ((1 : Int32) <<< ((16 : Int32) &&& 31))) : x_D4 b2 b17 τ' υ' := by
  have ho : x_ow 16 16 := by unfold x_ow; simp
  have hb : ∀ k, k < 32 → x_bt (υ'.1 60 37) k = (x_bt (υ.1 60 37) k || decide (k = 16)) := fun k hk => by rw [h37]; exact ob_s ho hk
  obtain ⟨⟨⟨r0, r1, r2, r3, r4, r5⟩, ⟨s0, s1, s2, s3, s4⟩, ⟨q0, q1, q2, q3, q5⟩⟩, z2, z17⟩ := d
  unfold x_D4 x_d4
  rw [hb 2 (by omega), hb 17 (by omega), hb 7 (by omega), hb 14 (by omega), hb 15 (by omega), hb 16 (by omega), hb 11 (by omega), h26, h6, h74]
  simp [sp_up_eq, sp_up_ne, r0, r1, r2, r4, r5, hx, s0, s1, s2, s4, q0, q1, q2, q5, z2, z17]
theorem i_ng {x : Int32} (h : 0 ≤ x ∧ x ≤ 30) : (-30 ≤ x ∧ x ≤ 30) ∧ (-30 ≤ -x ∧ -x ≤ 30) ∧ 0 - x = -x := by
  refine ⟨⟨?_, ?_⟩, ⟨?_, ?_⟩, ?_⟩ <;> grind
section LE
variable {g : Nat → Int32} {n m i i0 : Nat} {c : List Int32} {τ υ : xS} {D : xS → xS → Prop}
theorem t_eye2 {s : Int32} (h : x_kh (tk_i g n) m τ i c) (k : x_mh g n m υ i) (hi : i0 < i) (hD : ∀ (x : Int32) (τ' υ' : xS), -30 ≤ x ∧ x ≤ 30 → τ'.1 26 = sp_up (τ.1 26) 3 x → τ'.1 6 = τ.1 6 → υ'.1 74 = sp_up (υ.1 74) 3 x → υ'.1 60 37 = υ.1 60 37 → D τ' υ') : x_ens (f_Re_readEye_2_21_J29 s τ) (fun qc => (qc.1 = 0 ∨ qc.1 = 1) ∧ x_ens (f_Mo_line_60_J253 s υ) (fun qm => x_rs g n m i0 c D qc qm.2)) := by
  unfold f_Re_readEye_2_21_J29 f_Mo_line_60_J253
  obtain ⟨qn, en, n1, n2⟩ := l_num (lo := 0) (hi := 30) (by decide) k
  rw [en]
  dsimp only [Option.bind_some]
  refine k_nt (z := fun q => some ((0 : Int32), q)) h ?_ ?_
  · intro h2 hlo hhi q q1 q2 q3
    unfold x_nr at n2
    rw [if_pos h2, if_pos ⟨hlo, hhi⟩] at n2
    have hl : i < m := k.1.lt k.2.2.2 (by rw [h2]; decide)
    obtain ⟨g1, g2, g3⟩ := i_ng ⟨hlo, hhi⟩
    have main : ∀ x : Int32, -30 ≤ x ∧ x ≤ 30 → x_ens (f_Re_readEnd_2 (x_pI q.2 26 3 x)) (fun qc => (qc.1 = 0 ∨ qc.1 = 1) ∧ x_ens (l_fin (x_pI qn.2 74 3 x)) (fun qm => x_rs g n m i0 c D qc qm.2)) := by
      intro x hx
      have kc : x_kh (tk_i g n) m (x_pI q.2 26 3 x) (tk_ad m i) c := q2.fr (W := [(26, 99999)]) (x_frI (p := 26) rfl x_fr.rf) rfl rfl rfl rfl rfl rfl rfl
      have km : x_mh g n m (x_pI qn.2 74 3 x) (tk_ad m i) := n2.2.fr (W := [(74, 99999)]) (x_frI (p := 74) rfl x_fr.rf) rfl rfl rfl rfl rfl rfl rfl rfl rfl rfl
      refine rs_end kc km (by rw [tk_ad_lt hl]; omega) ?_
      intro τ' υ' fτ fυ
      refine hD x τ' υ' hx ?_ ?_ ?_ ?_
      · rw [fτ.ce 26 rfl, x_pI_up, q3.ce 26 rfl]
      · rw [fτ.ce 6 rfl, y_pI_ne (by omega), q3.ce 6 rfl]
      · rw [fυ.ce 74 rfl, x_pI_up, n1.ce 74 rfl]
      · rw [fυ.ck 60 37 rfl, y_pI_ne (by omega), n1.ck 60 37 rfl]
    rw [q1, n2.1]
    by_cases hs : s = 0
    · simp only [if_pos hs]
      exact x_ens.bi (main _ g1) (fun qc hq => x_ens.ok hq.1 (x_ens.so hq))
    · simp only [if_neg hs]
      rw [g3]
      exact x_ens.bi (main _ g2) (fun qc hq => x_ens.ok hq.1 (x_ens.so hq))
  · intro f q hf q6 q7
    refine x_ens.so ⟨Or.inl rfl, ?_⟩
    have hbd : x_bad g n qn.2 f i := by
      unfold x_nr at n2
      by_cases h2 : (tk_i g n i).1 = 2
      · rw [if_pos h2] at n2 hf
        rw [if_neg hf.1] at n2
        rw [hf.2]; exact n2
      · rw [if_neg h2] at n2 hf
        rw [hf]; exact n2
    refine x_ens.it (fun _ => ?_) (fun _ => ?_)
    · exact rs_bad rfl q6 q7 (hbd.fr (W := [(74, 99999)]) (x_frI (p := 74) rfl x_fr.rf) rfl rfl)
    · exact rs_bad rfl q6 q7 (hbd.fr (W := [(74, 99999)]) (x_frI (p := 74) rfl x_fr.rf) rfl rfl)
theorem t_eyel {b2 b17 : Bool} (h : x_kh (tk_i g n) m τ i c) (k : x_mh g n m υ i) (hi' : i < m) (d : x_D4 b2 b17 τ υ) : x_ens (f_Re_readEye_2_21 τ) (fun qc => (qc.1 = 0 ∨ qc.1 = 1) ∧ x_ens ((f_Mo_once_60 16 υ).bind fun q32 => if q32.1 = 0 then some ((), q32.2) else (f_Mo_isSign_60 45 q32.2).bind fun q33 => if q33.1 = 0 then f_Mo_line_60_J253 q33.1 q33.2 else (f_Mo_goes_60 q33.2).bind fun q35 => f_Mo_line_60_J253 q33.1 q35.2) (fun qm => x_rs g n m i c (fun τ' υ' => x_D4 b2 b17 τ' υ' ∧ ∀ j, τ'.1 26 (6 + j) = τ.1 26 (6 + j)) qc qm.2)) := by
  have ho : x_ow 16 16 := by unfold x_ow; simp
  have hbit := d.1.2.2.2.2.2.1
  obtain ⟨qo, eo, o1⟩ := l_once ho k hi'
  have fo := fr_Mo_once_60 eo
  rw [eo]
  dsimp only [Option.bind_some]
  unfold f_Re_readEye_2_21
  refine x_ens.bi (k_first (p := 3) (by omega) h) ?_
  intro q1 hq1
  by_cases e : τ.1 6 3 = 0
  · rw [if_pos e] at hq1
    rw [if_neg (hbit.mp e)] at o1
    obtain ⟨o1, o2, o3⟩ := o1
    obtain ⟨f1, f2, f3⟩ := hq1
    rw [if_neg (show ¬ q1.1 = 0 by rw [f1]; decide), if_neg (show ¬ qo.1 = 0 by rw [o1]; decide)]
    refine x_ens.bi (k_adv f3) ?_
    rintro qa ⟨a1, a2⟩
    rw [tk_ad_lt hi'] at a1
    rw [l_sign o2, r_sign a1.1 a1.2]
    dsimp only [Option.bind_some]
    by_cases hs : (tk_i g n (i + 1)).1 = 3 ∧ (tk_i g n (i + 1)).2.1 = 45
    · rw [if_pos hs, if_neg (show ¬ (1 : Int32) = 0 by decide), if_neg (show ¬ (1 : Int32) = 0 by decide)]
      obtain ⟨qg, eg, g1, g2⟩ := l_go o2
      rw [eg]
      dsimp only [Option.bind_some]
      refine x_ens.bi (k_adv a1) ?_
      rintro qb ⟨c1, c2⟩
      refine t_eye2 c1 g1 (by have := (tk_ad_b o2.2.2.2).2; omega) ?_
      intro x τ' υ' hx h26 h6 h74 h37
      refine ⟨d4_eye d hx ?_ ?_ ?_ ?_, fun j => by rw [h26, sp_up_ne (by omega), c2.ce 26 rfl, a2.ce 26 rfl, f2, y_pI_ne (by omega)]⟩
      · rw [h26, c2.ce 26 rfl, a2.ce 26 rfl, f2, y_pI_ne (by omega)]
      · rw [h6, c2.ce 6 rfl, a2.ce 6 rfl, f2, x_pI_up]
      · rw [h74, g2.ce 74 rfl, fo.ce 74 rfl]
      · rw [h37, g2.ck 60 37 rfl, o3]
    · rw [if_neg hs, if_pos rfl, if_pos rfl]
      refine t_eye2 a1 o2 (by omega) ?_
      intro x τ' υ' hx h26 h6 h74 h37
      refine ⟨d4_eye d hx ?_ ?_ ?_ ?_, fun j => by rw [h26, sp_up_ne (by omega), a2.ce 26 rfl, f2, y_pI_ne (by omega)]⟩
      · rw [h26, a2.ce 26 rfl, f2, y_pI_ne (by omega)]
      · rw [h6, a2.ce 6 rfl, f2, x_pI_up]
      · rw [h74, fo.ce 74 rfl]
      · rw [h37, o3]
  · rw [if_neg e] at hq1
    have hb : x_bt (υ.1 60 37) 16 = true := by
      by_cases hb : x_bt (υ.1 60 37) 16 = true
      · exact hb
      · exact absurd (hbit.mpr hb) e
    rw [if_pos hb] at o1
    rw [if_pos hq1.1, if_pos o1.1]
    exact x_ens.so ⟨Or.inl rfl, x_ens.so (Or.inl ⟨rfl, 5, i, hq1.2.1, hq1.2.2, o1.2⟩)⟩
end LE
