section LV5
variable {g : Nat → Int32} {n m i : Nat} {c : List Int32} {τ υ : xS}
theorem t_mark (h : x_kh (tk_i g n) m τ i c) (k : x_mh g n m υ i) (hi : i < m) (d : x_d3 τ υ) : x_ens (f_Re_readMark_2_21 τ) (fun qc => (qc.1 = 0 ∨ qc.1 = 1) ∧ x_ens ((f_Mo_readsMark_60 υ).bind fun q => l_fin q.2) (fun qm => x_rs g n m i c (fun τ' υ' => x_d3 τ' υ' ∧ ∀ p, p < 6 → τ'.1 26 p = τ.1 26 p) qc qm.2)) := by
  obtain ⟨kk, b1, e1, e2, e6⟩ := id d
  unfold f_Re_readMark_2_21 f_Mo_readsMark_60
  by_cases hk : kk < 6
  · rw [e1, if_pos (show Int32.ofNat kk < 6 from (i_lt (k := 6) (by omega) (by omega)).mpr hk), e2, if_neg (show ¬ Int32.ofNat kk = 6 from fun x => by have := (i_ej (k := 6) (by omega) (by omega)).mp x; omega)]
    unfold f_Mo_readsMark_60_J14
    rw [k.good]
    dsimp only [Option.bind_some]
    rw [if_neg (show ¬ (1 : Int32) = 0 by decide)]
    obtain ⟨qg, eg, g1, g2⟩ := l_go k
    rw [eg]
    dsimp only [Option.bind_some]
    rw [tk_ad_lt hi] at g1
    obtain ⟨qh, eh, hh⟩ := l_here (lo := 12) (hi := 480) (by decide) g1
    rw [eh]
    dsimp only [Option.bind_some]
    refine x_ens.bi (k_adv h) ?_
    rintro qa ⟨a1, a2⟩
    rw [tk_ad_lt hi] at a1
    refine x_ens.bi (r_num a1.1 a1.2 12 480) ?_
    intro q2 hq2
    have him := a1.2.2.2.1
    have hm7 := a1.1.1
    unfold x_nr at hh
    by_cases h2 : (tk_i g n (i + 1)).1 = 2
    · rw [if_pos h2] at hq2 hh
      by_cases h3 : 12 ≤ (tk_i g n (i + 1)).2.1 ∧ (tk_i g n (i + 1)).2.1 ≤ 480
      · rw [if_pos h3] at hq2 hh
        obtain ⟨z1, z2, z3⟩ := hh
        rw [if_neg (show ¬ q2.1 = 0 by rw [hq2.1]; decide), hq2.2]
        rw [if_neg (show ¬ qh.1 = 0 by rw [z1]; decide), z2]
        obtain ⟨r1, r2, r3, r4⟩ := a1.2.rows a1.1
        have hl : i + 1 < m := k.1.lt him (by rw [h2]; decide)
        have c1 : qa.2.1 21 8 = Int32.ofNat kk := (a2.ck 21 8 rfl).trans e1
        have c2 : qg.2.1 60 30 = Int32.ofNat kk := (g2.ck 60 30 rfl).trans e2
        have c26 : qa.2.1 26 = τ.1 26 := a2.ce 26 rfl
        have c73 : qg.2.1 73 = υ.1 73 := g2.ce 73 rfl
        rw [r1, a1.2.2.1, if_neg (show ¬ Int32.ofNat (m + 1) ≤ Int32.ofNat (i + 1) by rw [i_le (by omega) (by omega)]; omega), i_cl (by omega), r3, c1]
        refine x_ens.gr (by rintro (x | x); exact i_ge (by omega) x; omega) ?_
        have hn := c_near (τ := qa.2) (k := kk) (v := (tk_i g n (i + 1)).2.1) b1 h3 (by rw [c26]; exact fun j hj => (e6 j hj).2) kk 0 10000 (by omega) (by omega)
        obtain ⟨bm, em, hm⟩ := m_near (υ := qg.2) (k := kk) b1 g1 c2 z3 kk 0 10000 (by omega) (by omega)
        have em' : x_it f_Mo_readsMark_60_L41 10000 ((0 : Int32), qg.2) = some bm := em
        rw [em']
        dsimp only [Option.bind_some]
        refine x_ens.bi (P := fun q6 => q6.2 = qa.2 ∧ (((∃ j', 0 ≤ j' ∧ j' < kk ∧ qa.2.1 26 (6 + j') = (tk_i g n (i + 1)).2.1) ∧ q6.1 = 1) ∨ ((∀ j', 0 ≤ j' → j' < kk → ¬ qa.2.1 26 (6 + j') = (tk_i g n (i + 1)).2.1) ∧ q6.1 = 0))) ?_ ?_
        · unfold f_RH_isNearMark_26
          refine x_ens.bi hn ?_
          rintro b (⟨x, rfl⟩ | ⟨x, u, rfl⟩)
          · exact x_ens.so ⟨rfl, Or.inl ⟨x, rfl⟩⟩
          · exact x_ens.so ⟨rfl, Or.inr ⟨x, rfl⟩⟩
        · rintro q6 ⟨y1, y2⟩
          rw [y1]
          rcases y2 with ⟨⟨j', -, w2, w3⟩, y2⟩ | ⟨w, y2⟩
          · rw [if_neg (show ¬ q6.1 = 0 by rw [y2]; decide)]
            have hb : x_bad g n bm.2 4 (i + 1) := by
              rcases hm with ⟨-, hb⟩ | ⟨x, -⟩
              · exact hb
              · exfalso
                refine x j' (by omega) w2 ?_
                rw [c73, (e6 j' w2).1, ← c26]; exact w3
            refine x_ens.bi (k_ref a1 4) ?_
            rintro q ⟨a, b, e⟩
            refine x_ens.ok (Or.inl a) (x_ens.so ⟨Or.inl a, ?_⟩)
            unfold f_Mo_readsMark_60_J80
            rw [hb.good]
            dsimp only [Option.bind_some]
            rw [if_pos rfl]
            dsimp only [Option.bind_some]
            exact rs_bad a b e hb
          · rw [if_pos y2]
            have hg : bm.2 = qg.2 := by
              rcases hm with ⟨⟨j', -, w2, w3⟩, -⟩ | ⟨-, x⟩
              · exfalso
                refine w j' (by omega) w2 ?_
                rw [c26, ← (e6 j' w2).1, ← c73]; exact w3
              · exact x
            rw [hg]
            obtain ⟨qt, et, t1, t2⟩ := r_take a1.1 a1.2
            rw [et]
            dsimp only [Option.bind_some]
            have ft := fr_Re_takeNumber_2 et
            have kt : x_kh (tk_i g n) m qt.2 (i + 1 + 1) c := by have := x_kh.re a1.1 t2; rw [tk_ad_lt hl] at this; exact this
            have ct : qt.2.1 21 8 = Int32.ofNat kk := (ft.ck 21 8 rfl).trans c1
            refine x_ens.bi (P := fun q5 => q5.2 = x_pI (x_pI qt.2 26 (6 + kk) (tk_i g n (i + 1)).2.1) 21 8 (Int32.ofNat (kk + 1))) ?_ ?_
            · unfold f_Sc_addMark_21
              rw [ct, if_neg (show ¬ (6 : Int32) ≤ Int32.ofNat kk from fun x => by have := (i_le (j := 6) (by omega) (by omega)).mp x; omega), i_6, i_cl (by omega)]
              refine x_ens.gr (by rintro (h | h) <;> first | exact i_ge (by omega) h | omega | (rw [i_cl (by omega)] at h; omega)) ?_
              dsimp only
              rw [y_pI_ne (q := 21) (show 21 ≠ 26 by omega), ct, i_s, t1]
              exact x_ens.so rfl
            · intro q5 e5'
              rw [e5']
              have kc : x_kh (tk_i g n) m (x_pI (x_pI qt.2 26 (6 + kk) (tk_i g n (i + 1)).2.1) 21 8 (Int32.ofNat (kk + 1))) (i + 1 + 1) c := kt.fr (W := [(26, 99999), (21, 8)]) (x_frI (p := 21) (k := 8) rfl (x_frI (p := 26) rfl x_fr.rf)) rfl rfl rfl rfl rfl rfl rfl
              have mm : x_ens (f_Mo_readsMark_60_J80 qg.2) (fun q => x_mh g n m q.2 (i + 1 + 1) ∧ ∃ ρ, x_fr x_WT ρ q.2 ∧ ρ = x_pI (x_pI qg.2 73 kk (tk_i g n (i + 1)).2.1) 60 30 (Int32.ofNat (kk + 1))) := by
                unfold f_Mo_readsMark_60_J80
                rw [g1.good]
                dsimp only [Option.bind_some]
                rw [if_neg (show ¬ (1 : Int32) = 0 by decide), c2, i_cl (by omega)]
                refine x_ens.gr (by rintro (h | h) <;> first | exact i_ge (by omega) h | omega | (rw [i_cl (by omega)] at h; omega)) ?_
                rw [z3, y_pI_ne (q := 60) (show 60 ≠ 73 by omega), c2, i_s]
                refine x_ens.bi (l_go (g1.fr (W := [(73, 99999), (60, 30)]) (x_frI (p := 60) (k := 30) rfl (x_frI (p := 73) rfl x_fr.rf)) rfl rfl rfl rfl rfl rfl rfl rfl rfl rfl)) ?_
                rintro q9 ⟨y1, y2⟩
                rw [tk_ad_lt hl] at y1
                exact x_ens.so ⟨y1, _, y2, rfl⟩
              obtain ⟨qm, em2, m1, ρ, m2, m3⟩ := mm
              rw [em2]
              dsimp only [Option.bind_some]
              refine x_ens.bi (rs_end (i0 := i) (D := fun τ' υ' => x_d3 τ' υ' ∧ ∀ p, p < 6 → τ'.1 26 p = τ.1 26 p) kc m1 (by omega) ?_) (fun qc hq => x_ens.ok hq.1 (x_ens.so hq))
              intro τ' υ' fτ fυ
              have fυ2 : x_fr x_WT ρ υ' := x_fr.trans m2 fυ
              rw [m3] at fυ2
              refine ⟨?_, fun p hp => by rw [fτ.ce 26 rfl, y_pI_ne (by omega), x_pI_up, sp_up_ne (by omega), ft.ce 26 rfl, c26]⟩
              unfold x_d3
              rw [fτ.ck 21 8 rfl, fτ.ce 26 rfl, fυ2.ck 60 30 rfl, fυ2.ce 73 rfl]
              refine ⟨kk + 1, by omega, x_pI_kk, x_pI_kk, ?_⟩
              intro j hj
              rw [y_pI_ne (q := 73) (by omega), x_pI_up, y_pI_ne (q := 26) (by omega), x_pI_up]
              by_cases e : j = kk
              · subst e
                rw [sp_up_eq, sp_up_eq]
                exact ⟨rfl, h3⟩
              · rw [sp_up_ne e, sp_up_ne (by omega), c73, ft.ce 26 rfl, c26]
                exact e6 j (by omega)
      · rw [if_neg h3] at hq2 hh
        rw [if_pos hq2.1]
        refine x_ens.so ⟨Or.inl rfl, ?_⟩
        rw [if_pos hh.1]
        dsimp only [Option.bind_some]
        exact rs_bad rfl hq2.2.2.1 hq2.2.2.2 hh.2.1
    · rw [if_neg h2] at hq2 hh
      rw [if_pos hq2.1]
      refine x_ens.so ⟨Or.inl rfl, ?_⟩
      rw [if_pos hh.1]
      dsimp only [Option.bind_some]
      exact rs_bad rfl hq2.2.2.1 hq2.2.2.2 hh.2.1
  · rw [e1, if_neg (show ¬ Int32.ofNat kk < 6 from fun x => hk ((i_lt (k := 6) (by omega) (by omega)).mp x)), e2, if_pos (show Int32.ofNat kk = 6 by rw [show kk = 6 by omega]; rfl)]
    refine x_ens.bi (k_ref h 2) ?_
    rintro q ⟨a, b, e⟩
    refine x_ens.ok (Or.inl a) (x_ens.so ⟨Or.inl a, ?_⟩)
    obtain ⟨qw, ew, w1, -⟩ := l_wrong k (k := 2) (by decide)
    rw [ew]
    dsimp only [Option.bind_some]
    unfold f_Mo_readsMark_60_J14
    rw [w1.good]
    dsimp only [Option.bind_some]
    rw [if_pos rfl]
    dsimp only [Option.bind_some]
    exact rs_bad a b e w1
end LV5
