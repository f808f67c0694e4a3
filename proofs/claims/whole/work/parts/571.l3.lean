section LZ
variable {g : Nat → Int32} {n m i : Nat} {c P : List Int32} {τ υ : xS}
theorem x_sr.lt {rule va vb vs : Int32} (h : x_sr c P rule va vb vs) (hc : c.length ≤ 1000) : ¬ vb ≤ va := by
  obtain ⟨a, b, s, rfl, rfl, -, h4, h5, -⟩ := h
  rw [i_le (by omega) (by omega)]; omega
theorem t_ring (h : x_kh (tk_i g n) m τ i c) (k : x_mh g n m υ i) (hi' : i < m) (d : x_d5 c P i τ υ) : x_ens (f_Re_readRule_2_21 (Int32.ofNat 0) τ) (fun qc => (qc.1 = 0 ∨ qc.1 = 1) ∧ x_ens ((f_Mo_readsRule_60 2 υ).bind fun q => l_fin q.2) (fun qm => x_r5 g n m i (fun _ υ' => ∀ b, b < 32 → ¬ b = 2 → x_bt (υ'.1 60 37) b = x_bt (υ.1 60 37) b) qc qm.2)) := by
  have hm7 := k.1.1
  have hmn := k.1.2.1
  have hcl := h.2.2.2.2.2
  have ho : x_ow 2 2 := by unfold x_ow; simp
  obtain ⟨qo, eo, o1⟩ := l_once ho k hi'
  have fo := fr_Mo_once_60 eo
  obtain ⟨d1, d2, d3, d4, dk⟩ := id d
  unfold f_Re_readRule_2_21 f_Mo_readsRule_60
  rw [if_pos (show Int32.ofNat 0 < 6 by decide), if_neg (show ¬ (2 : Int32) = 18 by decide), eo, k_has (r := 0) (by decide)]
  dsimp only [Option.bind_some]
  by_cases hb : x_bt (υ.1 60 37) 2 = true
  · rw [if_pos hb] at o1
    have hs : ¬ τ.1 30 0 ≤ τ.1 29 0 := by
      first
        | (rw [if_pos hb] at d3; exact d3.lt (by omega))
        | (rw [if_pos hb] at d4; exact d4.lt (by omega))
    rw [if_neg hs, if_neg (show ¬ (1 : Int32) = 0 by decide), if_pos o1.1]
    refine x_ens.bi (k_ref h 5) ?_
    rintro q ⟨a, b, e⟩
    exact x_ens.ok (Or.inl a) (x_ens.so ⟨Or.inl a, rs_bad5 a b e o1.2⟩)
  · rw [if_neg hb] at o1
    obtain ⟨o1, o2, o3⟩ := o1
    have hs : τ.1 29 0 = 0 ∧ τ.1 30 0 = 0 := by
      first
        | (rw [if_neg hb] at d3; exact ⟨d3.1, d3.2.1⟩)
        | (rw [if_neg hb] at d4; exact ⟨d4.1, d4.2.1⟩)
    rw [hs.1, hs.2, if_pos i_lr, if_pos rfl, if_neg (show ¬ qo.1 = 0 by rw [o1]; decide)]
    refine x_ens.bi (k_adv h) ?_
    rintro qa ⟨a1, a2⟩
    rw [tk_ad_lt hi'] at a1
    have e40 : qo.2.1 60 40 = Int32.ofNat P.length := by rw [fo.ck 60 40 rfl]; exact d1.1
    have km : x_mh g n m (x_pI qo.2 60 32 (Int32.ofNat P.length)) (i + 1) := o2.fr (W := [(60, 32)]) (x_frI (p := 60) (k := 32) rfl x_fr.rf) rfl rfl rfl rfl rfl rfl rfl rfl rfl rfl
    have hp : x_li ((x_pI qo.2 60 32 (Int32.ofNat P.length)).1 60 40) ((x_pI qo.2 60 32 (Int32.ofNat P.length)).1 76) P := by
      rw [x_pI_kn (by omega), y_pI_ne (by omega), fo.ck 60 40 rfl, fo.ce 76 rfl]; exact d1
    have er : ∀ q : Option (Unit × xS), (if (2 : Int32) = 2 then let σ10 := x_pI qo.2 60 32 (qo.2.1 60 40); f_Mo_readsRule_60_J95 2 σ10 else let σ9 := x_pI qo.2 60 33 (qo.2.1 60 40); f_Mo_readsRule_60_J95 2 σ9) = (f_Mo_expression_60 5 5 (x_pI qo.2 60 32 (Int32.ofNat P.length))).bind fun q => some ((), q.2) := by
      intro _
      rw [e40]
      first
        | (rw [if_pos (show (2 : Int32) = 2 by decide)]; unfold f_Mo_readsRule_60_J95; rw [if_pos (show (2 : Int32) = 2 by decide)])
        | (rw [if_neg (show ¬ (2 : Int32) = 2 by decide)]; unfold f_Mo_readsRule_60_J95; rw [if_neg (show ¬ (2 : Int32) = 2 by decide)])
    rw [er none]
    refine t_ocr (r := 0) (kk := fun σ => if Int32.ofNat 0 < (2 : Int32) then (f_Re_readEnd_2 (x_pI σ 21 9 (σ.1 21 9 + (0 : Int32)))).bind fun q7 => x_ok (q7.1 = 0 ∨ q7.1 = 1) <| some (q7.1, q7.2) else (f_Re_readEnd_2 (x_pI σ 21 9 (σ.1 21 9 + (1 : Int32)))).bind fun q9 => x_ok (q9.1 = 0 ∨ q9.1 = 1) <| some (q9.1, q9.2)) (rule := 0) (lo := 5) (hi := 5) (z := fun q => some ((0 : Int32), q)) (by decide) a1 km hp (by omega) (by unfold x_ru; simp) rfl ?_ ?_
    · intro q qm f e em q6 q7 hbd
      rw [em]
      dsimp only [Option.bind_some]
      exact x_ens.so ⟨Or.inl rfl, rs_bad5 rfl q6 q7 hbd⟩
    · intro q qm j' w em f4 b1 b2 b3 b4 b5 b6
      rw [em]
      dsimp only [Option.bind_some]
      have fm := fr_Mo_expression_60 em
      rw [if_pos (show Int32.ofNat 0 < 2 by decide), i_a0]
      have v9 : (x_pI q 30 0 (Int32.ofNat (c.length + w.length))).1 21 9 = τ.1 21 9 := by rw [y_pI_ne (by omega), f4.ck 21 9 rfl, y_pI_ne (by omega), y_pI_ne (by omega), a2.ck 21 9 rfl]
      rw [v9]
      have kc : x_kh (tk_i g n) m (x_pI (x_pI q 30 0 (Int32.ofNat (c.length + w.length))) 21 9 (τ.1 21 9)) j' (c ++ w) := b3.fr (W := [(30, 99999), (21, 9)]) (x_frI (p := 21) (k := 9) rfl (x_frI (p := 30) rfl x_fr.rf)) rfl rfl rfl rfl rfl rfl rfl
      refine x_ens.bi (rs_end5 (i0 := i) (P := P ++ (w.flatMap sp_wr ++ [0])) kc b4 (by omega) ?_) (fun qc hq => x_ens.ok hq.1 (x_ens.so hq))
      intro τ' υ' fτ fυ
      have hle := (tk_ad_b b4.2.2.2).2
      have h37 : υ'.1 60 37 = υ.1 60 37 ||| ((1 : Int32) <<< ((2 : Int32) &&& 31)) := by rw [fυ.ck 60 37 rfl, fm.ck 60 37 rfl, x_pI_kn (by omega), o3]
      have hbt : ∀ k, k < 32 → x_bt (υ'.1 60 37) k = (x_bt (υ.1 60 37) k || decide (k = 2)) := fun k hk => by rw [h37]; exact ob_s ho hk
      have r29 : ∀ k, τ'.1 29 k = if k = 0 then Int32.ofNat c.length else τ.1 29 k := fun k => by
        rw [fτ.ce 29 rfl, y_pI_ne (by omega), y_pI_ne (by omega), f4.ce 29 rfl, y_pI_ne (by omega), x_pI_up, a2.ce 29 rfl]; rfl
      have r30 : ∀ k, τ'.1 30 k = if k = 0 then Int32.ofNat (c.length + w.length) else τ.1 30 k := fun k => by
        rw [fτ.ce 30 rfl, y_pI_ne (by omega), x_pI_up]
        by_cases e : k = 0
        · rw [if_pos e, e, sp_up_eq]
        · rw [if_neg e, sp_up_ne e, f4.ce 30 rfl, x_pI_up, sp_up_ne e, y_pI_ne (by omega), a2.ce 30 rfl]
      have c4 : υ'.1 60 32 = Int32.ofNat P.length := by rw [fυ.ck 60 32 rfl, fm.ck 60 32 rfl, x_pI_kk]
      have c8 : υ'.1 60 33 = υ.1 60 33 := by rw [fυ.ck 60 33 rfl, fm.ck 60 33 rfl, x_pI_kn (by omega), fo.ck 60 33 rfl]
      have c31 : υ'.1 60 31 = υ.1 60 31 := by rw [fυ.ck 60 31 rfl, fm.ck 60 31 rfl, x_pI_kn (by omega), fo.ck 60 31 rfl]
      have c75 : υ'.1 75 = υ.1 75 := by rw [fυ.ce 75 rfl, fm.ce 75 rfl, y_pI_ne (by omega), fo.ce 75 rfl]
      have c219 : τ'.1 21 9 = τ.1 21 9 := by rw [fτ.ck 21 9 rfl]; exact x_pI_kk
      have nw := x_sr.new (c := c) (P := P) (rule := 0) b6
      refine ⟨⟨by rw [fυ.ck 60 40 rfl, fυ.ce 76 rfl]; exact b5, ?_, ?_, ?_, ?_⟩, fun b hb1 hb2 => by rw [hbt b hb1, decide_eq_false hb2, Bool.or_false]⟩
      · have := @wr_len w
        rw [List.length_append, List.length_append]
        show P.length + (_ + 1) ≤ _
        omega
      · rw [hbt 2 (by omega), r29, r30]
        first
          | (rw [c4]; simpa using nw)
          | (rw [c8]; by_cases z : x_bt (υ.1 60 37) 2 = true
             · rw [if_pos z] at d3; simpa [z] using d3.mo w (w.flatMap sp_wr ++ [0])
             · rw [if_neg z] at d3; simpa [z] using d3)
      · rw [hbt 17 (by omega), r29, r30]
        first
          | (rw [c4]; simpa using nw)
          | (rw [c8]; by_cases z : x_bt (υ.1 60 37) 17 = true
             · rw [if_pos z] at d4; simpa [z] using d4.mo w (w.flatMap sp_wr ++ [0])
             · rw [if_neg z] at d4; simpa [z] using d4)
      · obtain ⟨kn, k1, k2, k3, k4, k5⟩ := dk
        refine ⟨kn, k1, c219.trans k2, c31.trans k3, fun hh hk => ?_, fun hh hk hk2 => ?_⟩
        · rw [r29, r30, if_neg (by omega), if_neg (by omega), c75]; exact (k4 hh hk).mo w _
        · rw [r29, r30, if_neg (by omega), if_neg (by omega)]; exact k5 hh hk hk2
theorem t_shows (h : x_kh (tk_i g n) m τ i c) (k : x_mh g n m υ i) (hi' : i < m) (d : x_d5 c P i τ υ) : x_ens (f_Re_readRule_2_21 (Int32.ofNat 1) τ) (fun qc => (qc.1 = 0 ∨ qc.1 = 1) ∧ x_ens ((f_Mo_readsRule_60 17 υ).bind fun q => l_fin q.2) (fun qm => x_r5 g n m i (fun _ υ' => ∀ b, b < 32 → ¬ b = 17 → x_bt (υ'.1 60 37) b = x_bt (υ.1 60 37) b) qc qm.2)) := by
  have hm7 := k.1.1
  have hmn := k.1.2.1
  have hcl := h.2.2.2.2.2
  have ho : x_ow 17 17 := by unfold x_ow; simp
  obtain ⟨qo, eo, o1⟩ := l_once ho k hi'
  have fo := fr_Mo_once_60 eo
  obtain ⟨d1, d2, d3, d4, dk⟩ := id d
  unfold f_Re_readRule_2_21 f_Mo_readsRule_60
  rw [if_pos (show Int32.ofNat 1 < 6 by decide), if_neg (show ¬ (17 : Int32) = 18 by decide), eo, k_has (r := 1) (by decide)]
  dsimp only [Option.bind_some]
  by_cases hb : x_bt (υ.1 60 37) 17 = true
  · rw [if_pos hb] at o1
    have hs : ¬ τ.1 30 1 ≤ τ.1 29 1 := by
      first
        | (rw [if_pos hb] at d3; exact d3.lt (by omega))
        | (rw [if_pos hb] at d4; exact d4.lt (by omega))
    rw [if_neg hs, if_neg (show ¬ (1 : Int32) = 0 by decide), if_pos o1.1]
    refine x_ens.bi (k_ref h 5) ?_
    rintro q ⟨a, b, e⟩
    exact x_ens.ok (Or.inl a) (x_ens.so ⟨Or.inl a, rs_bad5 a b e o1.2⟩)
  · rw [if_neg hb] at o1
    obtain ⟨o1, o2, o3⟩ := o1
    have hs : τ.1 29 1 = 0 ∧ τ.1 30 1 = 0 := by
      first
        | (rw [if_neg hb] at d3; exact ⟨d3.1, d3.2.1⟩)
        | (rw [if_neg hb] at d4; exact ⟨d4.1, d4.2.1⟩)
    rw [hs.1, hs.2, if_pos i_lr, if_pos rfl, if_neg (show ¬ qo.1 = 0 by rw [o1]; decide)]
    refine x_ens.bi (k_adv h) ?_
    rintro qa ⟨a1, a2⟩
    rw [tk_ad_lt hi'] at a1
    have e40 : qo.2.1 60 40 = Int32.ofNat P.length := by rw [fo.ck 60 40 rfl]; exact d1.1
    have km : x_mh g n m (x_pI qo.2 60 33 (Int32.ofNat P.length)) (i + 1) := o2.fr (W := [(60, 33)]) (x_frI (p := 60) (k := 33) rfl x_fr.rf) rfl rfl rfl rfl rfl rfl rfl rfl rfl rfl
    have hp : x_li ((x_pI qo.2 60 33 (Int32.ofNat P.length)).1 60 40) ((x_pI qo.2 60 33 (Int32.ofNat P.length)).1 76) P := by
      rw [x_pI_kn (by omega), y_pI_ne (by omega), fo.ck 60 40 rfl, fo.ce 76 rfl]; exact d1
    have er : ∀ q : Option (Unit × xS), (if (17 : Int32) = 2 then let σ10 := x_pI qo.2 60 32 (qo.2.1 60 40); f_Mo_readsRule_60_J95 17 σ10 else let σ9 := x_pI qo.2 60 33 (qo.2.1 60 40); f_Mo_readsRule_60_J95 17 σ9) = (f_Mo_expression_60 5 7 (x_pI qo.2 60 33 (Int32.ofNat P.length))).bind fun q => some ((), q.2) := by
      intro _
      rw [e40]
      first
        | (rw [if_pos (show (17 : Int32) = 2 by decide)]; unfold f_Mo_readsRule_60_J95; rw [if_pos (show (17 : Int32) = 2 by decide)])
        | (rw [if_neg (show ¬ (17 : Int32) = 2 by decide)]; unfold f_Mo_readsRule_60_J95; rw [if_neg (show ¬ (17 : Int32) = 2 by decide)])
    rw [er none]
    refine t_ocr (r := 1) (kk := fun σ => if Int32.ofNat 1 < (2 : Int32) then (f_Re_readEnd_2 (x_pI σ 21 9 (σ.1 21 9 + (0 : Int32)))).bind fun q7 => x_ok (q7.1 = 0 ∨ q7.1 = 1) <| some (q7.1, q7.2) else (f_Re_readEnd_2 (x_pI σ 21 9 (σ.1 21 9 + (1 : Int32)))).bind fun q9 => x_ok (q9.1 = 0 ∨ q9.1 = 1) <| some (q9.1, q9.2)) (rule := 1) (lo := 5) (hi := 7) (z := fun q => some ((0 : Int32), q)) (by decide) a1 km hp (by omega) (by unfold x_ru; simp) rfl ?_ ?_
    · intro q qm f e em q6 q7 hbd
      rw [em]
      dsimp only [Option.bind_some]
      exact x_ens.so ⟨Or.inl rfl, rs_bad5 rfl q6 q7 hbd⟩
    · intro q qm j' w em f4 b1 b2 b3 b4 b5 b6
      rw [em]
      dsimp only [Option.bind_some]
      have fm := fr_Mo_expression_60 em
      rw [if_pos (show Int32.ofNat 1 < 2 by decide), i_a0]
      have v9 : (x_pI q 30 1 (Int32.ofNat (c.length + w.length))).1 21 9 = τ.1 21 9 := by rw [y_pI_ne (by omega), f4.ck 21 9 rfl, y_pI_ne (by omega), y_pI_ne (by omega), a2.ck 21 9 rfl]
      rw [v9]
      have kc : x_kh (tk_i g n) m (x_pI (x_pI q 30 1 (Int32.ofNat (c.length + w.length))) 21 9 (τ.1 21 9)) j' (c ++ w) := b3.fr (W := [(30, 99999), (21, 9)]) (x_frI (p := 21) (k := 9) rfl (x_frI (p := 30) rfl x_fr.rf)) rfl rfl rfl rfl rfl rfl rfl
      refine x_ens.bi (rs_end5 (i0 := i) (P := P ++ (w.flatMap sp_wr ++ [0])) kc b4 (by omega) ?_) (fun qc hq => x_ens.ok hq.1 (x_ens.so hq))
      intro τ' υ' fτ fυ
      have hle := (tk_ad_b b4.2.2.2).2
      have h37 : υ'.1 60 37 = υ.1 60 37 ||| ((1 : Int32) <<< ((17 : Int32) &&& 31)) := by rw [fυ.ck 60 37 rfl, fm.ck 60 37 rfl, x_pI_kn (by omega), o3]
      have hbt : ∀ k, k < 32 → x_bt (υ'.1 60 37) k = (x_bt (υ.1 60 37) k || decide (k = 17)) := fun k hk => by rw [h37]; exact ob_s ho hk
      have r29 : ∀ k, τ'.1 29 k = if k = 1 then Int32.ofNat c.length else τ.1 29 k := fun k => by
        rw [fτ.ce 29 rfl, y_pI_ne (by omega), y_pI_ne (by omega), f4.ce 29 rfl, y_pI_ne (by omega), x_pI_up, a2.ce 29 rfl]; rfl
      have r30 : ∀ k, τ'.1 30 k = if k = 1 then Int32.ofNat (c.length + w.length) else τ.1 30 k := fun k => by
        rw [fτ.ce 30 rfl, y_pI_ne (by omega), x_pI_up]
        by_cases e : k = 1
        · rw [if_pos e, e, sp_up_eq]
        · rw [if_neg e, sp_up_ne e, f4.ce 30 rfl, x_pI_up, sp_up_ne e, y_pI_ne (by omega), a2.ce 30 rfl]
      have c4 : υ'.1 60 33 = Int32.ofNat P.length := by rw [fυ.ck 60 33 rfl, fm.ck 60 33 rfl, x_pI_kk]
      have c8 : υ'.1 60 32 = υ.1 60 32 := by rw [fυ.ck 60 32 rfl, fm.ck 60 32 rfl, x_pI_kn (by omega), fo.ck 60 32 rfl]
      have c31 : υ'.1 60 31 = υ.1 60 31 := by rw [fυ.ck 60 31 rfl, fm.ck 60 31 rfl, x_pI_kn (by omega), fo.ck 60 31 rfl]
      have c75 : υ'.1 75 = υ.1 75 := by rw [fυ.ce 75 rfl, fm.ce 75 rfl, y_pI_ne (by omega), fo.ce 75 rfl]
      have c219 : τ'.1 21 9 = τ.1 21 9 := by rw [fτ.ck 21 9 rfl]; exact x_pI_kk
      have nw := x_sr.new (c := c) (P := P) (rule := 1) b6
      refine ⟨⟨by rw [fυ.ck 60 40 rfl, fυ.ce 76 rfl]; exact b5, ?_, ?_, ?_, ?_⟩, fun b hb1 hb2 => by rw [hbt b hb1, decide_eq_false hb2, Bool.or_false]⟩
      · have := @wr_len w
        rw [List.length_append, List.length_append]
        show P.length + (_ + 1) ≤ _
        omega
      · rw [hbt 2 (by omega), r29, r30]
        first
          | (rw [c4]; simpa using nw)
          | (rw [c8]; by_cases z : x_bt (υ.1 60 37) 2 = true
             · rw [if_pos z] at d3; simpa [z] using d3.mo w (w.flatMap sp_wr ++ [0])
             · rw [if_neg z] at d3; simpa [z] using d3)
      · rw [hbt 17 (by omega), r29, r30]
        first
          | (rw [c4]; simpa using nw)
          | (rw [c8]; by_cases z : x_bt (υ.1 60 37) 17 = true
             · rw [if_pos z] at d4; simpa [z] using d4.mo w (w.flatMap sp_wr ++ [0])
             · rw [if_neg z] at d4; simpa [z] using d4)
      · obtain ⟨kn, k1, k2, k3, k4, k5⟩ := dk
        refine ⟨kn, k1, c219.trans k2, c31.trans k3, fun hh hk => ?_, fun hh hk hk2 => ?_⟩
        · rw [r29, r30, if_neg (by omega), if_neg (by omega), c75]; exact (k4 hh hk).mo w _
        · rw [r29, r30, if_neg (by omega), if_neg (by omega)]; exact k5 hh hk hk2
end LZ
