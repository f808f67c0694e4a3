section LH
variable {g : Nat → Int32} {n m i : Nat} {c P : List Int32} {τ υ : xS}
theorem t_hand (h : x_kh (tk_i g n) m τ i c) (k : x_mh g n m υ i) (hi' : i < m) (d : x_d5 c P i τ υ) : x_ens (f_Re_readRule_2_21 ((2 : Int32) + τ.1 21 9) τ) (fun qc => (qc.1 = 0 ∨ qc.1 = 1) ∧ x_ens ((f_Mo_readsRule_60 18 υ).bind fun q => l_fin q.2) (fun qm => x_r5 g n m i (fun _ υ' => υ'.1 60 37 = υ.1 60 37) qc qm.2)) := by
  have hm7 := k.1.1
  have hmn := k.1.2.1
  have hcl := h.2.2.2.2.2
  obtain ⟨d1, d2, d3, d4, kn, k1, k2, k3, k4, k5⟩ := id d
  have e2 : (2 : Int32) + Int32.ofNat kn = Int32.ofNat (2 + kn) := (Int32.ofNat_add 2 kn).symm
  unfold f_Re_readRule_2_21 f_Mo_readsRule_60
  rw [k2, e2, if_pos (show (18 : Int32) = 18 by decide), k3]
  by_cases hk : kn < 4
  · rw [if_pos (show Int32.ofNat (2 + kn) < 6 from (i_lt (k := 6) (by omega) (by omega)).mpr (by omega)), if_neg (show ¬ Int32.ofNat kn = 4 from fun x => by have := (i_ej (k := 4) (by omega) (by omega)).mp x; omega), k_has (r := 2 + kn) (by omega), (k5 kn (by omega) hk).1, (k5 kn (by omega) hk).2, if_pos i_lr]
    dsimp only [Option.bind_some]
    rw [if_pos rfl]
    unfold f_Mo_readsRule_60_J19
    rw [k.good]
    dsimp only [Option.bind_some]
    rw [if_neg (show ¬ (1 : Int32) = 0 by decide)]
    obtain ⟨qo, eo, o2, fo⟩ := l_go k
    rw [eo]
    dsimp only [Option.bind_some]
    rw [tk_ad_lt hi'] at o2
    refine x_ens.bi (k_adv h) ?_
    rintro qa ⟨a1, a2⟩
    rw [tk_ad_lt hi'] at a1
    have e40 : qo.2.1 60 40 = Int32.ofNat P.length := by rw [fo.ck 60 40 rfl]; exact d1.1
    have e31 : qo.2.1 60 31 = Int32.ofNat kn := by rw [fo.ck 60 31 rfl]; exact k3
    rw [e31, i_cl (by omega), if_neg (show ¬ (Int32.ofNat kn < 0 ∨ 4 ≤ kn) by rintro (x | x); exact i_ge (by omega) x; omega), e40, y_pI_ne (q := 60) (show 60 ≠ 75 by omega), e31, i_s]
    have km : x_mh g n m (x_pI (x_pI qo.2 75 kn (Int32.ofNat P.length)) 60 31 (Int32.ofNat (kn + 1))) (i + 1) := o2.fr (W := [(75, 99999), (60, 31)]) (x_frI (p := 60) (k := 31) rfl (x_frI (p := 75) rfl x_fr.rf)) rfl rfl rfl rfl rfl rfl rfl rfl rfl rfl
    have hp : x_li ((x_pI (x_pI qo.2 75 kn (Int32.ofNat P.length)) 60 31 (Int32.ofNat (kn + 1))).1 60 40) ((x_pI (x_pI qo.2 75 kn (Int32.ofNat P.length)) 60 31 (Int32.ofNat (kn + 1))).1 76) P := by
      rw [x_pI_kn (by omega), y_pI_ne (by omega), y_pI_ne (by omega), y_pI_ne (by omega), fo.ck 60 40 rfl, fo.ce 76 rfl]; exact d1
    have n0 : ¬ Int32.ofNat (2 + kn) = 0 := fun x => by have := (i_ne0 (by omega)).mp x; omega
    have n1 : ¬ Int32.ofNat (2 + kn) = 1 := fun x => by have := (i_ej (k := 1) (by omega) (by omega)).mp x; omega
    refine t_ocr (r := 2 + kn) (kk := fun σ => if Int32.ofNat (2 + kn) < (2 : Int32) then (f_Re_readEnd_2 (x_pI σ 21 9 (σ.1 21 9 + (0 : Int32)))).bind fun q7 => x_ok (q7.1 = 0 ∨ q7.1 = 1) <| some (q7.1, q7.2) else (f_Re_readEnd_2 (x_pI σ 21 9 (σ.1 21 9 + (1 : Int32)))).bind fun q9 => x_ok (q9.1 = 0 ∨ q9.1 = 1) <| some (q9.1, q9.2)) (rule := 2) (lo := 0) (hi := 4) (z := fun q => some ((0 : Int32), q)) (by omega) a1 km hp (by omega) (by unfold x_ru; simp) (expr_2 n0 n1 8 0) ?_ ?_
    · intro q qm f e em q6 q7 hbd
      rw [em]
      dsimp only [Option.bind_some]
      exact x_ens.so ⟨Or.inl rfl, rs_bad5 rfl q6 q7 hbd⟩
    · intro q qm j' w em f4 b1 b2 b3 b4 b5 b6
      rw [em]
      dsimp only [Option.bind_some]
      have fm := fr_Mo_expression_60 em
      have v9 : (x_pI q 30 (2 + kn) (Int32.ofNat (c.length + w.length))).1 21 9 = Int32.ofNat kn := by rw [y_pI_ne (by omega), f4.ck 21 9 rfl, y_pI_ne (by omega), y_pI_ne (by omega), a2.ck 21 9 rfl]; exact k2
      rw [if_neg (show ¬ Int32.ofNat (2 + kn) < 2 from fun x => by have := (i_lt2 (by omega)).mp x; omega), v9, i_s]
      have kc : x_kh (tk_i g n) m (x_pI (x_pI q 30 (2 + kn) (Int32.ofNat (c.length + w.length))) 21 9 (Int32.ofNat (kn + 1))) j' (c ++ w) := b3.fr (W := [(30, 99999), (21, 9)]) (x_frI (p := 21) (k := 9) rfl (x_frI (p := 30) rfl x_fr.rf)) rfl rfl rfl rfl rfl rfl rfl
      refine x_ens.bi (rs_end5 (i0 := i) (P := P ++ (w.flatMap sp_wr ++ [0])) kc b4 (by omega) ?_) (fun qc hq => x_ens.ok hq.1 (x_ens.so hq))
      intro τ' υ' fτ fυ
      have hle := (tk_ad_b b4.2.2.2).2
      have h37 : υ'.1 60 37 = υ.1 60 37 := by rw [fυ.ck 60 37 rfl, fm.ck 60 37 rfl, x_pI_kn (by omega), y_pI_ne (by omega), fo.ck 60 37 rfl]
      have r29 : ∀ k, τ'.1 29 k = if k = 2 + kn then Int32.ofNat c.length else τ.1 29 k := fun k => by
        rw [fτ.ce 29 rfl, y_pI_ne (by omega), y_pI_ne (by omega), f4.ce 29 rfl, y_pI_ne (by omega), x_pI_up, a2.ce 29 rfl]; rfl
      have r30 : ∀ k, τ'.1 30 k = if k = 2 + kn then Int32.ofNat (c.length + w.length) else τ.1 30 k := fun k => by
        rw [fτ.ce 30 rfl, y_pI_ne (by omega), x_pI_up]
        by_cases e : k = 2 + kn
        · rw [if_pos e, e, sp_up_eq]
        · rw [if_neg e, sp_up_ne e, f4.ce 30 rfl, x_pI_up, sp_up_ne e, y_pI_ne (by omega), a2.ce 30 rfl]
      have c32 : υ'.1 60 32 = υ.1 60 32 := by rw [fυ.ck 60 32 rfl, fm.ck 60 32 rfl, x_pI_kn (by omega), y_pI_ne (by omega), fo.ck 60 32 rfl]
      have c33 : υ'.1 60 33 = υ.1 60 33 := by rw [fυ.ck 60 33 rfl, fm.ck 60 33 rfl, x_pI_kn (by omega), y_pI_ne (by omega), fo.ck 60 33 rfl]
      have c31 : υ'.1 60 31 = Int32.ofNat (kn + 1) := by rw [fυ.ck 60 31 rfl, fm.ck 60 31 rfl, x_pI_kk]
      have c75 : ∀ k, υ'.1 75 k = if k = kn then Int32.ofNat P.length else υ.1 75 k := fun k => by rw [fυ.ce 75 rfl, fm.ce 75 rfl, y_pI_ne (by omega), x_pI_up, fo.ce 75 rfl]; rfl
      have c219 : τ'.1 21 9 = Int32.ofNat (kn + 1) := by rw [fτ.ck 21 9 rfl]; exact x_pI_kk
      have nw := x_sr.new (c := c) (P := P) (rule := 2) b6
      refine ⟨⟨by rw [fυ.ck 60 40 rfl, fυ.ce 76 rfl]; exact b5, ?_, ?_, ?_, ?_⟩, h37⟩
      · have := @wr_len w
        rw [List.length_append, List.length_append]
        show P.length + (_ + 1) ≤ _
        omega
      · rw [h37, r29, r30, if_neg (show ¬ 0 = 2 + kn by omega), if_neg (show ¬ 0 = 2 + kn by omega), c32]
        by_cases z : x_bt (υ.1 60 37) 2 = true
        · rw [if_pos z] at d3 ⊢; exact d3.mo w _
        · rw [if_neg z] at d3 ⊢; exact d3
      · rw [h37, r29, r30, if_neg (show ¬ 1 = 2 + kn by omega), if_neg (show ¬ 1 = 2 + kn by omega), c33]
        by_cases z : x_bt (υ.1 60 37) 17 = true
        · rw [if_pos z] at d4 ⊢; exact d4.mo w _
        · rw [if_neg z] at d4 ⊢; exact d4
      · refine ⟨kn + 1, by omega, c219, c31, fun hh hk => ?_, fun hh hk hk2 => ?_⟩
        · rw [r29, r30, c75]
          by_cases e : hh = kn
          · rw [if_pos (by omega), if_pos (by omega), if_pos e]; exact nw
          · rw [if_neg (by omega), if_neg (by omega), if_neg e]; exact (k4 hh (by omega)).mo w _
        · rw [r29, r30, if_neg (by omega), if_neg (by omega)]; exact k5 hh (by omega) hk2
  · rw [if_neg (show ¬ Int32.ofNat (2 + kn) < 6 from fun x => by have := (i_lt (k := 6) (by omega) (by omega)).mp x; omega), if_pos (show Int32.ofNat kn = 4 by rw [show kn = 4 by omega]; rfl)]
    refine x_ens.bi (k_ref h 2) ?_
    rintro q ⟨a, b, e⟩
    refine x_ens.ok (Or.inl a) (x_ens.so ⟨Or.inl a, ?_⟩)
    obtain ⟨qw, ew, w1, -⟩ := l_wrong k (k := 2) (by decide)
    rw [ew]
    dsimp only [Option.bind_some]
    unfold f_Mo_readsRule_60_J19
    rw [w1.good]
    dsimp only [Option.bind_some]
    rw [if_pos rfl]
    dsimp only [Option.bind_some]
    exact rs_bad5 a b e w1
end LH
