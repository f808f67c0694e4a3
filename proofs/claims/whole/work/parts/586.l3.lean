abbrev x_W7 : List (Nat × Nat) := [(7, 99999), (8, 99999), (9, 99999), (10, 99999), (11, 99999), (12, 99999), (13, 99999), (14, 99999), (15, 99999), (16, 99999), (17, 99999), (18, 99999), (19, 99999), (20, 99999), (21, 99999), (22, 99999), (23, 99999), (24, 99999), (25, 99999), (26, 99999), (27, 99999), (28, 99999), (29, 99999), (30, 99999), (31, 99999), (32, 99999), (33, 99999), (34, 99999)]
abbrev x_WN7 : List (Nat × Nat) := x_W7 ++ [(0, 1), (0, 7), (0, 9), (0, 11), (35, 3), (35, 6), (35, 8), (36, 99999), (55, 4)]
theorem in_w7 : ∀ p : Fin 28, x_in x_W7 (7 + p.val) 0 = true := by decide
theorem in_w7' {p k : Nat} (h : 7 ≤ p ∧ p < 35) : x_in x_W7 p k = true := by
  have := in_w7 ⟨p - 7, by omega⟩
  rw [show 7 + (p - 7) = p by omega] at this
  unfold x_in at this ⊢
  rw [List.any_eq_true] at this ⊢
  obtain ⟨w, hw, h1⟩ := this
  refine ⟨w, hw, ?_⟩
  have h99 : w.2 = 99999 := by
    have : ∀ w ∈ x_W7, w.2 = 99999 := by decide
    exact this w hw
  simp only [Bool.and_eq_true, beq_iff_eq] at h1
  simp [h1.1, h99]
theorem pi_id {p : Nat} (h : p < 7 ∨ 35 ≤ p) : x_pi p = p := by
  unfold x_pi
  rw [if_neg (by omega), if_neg (by omega)]
theorem fr_sw {σ : xS} : x_fr x_W7 σ (x_sw σ) := by
  have key : ∀ p k, x_in x_W7 p k = false → x_pi p = p := by
    intro p k e
    by_cases hp : 7 ≤ p ∧ p < 35
    · rw [in_w7' hp] at e; cases e
    · exact pi_id (by omega)
  refine ⟨fun p k e => ?_, fun p k e => ?_⟩
  · show σ.1 (x_pi p) k = _
    rw [key p k e]
  · show σ.2 (x_pi p) k = _
    rw [key p k e]
theorem sw_at {τ : xS} {p q : Nat} (h : x_pi p = q) (hq : q ≠ 0) : (x_sw (x_pI τ 0 1 0)).1 p = τ.1 q := by
  show (fun k => (x_pI τ 0 1 0).1 (x_pi p) k) = _
  rw [h, y_pI_ne hq]
def x_cg (τ F : xS) : Prop := (F.1 7 = τ.1 21 ∧ F.1 8 = τ.1 22 ∧ F.1 9 = τ.1 23 ∧ F.1 10 = τ.1 24 ∧ F.1 11 = τ.1 25 ∧ F.1 14 = τ.1 28 ∧ F.1 15 = τ.1 29 ∧ F.1 16 = τ.1 30) ∧ (∀ t, t ≤ sp_la F.1 → F.1 19 t = sp_her (F.1 8) (F.1 9) 0 (F.1 7 0) (Int32.ofNat t) (sp_nm F.1)) ∧ (∀ w, 12 ≤ w → w ≤ 480 → F.1 20 w = sp_tu F.1 (Int32.ofNat w)) ∧ (∀ j, j < 12 → F.1 36 j = sp_up (τ.1 26) 4 (if τ.1 21 9 ≤ 0 then -1 else 0) j) ∧ (F.1 35 3 = 0 ∧ F.1 35 6 = 0 ∧ F.1 35 8 = 0) ∧ (F.1 0 1 = 0 ∧ F.1 0 7 = 0 ∧ F.1 0 9 = 0 ∧ F.1 0 11 = -1) ∧ F.1 55 4 = -1
theorem c_new {τ υ : xS} {c P : List Int32} {i : Nat} {v : Int32} (d1 : x_d1 τ υ) (d5 : x_d5 c P i τ υ) (hc : x_li v (τ.1 28) c) (hc7 : c.length ≤ 700) : x_ens ((f_Sc_finish_7 (x_sw (x_pI τ 0 1 0))).bind fun q5 => (f_Se_begin_35_7 q5.2).bind fun q6 => (f_Ch_drop_55 (x_pI q6.2 0 7 0)).bind fun q8 => some ((Sum.inl (0 : Int32) : Int32 ⊕ Nat), x_pI (x_pI q8.2 0 9 0) 0 11 (-1))) (fun q => q.1 = .inl 0 ∧ x_cg τ q.2 ∧ x_fr x_WN7 τ q.2) := by
  obtain ⟨-, -, k, s, hk, hs, e1, -, e4, -, esum, hm, -⟩ := d1
  obtain ⟨-, -, r0, -⟩ := d5
  have hl1 : ∀ j, j < k → 1 ≤ τ.1 23 j ∧ τ.1 23 j ≤ 99 := fun j hj => (hm j hj).2.2.2
  have hss := ss_eq hk hs hl1 esum
  have hl := lo_of hl1
  have s7 : (x_sw (x_pI τ 0 1 0)).1 7 = τ.1 21 := sw_at (by decide) (by omega)
  have s8 : (x_sw (x_pI τ 0 1 0)).1 8 = τ.1 22 := sw_at (by decide) (by omega)
  have s9 : (x_sw (x_pI τ 0 1 0)).1 9 = τ.1 23 := sw_at (by decide) (by omega)
  have s10 : (x_sw (x_pI τ 0 1 0)).1 10 = τ.1 24 := sw_at (by decide) (by omega)
  have s11 : (x_sw (x_pI τ 0 1 0)).1 11 = τ.1 25 := sw_at (by decide) (by omega)
  have s12 : (x_sw (x_pI τ 0 1 0)).1 12 = τ.1 26 := sw_at (by decide) (by omega)
  have s14 : (x_sw (x_pI τ 0 1 0)).1 14 = τ.1 28 := sw_at (by decide) (by omega)
  have s15 : (x_sw (x_pI τ 0 1 0)).1 15 = τ.1 29 := sw_at (by decide) (by omega)
  have s16 : (x_sw (x_pI τ 0 1 0)).1 16 = τ.1 30 := sw_at (by decide) (by omega)
  have s01 : (x_sw (x_pI τ 0 1 0)).1 0 1 = 0 := by
    show (x_pI τ 0 1 0).1 (x_pi 0) 1 = 0
    rw [pi_id (by omega)]; exact x_pI_kk
  have fs : x_fr x_WN7 τ (x_sw (x_pI τ 0 1 0)) := x_fr.trans (x_frI (p := 0) (k := 1) rfl x_fr.rf) (fr_sw.su rfl)
  generalize x_sw (x_pI τ 0 1 0) = S at s7 s8 s9 s10 s11 s12 s14 s15 s16 s01 fs
  have hR : sp_has S.1 0 → sp_RG S.1 0 0 0 := by
    intro hh0
    by_cases hb : x_bt (υ.1 60 37) 2 = true
    · rw [if_pos hb] at r0
      exact (sr_seg (C := S.1) (r := 0) r0 (by rw [s15]) (by rw [s16]) (by rw [s14]; exact hc) hc7).2.1
    · rw [if_neg hb] at r0
      exact absurd hh0 (nohas (by rw [s15]; exact r0.1) (by rw [s16]; exact r0.2.1))
  refine x_ens.bi (c_finish (σ := S) (C := S.1) (l := fun j => (τ.1 23 j).toNatClampNeg) (k := k) (by rw [s9]; exact hl) hk (by rw [hss]; exact hs) (by rw [s7]; exact e1) rfl rfl rfl hR) ?_
  rintro q5 ⟨⟨t12, t19, t20⟩, f5⟩
  unfold f_Se_begin_35_7 f_Ch_drop_55
  dsimp only [Option.bind_some]
  have f6 : x_fr [(35, 3), (35, 6), (35, 8), (36, 99999)] q5.2 (x_pI (x_pI (x_pI (x_cp q5.2 12 36 12) 35 3 0) 35 6 0) 35 8 0) := x_frI (p := 35) (k := 8) rfl (x_frI (p := 35) (k := 6) rfl (x_frI (p := 35) (k := 3) rfl (x_frC (fun _ => rfl) x_fr.rf)))
  have b36 : ∀ j, j < 12 → (x_pI (x_pI (x_pI (x_cp q5.2 12 36 12) 35 3 0) 35 6 0) 35 8 0).1 36 j = q5.2.1 12 j := by
    intro j hj
    rw [y_pI_ne (by omega), y_pI_ne (by omega), y_pI_ne (by omega)]
    exact x_cp_at hj
  have b35 : (x_pI (x_pI (x_pI (x_cp q5.2 12 36 12) 35 3 0) 35 6 0) 35 8 0).1 35 3 = 0 ∧ (x_pI (x_pI (x_pI (x_cp q5.2 12 36 12) 35 3 0) 35 6 0) 35 8 0).1 35 6 = 0 ∧ (x_pI (x_pI (x_pI (x_cp q5.2 12 36 12) 35 3 0) 35 6 0) 35 8 0).1 35 8 = 0 := ⟨by rw [x_pI_kn (by omega), x_pI_kn (by omega)]; exact x_pI_kk, by rw [x_pI_kn (by omega)]; exact x_pI_kk, x_pI_kk⟩
  generalize x_pI (x_pI (x_pI (x_cp q5.2 12 36 12) 35 3 0) 35 6 0) 35 8 0 = b at f6 b36 b35
  have f7 : x_fr [(0, 7), (0, 9), (0, 11), (55, 4)] b (x_pI (x_pI (x_pI (x_pI b 0 7 0) 55 4 (-1)) 0 9 0) 0 11 (-1)) := x_frI (p := 0) (k := 11) rfl (x_frI (p := 0) (k := 9) rfl (x_frI (p := 55) (k := 4) rfl (x_frI (p := 0) (k := 7) rfl x_fr.rf)))
  have z : (x_pI (x_pI (x_pI (x_pI b 0 7 0) 55 4 (-1)) 0 9 0) 0 11 (-1)).1 0 7 = 0 ∧ (x_pI (x_pI (x_pI (x_pI b 0 7 0) 55 4 (-1)) 0 9 0) 0 11 (-1)).1 0 9 = 0 ∧ (x_pI (x_pI (x_pI (x_pI b 0 7 0) 55 4 (-1)) 0 9 0) 0 11 (-1)).1 0 11 = -1 ∧ (x_pI (x_pI (x_pI (x_pI b 0 7 0) 55 4 (-1)) 0 9 0) 0 11 (-1)).1 55 4 = -1 := by simp [x_pI]
  refine x_ens.so ⟨rfl, ?_⟩
  dsimp only
  generalize x_pI (x_pI (x_pI (x_pI b 0 7 0) 55 4 (-1)) 0 9 0) 0 11 (-1) = F at f7 z
  have R : ∀ p, ([(0, 7), (0, 9), (0, 11), (55, 4)].all fun w : Nat × Nat => w.1 != p) = true → ([(35, 3), (35, 6), (35, 8), (36, 99999)].all fun w : Nat × Nat => w.1 != p) = true → ([(12, 99999), (17, 99999), (18, 99999), (19, 99999), (20, 99999)].all fun w : Nat × Nat => w.1 != p) = true → F.1 p = S.1 p := fun p h1 h2 h3 => (f7.ce p h1).trans ((f6.ce p h2).trans (f5.ce p h3))
  have R7 := R 7 rfl rfl rfl
  have R8 := R 8 rfl rfl rfl
  have R9 := R 9 rfl rfl rfl
  have R14 := R 14 rfl rfl rfl
  have R15 := R 15 rfl rfl rfl
  have R16 := R 16 rfl rfl rfl
  have n1 : sp_nm F.1 = k := by unfold sp_nm; rw [R7, s7, e1, i_cl (by omega)]
  have n4 : sp_la F.1 = s := by unfold sp_la; rw [R7, s7, e4, i_cl (by omega)]
  refine ⟨⟨⟨R7.trans s7, R8.trans s8, R9.trans s9, (R 10 rfl rfl rfl).trans s10, (R 11 rfl rfl rfl).trans s11, R14.trans s14, R15.trans s15, R16.trans s16⟩, fun t ht => ?_, fun w h1 h2 => ?_, fun j hj => ?_, ?_, ?_, z.2.2.2⟩, ?_⟩
  · rw [n4] at ht
    rw [n1, R7, R8, R9, f7.ce 19 rfl, f6.ce 19 rfl]
    exact t19 t (by rw [hss]; exact ht)
  · rw [f7.ce 20 rfl, f6.ce 20 rfl, t20 w h1 h2]
    exact tu_congr R14.symm R15.symm R16.symm
  · rw [f7.ce 36 rfl, b36 j hj, t12, s12, s7]
  · rw [f7.ce 35 rfl]; exact b35
  · refine ⟨?_, z.1, z.2.1, z.2.2.1⟩
    rw [f7.ck 0 1 rfl, f6.ck 0 1 rfl, f5.ck 0 1 rfl]; exact s01
  · exact x_fr.trans fs (x_fr.trans (f5.su rfl) (x_fr.trans (f6.su rfl) (f7.su rfl)))
abbrev x_WS : List (Nat × Nat) := [(0, 1), (0, 11), (2, 99999), (3, 99999), (4, 99999), (5, 99999), (6, 99999), (21, 99999), (22, 99999), (23, 99999), (24, 99999), (25, 99999), (26, 99999), (27, 99999), (28, 99999), (29, 99999), (30, 99999), (59, 99999), (60, 0), (60, 15), (60, 16), (60, 17), (60, 19), (60, 20), (60, 21), (60, 22), (60, 23), (60, 24), (60, 25), (60, 26), (60, 27), (60, 28), (60, 29), (60, 30), (60, 31), (60, 32), (60, 33), (60, 34), (60, 35), (60, 37), (60, 38), (60, 39), (60, 40), (60, 41), (60, 42), (68, 99999), (69, 99999), (70, 99999), (71, 99999), (72, 99999), (73, 99999), (74, 99999), (75, 99999), (76, 99999), (77, 99999), (78, 99999), (96, 99999)]
theorem x_B.sc {C : Nat → Nat → Int32} {σ τ : xS} (B : x_B C σ) (h : x_fr x_WS σ τ) (t1 : τ.1 0 1 = 0) (t2 : τ.1 60 15 = 0) (h8 : τ.1 0 11 = τ.1 60 17) (h9 : ∀ k, k < 3 → τ.1 59 k = τ.1 68 k) : x_B C τ := by
  obtain ⟨b1, b2, b3, b4, b5, b6, b7, b8, b9, b10, b11⟩ := B
  refine ⟨b1, b2.fr h rfl, b3.fr h rfl rfl rfl rfl rfl rfl rfl, b4.of (h.ce 35 rfl) (h.ce 36 rfl) (h.ce 37 rfl) (h.ce 38 rfl) (h.ce 39 rfl) (h.ce 40 rfl) (h.ce 41 rfl) (h.ce 79 rfl) (h.ce 81 rfl) (h.ce 90 rfl) (h.ce 91 rfl) (h.ck 60 56 rfl) (h.ck 60 74 rfl) (h.ck 60 76 rfl), (h.ck 60 4 rfl).trans b5, ?_, ?_, h8, h9, ?_, ?_⟩
  · rw [h.ck 60 59 rfl, h.ck 60 60 rfl, h.ck 60 64 rfl]; exact b6
  · rw [t1, t2]
    refine ⟨rfl, by decide, by decide, fun k hk => ?_⟩
    exact absurd hk (by rw [show (0 : Int32).toNatClampNeg = 0 by decide]; omega)
  · rw [h.ck 0 7 rfl, h.ck 60 78 rfl]
    refine ⟨b10.1, b10.2.imp id (fun x => ⟨x.1, x.2.of (h.ce 42 rfl) (h.ce 43 rfl) (h.ce 44 rfl) (h.ce 45 rfl) (h.ce 46 rfl) (h.ce 47 rfl) (h.ce 48 rfl) (h.ce 92 rfl) (h.ce 93 rfl) (h.ce 94 rfl) (h.ce 95 rfl) (h.ck 60 79 rfl) (h.ck 60 80 rfl) (h.ck 60 81 rfl)⟩)⟩
  · rw [h.ck 55 4 rfl, h.ck 60 68 rfl, h.ce 58 rfl, h.ce 87 rfl]; exact b11
theorem B_of {τ υ F M : xS} {c P : List Int32} {i : Nat} {v : Int32} (hi : i ≤ 700) (d1 : x_d1 τ υ) (d2 : x_d2 τ υ) (d3 : x_d3 τ υ) (d4 : x_d4 τ υ) (d5 : x_d5 c P i τ υ) (hc : x_li v (τ.1 28) c) (hc7 : c.length ≤ 700) (k : x_mk υ M) (f : x_cg τ F) (hM : ∀ p, p < 60 → M.1 p = F.1 p) (h6 : M.1 60 59 = 0 ∧ M.1 60 60 = 0 ∧ M.1 60 64 = 0) (h15 : M.1 60 15 = 0) (h17 : M.1 60 17 = -1) (h59 : ∀ k, k < 3 → M.1 59 k = M.1 68 k) : x_Rel M := by
  obtain ⟨⟨h7, h8, h9, h10, h11, h14, h15', h16⟩, W, T, f36, ⟨f3, f6, f8⟩, ⟨g1, g7, g9, g11⟩, g55⟩ := f
  have G := G_of d1 d2 d3 d5 hc hc7 h7 h8 h9 h10 h11 h14 h15' h16 W T
  have hMM := M_of hi d1 d2 d5 hc hc7 h7 h8 h9 h10 h11 h14 h15' h16 k
  obtain ⟨⟨-, -, -, m4, -⟩, -, ⟨m79, m795, m796⟩, m56, m74, m76, m68, m78⟩ := k
  obtain ⟨kk, hkk, e8, e8', hmk⟩ := d3
  obtain ⟨-, -, -, -, kh, hkh, e9, e9', -⟩ := d5
  obtain ⟨⟨p0, p1, p2, p3, p4, p5⟩, ⟨q0, q1, q2, q3, q5⟩, -⟩ := d4
  have n8 : sp_nk F.1 = kk := by unfold sp_nk; rw [h7, e8, i_cl (by omega)]
  have n9 : sp_nh F.1 = kh := by unfold sp_nh; rw [h7, e9, i_cl (by omega)]
  have u : ∀ j, j < 12 → ¬ j = 4 → M.1 36 j = τ.1 26 j := by
    intro j hj h4
    rw [hM 36 (by omega), f36 j hj]
    exact if_neg h4
  have u4 : M.1 36 4 = if τ.1 21 9 ≤ 0 then -1 else 0 := by
    rw [hM 36 (by omega), f36 4 (by omega)]
    exact if_pos rfl
  have z0 : (0 : Int32).toNatClampNeg = 0 := by decide
  refine ⟨F.1, ⟨G, ⟨hM 7 (by omega), hM 8 (by omega), hM 9 (by omega), hM 10 (by omega), hM 11 (by omega), hM 14 (by omega), hM 15 (by omega), hM 16 (by omega), hM 19 (by omega), hM 20 (by omega)⟩, hMM, ?_, ?_, h6, ?_, ?_, h59, ?_, ?_⟩, Or.inl ?_⟩
  · refine ⟨⟨?_, ?_, ?_, ?_, ?_, ?_, ?_, ?_⟩, ⟨?_, ?_, ?_, ?_, ?_, ?_⟩, ?_, ?_, ?_, ?_⟩
    · show 1 ≤ M.1 36 0 ∧ M.1 36 0 ≤ 60
      rw [u 0 (by omega) (by omega)]; exact p0
    · show 0 ≤ M.1 36 1 ∧ M.1 36 1 ≤ 24
      rw [u 1 (by omega) (by omega)]; exact p1
    · show 1 ≤ M.1 36 2 ∧ M.1 36 2 ≤ 90
      rw [u 2 (by omega) (by omega)]; exact p2
    · show -30 ≤ M.1 36 3 ∧ M.1 36 3 ≤ 30
      rw [u 3 (by omega) (by omega)]; exact p3
    · show 0 ≤ M.1 36 5 ∧ M.1 36 5 ≤ 200
      rw [u 5 (by omega) (by omega)]; exact p5
    · show M.1 36 4 = -1 ∨ (0 ≤ M.1 36 4 ∧ (M.1 36 4).toNatClampNeg < sp_nh F.1)
      rw [u4, n9]
      by_cases h0 : τ.1 21 9 ≤ 0
      · rw [if_pos h0]; exact Or.inl rfl
      · rw [if_neg h0, z0]
        refine Or.inr ⟨by decide, ?_⟩
        rw [e9] at h0
        by_cases hz : kh = 0
        · rw [hz] at h0; exact absurd (show Int32.ofNat 0 ≤ 0 by decide) h0
        · omega
    · rw [n8]; exact hkk
    · intro j hj
      rw [n8] at hj
      show 12 ≤ M.1 36 (6 + j) ∧ M.1 36 (6 + j) ≤ 480
      rw [u (6 + j) (by omega) (by omega)]
      exact (hmk j hj).2
    · show M.1 79 0 = M.1 36 0
      rw [m79 0 (by omega), u 0 (by omega) (by omega), q0]
    · show M.1 79 1 = M.1 36 1
      rw [m79 1 (by omega), u 1 (by omega) (by omega), q1]
    · show M.1 79 2 = M.1 36 2
      rw [m79 2 (by omega), u 2 (by omega) (by omega), q2]
    · show M.1 79 3 = M.1 36 3
      rw [m79 3 (by omega), u 3 (by omega) (by omega), q3]
    · show M.1 79 4 = M.1 36 5
      rw [m79 4 (by omega), u 5 (by omega) (by omega), q5]
    · show M.1 79 5 = M.1 36 4
      rw [m795, u4, e9, e9']
    · intro j hj
      rw [n8] at hj
      show M.1 79 (6 + j) = M.1 36 (6 + j)
      rw [m796 j (by omega), u (6 + j) (by omega) (by omega)]
      exact (hmk j hj).1
    · rw [hM 35 (by omega), f3, m56]
      exact ⟨rfl, by decide, by decide, fun j hj => absurd hj (by rw [z0]; omega)⟩
    · rw [hM 35 (by omega), f6, m74]
      exact ⟨rfl, by decide, by decide, fun j hj => absurd hj (by rw [z0]; omega)⟩
    · rw [hM 35 (by omega), f8, m76]
      exact ⟨rfl, by decide, by decide, fun j hj => absurd hj (by rw [z0]; omega)⟩
  · rw [m4, h7, e8, e8']
  · rw [hM 0 (by omega), g1, h15]
    exact ⟨rfl, by decide, by decide, fun j hj => absurd hj (by rw [z0]; omega)⟩
  · rw [hM 0 (by omega), g11, h17]
  · rw [hM 0 (by omega), g7, m78]
    exact ⟨rfl, Or.inl rfl⟩
  · rw [hM 55 (by omega), g55, m68]
    exact ⟨rfl, Or.inl rfl, fun j hj => absurd hj (by rw [show (-1 : Int32).toNatClampNeg = 0 by decide]; omega)⟩
  · rw [hM 0 (by omega)]; exact g9
