theorem li_seg {v : Int32} {row : Nat → Int32} {c : List Int32} (h : x_li v row c) {a b : Nat} (hb : b ≤ c.length) : (List.range (b - a)).map (fun i => row (a + i)) = (c.drop a).take (b - a) := by
  apply List.ext_getElem
  · simp; omega
  · intro i h1 h2
    have hi : i < b - a := by simpa using h1
    rw [List.getElem_map, List.getElem_range, List.getElem_take, List.getElem_drop]
    show row (a + i) = _
    rw [h.2 (a + i) (by omega), List.getD_eq_getElem?_getD, List.getElem?_eq_getElem (by omega)]
    rfl
theorem en_of {g : Nat → Int32} : ∀ {cs : List Int32} {p : Nat}, (∀ i, i < (cs.flatMap sp_wr ++ [0]).length → g (p + i) = (cs.flatMap sp_wr ++ [0]).getD i 0) → sp_en g p cs
  | [], p, h => h 0 (by simp)
  | c :: cs, p, h => by
    have e : (c :: cs).flatMap sp_wr ++ [0] = sp_wr c ++ (cs.flatMap sp_wr ++ [0]) := by rw [List.flatMap_cons, List.append_assoc]
    rw [e] at h
    unfold sp_en
    by_cases h1 : 0 ≤ c
    · have ew : sp_wr c = [1, c] := by unfold sp_wr; rw [if_pos h1]
      rw [ew] at h
      rw [if_pos h1]
      refine ⟨h 0 (by simp), h 1 (by simp), en_of (fun i hi => ?_)⟩
      have := h (i + 2) (by rw [List.length_append]; show i + 2 < 2 + _; omega)
      rw [show p + (i + 2) = p + 2 + i by omega] at this
      exact this
    · rw [if_neg h1]
      by_cases h2 : c ≤ -10
      · have ew : sp_wr c = [2, Int32.ofNat (sp_pm ((-10 : Int32) - c).toNatClampNeg)] := by unfold sp_wr; rw [if_neg h1, if_pos h2]
        rw [ew] at h
        rw [if_pos h2]
        refine ⟨h 0 (by simp), h 1 (by simp), en_of (fun i hi => ?_)⟩
        have := h (i + 2) (by rw [List.length_append]; show i + 2 < 2 + _; omega)
        rw [show p + (i + 2) = p + 2 + i by omega] at this
        exact this
      · have ew : sp_wr c = [sp_om c] := by unfold sp_wr; rw [if_neg h1, if_neg h2]
        rw [ew] at h
        rw [if_neg h2]
        refine ⟨h 0 (by simp), en_of (fun i hi => ?_)⟩
        have := h (i + 1) (by rw [List.length_append]; show i + 1 < 1 + _; omega)
        rw [show p + (i + 1) = p + 1 + i by omega] at this
        exact this
section SR
variable {C : Nat → Nat → Int32} {c P : List Int32} {v rule va vb vs : Int32} {r : Nat}
theorem sr_seg (h : x_sr c P rule va vb vs) (h15 : C 15 r = va) (h16 : C 16 r = vb) (hc : x_li v (C 14) c) (h7 : c.length ≤ 700) : sp_has C r ∧ sp_RG C r (ht_lo rule) (ht_hi rule) ∧ (sp_seg C r).length ≤ 700 ∧ ∃ s P1 P2, vs = Int32.ofNat s ∧ P = P1 ++ ((sp_seg C r).flatMap sp_wr ++ [0]) ++ P2 ∧ P1.length = s := by
  obtain ⟨a, b, s, e1, e2, e3, hab, hb, hg, hu, P1, P2, eP, hs⟩ := h
  have es : sp_seg C r = (c.drop a).take (b - a) := by
    unfold sp_seg
    rw [h15, h16, e1, e2, i_cl (by omega), i_cl (by omega)]
    exact li_seg hc hb
  refine ⟨?_, ⟨⟨?_, ?_⟩, ?_, ?_⟩, ?_, s, P1, P2, e3, ?_, hs⟩
  · unfold sp_has
    rw [h15, h16, e1, e2]
    exact (i_lt (by omega) (by omega)).mpr hab
  · rw [h15, e1]; exact i_0k (by omega)
  · rw [h16, e2, i_cl (by omega)]; omega
  · rw [es]; exact hg
  · rw [es]; exact hu
  · rw [es, List.length_take]; omega
  · rw [es]; exact eP
theorem cd_of {M υ : xS} {cs P1 P2 : List Int32} {s : Nat} (hP : x_li v (υ.1 76) P) (hl : P.length ≤ 1400) (hM : ∀ k, k < 4200 → M.1 66 k = υ.1 76 k) (eP : P = P1 ++ (cs.flatMap sp_wr ++ [0]) ++ P2) (hs : P1.length = s) (hcs : cs.length ≤ 700) : x_cd M (Int32.ofNat s) cs := by
  have hlen : P.length = s + (cs.flatMap sp_wr ++ [0]).length + P2.length := by rw [eP, List.length_append, List.length_append, hs]
  refine ⟨i_0k (by omega), ?_, ?_⟩
  · rw [i_cl (by omega)]; omega
  · rw [i_cl (by omega)]
    refine en_of (fun i hi => ?_)
    rw [hM (s + i) (by omega), hP.2 (s + i) (by omega), eP, List.getD_eq_getElem?_getD, List.getD_eq_getElem?_getD, List.append_assoc, List.getElem?_append_right (by omega), show s + i - P1.length = i by omega, List.getElem?_append_left hi]
theorem nohas {C : Nat → Nat → Int32} {r : Nat} (h15 : C 15 r = 0) (h16 : C 16 r = 0) : ¬ sp_has C r := by
  unfold sp_has
  rw [h15, h16]
  decide
end SR
theorem lo_of {L : Nat → Int32} {k : Nat} (h : ∀ j, j < k → 1 ≤ L j ∧ L j ≤ 99) : ∀ j, j < k → L j = Int32.ofNat (L j).toNatClampNeg ∧ 1 ≤ (L j).toNatClampNeg ∧ (L j).toNatClampNeg ≤ 99 := by
  intro j hj
  obtain ⟨a, b⟩ := h j hj
  obtain ⟨e, hb⟩ := i_ex (v := L j) (by grind)
  generalize (L j).toNatClampNeg = x at e hb
  rw [e] at a b
  exact ⟨e, (i_le (j := 1) (by omega) hb).mp a, (i_le (k := 99) hb (by omega)).mp b⟩
theorem ss_b {l : Nat → Nat} : ∀ {k : Nat}, (∀ j, j < k → l j ≤ 99) → sp_ss l k ≤ 99 * k
  | 0, _ => Nat.le_refl _
  | k + 1, h => by
    have := ss_b (k := k) (fun j hj => h j (by omega))
    have := h k (by omega)
    unfold sp_ss
    omega
theorem ss_eq {L : Nat → Int32} {k s : Nat} (hk : k ≤ 12) (hs : s ≤ 600) (h : ∀ j, j < k → 1 ≤ L j ∧ L j ≤ 99) (e : sp_sum L k = Int32.ofNat s) : sp_ss (fun j => (L j).toNatClampNeg) k = s := by
  have hl := lo_of h
  have b := ss_b (l := fun j => (L j).toNatClampNeg) (k := k) (fun j hj => (hl j hj).2.2)
  rw [ss_sum (l := fun j => (L j).toNatClampNeg) (fun j hj => (hl j hj).1)] at e
  exact (i_ej (by omega) (by omega)).mp e
theorem G_of {C : Nat → Nat → Int32} {τ υ : xS} {c P : List Int32} {i : Nat} {v : Int32} (d1 : x_d1 τ υ) (d2 : x_d2 τ υ) (d3 : x_d3 τ υ) (d5 : x_d5 c P i τ υ) (hc : x_li v (τ.1 28) c) (hc7 : c.length ≤ 700) (h7 : C 7 = τ.1 21) (h8 : C 8 = τ.1 22) (h9 : C 9 = τ.1 23) (h10 : C 10 = τ.1 24) (h11 : C 11 = τ.1 25) (h14 : C 14 = τ.1 28) (h15 : C 15 = τ.1 29) (h16 : C 16 = τ.1 30) (W : ∀ t, t ≤ sp_la C → C 19 t = sp_her (C 8) (C 9) 0 (C 7 0) (Int32.ofNat t) (sp_nm C)) (T : ∀ w, 12 ≤ w → w ≤ 480 → C 20 w = sp_tu C (Int32.ofNat w)) : x_G C := by
  obtain ⟨-, hh, k, s, hk, hs, e1, -, e4, -, esum, hm, -⟩ := d1
  obtain ⟨kc, hkc, e5, -, hch⟩ := d2
  obtain ⟨km, hkm, e8, -, -⟩ := d3
  obtain ⟨-, -, r0, r1, kh, hkh, e9, -, rh, -⟩ := d5
  have n1 : sp_nm C = k := by unfold sp_nm; rw [h7, e1, i_cl (by omega)]
  have n4 : sp_la C = s := by unfold sp_la; rw [h7, e4, i_cl (by omega)]
  have n5 : sp_nc C = kc := by unfold sp_nc; rw [h7, e5, i_cl (by omega)]
  have n8 : sp_nk C = km := by unfold sp_nk; rw [h7, e8, i_cl (by omega)]
  have n9 : sp_nh C = kh := by unfold sp_nh; rw [h7, e9, i_cl (by omega)]
  have hl1 : ∀ j, j < k → 1 ≤ τ.1 23 j ∧ τ.1 23 j ≤ 99 := fun j hj => (hm j hj).2.2.2
  have hss := ss_eq hk hs hl1 esum
  have hl := lo_of hl1
  have hRng : ∀ t, t ≤ s → 12 ≤ C 19 t ∧ C 19 t ≤ 480 := by
    intro t ht
    rw [W t (by omega), n1]
    refine wk_r (σ := (C, fun _ _ => 0)) (l := fun j => (τ.1 23 j).toNatClampNeg) (k := k) ?_ (by rw [hss]; exact hs) ?_ ?_ (by rw [hss]; exact ht)
    · show ∀ j, j < k → C 9 j = _ ∧ _
      rw [h9]; exact hl
    · show 12 ≤ C 7 0 ∧ C 7 0 ≤ 480
      rw [h7]; exact hh
    · show ∀ j, j < k → 12 ≤ C 8 j ∧ C 8 j ≤ 480
      rw [h8]; exact fun j hj => (hm j hj).2.2.1
  refine ⟨⟨?_, by omega⟩, ⟨?_, by omega⟩, ⟨?_, by omega⟩, ⟨?_, by omega⟩, ⟨?_, by omega⟩, ?_, ?_, ?_, ?_, ?_, ?_, ?_, ?_, ?_, ?_⟩
  · rw [n1, h7]; exact e1
  · rw [n4, h7]; exact e4
  · rw [n5, h7]; exact e5
  · rw [n8, h7]; exact e8
  · rw [n9, h7]; exact e9
  · rw [h7]; exact hh
  · rw [n1, h8, h9]; exact fun j hj => ⟨(hm j hj).2.2.1, (hm j hj).2.2.2⟩
  · rw [n1, h9, h7, e4]; exact esum
  · rw [n5, h10, h11]; exact fun j hj => ⟨(hch j hj).2.2.1, (hch j hj).2.2.2⟩
  · rw [W 0 (by omega)]
    refine her_0 (fun hk0 => ?_)
    rw [h9]; rw [n1] at hk0; exact hl1 0 hk0
  · intro t ht
    exact ⟨W t ht, hRng t (by omega)⟩
  · intro w h1 h2
    obtain ⟨e, b⟩ := i_ex (v := w) (by grind)
    refine ⟨?_, tu_r h1 h2⟩
    generalize w.toNatClampNeg = x at e b
    subst e
    exact T x ((i_le (j := 12) (by omega) b).mp h1) ((i_le (k := 480) b (by omega)).mp h2)
  · intro hh0
    by_cases hb : x_bt (υ.1 60 37) 2 = true
    · rw [if_pos hb] at r0
      have := (sr_seg (C := C) (r := 0) r0 (by rw [h15]) (by rw [h16]) (by rw [h14]; exact hc) hc7).2.1
      exact this
    · rw [if_neg hb] at r0
      exact absurd hh0 (nohas (by rw [h15]; exact r0.1) (by rw [h16]; exact r0.2.1))
  · intro hh0
    by_cases hb : x_bt (υ.1 60 37) 17 = true
    · rw [if_pos hb] at r1
      have := (sr_seg (C := C) (r := 1) r1 (by rw [h15]) (by rw [h16]) (by rw [h14]; exact hc) hc7).2.1
      exact this
    · rw [if_neg hb] at r1
      exact absurd hh0 (nohas (by rw [h15]; exact r1.1) (by rw [h16]; exact r1.2.1))
  · intro h hlt
    rw [n9] at hlt
    have := sr_seg (C := C) (r := 2 + h) (rh h hlt) (by rw [h15]) (by rw [h16]) (by rw [h14]; exact hc) hc7
    exact ⟨this.1, this.2.1⟩
theorem M_of {C : Nat → Nat → Int32} {τ υ M : xS} {c P : List Int32} {i : Nat} {v : Int32} (hi : i ≤ 700) (d1 : x_d1 τ υ) (d2 : x_d2 τ υ) (d5 : x_d5 c P i τ υ) (hc : x_li v (τ.1 28) c) (hc7 : c.length ≤ 700) (h7 : C 7 = τ.1 21) (h8 : C 8 = τ.1 22) (h9 : C 9 = τ.1 23) (h10 : C 10 = τ.1 24) (h11 : C 11 = τ.1 25) (h14 : C 14 = τ.1 28) (h15 : C 15 = τ.1 29) (h16 : C 16 = τ.1 30) (k : x_mk υ M) : x_M C M := by
  obtain ⟨⟨m1, m2, m3, m4, m5, m6, m7⟩, ⟨m61, m62, m63, m64, m65, m66⟩, -⟩ := k
  obtain ⟨e0, -, k, s, hk, hs, e1, e1', e4, -, -, hm, -⟩ := d1
  obtain ⟨kc, hkc, e5, e5', hch⟩ := d2
  obtain ⟨hP, hPl, r0, r1, kh, hkh, e9, e9', rh, -⟩ := d5
  have n1 : sp_nm C = k := by unfold sp_nm; rw [h7, e1, i_cl (by omega)]
  have n5 : sp_nc C = kc := by unfold sp_nc; rw [h7, e5, i_cl (by omega)]
  have n9 : sp_nh C = kh := by unfold sp_nh; rw [h7, e9, i_cl (by omega)]
  refine ⟨⟨?_, ?_, ?_, ?_⟩, ?_, ?_, ?_, ?_, ?_⟩
  · rw [m1, h7]; exact e0.symm
  · rw [m2, h7, e1, e1']
  · rw [m3, h7, e5, e5']
  · rw [m5, h7, e9, e9']
  · intro j hj
    rw [n1] at hj
    rw [m61 j (by omega), m62 j (by omega), h8, h9]
    exact ⟨(hm j hj).1, (hm j hj).2.1⟩
  · intro j hj
    rw [n5] at hj
    rw [m63 j (by omega), m64 j (by omega), h10, h11]
    exact ⟨(hch j hj).1, (hch j hj).2.1⟩
  · rw [m6]
    by_cases hb : x_bt (υ.1 60 37) 2 = true
    · rw [if_pos hb] at r0
      obtain ⟨a, -, b, s, P1, P2, e, eP, ePl⟩ := sr_seg (C := C) (r := 0) r0 (by rw [h15]) (by rw [h16]) (by rw [h14]; exact hc) hc7
      rw [if_pos a, e]
      exact cd_of hP (by omega) m66 eP ePl b
    · rw [if_neg hb] at r0
      rw [if_neg (nohas (by rw [h15]; exact r0.1) (by rw [h16]; exact r0.2.1))]
      exact r0.2.2
  · rw [m7]
    by_cases hb : x_bt (υ.1 60 37) 17 = true
    · rw [if_pos hb] at r1
      obtain ⟨a, -, b, s, P1, P2, e, eP, ePl⟩ := sr_seg (C := C) (r := 1) r1 (by rw [h15]) (by rw [h16]) (by rw [h14]; exact hc) hc7
      rw [if_pos a, e]
      exact cd_of hP (by omega) m66 eP ePl b
    · rw [if_neg hb] at r1
      rw [if_neg (nohas (by rw [h15]; exact r1.1) (by rw [h16]; exact r1.2.1))]
      exact r1.2.2
  · intro h hlt
    rw [n9] at hlt
    obtain ⟨a, -, b, s, P1, P2, e, eP, ePl⟩ := sr_seg (C := C) (r := 2 + h) (rh h hlt) (by rw [h15]) (by rw [h16]) (by rw [h14]; exact hc) hc7
    rw [m65 h (by omega), e]
    exact cd_of hP (by omega) m66 eP ePl b
