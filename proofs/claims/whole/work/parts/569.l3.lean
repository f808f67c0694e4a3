section LX
variable {g : Nat → Int32} {n m j : Nat} {c P : List Int32} {τ υ : xS} {rule lo hi : Int32}
theorem t_expr (h : x_kh (tk_i g n) m τ j c) (k : x_mh g n m υ j) (hp : x_li (υ.1 60 40) (υ.1 76) P) (hb : P.length ≤ 2 * j + 20) (hr : x_ru rule lo hi) {R : Int32} (hR : rd_expr (tk_i g n) m R 8 0 = rd_expr (tk_i g n) m rule 8 0) : x_ens (f_Re_readExpr_2_27 R 0 τ) (fun qc => x_ens (f_Mo_expression_60 lo hi υ) (fun qm => (qc.1 = 0 ∧ ∃ f e, qc.2.1 2 6 = f ∧ qc.2.1 2 7 = Int32.ofNat (tk_i g n e).2.2.1 ∧ x_bad g n qm.2 f e) ∨ (qc.1 = 1 ∧ ∃ j' w, j ≤ j' ∧ w.length + j ≤ j' ∧ x_kh (tk_i g n) m qc.2 j' (c ++ w) ∧ x_mh g n m qm.2 j' ∧ x_li (qm.2.1 60 40) (qm.2.1 76) (P ++ (w.flatMap sp_wr ++ [0])) ∧ sp_hg w 0 ∧ sp_us (ht_lo rule) (ht_hi rule) w))) := by
  have hx := r_Expr (rule := R) h.1 8 0 (by omega) (by omega) τ j c h.2
  have hm := m_expr k.1 k.2.1 k.2.2.1 k.2.2.2 hp hb hr
  have hgr := g_expr (rule := rule) h.1 8 0 j k.2.2.2
  have hht := @ht_top (tk_i g n) m rule j
  rw [hR] at hx
  refine x_ens.im (show x_ens (f_Re_readExpr_2_27 R 0 τ) _ from hx) ?_
  intro qc hq
  refine hm.im ?_
  rintro qm ⟨f, hq2⟩
  revert hq hq2 hgr hht
  cases rd_expr (tk_i g n) m rule 8 0 j with
  | inr e =>
    rintro - - ⟨a1, a2⟩ ⟨b1, b2, b3⟩
    exact Or.inl ⟨a1, e.1, e.2, a2.2.1, a2.2.2, b1, b2, b3⟩
  | inl s =>
    rintro hgr hht ⟨a1, a2⟩ ⟨b1, b2, b3, b4, b5⟩
    have hh := hht rfl
    have hg := hgr s rfl
    refine Or.inr ⟨a1, s.1, s.2.1 ++ s.2.2, b1, by rw [List.length_append]; omega, ?_, ⟨⟨k.1.1, k.1.2.1, k.1.2.2.1, k.1.2.2.2.1, (f.ck 60 19 rfl).trans k.1.2.2.2.2.1, by rw [f.ce 67 rfl]; exact k.1.2.2.2.2.2⟩, b3, b4, b2⟩, ?_, hh.1, hh.2⟩
    · rw [← List.append_assoc]; exact x_kh.re h.1 a2
    · rw [← List.append_assoc]; exact b5
end LX
