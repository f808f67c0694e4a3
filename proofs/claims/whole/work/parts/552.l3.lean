section MK
variable {g : Nat → Int32} {n m : Nat} {σ τ : xS} {i : Nat} {W D P : List Int32} {Q : Int32 × xS → Prop} {f4 fu : Nat} {k : Int32} {e : Nat}
theorem x_dp.top {v t : Int32} {row : Nat → Int32} {D' : List Int32} (h : x_dp v row (t :: D')) : v = Int32.ofNat (D'.length + 1) ∧ row (D'.length + 1) = t := by
  refine ⟨h.1, ?_⟩
  rw [h.2 D'.length (by show D'.length < D'.length + 1; omega), List.reverse_cons, List.getD_eq_getElem?_getD, List.getElem?_append_right (by rw [List.length_reverse]; omega), List.length_reverse, Nat.sub_self]
  rfl
theorem hd_sg (H : x_HM g n m σ) {c : Int32} (hs : (tk_i g n i).1 = 3 ∧ (tk_i g n i).2.1 = c) (K : x_ms g n m σ τ i W D P) (h : ∀ R : (Int32 × xS) ⊕ (Int32 × xS) → Prop, (∀ b, Q b → x_ens (some (.inl b)) R) → (∀ a', x_ens (x_it f_Mo_expression_60_L39 fu a') Q → x_ens (some (.inr a')) R) → x_ens (if c = 60 ∨ c = 61 then f_Mo_expression_60_J142 1 τ else f_Mo_expression_60_J201 1 τ) R) : x_hd (fu + 1) Q τ := by
  have hk : f_Mo_knownWord_60 τ = some (x_kw (tk_i g n) i, τ) := s_known H K
  refine x_nx fun R kL kR => ?_
  have h := h R kL kR
  unfold f_Mo_expression_60_L39
  dsimp only
  rw [if_neg (show ¬ (1 : Int32) = 0 by decide), s_good K]
  dsimp only [Option.bind_some]
  rw [if_neg (show ¬ (1 : Int32) = 0 by decide), hk, kw_sg hs.1]
  dsimp only [Option.bind_some]
  rw [if_neg (show ¬ (-1 : Int32) = 19 by decide), if_neg (show ¬ (-1 : Int32) = 20 by decide), s_sign K]
  dsimp only [Option.bind_some]
  by_cases h60 : c = 60
  · rw [if_pos (⟨hs.1, hs.2.trans h60⟩ : (tk_i g n i).1 = 3 ∧ (tk_i g n i).2.1 = 60), if_neg (show ¬ (1 : Int32) = 0 by decide)]
    rw [if_pos (Or.inl h60)] at h; exact h
  · rw [if_neg (fun x : (tk_i g n i).1 = 3 ∧ (tk_i g n i).2.1 = 60 => h60 (hs.2.symm.trans x.2)), if_pos rfl, s_sign K]
    dsimp only [Option.bind_some]
    by_cases h61 : c = 61
    · rw [if_pos (⟨hs.1, hs.2.trans h61⟩ : (tk_i g n i).1 = 3 ∧ (tk_i g n i).2.1 = 61), if_neg (show ¬ (1 : Int32) = 0 by decide)]
      rw [if_pos (Or.inr h61)] at h; exact h
    · rw [if_neg (fun x : (tk_i g n i).1 = 3 ∧ (tk_i g n i).2.1 = 61 => h61 (hs.2.symm.trans x.2)), if_pos rfl]
      rw [if_neg (by rintro (x | x); exact h60 x; exact h61 x)] at h; exact h
theorem hd_cm (H : x_HM g n m σ) {D' w : List Int32} {c a : Int32} (hs : (tk_i g n i).1 = 3 ∧ (tk_i g n i).2.1 = c) (hc : (c = 60 ∧ a = 6) ∨ (c = 61 ∧ a = 7)) (hu : x_und 4 W) (hw : ∀ a, a ∈ w → a < 14 ∧ ¬ sp_st a < 4) (K : x_ms g n m σ τ i (w ++ W) (0 :: D') P) (h : ∀ τ, x_ms g n m σ τ (i + 1) (a :: W) (1 :: D') (P ++ w) → x_op 10000 fu Q 0 τ) : x_hd (fu + 1) Q τ := by
  have hi : i < m := H.lt K.2.2.2.1 (by rw [hs.1]; decide)
  refine hd_sg H hs K fun R kL kR => ?_
  rw [if_pos (hc.elim (fun x => Or.inl x.1) (fun x => Or.inr x.1))]
  obtain ⟨d1, d2⟩ := K.2.2.2.2.2.1.top
  have b2 : D'.length + 1 ≤ 6 := K.2.2.2.2.2.2.2.2.1
  unfold f_Mo_expression_60_J142
  rw [d1, i_cl (by omega), d2]
  refine x_ens.gr (by rintro (h | h) <;> first | exact i_ge (by omega) h | omega | (rw [i_cl (by omega)] at h; omega)) ?_
  rw [if_pos rfl]
  refine x_ens.bi (s_drop H hu hw K) ?_
  intro q hq
  rw [s_sign hq]
  dsimp only [Option.bind_some]
  rcases hc with ⟨rfl, rfl⟩ | ⟨rfl, rfl⟩
  · rw [if_pos hs, if_neg (show ¬ (1 : Int32) = 0 by decide)]
    unfold f_Mo_expression_60_J176
    dsimp only
    refine x_ms.pt H hq hi ?_
    intro q2 hq2
    exact s_opd (h _ hq2) kR
  · rw [if_neg (fun x : (tk_i g n i).1 = 3 ∧ (tk_i g n i).2.1 = 60 => by rw [hs.2] at x; exact absurd x.2 (by decide)), if_pos rfl]
    unfold f_Mo_expression_60_J176
    dsimp only
    refine x_ms.pt H hq hi ?_
    intro q2 hq2
    exact s_opd (h _ hq2) kR
theorem sg_y {c : Int32} (hs : (tk_i g n i).1 = 3 ∧ (tk_i g n i).2.1 = c) (K : x_ms g n m σ τ i W D P) : f_Mo_isSign_60 c τ = some (1, τ) := by rw [s_sign K, if_pos hs]
theorem sg_n {c d : Int32} (hs : (tk_i g n i).1 = 3 ∧ (tk_i g n i).2.1 = c) (hd : ¬ c = d) (K : x_ms g n m σ τ i W D P) : f_Mo_isSign_60 d τ = some (0, τ) := by rw [s_sign K, if_neg (fun x => hd (hs.2.symm.trans x.2))]
theorem hd_sp (H : x_HM g n m σ) {w : List Int32} {c a l : Int32} (hs : (tk_i g n i).1 = 3 ∧ (tk_i g n i).2.1 = c) (hc : (c = 43 ∧ a = 8 ∧ l = 5) ∨ (c = 45 ∧ a = 9 ∧ l = 5) ∨ (c = 42 ∧ a = 10 ∧ l = 6) ∨ (c = 47 ∧ a = 11 ∧ l = 6)) (hu : x_und l W) (hw : ∀ a, a ∈ w → a < 14 ∧ ¬ sp_st a < l) (K : x_ms g n m σ τ i (w ++ W) D P) (h : ∀ τ, x_ms g n m σ τ (i + 1) (a :: W) D (P ++ w) → x_op 10000 fu Q 0 τ) : x_hd (fu + 1) Q τ := by
  have hi : i < m := H.lt K.2.2.2.1 (by rw [hs.1]; decide)
  refine hd_sg H hs K fun R kL kR => ?_
  unfold f_Mo_expression_60_J201
  rcases hc with ⟨rfl, rfl, rfl⟩ | ⟨rfl, rfl, rfl⟩ | ⟨rfl, rfl, rfl⟩ | ⟨rfl, rfl, rfl⟩
  · rw [if_neg (show ¬ ((43 : Int32) = 60 ∨ (43 : Int32) = 61) by decide), sg_y hs K]
    dsimp only [Option.bind_some]
    rw [if_neg (show ¬ (1 : Int32) = 0 by decide)]
    unfold f_Mo_expression_60_J219
    refine x_ens.bi (s_drop H hu hw K) ?_
    intro q hq
    rw [sg_y hs hq]
    dsimp only [Option.bind_some]
    rw [if_neg (show ¬ (1 : Int32) = 0 by decide)]
    refine hq.pg H hi ?_
    intro q2 hq2
    exact s_opd (h _ hq2) kR
  · rw [if_neg (show ¬ ((45 : Int32) = 60 ∨ (45 : Int32) = 61) by decide), sg_n hs (show ¬ (45 : Int32) = 43 by decide) K]
    dsimp only [Option.bind_some]
    rw [if_pos rfl, sg_y hs K]
    dsimp only [Option.bind_some]
    rw [if_neg (show ¬ (1 : Int32) = 0 by decide)]
    unfold f_Mo_expression_60_J219
    refine x_ens.bi (s_drop H hu hw K) ?_
    intro q hq
    rw [sg_n hs (show ¬ (45 : Int32) = 43 by decide) hq]
    dsimp only [Option.bind_some]
    rw [if_pos rfl]
    refine hq.pg H hi ?_
    intro q2 hq2
    exact s_opd (h _ hq2) kR
  · rw [if_neg (show ¬ ((42 : Int32) = 60 ∨ (42 : Int32) = 61) by decide), sg_n hs (show ¬ (42 : Int32) = 43 by decide) K]
    dsimp only [Option.bind_some]
    rw [if_pos rfl, sg_n hs (show ¬ (42 : Int32) = 45 by decide) K]
    dsimp only [Option.bind_some]
    rw [if_pos rfl, sg_y hs K]
    dsimp only [Option.bind_some]
    rw [if_neg (show ¬ (1 : Int32) = 0 by decide)]
    unfold f_Mo_expression_60_J274
    refine x_ens.bi (s_drop H hu hw K) ?_
    intro q hq
    rw [sg_y hs hq]
    dsimp only [Option.bind_some]
    rw [if_neg (show ¬ (1 : Int32) = 0 by decide)]
    refine hq.pg H hi ?_
    intro q2 hq2
    exact s_opd (h _ hq2) kR
  · rw [if_neg (show ¬ ((47 : Int32) = 60 ∨ (47 : Int32) = 61) by decide), sg_n hs (show ¬ (47 : Int32) = 43 by decide) K]
    dsimp only [Option.bind_some]
    rw [if_pos rfl, sg_n hs (show ¬ (47 : Int32) = 45 by decide) K]
    dsimp only [Option.bind_some]
    rw [if_pos rfl, sg_n hs (show ¬ (47 : Int32) = 42 by decide) K]
    dsimp only [Option.bind_some]
    rw [if_pos rfl, sg_y hs K]
    dsimp only [Option.bind_some]
    rw [if_neg (show ¬ (1 : Int32) = 0 by decide)]
    unfold f_Mo_expression_60_J274
    refine x_ens.bi (s_drop H hu hw K) ?_
    intro q hq
    rw [sg_n hs (show ¬ (47 : Int32) = 42 by decide) hq]
    dsimp only [Option.bind_some]
    rw [if_pos rfl]
    refine hq.pg H hi ?_
    intro q2 hq2
    exact s_opd (h _ hq2) kR
theorem s_opnd_L : ∀ (W : List Int32) (fu : Nat), W.length < fu → W.length < 900 → x_li (Int32.ofNat W.length) (τ.1 77) W.reverse → x_ens (x_it f_Mo_isOpened_60_L7 fu (Int32.ofNat W.length - 1, τ)) (fun b => b.2 = τ ∧ (b.1 < 0 ↔ ∀ a, a ∈ W → a < 14))
  | W, 0, h, _, _ => by omega
  | [], fu + 1, _, _, _ => by
    refine x_nx fun R kL kR => ?_
    unfold f_Mo_isOpened_60_L7
    dsimp only
    rw [if_pos (show Int32.ofNat ([] : List Int32).length - 1 < 0 by decide)]
    exact kL _ ⟨rfl, ⟨fun _ a h => (nomatch h), fun _ => (show Int32.ofNat 0 - 1 < 0 by decide)⟩⟩
  | a :: W, fu + 1, h, hb, hx => by
    have h' : W.length + 1 < fu + 1 := h
    have hb' : W.length + 1 < 900 := hb
    rw [List.reverse_cons] at hx
    obtain ⟨p1, p2, p3⟩ := hx.pop
    rw [List.length_reverse] at p2 p3
    refine x_nx fun R kL kR => ?_
    unfold f_Mo_isOpened_60_L7
    dsimp only
    have e1 : Int32.ofNat (a :: W).length - 1 = Int32.ofNat W.length := i_m1'
    rw [e1, if_neg (i_ge (by omega)), i_cl (by omega), p2]
    refine x_ens.gr (by rintro (h | h) <;> first | exact i_ge (by omega) h | omega | (rw [i_cl (by omega)] at h; omega)) ?_
    rw [e_open]
    dsimp only [Option.bind_some]
    by_cases ho : a < 14
    · rw [if_pos ho, if_pos rfl]
      refine kR _ ?_
      have e2 : Int32.ofNat W.length + -1 = Int32.ofNat W.length - 1 := by grind
      rw [e2]
      refine (s_opnd_L W fu (by omega) (by omega) p3).im ?_
      rintro b ⟨b1, b2⟩
      refine ⟨b1, ⟨fun x c hc => ?_, fun x => b2.mpr (fun c hc => x c (List.mem_cons_of_mem _ hc))⟩⟩
      rcases List.mem_cons.mp hc with rfl | hc
      · exact ho
      · exact b2.mp x c hc
    · rw [if_neg ho, if_neg (show ¬ (1 : Int32) = 0 by decide)]
      exact kL _ ⟨rfl, ⟨fun x => absurd x (i_ge (by omega)), fun x => absurd (x a (List.mem_cons_self ..)) ho⟩⟩
theorem s_opnd (H : x_HM g n m σ) (K : x_ms g n m σ τ i W D P) : x_ens (f_Mo_isOpened_60 τ) (fun q => q.2 = τ ∧ ((q.1 = 0 ∧ ∀ a, a ∈ W → a < 14) ∨ (q.1 = 1 ∧ ¬ ∀ a, a ∈ W → a < 14))) := by
  obtain ⟨f, h16, ht, hi, hw, hd, hp, b1, b2, b3⟩ := K
  have := H.1
  have := H.2.1
  have e : τ.1 60 41 = Int32.ofNat W.length := by rw [hw.1, List.length_reverse]
  unfold f_Mo_isOpened_60
  dsimp only
  rw [e]
  rw [e] at hw
  refine x_ens.bi (s_opnd_L W 10000 (by omega) (by omega) hw) ?_
  rintro b ⟨x1, x2⟩
  by_cases h : b.1 < 0
  · rw [if_pos h]; exact x_ens.so ⟨x1, Or.inl ⟨rfl, x2.mp h⟩⟩
  · rw [if_neg h]; exact x_ens.so ⟨x1, Or.inr ⟨rfl, fun x => h (x2.mpr x)⟩⟩
theorem hd_cl (H : x_HM g n m σ) {w : List Int32} {t : Int32} (hs : (tk_i g n i).1 = 3 ∧ (tk_i g n i).2.1 = 41) (hw : ∀ a, a ∈ w → a < 14 ∧ ¬ sp_st a < 0) (K : x_ms g n m σ τ i (w ++ 14 :: W) (t :: D) P) (h : ∀ τ, x_ms g n m σ τ (i + 1) W D (P ++ w) → x_hd fu Q τ) : x_hd (fu + 1) Q τ := by
  have hi : i < m := H.lt K.2.2.2.1 (by rw [hs.1]; decide)
  refine hd_sg H hs K fun R kL kR => ?_
  rw [if_neg (show ¬ ((41 : Int32) = 60 ∨ (41 : Int32) = 61) by decide)]
  unfold f_Mo_expression_60_J201
  rw [sg_n hs (show ¬ (41 : Int32) = 43 by decide) K]
  dsimp only [Option.bind_some]
  rw [if_pos rfl, sg_n hs (show ¬ (41 : Int32) = 45 by decide) K]
  dsimp only [Option.bind_some]
  rw [if_pos rfl, sg_n hs (show ¬ (41 : Int32) = 42 by decide) K]
  dsimp only [Option.bind_some]
  rw [if_pos rfl, sg_n hs (show ¬ (41 : Int32) = 47 by decide) K]
  dsimp only [Option.bind_some]
  rw [if_pos rfl, sg_y hs K]
  dsimp only [Option.bind_some]
  rw [if_neg (show ¬ (1 : Int32) = 0 by decide)]
  refine x_ens.bi (s_opnd H K) ?_
  rintro q ⟨q1, q2⟩
  rcases q2 with ⟨-, x⟩ | ⟨q2, -⟩
  · exact absurd (x 14 (List.mem_append_right _ (List.mem_cons_self ..))) (by decide)
  rw [q2, q1, if_neg (show ¬ (1 : Int32) = 0 by decide)]
  refine x_ens.bi (P := fun q => x_hd fu Q q.2) ?_ (fun q hq => kR _ hq)
  unfold f_Mo_closes_60
  refine x_ens.bi (s_drop H (Or.inr ⟨14, W, rfl, Or.inl (by decide)⟩) hw K) ?_
  intro q3 K3
  obtain ⟨f, h16, ht, hi', hw', hd, hp, b1, b2, b3⟩ := K3
  have b1' : W.length + 1 ≤ i := b1
  have b2' : D.length + 1 ≤ 6 := b2
  have b3' : (P ++ w).length + 2 * (W.length + 1) ≤ 2 * i + 20 := b3
  rw [List.reverse_cons] at hw'
  obtain ⟨p1, p2, p3⟩ := hw'.pop
  rw [List.length_reverse] at p1 p2 p3
  obtain ⟨d1, -⟩ := hd.top
  dsimp only
  rw [p1, i_m1', x_pI_kn (show 42 ≠ 41 by omega), d1, i_m1']
  have g1 : x_fr x_WE σ (x_pI (x_pI q3.2 60 41 (Int32.ofNat W.length)) 60 42 (Int32.ofNat D.length)) := x_frI (p := 60) (k := 42) rfl (x_frI (p := 60) (k := 41) rfl f)
  refine x_ens.bi (s_goes (i := i) H (by omega) g1 (by rw [x_pI_kn (by omega), x_pI_kn (by omega)]; exact ht.1)) ?_
  rintro q4 ⟨h1, f2⟩
  rw [tk_ad_lt hi] at h1
  refine x_ens.so (h _ ⟨x_fr.trans g1 (x_fr.su f2 rfl), by rw [f2.ck 60 16 rfl, x_pI_kn (by omega), x_pI_kn (by omega)]; exact h16, h1, by omega, ?_, ⟨?_, ?_⟩, ?_, by omega, by omega, by omega⟩)
  · rw [f2.ck 60 41 rfl, f2.ce 77 rfl, x_pI_kn (by omega), x_pI_kk, y_pI_ne (by omega), y_pI_ne (by omega)]; exact p3
  · rw [f2.ck 60 42 rfl, x_pI_kk]
  · intro j hj
    have := hd.2 j (by show j < D.length + 1; omega)
    rw [List.reverse_cons, List.getD_eq_getElem?_getD, List.getElem?_append_left (by rw [List.length_reverse]; omega), ← List.getD_eq_getElem?_getD] at this
    rw [f2.ce 78 rfl, y_pI_ne (by omega), y_pI_ne (by omega)]
    exact this
  · rw [f2.ck 60 40 rfl, f2.ce 76 rfl, x_pI_kn (by omega), x_pI_kn (by omega), y_pI_ne (by omega), y_pI_ne (by omega)]; exact hp
def x_no (T : tT) (i : Nat) (t : Int32) : Prop := op_6 T i = none ∧ op_5 T i = none ∧ (op_4 T i = none ∨ ¬ t = 0) ∧ op_2 T i = none ∧ op_1 T i = none
theorem op_n2 {p q : Prop} [Decidable p] [Decidable q] {a b : Int32} (h : (if p then some a else if q then some b else none) = none) : ¬ p ∧ ¬ q := by
  split at h
  · cases h
  · split at h
    · cases h
    · rename_i x y; exact ⟨x, y⟩
theorem op_n1 {p : Prop} [Decidable p] {a : Int32} (h : (if p then some a else none) = none) : ¬ p := by
  split at h
  · cases h
  · rename_i x; exact x
theorem hd_no (H : x_HM g n m σ) {t : Int32} {D' : List Int32} (hn : x_no (tk_i g n) i t) (hc : ¬ ((tk_i g n i).1 = 3 ∧ (tk_i g n i).2.1 = 41) ∨ ∀ a, a ∈ W → a < 14) (K : x_ms g n m σ τ i W (t :: D') P) (h : Q (0, τ)) : x_hd (fu + 2) Q τ := by
  have hk : f_Mo_knownWord_60 τ = some (x_kw (tk_i g n) i, τ) := s_known H K
  obtain ⟨n6, n5, n4, n2, n1⟩ := hn
  obtain ⟨a1, a2⟩ := op_n2 n6
  obtain ⟨a3, a4⟩ := op_n2 n5
  have a5 := op_n1 n2
  have a6 := op_n1 n1
  refine x_nx fun R kL kR => ?_
  have fin : x_ens (f_Mo_expression_60_J201 1 τ) R := by
    have out : x_ens (some (.inr ((0 : Int32), τ))) R := by
      refine kR _ (x_nx fun R kL kR => ?_)
      unfold f_Mo_expression_60_L39
      dsimp only
      rw [if_pos rfl]
      exact kL _ h
    unfold f_Mo_expression_60_J201
    rw [s_sign K, if_neg a3]
    dsimp only [Option.bind_some]
    rw [if_pos rfl, s_sign K, if_neg a4]
    dsimp only [Option.bind_some]
    rw [if_pos rfl, s_sign K, if_neg a1]
    dsimp only [Option.bind_some]
    rw [if_pos rfl, s_sign K, if_neg a2]
    dsimp only [Option.bind_some]
    rw [if_pos rfl, s_sign K]
    dsimp only [Option.bind_some]
    by_cases h41 : (tk_i g n i).1 = 3 ∧ (tk_i g n i).2.1 = 41
    · rw [if_pos h41, if_neg (show ¬ (1 : Int32) = 0 by decide)]
      refine x_ens.bi (s_opnd H K) ?_
      rintro q ⟨q1, q2⟩
      rcases q2 with ⟨q2, -⟩ | ⟨-, x⟩
      · rw [q2, q1, if_pos rfl]; exact out
      · exact absurd (hc.resolve_left (fun y => y h41)) x
    · rw [if_neg h41, if_pos rfl]; exact out
  have f42 : op_4 (tk_i g n) i ≠ none → x_ens (f_Mo_expression_60_J142 1 τ) R := by
    intro hx
    obtain ⟨d1, d2⟩ := K.2.2.2.2.2.1.top
    have b2 : D'.length + 1 ≤ 6 := K.2.2.2.2.2.2.2.2.1
    unfold f_Mo_expression_60_J142
    rw [d1, i_cl (by omega), d2]
    refine x_ens.gr (by rintro (h | h) <;> first | exact i_ge (by omega) h | omega | (rw [i_cl (by omega)] at h; omega)) ?_
    rw [if_neg (n4.resolve_left hx)]
    exact fin
  unfold f_Mo_expression_60_L39
  dsimp only
  rw [if_neg (show ¬ (1 : Int32) = 0 by decide), s_good K]
  dsimp only [Option.bind_some]
  rw [if_neg (show ¬ (1 : Int32) = 0 by decide), hk]
  dsimp only [Option.bind_some]
  rw [if_neg (fun x => a5 (kw_is.1.mp x)), if_neg (fun x => a6 (kw_is.2.1.mp x)), s_sign K]
  dsimp only [Option.bind_some]
  by_cases h60 : (tk_i g n i).1 = 3 ∧ (tk_i g n i).2.1 = 60
  · rw [if_pos h60, if_neg (show ¬ (1 : Int32) = 0 by decide)]
    exact f42 (by unfold op_4; rw [if_pos h60]; exact fun x => by cases x)
  · rw [if_neg h60, if_pos rfl, s_sign K]
    dsimp only [Option.bind_some]
    by_cases h61 : (tk_i g n i).1 = 3 ∧ (tk_i g n i).2.1 = 61
    · rw [if_pos h61, if_neg (show ¬ (1 : Int32) = 0 by decide)]
      exact f42 (by unfold op_4; rw [if_neg h60, if_pos h61]; exact fun x => by cases x)
    · rw [if_neg h61, if_pos rfl]; exact fin
end MK
