abbrev x_WE : List (Nat × Nat) := [(60, 16), (60, 17), (60, 20), (60, 21), (60, 22), (60, 23), (60, 24), (60, 25), (60, 26), (60, 40), (60, 41), (60, 42), (76, 99999), (77, 99999), (78, 99999)]
def x_HM (g : Nat → Int32) (n m : Nat) (σ : xS) : Prop := n ≤ 700 ∧ m ≤ n ∧ tk_i g n m = (0, 0, n, n) ∧ (∀ j, j < m → ¬ (tk_i g n j).1 = 0) ∧ σ.1 60 19 = Int32.ofNat n ∧ ∀ i, i < n → σ.1 67 i = g i
def x_dp (v : Int32) (row : Nat → Int32) (D : List Int32) : Prop := v = Int32.ofNat D.length ∧ ∀ j, j < D.length → row (j + 1) = D.reverse.getD j 0
def x_ms (g : Nat → Int32) (n m : Nat) (σ τ : xS) (i : Nat) (W D P : List Int32) : Prop :=
  x_fr x_WE σ τ ∧ τ.1 60 16 = 0 ∧ x_mt g n τ (tk_i g n i) ∧ i ≤ m ∧ x_li (τ.1 60 41) (τ.1 77) W.reverse ∧ x_dp (τ.1 60 42) (τ.1 78) D ∧ x_li (τ.1 60 40) (τ.1 76) P ∧ W.length ≤ i ∧ D.length ≤ 6 ∧ P.length + 2 * W.length ≤ 2 * i + 20
def x_mf (g : Nat → Int32) (n m : Nat) (σ τ : xS) (k : Int32) (e : Nat) : Prop :=
  x_fr x_WE σ τ ∧ ¬ k = 0 ∧ τ.1 60 16 = k ∧ τ.1 60 17 = Int32.ofNat (tk_i g n e).2.2.1 ∧ (∃ a b : Nat, τ.1 60 41 = Int32.ofNat a ∧ a ≤ 710 ∧ τ.1 60 40 = Int32.ofNat b ∧ b ≤ 1500)
section MS
variable {g : Nat → Int32} {n m : Nat} {σ τ : xS} {i : Nat} {W D P : List Int32}
theorem tk_i_m (H : x_HM g n m σ) (hi : i ≤ m) : tk g n (tk_i g n i).2.2.2 = tk_i g n (tk_ad m i) := by
  unfold tk_ad
  by_cases h : i < m
  · rw [if_pos h]; rfl
  · rw [if_neg h, show i = m by omega, H.2.2.1]; exact tk_n_end
theorem s_goes (H : x_HM g n m σ) (hi : i ≤ m) (f : x_fr x_WE σ τ) (ht : τ.1 60 20 = Int32.ofNat (tk_i g n i).2.2.2) : x_ens (f_Mo_goes_60 τ) (fun q => x_mt g n q.2 (tk_i g n (tk_ad m i)) ∧ x_fr [(60, 20), (60, 21), (60, 22), (60, 23), (60, 24), (60, 25), (60, 26)] τ q.2) := by
  obtain ⟨q, e, h⟩ := m_goes (g := g) (n := n) H.1 (tk_i_nx (i := i)).1 ht ((f.ck 60 19 rfl).trans H.2.2.2.2.1) (by rw [f.ce 67 rfl]; exact H.2.2.2.2.2)
  rw [tk_i_m H hi] at h
  exact ⟨q, e, h, fr_Mo_goes_60 e⟩
theorem s_known (H : x_HM g n m σ) (K : x_ms g n m σ τ i W D P) : f_Mo_knownWord_60 τ = some (if (tk_i g n i).1 = 1 then tk_km.getD (tk_i g n i).2.1.toNatClampNeg 0 else -1, τ) :=
  e_known K.2.2.1 (by have := (@tk_i_nx g n i).1; have := H.1; omega)
theorem s_sign (K : x_ms g n m σ τ i W D P) (c : Int32) : f_Mo_isSign_60 c τ = some (if (tk_i g n i).1 = 3 ∧ (tk_i g n i).2.1 = c then 1 else 0, τ) := by
  obtain ⟨-, -, ⟨-, h21, -, -, -, h25, -⟩, -⟩ := K
  unfold f_Mo_isSign_60
  rw [h21]
  by_cases h : (tk_i g n i).1 = 3
  · rw [if_pos h, h25 h]
    by_cases h2 : (tk_i g n i).2.1 = c
    · rw [if_pos h2, if_pos ⟨h, h2⟩]
    · rw [if_neg h2, if_neg (fun x => h2 x.2)]
  · rw [if_neg h, if_neg (fun x => h x.1)]
theorem s_good (K : x_ms g n m σ τ i W D P) : f_Mo_isGood_60 τ = some (1, τ) := by
  unfold f_Mo_isGood_60; rw [if_pos K.2.1]
theorem s_bad {k : Int32} {e : Nat} (K : x_mf g n m σ τ k e) : f_Mo_isGood_60 τ = some (0, τ) := by
  unfold f_Mo_isGood_60; rw [if_neg (by rw [K.2.2.1]; exact K.2.1)]
theorem s_wrong (H : x_HM g n m σ) (K : x_ms g n m σ τ i W D P) {k : Int32} (hk : ¬ k = 0) : x_ens (f_Mo_wrong_60 k τ) (fun q => x_mf g n m σ q.2 k i ∧ x_fr [(60, 16), (60, 17)] τ q.2) := by
  obtain ⟨f, h16, ⟨-, -, h22, -⟩, hi, hw, -, hp, b1, -, b3⟩ := K
  have := H.1
  have := H.2.1
  unfold f_Mo_wrong_60
  rw [if_pos h16]
  dsimp only
  have e22 : (x_pI τ 60 16 k).1 60 22 = Int32.ofNat (tk_i g n i).2.2.1 := by rw [x_pI_kn (by omega)]; exact h22
  rw [e22]
  refine x_ens.so ⟨⟨x_frI (p := 60) (k := 17) rfl (x_frI (p := 60) (k := 16) rfl f), hk, ?_, x_pI_kk, W.length, P.length, ?_, by omega, ?_, by omega⟩, x_frI (p := 60) (k := 17) rfl (x_frI (p := 60) (k := 16) rfl x_fr.rf)⟩
  · rw [x_pI_kn (by omega)]; exact x_pI_kk
  · rw [x_pI_kn (by omega), x_pI_kn (by omega), hw.1, List.length_reverse]
  · rw [x_pI_kn (by omega), x_pI_kn (by omega)]; exact hp.1
theorem x_li.pop {v : Int32} {row : Nat → Int32} {l : List Int32} {a : Int32} (h : x_li v row (l ++ [a])) : v = Int32.ofNat (l.length + 1) ∧ row l.length = a ∧ x_li (Int32.ofNat l.length) row l := by
  obtain ⟨h1, h2⟩ := h
  rw [List.length_append] at h1 h2
  refine ⟨h1, ?_, rfl, fun j hj => ?_⟩
  · rw [h2 l.length (by show l.length < l.length + 1; omega), List.getD_eq_getElem?_getD, List.getElem?_append_right (Nat.le_refl _), Nat.sub_self]; rfl
  · rw [h2 j (by show j < l.length + 1; omega), List.getD_eq_getElem?_getD, List.getD_eq_getElem?_getD, List.getElem?_append_left hj]
theorem s_puts {v : Int32} (h : x_li (τ.1 60 40) (τ.1 76) P) (hb : P.length < 4200) : x_ens (f_Mo_puts_60 v τ) (fun q => x_li (q.2.1 60 40) (q.2.1 76) (P ++ [v]) ∧ x_fr [(60, 40), (76, 99999)] τ q.2) := by
  unfold f_Mo_puts_60
  have e : (x_pI τ 76 P.length v).1 60 40 = Int32.ofNat P.length := by rw [y_pI_ne (by omega)]; exact h.1
  rw [h.1, i_cl (by omega)]
  refine x_ens.gr (by rintro (h | h) <;> first | exact i_ge (by omega) h | omega | (rw [i_cl (by omega)] at h; omega)) ?_
  dsimp only
  rw [e, i_s]
  refine x_ens.so ⟨?_, x_frI (p := 60) (k := 40) rfl (x_frI (p := 76) rfl x_fr.rf)⟩
  have := h.app (v := v)
  rw [h.1, i_s] at this
  rw [x_pI_kk, y_pI_ne (q := 76) (by omega), x_pI_up]
  exact this
theorem x_ms.put (H : x_HM g n m σ) (K : x_ms g n m σ τ i W D P) {v : Int32} {j : Nat} (hb : P.length + 1 + 2 * W.length ≤ 2 * i + 20) : x_ens (f_Mo_puts_60 v τ) (fun q => x_ms g n m σ q.2 i W D (P ++ [v]) ∧ q.2.1 60 24 = τ.1 60 24) := by
  obtain ⟨f, h16, ht, hi, hw, hd, hp, b1, b2, b3⟩ := K
  have := H.1
  have := H.2.1
  refine (s_puts (v := v) hp (by omega)).im ?_
  rintro q ⟨h1, f1⟩
  refine ⟨⟨x_fr.trans f (x_fr.su f1 rfl), by rw [f1.ck 60 16 rfl]; exact h16, ?_, hi, ?_, ?_, h1, b1, b2, by rw [List.length_append]; show P.length + 1 + _ ≤ _; omega⟩, f1.ck 60 24 rfl⟩
  · unfold x_mt
    rw [f1.ck 60 20 rfl, f1.ck 60 21 rfl, f1.ck 60 22 rfl, f1.ck 60 23 rfl, f1.ck 60 24 rfl, f1.ck 60 25 rfl, f1.2 60 26 rfl]
    exact ht
  · rw [f1.ck 60 41 rfl, f1.ce 77 rfl]; exact hw
  · unfold x_dp; rw [f1.ck 60 42 rfl, f1.ce 78 rfl]; exact hd
theorem x_ms.go (H : x_HM g n m σ) (K : x_ms g n m σ τ i W D P) : x_ens (f_Mo_goes_60 τ) (fun q => x_ms g n m σ q.2 (tk_ad m i) W D P) := by
  obtain ⟨f, h16, ht, hi, hw, hd, hp, b1, b2, b3⟩ := K
  have hle := tk_ad_b hi
  refine (s_goes H hi f ht.1).im ?_
  rintro q ⟨h1, f1⟩
  refine ⟨x_fr.trans f (x_fr.su f1 rfl), by rw [f1.ck 60 16 rfl]; exact h16, h1, hle.1, ?_, ?_, ?_, by omega, b2, by omega⟩
  · rw [f1.ck 60 41 rfl, f1.ce 77 rfl]; exact hw
  · unfold x_dp; rw [f1.ck 60 42 rfl, f1.ce 78 rfl]; exact hd
  · rw [f1.ck 60 40 rfl, f1.ce 76 rfl]; exact hp
theorem s_push (H : x_HM g n m σ) (K : x_ms g n m σ τ i W D P) (hi : i < m) {a : Int32} : x_ens (f_Mo_waitsFor_60 a τ) (fun q => x_fr [(60, 41), (77, 99999)] τ q.2 ∧ x_li (q.2.1 60 41) (q.2.1 77) (a :: W).reverse) := by
  obtain ⟨f, h16, ht, -, hw, hd, hp, b1, b2, b3⟩ := K
  have := H.1
  have := H.2.1
  have hl : W.reverse.length = W.length := List.length_reverse
  unfold f_Mo_waitsFor_60
  have e : (x_pI τ 77 W.length a).1 60 41 = Int32.ofNat W.length := by rw [y_pI_ne (by omega), hw.1, hl]
  rw [hw.1, hl, i_cl (by omega)]
  refine x_ens.gr (by rintro (h | h) <;> first | exact i_ge (by omega) h | omega | (rw [i_cl (by omega)] at h; omega)) ?_
  dsimp only
  rw [e, i_s]
  refine x_ens.so ⟨x_frI (p := 60) (k := 41) rfl (x_frI (p := 77) rfl x_fr.rf), ?_⟩
  have := hw.app (v := a)
  rw [hw.1, hl, i_s] at this
  rw [x_pI_kk, y_pI_ne (q := 77) (by omega), x_pI_up, List.reverse_cons]
  exact this
theorem x_ms.pg (H : x_HM g n m σ) (K : x_ms g n m σ τ i W D P) (hi : i < m) {a : Int32} {β : Type} {k : Unit × xS → Option β} {Q : β → Prop} (hk : ∀ q : Unit × xS, x_ms g n m σ q.2 (i + 1) (a :: W) D P → x_ens (k q) Q) : x_ens ((f_Mo_waitsFor_60 a τ).bind fun q3 => (f_Mo_goes_60 q3.2).bind k) Q := by
  refine x_ens.bi (s_push (a := a) H K hi) ?_
  rintro q3 ⟨f1, l1⟩
  obtain ⟨f, h16, ht, -, hw, hd, hp, b1, b2, b3⟩ := K
  have := tk_ad_lt hi
  refine x_ens.bi (s_goes (i := i) H (by omega) (x_fr.trans f (x_fr.su f1 rfl)) (by rw [f1.ck 60 20 rfl]; exact ht.1)) ?_
  rintro q ⟨h1, f2⟩
  rw [tk_ad_lt hi] at h1
  refine hk q ⟨x_fr.trans (x_fr.trans f (x_fr.su f1 rfl)) (x_fr.su f2 rfl), by rw [f2.ck 60 16 rfl, f1.ck 60 16 rfl]; exact h16, h1, by omega, ?_, ?_, ?_, by show W.length + 1 ≤ i + 1; omega, b2, by show P.length + 2 * (W.length + 1) ≤ _; omega⟩
  · rw [f2.ck 60 41 rfl, f2.ce 77 rfl]; exact l1
  · unfold x_dp; rw [f2.ck 60 42 rfl, f2.ce 78 rfl, f1.ck 60 42 rfl, f1.ce 78 rfl]; exact hd
  · rw [f2.ck 60 40 rfl, f2.ce 76 rfl, f1.ck 60 40 rfl, f1.ce 76 rfl]; exact hp
theorem x_ms.pt (H : x_HM g n m σ) {t : Int32} {D' : List Int32} (K : x_ms g n m σ τ i W (t :: D') P) (hi : i < m) {a v : Int32} {β : Type} {k : Unit × xS → Option β} {Q : β → Prop} (hk : ∀ q : Unit × xS, x_ms g n m σ q.2 (i + 1) (a :: W) (v :: D') P → x_ens (k q) Q) : x_ens ((f_Mo_waitsFor_60 a τ).bind fun q24 => if q24.2.1 60 42 < 0 ∨ 9 ≤ (q24.2.1 60 42).toNatClampNeg then none else (f_Mo_goes_60 (x_pI q24.2 78 (q24.2.1 60 42).toNatClampNeg v)).bind k) Q := by
  refine x_ens.bi (s_push (a := a) H K hi) ?_
  rintro q3 ⟨f1, l1⟩
  obtain ⟨f, h16, ht, -, hw, hd, hp, b1, b2, b3⟩ := K
  have hdl : (t :: D').length = D'.length + 1 := rfl
  have e42 : q3.2.1 60 42 = Int32.ofNat (D'.length + 1) := by rw [f1.ck 60 42 rfl]; exact hd.1
  rw [e42, i_cl (by omega)]
  refine x_ens.gr (by rintro (h | h) <;> first | exact i_ge (by omega) h | omega | (rw [i_cl (by omega)] at h; omega)) ?_
  have g1 : x_fr x_WE σ (x_pI q3.2 78 (D'.length + 1) v) := x_frI (p := 78) rfl (x_fr.trans f (x_fr.su f1 rfl))
  refine x_ens.bi (s_goes (i := i) H (by omega) g1 (by rw [y_pI_ne (by omega), f1.ck 60 20 rfl]; exact ht.1)) ?_
  rintro q ⟨h1, f2⟩
  rw [tk_ad_lt hi] at h1
  refine hk q ⟨x_fr.trans g1 (x_fr.su f2 rfl), by rw [f2.ck 60 16 rfl, y_pI_ne (by omega), f1.ck 60 16 rfl]; exact h16, h1, by omega, ?_, ⟨?_, ?_⟩, ?_, by show W.length + 1 ≤ i + 1; omega, b2, by show P.length + 2 * (W.length + 1) ≤ _; omega⟩
  · rw [f2.ck 60 41 rfl, f2.ce 77 rfl, y_pI_ne (by omega), y_pI_ne (by omega)]; exact l1
  · rw [f2.ck 60 42 rfl, y_pI_ne (by omega), e42]; rfl
  · intro j hj
    have hj' : j < D'.length + 1 := hj
    rw [f2.ce 78 rfl, x_pI_up, List.reverse_cons]
    by_cases e : j = D'.length
    · subst e
      rw [sp_up_eq, List.getD_eq_getElem?_getD, List.getElem?_append_right (by rw [List.length_reverse]; omega), List.length_reverse, Nat.sub_self]; rfl
    · have := hd.2 j hj'
      rw [List.reverse_cons, List.getD_eq_getElem?_getD, List.getElem?_append_left (by rw [List.length_reverse]; omega)] at this
      rw [sp_up_ne (by omega), f1.ce 78 rfl, List.getD_eq_getElem?_getD, List.getElem?_append_left (by rw [List.length_reverse]; omega)]
      exact this
  · rw [f2.ck 60 40 rfl, f2.ce 76 rfl, y_pI_ne (by omega), y_pI_ne (by omega), f1.ck 60 40 rfl, f1.ce 76 rfl]; exact hp
def sp_st (a : Int32) : Int32 := if a = 5 then 1 else if a = 4 then 2 else if a = 3 then 3 else if a = 6 then 4 else if a = 7 then 4 else if a = 8 then 5 else if a = 9 then 5 else 6
theorem e_st {a : Int32} {υ : xS} : f_Mo_strength a υ = some (sp_st a, υ) := by
  unfold f_Mo_strength sp_st; (repeat' split) <;> rfl
theorem e_open {a : Int32} {υ : xS} : f_Mo_isOpen a υ = some (if a < 14 then 0 else 1, υ) := by
  unfold f_Mo_isOpen; split <;> rfl
def x_und (l : Int32) (W : List Int32) : Prop := W = [] ∨ ∃ a W', W = a :: W' ∧ (¬ a < 14 ∨ sp_st a < l)
theorem s_drops (H : x_HM g n m σ) {l : Int32} (hu : x_und l W) : ∀ (w : List Int32) (fu : Nat) (τ : xS) (P : List Int32), (∀ a, a ∈ w → a < 14 ∧ ¬ sp_st a < l) → w.length < fu → x_ms g n m σ τ i (w ++ W) D P → x_ens (x_it (f_Mo_drops_60_L0 l) fu τ) (fun b => x_ms g n m σ b i W D (P ++ w))
  | w, 0, τ, P, _, h, _ => by omega
  | [], fu + 1, τ, P, hw, _, K => by
    refine x_nx fun Q kL kR => ?_
    have := H.1
    have := H.2.1
    obtain ⟨f, h16, ht, hi, hw', hd, hp, b1, b2, b3⟩ := id K
    unfold f_Mo_drops_60_L0
    dsimp only
    rw [List.nil_append] at K hw' b1
    rcases hu with rfl | ⟨a, W', rfl, ha⟩
    · rw [hw'.1, if_pos (by show Int32.ofNat 0 ≤ 0; decide)]
      refine kL _ ?_
      rw [List.append_nil]; exact K
    · rw [List.reverse_cons] at hw'
      obtain ⟨p1, p2, -⟩ := hw'.pop
      rw [List.length_reverse] at p1 p2
      have hb : W'.length + 1 ≤ i := b1
      rw [p1, if_neg (by rw [← i_z, i_le (by omega) (by omega)]; omega), i_m1', i_cl (by omega), p2]
      refine x_ens.gr (by rintro (h | h) <;> first | exact i_ge (by omega) h | omega | (rw [i_cl (by omega)] at h; omega)) ?_
      rw [e_open]
      dsimp only [Option.bind_some]
      by_cases ho : a < 14
      · rw [if_pos ho, if_pos rfl, p1, i_m1', i_cl (by omega), p2]
        refine x_ens.gr (by rintro (h | h) <;> first | exact i_ge (by omega) h | omega | (rw [i_cl (by omega)] at h; omega)) ?_
        rw [e_st]
        dsimp only [Option.bind_some]
        rw [if_pos (ha.resolve_left (fun x => x ho))]
        refine kL _ ?_
        rw [List.append_nil]; exact K
      · rw [if_neg ho, if_neg (by decide)]
        refine kL _ ?_
        rw [List.append_nil]; exact K
  | a :: w, fu + 1, τ, P, hw, h, K => by
    refine x_nx fun Q kL kR => ?_
    have := H.1
    have := H.2.1
    obtain ⟨f, h16, ht, hi, hw', hd, hp, b1, b2, b3⟩ := id K
    have hb : (w ++ W).length + 1 ≤ i := b1
    have hb3 : P.length + 2 * ((w ++ W).length + 1) ≤ 2 * i + 20 := b3
    obtain ⟨a1, a2⟩ := hw a (List.mem_cons_self ..)
    unfold f_Mo_drops_60_L0
    dsimp only
    rw [List.cons_append, List.reverse_cons] at hw'
    obtain ⟨p1, p2, p3⟩ := hw'.pop
    rw [List.length_reverse] at p1 p2
    rw [p1, if_neg (by rw [← i_z, i_le (by omega) (by omega)]; omega), i_m1', i_cl (by omega), p2]
    refine x_ens.gr (by rintro (h | h) <;> first | exact i_ge (by omega) h | omega | (rw [i_cl (by omega)] at h; omega)) ?_
    rw [e_open]
    dsimp only [Option.bind_some]
    rw [if_pos a1, if_pos rfl, p1, i_m1', i_cl (by omega), p2]
    refine x_ens.gr (by rintro (h | h) <;> first | exact i_ge (by omega) h | omega | (rw [i_cl (by omega)] at h; omega)) ?_
    rw [e_st]
    dsimp only [Option.bind_some]
    rw [if_neg a2, p1, i_m1', x_pI_kk, i_cl (by omega), y_pI_ne (q := 77) (by omega), p2]
    refine x_ens.gr (by rintro (h | h) <;> first | exact i_ge (by omega) h | omega | (rw [i_cl (by omega)] at h; omega)) ?_
    have K1 : x_ms g n m σ (x_pI τ 60 41 (Int32.ofNat (w ++ W).length)) i (w ++ W) D P := by
      refine ⟨x_frI (p := 60) (k := 41) rfl f, by rw [x_pI_kn (by omega)]; exact h16, ?_, hi, ?_, ?_, ?_, by omega, b2, by omega⟩
      · unfold x_mt
        rw [x_pI_kn (by omega), x_pI_kn (by omega), x_pI_kn (by omega), x_pI_kn (by omega), x_pI_kn (by omega), x_pI_kn (by omega)]
        exact ht
      · rw [x_pI_kk, y_pI_ne (by omega)]
        rw [List.length_reverse] at p3; exact p3
      · unfold x_dp; rw [x_pI_kn (by omega), y_pI_ne (by omega)]; exact hd
      · rw [x_pI_kn (by omega), y_pI_ne (by omega)]; exact hp
    refine x_ens.bi (K1.put (v := a) (j := 0) H (by omega)) ?_
    rintro q ⟨K2, -⟩
    refine kR _ ?_
    have := s_drops H hu w fu q.2 (P ++ [a]) (fun b hb => hw b (List.mem_cons_of_mem _ hb)) (by have : w.length + 1 < fu + 1 := h; omega) K2
    rw [List.append_assoc] at this
    exact this
end MS
