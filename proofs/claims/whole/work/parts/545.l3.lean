abbrev tT : Type := Nat → Int32 × Int32 × Nat × Nat
abbrev tR : Type := (Nat × List Int32 × List Int32) ⊕ (Int32 × Nat)
def tk_ad (m i : Nat) : Nat := if i < m then i + 1 else i
def tk_sg (T : tT) (i : Nat) (c : Int32) : Prop := (T i).1 = 3 ∧ (T i).2.1 = c
theorem tk_sg_d {T : tT} {i : Nat} {c : Int32} : tk_sg T i c ↔ ((T i).1 = 3 ∧ (T i).2.1 = c) := Iff.rfl
def tk_wd (T : tT) (i : Nat) : Nat := if (T i).1 = 1 then (T i).2.1.toNatClampNeg else 0
def op_6 (T : tT) (i : Nat) : Option Int32 := if (T i).1 = 3 ∧ (T i).2.1 = 42 then some (-3) else if (T i).1 = 3 ∧ (T i).2.1 = 47 then some (-4) else none
def op_5 (T : tT) (i : Nat) : Option Int32 := if (T i).1 = 3 ∧ (T i).2.1 = 43 then some (-1) else if (T i).1 = 3 ∧ (T i).2.1 = 45 then some (-2) else none
def op_4 (T : tT) (i : Nat) : Option Int32 := if (T i).1 = 3 ∧ (T i).2.1 = 60 then some (-5) else if (T i).1 = 3 ∧ (T i).2.1 = 61 then some (-6) else none
def op_2 (T : tT) (i : Nat) : Option Int32 := if tk_wd T i = 16 then some (-8) else none
def op_1 (T : tT) (i : Nat) : Option Int32 := if tk_wd T i = 15 then some (-9) else none
def sp_vo (w : Nat) (rule : Int32) : Int32 :=
  if rule = 0 then (if w = 18 then 0 else -1) else if rule = 1 then (if w = 8 then 2 else if w = 19 then 1 else if w = 18 then 0 else -1)
  else (if w = 7 then 7 else if w = 12 then 5 else if w = 20 then 3 else if w = 21 then 4 else if w = 22 then 6 else -1)
def rd_bin (m : Nat) (op : Nat → Option Int32) (sub : Nat → tR) : Nat → Nat × List Int32 × List Int32 → tR
  | 0, s => .inl s
  | f + 1, s => match op s.1 with
    | none => .inl s
    | some c => match sub (tk_ad m s.1) with
      | .inr e => .inr e
      | .inl s2 => rd_bin m op sub f (s2.1, s.2.1 ++ s.2.2 ++ s2.2.1, s2.2.2 ++ [c])
def rd_lev (m : Nat) (op : Nat → Option Int32) (F : Nat) (sub : Nat → tR) (i : Nat) : tR := match sub i with
  | .inr e => .inr e
  | .inl s => rd_bin m op sub F s
def rd_part (T : tT) (m : Nat) (rule : Int32) (rec' : Nat → tR) (i : Nat) : tR :=
  if (T i).1 = 2 then (if 0 ≤ (T i).2.1 ∧ (T i).2.1 ≤ 9999 then .inl (tk_ad m i, [(T i).2.1], []) else .inr (2, i))
  else if (T i).1 = 1 then (if sp_vo (tk_wd T i) rule = -1 then .inr (3, i) else .inl (tk_ad m i, [-10 - sp_vo (tk_wd T i) rule], []))
  else if (T i).1 = 3 ∧ (T i).2.1 = 40 then (match rec' (tk_ad m i) with
    | .inr e => .inr e
    | .inl s => if (T s.1).1 = 3 ∧ (T s.1).2.1 = 41 then .inl (tk_ad m s.1, s.2.1 ++ s.2.2, []) else .inr (1, s.1))
  else .inr (1, i)
def rd_nots (T : tT) (m : Nat) : Nat → Nat → Nat → (Nat × Nat) ⊕ (Int32 × Nat)
  | 0, k, i => .inl (k, i)
  | f + 1, k, i => if tk_wd T i = 17 then (if k < 6 then rd_nots T m f (k + 1) (tk_ad m i) else .inr (2, i)) else .inl (k, i)
def rd_not (T : tT) (m : Nat) (test : Nat → tR) (i : Nat) : tR := match rd_nots T m (m + 1) 0 i with
  | .inr e => .inr e
  | .inl ki => match test ki.2 with
    | .inr e => .inr e
    | .inl s => .inl (s.1, s.2.1, s.2.2 ++ List.replicate ki.1 (-7))
def rd_sum (T : tT) (m : Nat) (rule : Int32) (rec' : Nat → tR) : Nat → tR := rd_lev m (op_5 T) (m + 1) (rd_lev m (op_6 T) (m + 1) (rd_part T m rule rec'))
def rd_test (T : tT) (m : Nat) (rule : Int32) (rec' : Nat → tR) : Nat → tR := rd_lev m (op_4 T) 1 (rd_sum T m rule rec')
def rd_and (T : tT) (m : Nat) (rule : Int32) (rec' : Nat → tR) : Nat → tR := rd_lev m (op_2 T) (m + 1) (rd_not T m (rd_test T m rule rec'))
def rd_expr (T : tT) (m : Nat) (rule : Int32) : Nat → Nat → Nat → tR
  | 0, _, i => .inr (0, i)
  | f + 1, d, i => if d ≤ 5 then rd_lev m (op_1 T) (m + 1) (rd_and T m rule (rd_expr T m rule f (d + 1))) i
    else .inr (if (T i).1 = 2 ∨ (T i).1 = 1 ∨ ((T i).1 = 3 ∧ (T i).2.1 = 40) then 2 else 1, i)
abbrev x_WR : List (Nat × Nat) := [(2, 4), (2, 6), (2, 7), (27, 1), (28, 99999)]
def x_H (T : tT) (m : Nat) (σ : xS) : Prop := m ≤ 700 ∧ (T m).1 = 0 ∧ (∀ j, j < m → ¬ (T j).1 = 0) ∧ (∀ j, (T j).1 = 1 → 0 ≤ (T j).2.1 ∧ (T j).2.1.toNatClampNeg < 23) ∧ σ.1 2 3 = Int32.ofNat (m + 1) ∧ ∀ i, i < m + 1 → σ.1 3 i = (T i).1 ∧ σ.1 4 i = (T i).2.1 ∧ σ.1 5 i = Int32.ofNat (T i).2.2.1
def x_cs (m : Nat) (σ τ : xS) (i : Nat) (c : List Int32) : Prop := x_fr x_WR σ τ ∧ τ.1 2 4 = Int32.ofNat i ∧ i ≤ m ∧ x_li (τ.1 27 1) (τ.1 28) c ∧ c.length ≤ i
def x_er (T : tT) (σ τ : xS) (k : Int32) (i : Nat) : Prop := x_fr x_WR σ τ ∧ τ.1 2 6 = k ∧ τ.1 2 7 = Int32.ofNat (T i).2.2.1
section RD
variable {T : tT} {m : Nat} {σ τ : xS} {i : Nat} {c : List Int32}
theorem x_cs.rows (H : x_H T m σ) (K : x_cs m σ τ i c) : τ.1 2 3 = Int32.ofNat (m + 1) ∧ τ.1 3 i = (T i).1 ∧ τ.1 4 i = (T i).2.1 ∧ τ.1 5 i = Int32.ofNat (T i).2.2.1 := by
  obtain ⟨f, e4, hi, -, -⟩ := K
  obtain ⟨-, -, -, -, h3, h⟩ := H
  obtain ⟨a, b, d⟩ := h i (by omega)
  exact ⟨(f.ck 2 3 rfl).trans h3, by rw [f.ce 3 rfl]; exact a, by rw [f.ce 4 rfl]; exact b, by rw [f.ce 5 rfl]; exact d⟩
theorem r_kind (H : x_H T m σ) (K : x_cs m σ τ i c) (k : Int32) : f_Re_isKind_2 k τ = some (if (T i).1 = k then 1 else 0, τ) := by
  obtain ⟨r1, r2, r3, r4⟩ := K.rows H
  have hi := K.2.2.1
  have hm := H.1
  unfold f_Re_isKind_2
  rw [r1, K.2.1, if_neg (by rw [i_le (by omega) (by omega)]; omega), if_neg (i_ix (by omega) (by omega)), i_cl (by omega), r2]
  split <;> rfl
theorem r_sign (H : x_H T m σ) (K : x_cs m σ τ i c) (k : Int32) : f_Re_isSign_2 k τ = some (if (T i).1 = 3 ∧ (T i).2.1 = k then 1 else 0, τ) := by
  obtain ⟨r1, r2, r3, r4⟩ := K.rows H
  have hi := K.2.2.1
  have hm := H.1
  unfold f_Re_isSign_2
  rw [r_kind H K]
  dsimp only [Option.bind_some]
  by_cases h : (T i).1 = 3
  · rw [if_pos h, if_neg (by decide), K.2.1, if_neg (i_ix (by omega) (by omega)), i_cl (by omega), r3]
    by_cases h2 : (T i).2.1 = k
    · rw [if_pos h2, if_pos ⟨h, h2⟩]
    · rw [if_neg h2, if_neg (fun x => h2 x.2)]
  · rw [if_neg h, if_pos rfl, if_neg (fun x => h x.1)]
theorem r_word (H : x_H T m σ) (K : x_cs m σ τ i c) : f_Re_word_2 τ = some (1000 + tk_wd T i, τ) ∧ tk_wd T i < 23 := by
  obtain ⟨r1, r2, r3, r4⟩ := K.rows H
  have hi := K.2.2.1
  have hm := H.1
  unfold f_Re_word_2 tk_wd
  rw [r1, K.2.1, if_neg (by rw [i_le (by omega) (by omega)]; omega), i_cl (by omega), r2, r3]
  have ix : ¬ (Int32.ofNat i < 0 ∨ 701 ≤ i) := by rintro (h | h); exact i_ge (by omega) h; omega
  rw [if_neg ix, if_neg ix, if_neg ix, if_neg ix]
  by_cases h : (T i).1 = 1
  · obtain ⟨a, b⟩ := H.2.2.2.1 i h
    have hb : (T i).2.1 < Int32.ofNat 23 := by
      have k := i_ex a
      rw [k.1, i_lt k.2 (by omega)]; exact b
    rw [if_pos h, if_neg (i_nl.mpr a), if_pos hb, if_neg (i_iv a b), if_pos h]
    exact ⟨rfl, b⟩
  · rw [if_neg h, if_neg h]; exact ⟨rfl, by omega⟩
theorem r_isWord (H : x_H T m σ) (K : x_cs m σ τ i c) {w : Nat} (hw : w < 23) : f_Re_isWord_2 (1000 + w) τ = some (if tk_wd T i = w then 1 else 0, τ) := by
  obtain ⟨e, hl⟩ := r_word H K
  unfold f_Re_isWord_2 x_ok
  rw [e]
  dsimp only [Option.bind_some]
  rw [if_pos (by omega), if_pos (by omega)]
  by_cases h : tk_wd T i = w
  · rw [if_pos (by omega), if_pos h]
  · rw [if_neg (by omega), if_neg h]
theorem tk_ad_b (h : i ≤ m) : tk_ad m i ≤ m ∧ i ≤ tk_ad m i := by unfold tk_ad; split <;> omega
theorem r_adv (H : x_H T m σ) (K : x_cs m σ τ i c) : x_ens (f_Re_advance_2 τ) (fun q => x_cs m σ q.2 (tk_ad m i) c) := by
  obtain ⟨r1, -, -, -⟩ := K.rows H
  obtain ⟨f, e4, hi, hl, hc⟩ := K
  have hm := H.1
  unfold f_Re_advance_2 tk_ad
  rw [r1, e4, i_m1']
  by_cases h : i < m
  · rw [if_neg (by rw [i_le (by omega) (by omega)]; omega), if_pos h]
    refine x_ens.so ⟨x_frI (p := 2) (k := 4) rfl f, by rw [x_pI_kk, i_s], by omega, ?_, by omega⟩
    rw [y_pI_ne (by omega), y_pI_ne (by omega)]; exact hl
  · rw [if_pos (by rw [i_le (by omega) (by omega)]; omega), if_neg h]
    exact x_ens.so ⟨f, e4, hi, hl, hc⟩
theorem r_ref (H : x_H T m σ) (K : x_cs m σ τ i c) (k : Int32) : x_ens (f_Re_refuse_2 k τ) (fun q => q.1 = 0 ∧ x_er T σ q.2 k i) := by
  obtain ⟨r1, r2, r3, r4⟩ := K.rows H
  obtain ⟨f, e4, hi, hl, hc⟩ := K
  have hm := H.1
  unfold f_Re_refuse_2
  dsimp only
  rw [x_pI_kn (show 3 ≠ 6 by omega), x_pI_kn (show 4 ≠ 6 by omega), r1, e4, if_neg (by rw [i_le (by omega) (by omega)]; omega), i_cl (by omega), y_pI_ne (q := 5) (by omega), r4]
  refine x_ens.gr (by rintro (h | h) <;> first | exact i_ge (by omega) h | omega | (rw [i_cl (by omega)] at h; omega)) ?_
  exact x_ens.so ⟨rfl, x_frI (p := 2) (k := 7) rfl (x_frI (p := 2) (k := 6) rfl f), by rw [x_pI_kn (by omega)]; exact x_pI_kk, x_pI_kk⟩
theorem r_add (H : x_H T m σ) (K : x_cs m σ τ i c) (hc : c.length < i) (v : Int32) : x_ens (f_Ru_add_27 v τ) (fun q => x_cs m σ q.2 i (c ++ [v])) := by
  obtain ⟨f, e4, hi, hl, -⟩ := K
  have hm := H.1
  unfold f_Ru_add_27
  have e : (x_pI τ 28 c.length v).1 27 1 = Int32.ofNat c.length := by rw [y_pI_ne (by omega)]; exact hl.1
  rw [hl.1, if_neg (by rw [i_le (by omega) (by omega)]; omega), i_cl (by omega)]
  refine x_ens.gr (by rintro (h | h) <;> first | exact i_ge (by omega) h | omega | (rw [i_cl (by omega)] at h; omega)) ?_
  dsimp only
  rw [e, i_s]
  refine x_ens.so ⟨x_frI (p := 27) (k := 1) rfl (x_frI (p := 28) rfl f), ?_, hi, ?_, by rw [List.length_append]; show c.length + 1 ≤ i; omega⟩
  · rw [y_pI_ne (by omega), y_pI_ne (by omega)]; exact e4
  · have := hl.app (v := v)
    rw [hl.1, i_s] at this
    rw [x_pI_kk, y_pI_ne (q := 28) (by omega), x_pI_up]
    exact this
theorem r_num (H : x_H T m σ) (K : x_cs m σ τ i c) (lo hi : Int32) : x_ens (f_Re_isNumber_2 lo hi τ) (fun q => if (T i).1 = 2 then (if lo ≤ (T i).2.1 ∧ (T i).2.1 ≤ hi then q.1 = 1 ∧ q.2 = τ else q.1 = 0 ∧ x_er T σ q.2 2 i) else q.1 = 0 ∧ x_er T σ q.2 1 i) := by
  obtain ⟨r1, r2, r3, r4⟩ := K.rows H
  have hi' := K.2.2.1
  have hm := H.1
  unfold f_Re_isNumber_2
  rw [r_kind H K]
  dsimp only [Option.bind_some]
  by_cases h : (T i).1 = 2
  · rw [if_pos h, if_neg (by decide), K.2.1, i_cl (by omega), r3]
    have ix : ¬ (Int32.ofNat i < 0 ∨ 701 ≤ i) := by rintro (h | h); exact i_ge (by omega) h; omega
    rw [if_neg ix, if_neg ix]
    simp only [if_pos h]
    have bad : ¬ (lo ≤ (T i).2.1 ∧ (T i).2.1 ≤ hi) → x_ens ((f_Re_refuse_2 2 τ).bind fun q2 => if q2.1 = 0 then some ((0 : Int32), q2.2) else some ((1 : Int32), q2.2)) (fun q => if lo ≤ (T i).2.1 ∧ (T i).2.1 ≤ hi then q.1 = 1 ∧ q.2 = τ else q.1 = 0 ∧ x_er T σ q.2 2 i) := by
      intro hx
      refine x_ens.bi (r_ref H K 2) ?_
      rintro q ⟨q1, q2⟩
      rw [if_pos q1]
      exact x_ens.so (by rw [if_neg hx]; exact ⟨rfl, q2⟩)
    by_cases h1 : (T i).2.1 < lo
    · rw [if_pos h1]; exact bad (fun x => i_nl.mpr x.1 h1)
    · rw [if_neg h1]
      by_cases h2 : (T i).2.1 ≤ hi
      · rw [if_pos h2]; exact x_ens.so (by rw [if_pos ⟨i_nl.mp h1, h2⟩]; exact ⟨rfl, rfl⟩)
      · rw [if_neg h2]; exact bad (fun x => h2 x.2)
  · rw [if_neg h, if_pos rfl]
    simp only [if_neg h]
    refine x_ens.bi (r_ref H K 1) ?_
    rintro q ⟨q1, q2⟩
    exact x_ens.ok (Or.inl q1) (x_ens.so ⟨q1, q2⟩)
theorem r_take (H : x_H T m σ) (K : x_cs m σ τ i c) : x_ens (f_Re_takeNumber_2 τ) (fun q => q.1 = (T i).2.1 ∧ x_cs m σ q.2 (tk_ad m i) c) := by
  obtain ⟨r1, r2, r3, r4⟩ := K.rows H
  have hi' := K.2.2.1
  have hm := H.1
  unfold f_Re_takeNumber_2
  rw [r1, K.2.1, if_neg (by rw [i_le (by omega) (by omega)]; omega), i_cl (by omega), r3]
  refine x_ens.gr (by rintro (h | h) <;> first | exact i_ge (by omega) h | omega | (rw [i_cl (by omega)] at h; omega)) ?_
  refine x_ens.bi (r_adv H K) ?_
  intro q hq
  exact x_ens.so ⟨rfl, hq⟩
end RD
