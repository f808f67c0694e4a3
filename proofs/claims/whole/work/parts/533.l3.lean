def x_li (n : Int32) (g : Nat → Int32) (l : List Int32) : Prop := n = Int32.ofNat l.length ∧ ∀ i, i < l.length → g i = l.getD i 0
def sp_ad (l : List Int32) (v : Int32) : List Int32 := if v ∈ l then l else l ++ [v]
theorem mem_gd {l : List Int32} {v : Int32} : v ∈ l ↔ ∃ i, i < l.length ∧ l.getD i 0 = v := by
  constructor
  · intro h
    obtain ⟨i, hi, e⟩ := List.mem_iff_getElem.mp h
    exact ⟨i, hi, by rw [List.getD_eq_getElem?_getD, List.getElem?_eq_getElem hi]; exact e⟩
  · rintro ⟨i, hi, e⟩
    rw [List.getD_eq_getElem?_getD, List.getElem?_eq_getElem hi] at e
    exact List.mem_iff_getElem.mpr ⟨i, hi, e⟩
theorem x_li.app {n : Int32} {g : Nat → Int32} {l : List Int32} {v : Int32} (h : x_li n g l) : x_li (n + 1) (sp_up g l.length v) (l ++ [v]) := by
  refine ⟨by rw [h.1, i_s, List.length_append]; rfl, fun i hi => ?_⟩
  rw [List.length_append] at hi
  have hi' : i < l.length + 1 := hi
  by_cases e : i = l.length
  · subst e
    rw [sp_up_eq, List.getD_eq_getElem?_getD, List.getElem?_append_right (Nat.le_refl _), Nat.sub_self]; rfl
  · rw [sp_up_ne e, h.2 i (by omega), List.getD_eq_getElem?_getD, List.getD_eq_getElem?_getD, List.getElem?_append_left (by omega)]
theorem c_place_L {σ : xS} {l : List Int32} {v : Int32} (h : x_li (σ.1 55 1) (σ.1 56) l) (hl : l.length ≤ 13) : ∀ (k i n : Nat), i + k = l.length → k < n → (∀ j, j < i → ¬ l.getD j 0 = v) → x_ens (x_it (f_Ch_addPlace_55_L2 v) n (Int32.ofNat i, σ)) (fun b => (v ∈ l ∧ b = .inl ((), σ)) ∨ (v ∉ l ∧ ∃ u, b = .inr (u, σ)))
  | k, i, 0, _, h, _ => by omega
  | 0, i, n + 1, h1, h2, h3 => by
    refine x_nx fun P kL kR => ?_
    unfold f_Ch_addPlace_55_L2
    dsimp only
    rw [h.1, if_pos (by rw [i_le (by omega) (by omega)]; omega)]
    refine kL _ (Or.inr ⟨fun x => ?_, _, rfl⟩)
    obtain ⟨j, hj, e⟩ := mem_gd.mp x
    exact h3 j (by omega) e
  | k + 1, i, n + 1, h1, h2, h3 => by
    refine x_nx fun P kL kR => ?_
    unfold f_Ch_addPlace_55_L2
    dsimp only
    rw [h.1, if_neg (by rw [i_le (by omega) (by omega)]; omega), if_neg (by rw [i_le (by omega) (by omega)]; omega), i_cl (by omega), h.2 i (by omega)]
    refine x_ens.gr (by rintro (h | h) <;> first | exact i_ge (by omega) h | omega | (rw [i_cl (by omega)] at h; omega)) ?_
    by_cases hv : l.getD i 0 = v
    · rw [if_pos hv]
      exact kL _ (Or.inl ⟨mem_gd.mpr ⟨i, by omega, hv⟩, rfl⟩)
    · rw [if_neg hv, i_s]
      refine kR _ (c_place_L h hl k (i + 1) n (by omega) (by omega) (fun j hj => ?_))
      by_cases e : j = i
      · subst e; exact hv
      · exact h3 j (by omega)
theorem c_place {σ : xS} {l : List Int32} {v : Int32} (h : x_li (σ.1 55 1) (σ.1 56) l) (hl : l.length ≤ 12) : x_ens (f_Ch_addPlace_55 v σ) (fun q => x_li (q.2.1 55 1) (q.2.1 56) (sp_ad l v)) := by
  unfold f_Ch_addPlace_55 sp_ad
  refine x_ens.bi (c_place_L h (by omega) l.length 0 10000 (by omega) (by omega) (fun j hj => by omega)) ?_
  rintro b (⟨hm, rfl⟩ | ⟨hm, u, rfl⟩)
  · rw [if_pos hm]; exact x_ens.so h
  · rw [if_neg hm]
    dsimp only
    unfold f_Ch_addPlace_55_J36
    have e : (x_pI σ 56 l.length v).1 55 1 = Int32.ofNat l.length := by rw [y_pI_ne (by omega)]; exact h.1
    rw [h.1, if_neg (by rw [i_le (by omega) (by omega)]; omega), i_cl (by omega)]
    refine x_ens.gr (by rintro (h | h) <;> first | exact i_ge (by omega) h | omega | (rw [i_cl (by omega)] at h; omega)) ?_
    dsimp only
    rw [e, i_s]
    refine x_ens.so ?_
    have := h.app (v := v)
    rw [h.1, i_s] at this
    rw [x_pI_kk, y_pI_ne (q := 56) (by omega), x_pI_up]
    exact this
theorem m_place_L {σ : xS} {l : List Int32} {v : Int32} (h : x_li (σ.1 60 69) (σ.1 88) l) (hl : l.length ≤ 13) : x_ens (x_it (f_Mo_addsSpot_60_L4 v) 10000 (0, 0, σ)) (fun b => b.1 = (if v ∈ l then 1 else 0) ∧ b.2.2 = σ) := by
  refine x_iv.go (fun i a => a.1 = (if ∃ j, j < i ∧ l.getD j 0 = v then 1 else 0) ∧ a.2 = (Int32.ofNat i, σ)) l.length (by omega) ⟨(if_neg (by rintro ⟨j, h, -⟩; omega)).symm, rfl⟩ ?_
  rintro i ⟨c, w, τ⟩ hi ⟨h1, h2⟩
  dsimp only at h1 h2
  cases h2
  unfold f_Mo_addsSpot_60_L4
  dsimp only
  rw [h.1]
  by_cases hx : i = l.length
  · rw [if_pos (by rw [i_le (by omega) (by omega)]; omega)]
    refine x_iv.l ⟨?_, rfl⟩
    rw [h1, hx]
    exact x_iff mem_gd.symm
  · rw [if_neg (by rw [i_le (by omega) (by omega)]; omega), i_cl (by omega), i_s]
    by_cases hc : ∃ j, j < i ∧ l.getD j 0 = v
    · rw [if_pos hc] at h1
      subst h1
      rw [if_neg (by decide)]
      obtain ⟨j, j1, j2⟩ := hc
      exact x_iv.r (by omega) ⟨(if_pos ⟨j, by omega, j2⟩).symm, rfl⟩
    · rw [if_neg hc] at h1
      subst h1
      rw [if_pos rfl, h.2 i (by omega)]
      refine x_ens.gr (by rintro (h | h) <;> first | exact i_ge (by omega) h | omega | (rw [i_cl (by omega)] at h; omega)) ?_
      by_cases hv : l.getD i 0 = v
      · rw [if_pos hv]
        exact x_iv.r (by omega) ⟨(if_pos ⟨i, by omega, hv⟩).symm, rfl⟩
      · rw [if_neg hv]
        refine x_iv.r (by omega) ⟨(if_neg ?_).symm, rfl⟩
        rintro ⟨j, j1, j2⟩
        by_cases e : j = i
        · subst e; exact hv j2
        · exact hc ⟨j, by omega, j2⟩
theorem m_spot {σ : xS} {l : List Int32} {v : Int32} (h : x_li (σ.1 60 69) (σ.1 88) l) (hl : l.length ≤ 12) : x_ens (f_Mo_addsSpot_60 v σ) (fun q => x_li (q.2.1 60 69) (q.2.1 88) (sp_ad l v)) := by
  unfold f_Mo_addsSpot_60 sp_ad
  refine x_ens.bi (m_place_L h (by omega)) ?_
  rintro b ⟨b1, b2⟩
  rw [b1, b2]
  by_cases hm : v ∈ l
  · rw [if_pos hm, if_pos hm, if_neg (by decide)]; exact x_ens.so h
  · rw [if_neg hm, if_neg hm, if_pos rfl]
    have e : (x_pI σ 88 l.length v).1 60 69 = Int32.ofNat l.length := by rw [y_pI_ne (by omega)]; exact h.1
    rw [h.1, i_cl (by omega)]
    refine x_ens.gr (by rintro (h | h) <;> first | exact i_ge (by omega) h | omega | (rw [i_cl (by omega)] at h; omega)) ?_
    dsimp only
    rw [e, i_s]
    refine x_ens.so ?_
    have := h.app (v := v)
    rw [h.1, i_s] at this
    rw [x_pI_kk, y_pI_ne (q := 88) (by omega), x_pI_up]
    exact this
def sp_pls (C : Nat → Nat → Int32) : Nat → List Int32
  | 0 => sp_ad [] (C 7 0)
  | k + 1 => sp_ad (sp_pls C k) (C 8 k)
theorem sp_ad_len {l : List Int32} {v : Int32} : (sp_ad l v).length ≤ l.length + 1 := by
  unfold sp_ad; split
  · omega
  · rw [List.length_append]; exact Nat.le_refl _
theorem sp_pls_len {C : Nat → Nat → Int32} : ∀ {k : Nat}, (sp_pls C k).length ≤ k + 1
  | 0 => sp_ad_len
  | k + 1 => Nat.le_trans sp_ad_len (Nat.succ_le_succ sp_pls_len)
theorem sp_pls_r {C : Nat → Nat → Int32} (G : x_G C) : ∀ {k : Nat}, k ≤ sp_nm C → ∀ v, v ∈ sp_pls C k → 12 ≤ v ∧ v ≤ 480
  | 0, _, v, hv => by
    unfold sp_pls sp_ad at hv
    rw [if_neg (by simp)] at hv
    simp at hv
    rw [hv]; exact G.2.2.2.2.2.1
  | k + 1, hk, v, hv => by
    unfold sp_pls sp_ad at hv
    split at hv
    · exact sp_pls_r G (by omega) v hv
    · rcases List.mem_append.mp hv with h | h
      · exact sp_pls_r G (by omega) v h
      · simp at h; rw [h]; exact (G.2.2.2.2.2.2.1 k (by omega)).1
theorem x_li0 {g : Nat → Int32} : x_li 0 g [] := ⟨rfl, fun i hi => absurd hi (Nat.not_lt_zero i)⟩
theorem c_places {C : Nat → Nat → Int32} {σ : xS} (G : x_G C) (K : y_K C σ) : x_ens (f_Ch_findPlaces_55_7 σ) (fun q => x_li (q.2.1 55 1) (q.2.1 56) (sp_pls C (sp_nm C))) := by
  have hm := G.1.2
  unfold f_Ch_findPlaces_55_7
  dsimp only
  have f0 : x_fr [(55, 1), (56, 99999)] σ (x_pI σ 55 1 0) := x_frI (p := 55) (k := 1) rfl x_fr.rf
  refine x_ens.bf (c_place (l := []) (by rw [x_pI_kk]; exact x_li0) (by simp)) (fun q e => fr_Ch_addPlace_55 e) ?_
  intro q4 h4 f4
  rw [y_pI_ne (by omega), K.1] at h4
  refine x_ens.bi (P := fun b => x_li (b.2.1 55 1) (b.2.1 56) (sp_pls C (sp_nm C))) ?_ (fun b hb => x_ens.so hb)
  refine x_iv.go (fun i a => a.1 = Int32.ofNat i ∧ x_li (a.2.1 55 1) (a.2.1 56) (sp_pls C i) ∧ x_fr [(55, 1), (56, 99999)] σ a.2) (sp_nm C) (by omega) ⟨rfl, h4, x_fr.trans f0 (x_fr.su f4 rfl)⟩ ?_
  rintro i ⟨u, τ⟩ hi ⟨h1, h2, f2⟩
  dsimp only at h1 h2 f2
  subst h1
  unfold f_Ch_findPlaces_55_7_L15
  dsimp only
  have K2 := K.fr f2 rfl
  rw [K2.1, K2.2.1, G.1.1]
  by_cases hx : i = sp_nm C
  · subst hx; rw [if_pos i_lr]; exact x_iv.l h2
  · rw [if_neg (by rw [i_le (by omega) (by omega)]; omega), if_neg (show ¬ (12 : Int32) ≤ Int32.ofNat i from fun h => by have := (i_le (j := 12) (by omega) (by omega)).mp h; omega), i_cl (by omega)]
    refine x_ens.gr (by rintro (h | h) <;> first | exact i_ge (by omega) h | omega | (rw [i_cl (by omega)] at h; omega)) ?_
    refine x_ens.bf (c_place (v := C 8 i) h2 (by have := @sp_pls_len C i; omega)) (fun q e => fr_Ch_addPlace_55 e) ?_
    intro q h3 f3
    exact x_iv.r (by omega) ⟨i_s, h3, x_fr.trans f2 (x_fr.su f3 rfl)⟩
theorem m_places {C : Nat → Nat → Int32} {σ : xS} {v : Int32} (G : x_G C) (M : x_M C σ) : x_ens ((f_Mo_addsSpot_60 ((x_pI σ 60 69 0).1 60 1) (x_pI σ 60 69 0)).bind fun q21 => x_it (f_Mo_marks_60_L36 v) 10000 (0, q21.2)) (fun b => x_li (b.2.1 60 69) (b.2.1 88) (sp_pls C (sp_nm C)) ∧ x_fr [(60, 69), (88, 99999)] σ b.2) := by
  have hm := G.1.2
  have f0 : x_fr [(60, 69), (88, 99999)] σ (x_pI σ 60 69 0) := x_frI (p := 60) (k := 69) rfl x_fr.rf
  rw [show (x_pI σ 60 69 0).1 60 1 = C 7 0 from M.1.1]
  refine x_ens.bf (m_spot (l := []) (by rw [x_pI_kk]; exact x_li0) (by simp)) (fun q e => fr_Mo_addsSpot_60 e) ?_
  intro q4 h4 f4
  refine x_iv.go (fun i a => a.1 = Int32.ofNat i ∧ x_li (a.2.1 60 69) (a.2.1 88) (sp_pls C i) ∧ x_fr [(60, 69), (88, 99999)] σ a.2) (sp_nm C) (by omega) ⟨rfl, h4, x_fr.trans f0 (x_fr.su f4 rfl)⟩ ?_
  rintro i ⟨u, τ⟩ hi ⟨h1, h2, f2⟩
  dsimp only at h1 h2 f2
  subst h1
  unfold f_Mo_marks_60_L36
  dsimp only
  have M2 := M.fr f2 rfl rfl rfl rfl rfl rfl rfl
  rw [M2.1.2.1, G.1.1]
  by_cases hx : i = sp_nm C
  · subst hx; rw [if_pos i_lr]; exact x_iv.l ⟨h2, f2⟩
  · rw [if_neg (by rw [i_le (by omega) (by omega)]; omega), i_cl (by omega), (M2.2.1 i (by omega)).1]
    refine x_ens.gr (by rintro (h | h) <;> first | exact i_ge (by omega) h | omega | (rw [i_cl (by omega)] at h; omega)) ?_
    refine x_ens.bf (m_spot (v := C 8 i) h2 (by have := @sp_pls_len C i; omega)) (fun q e => fr_Mo_addsSpot_60 e) ?_
    intro q h3 f3
    exact x_iv.r (by omega) ⟨i_s, h3, x_fr.trans f2 (x_fr.su f3 rfl)⟩
def sp_x (x : Nat × Nat × Nat) (i : Nat) : Nat := if i = 0 then x.1 else if i = 1 then x.2.1 else x.2.2
def sp_fx (n m : Nat) (x : Nat → Nat) : Nat → Option Nat
  | 0 => none
  | j + 1 => if n - m + j ≤ x j then sp_fx n m x j else some j
def sp_nx (x : Nat → Nat) (j i : Nat) : Nat := if i < j then x i else x j + 1 + (i - j)
def sp_nxt (n m : Nat) (x : Nat × Nat × Nat) : Option (Nat × Nat × Nat) := (sp_fx n m (sp_x x) m).map fun j => (sp_nx (sp_x x) j 0, sp_nx (sp_x x) j 1, sp_nx (sp_x x) j 2)
def sp_seq (n m : Nat) : Nat → Option (Nat × Nat × Nat)
  | 0 => some (0, 1, 2)
  | k + 1 => (sp_seq n m k).bind (sp_nxt n m)
theorem sp_seq_end : ∀ n, n < 14 → ∀ m, m < 4 → m ≤ n → sp_seq n m 300 = none := by decide +kernel
theorem sp_x_t {f : Nat → Nat} {i : Nat} (hi : i < 3) : sp_x (f 0, f 1, f 2) i = f i := by
  have : i = 0 ∨ i = 1 ∨ i = 2 := by omega
  rcases this with rfl | rfl | rfl <;> rfl
def x_vn (n m : Nat) (x : Nat × Nat × Nat) : Prop := ∀ i, i < m → sp_x x i ≤ n - m + i
theorem sp_fx_lt {n m : Nat} {x : Nat → Nat} : ∀ {k j : Nat}, sp_fx n m x k = some j → j < k ∧ x j < n - m + j
  | 0, j, h => by cases h
  | k + 1, j, h => by
    unfold sp_fx at h
    split at h
    · have := sp_fx_lt h; exact ⟨by omega, this.2⟩
    · cases h; exact ⟨by omega, by omega⟩
theorem x_vn.nxt {n m : Nat} {x y : Nat × Nat × Nat} (hm : m ≤ 3) (h : x_vn n m x) (e : sp_nxt n m x = some y) : x_vn n m y := by
  unfold sp_nxt at e
  cases hf : sp_fx n m (sp_x x) m with
  | none => rw [hf] at e; cases e
  | some j =>
    rw [hf] at e
    cases e
    have k := sp_fx_lt hf
    intro i hi
    rw [sp_x_t (f := sp_nx (sp_x x) j) (by omega)]
    unfold sp_nx
    split
    · exact h i hi
    · omega
def x_rw (g : Nat → Int32) (m : Nat) (x : Nat × Nat × Nat) : Prop := ∀ i, i < m → g i = Int32.ofNat (sp_x x i)
theorem sp_x_b {n m : Nat} {x : Nat × Nat × Nat} (hn : n ≤ 13) (hm : m ≤ n) (h : x_vn n m x) {i : Nat} (hi : i < m) : sp_x x i < n := by
  have := h i hi; omega
theorem c_fill {m : Nat} (hm : m ≤ 3) {σ : xS} {x : Nat → Nat} {j : Nat} (hj : j < m) (hx : x j ≤ 13) : x_ens (x_it (f_Ch_pickNext_55_L41 (Int32.ofNat m)) 10000 (Int32.ofNat (x j + 1), Int32.ofNat j, σ)) (fun b => (∀ i, i < j → b.2.2.1 57 i = σ.1 57 i) ∧ ∀ i, j ≤ i → i < m → b.2.2.1 57 i = Int32.ofNat (x j + 1 + (i - j))) := by
  refine x_iv.go (fun i a => a.1 = Int32.ofNat (x j + 1 + i) ∧ a.2.1 = Int32.ofNat (j + i) ∧ (∀ k, k < j → a.2.2.1 57 k = σ.1 57 k) ∧ ∀ k, j ≤ k → k < j + i → a.2.2.1 57 k = Int32.ofNat (x j + 1 + (k - j))) (m - j) (by omega) ⟨rfl, rfl, fun _ _ => rfl, fun k h1 h2 => by omega⟩ ?_
  rintro i ⟨u, w, τ⟩ hi ⟨h1, h2, h3, h4⟩
  dsimp only at h1 h2 h3 h4
  subst h1 h2
  unfold f_Ch_pickNext_55_L41
  dsimp only
  by_cases hx2 : i = m - j
  · rw [if_pos (by rw [i_le (by omega) (by omega)]; omega)]
    exact x_iv.l ⟨h3, fun k k1 k2 => h4 k k1 (by omega)⟩
  · rw [if_neg (by rw [i_le (by omega) (by omega)]; omega), if_neg (show ¬ (3 : Int32) ≤ Int32.ofNat (j + i) from fun h => by have := (i_le (j := 3) (by omega) (by omega)).mp h; omega), i_cl (by omega)]
    refine x_ens.gr (by rintro (h | h) <;> first | exact i_ge (by omega) h | omega | (rw [i_cl (by omega)] at h; omega)) ?_
    refine x_iv.r (by omega) ⟨i_s, i_s, fun k hk => ?_, fun k k1 k2 => ?_⟩
    · dsimp only; rw [x_pI_up, sp_up_ne (by omega)]; exact h3 k hk
    · dsimp only; rw [x_pI_up]
      by_cases e : k = j + i
      · subst e; rw [sp_up_eq, show j + i - j = i by omega]
      · rw [sp_up_ne e]; exact h4 k k1 (by omega)
theorem c_next_L {n m : Nat} (hn : n ≤ 13) (hm : m ≤ 3) (hmn : m ≤ n) {σ : xS} {x : Nat × Nat × Nat} (h55 : σ.1 55 1 = Int32.ofNat n) (hr : x_rw (σ.1 57) m x) (hv : x_vn n m x) : ∀ (k fu : Nat), k ≤ m → k < fu →
    x_ens (x_it (f_Ch_pickNext_55_L8 (Int32.ofNat m)) fu (Int32.ofNat k - 1, σ)) (fun b => match sp_fx n m (sp_x x) k with
      | none => ∃ u, b = .inr (u, σ)
      | some j => ∃ τ, b = .inl (1, τ) ∧ ∀ i, i < m → τ.1 57 i = Int32.ofNat (sp_nx (sp_x x) j i))
  | k, 0, _, h => by omega
  | 0, fu + 1, _, _ => by
    refine x_nx fun P kL kR => ?_
    unfold f_Ch_pickNext_55_L8
    dsimp only
    rw [if_pos (by decide)]
    exact kL _ ⟨_, rfl⟩
  | k + 1, fu + 1, hk, h => by
    refine x_nx fun P kL kR => ?_
    have hb := hv k (by omega)
    unfold f_Ch_pickNext_55_L8
    dsimp only
    rw [i_m1', if_neg (i_ge (by omega)), i_cl (by omega), h55, i_subn hmn, ← Int32.ofNat_add, hr k (by omega)]
    refine x_ens.gr (by rintro (h | h) <;> first | exact i_ge (by omega) h | omega | (rw [i_cl (by omega)] at h; omega)) ?_
    by_cases hc : n - m + k ≤ sp_x x k
    · rw [if_pos ((i_le (by omega) (by omega)).mpr hc)]
      refine kR _ ?_
      have := c_next_L hn hm hmn h55 hr hv k fu (by omega) (by omega)
      rw [show Int32.ofNat k + -1 = Int32.ofNat k - 1 by grind]
      rw [sp_fx, if_pos hc]
      exact this
    · rw [if_neg (fun y => hc ((i_le (by omega) (by omega)).mp y)), i_s]
      refine x_ens.gr (by rintro (h | h) <;> first | exact i_ge (by omega) h | omega | (rw [i_cl (by omega)] at h; omega)) ?_
      refine x_ens.bi (c_fill hm (j := k) (x := sp_x x) (σ := σ) (by omega) (by omega)) ?_
      rintro b ⟨b1, b2⟩
      refine kL _ ?_
      rw [sp_fx, if_neg hc]
      dsimp only
      refine ⟨b.2.2, rfl, fun i hi => ?_⟩
      unfold sp_nx
      by_cases hik : i < k
      · rw [if_pos hik, b1 i hik]; exact hr i hi
      · rw [if_neg hik]; exact b2 i (by omega) hi
theorem c_nextN {n m : Nat} (hn : n ≤ 13) (hm : m ≤ 3) (hmn : m ≤ n) {σ : xS} {x : Nat × Nat × Nat} (h55 : σ.1 55 1 = Int32.ofNat n) (hr : x_rw (σ.1 57) m x) (hv : x_vn n m x) : x_ens (f_Ch_pickNext_55 (Int32.ofNat m) σ) (fun q => match sp_nxt n m x with
      | none => q.1 = 0
      | some y => q.1 = 1 ∧ x_rw (q.2.1 57) m y) := by
  unfold f_Ch_pickNext_55 sp_nxt
  rw [if_neg (show ¬ (3 : Int32) < Int32.ofNat m from fun h => by have := (i_lt (j := 3) (by omega) (by omega)).mp h; omega)]
  dsimp only
  refine x_ens.bi (c_next_L hn hm hmn h55 hr hv m 10000 (by omega) (by omega)) ?_
  intro b hb
  cases hf : sp_fx n m (sp_x x) m with
  | none =>
    rw [hf] at hb
    obtain ⟨u, rfl⟩ := hb
    exact x_ens.so rfl
  | some j =>
    rw [hf] at hb
    obtain ⟨τ, rfl, ht⟩ := hb
    refine x_ens.so ⟨rfl, fun i hi => ?_⟩
    rw [sp_x_t (f := sp_nx (sp_x x) j) (by omega)]
    exact ht i hi
