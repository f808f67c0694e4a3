theorem i_bm {z : Int} (h1 : -1000000 ≤ z) (h2 : z ≤ 1000000) : z.bmod (2 ^ 32) = z := Int.bmod_eq_of_le (by omega) (by omega)
theorem i_tdn {p l : Nat} : (p : Int).tdiv (l : Int) = ((p / l : Nat) : Int) := by
  rw [Int.tdiv_eq_ediv_of_nonneg (Int.natCast_nonneg p)]; rfl
theorem i_pq {d r l : Nat} (hd : d ≤ 468) (h1 : r ≤ l) (h3 : l ≤ 99) : ∃ p : Nat, (d : Int) * (r : Int) = (p : Int) ∧ p ≤ 46332 ∧ p / l ≤ d := ⟨d * r, (Int.natCast_mul d r).symm, Nat.mul_le_mul hd (Nat.le_trans h1 h3), Nat.div_le_of_le_mul (by rw [Nat.mul_comm l d]; exact Nat.mul_le_mul_left d h1)⟩
theorem i_hr1 {F X : Int} {r l : Nat} (hf : 12 ≤ F ∧ F ≤ 480) (hx : 12 ≤ X ∧ X ≤ 480) (h1 : r ≤ l) (h3 : l ≤ 99) : 12 ≤ (F + ((((X - F).bmod (2 ^ 32) * (r : Int)).bmod (2 ^ 32)).tdiv (l : Int)).bmod (2 ^ 32)).bmod (2 ^ 32) ∧ (F + ((((X - F).bmod (2 ^ 32) * (r : Int)).bmod (2 ^ 32)).tdiv (l : Int)).bmod (2 ^ 32)).bmod (2 ^ 32) ≤ 480 := by
  rw [i_bm (z := X - F) (by omega) (by omega)]
  by_cases h : F ≤ X
  · obtain ⟨d, hd⟩ : ∃ d : Nat, X - F = d := ⟨(X - F).toNat, by omega⟩
    have hd2 : d ≤ 468 := by omega
    obtain ⟨p, e1, hm, e4⟩ := i_pq hd2 h1 h3
    rw [hd, e1]
    clear e1
    rw [i_bm (z := (p : Int)) (by omega) (by omega), i_tdn]
    generalize p / l = q at e4
    rw [i_bm (z := (q : Int)) (by omega) (by omega), i_bm (z := F + (q : Int)) (by omega) (by omega)]
    omega
  · obtain ⟨d, hd⟩ : ∃ d : Nat, X - F = -(d : Int) := ⟨(F - X).toNat, by omega⟩
    have hd2 : d ≤ 468 := by omega
    obtain ⟨p, e1, hm, e4⟩ := i_pq hd2 h1 h3
    rw [hd, Int.neg_mul, e1]
    clear e1
    rw [i_bm (z := -(p : Int)) (by omega) (by omega), Int.neg_tdiv, i_tdn]
    generalize p / l = q at e4
    rw [i_bm (z := -(q : Int)) (by omega) (by omega), i_bm (z := F + -(q : Int)) (by omega) (by omega)]
    omega
theorem i_hr {f x : Int32} {r l : Nat} (hf : 12 ≤ f ∧ f ≤ 480) (hx : 12 ≤ x ∧ x ≤ 480) (h1 : r ≤ l) (h2 : 1 ≤ l) (h3 : l ≤ 99) : 12 ≤ f + (x - f) * Int32.ofNat r / Int32.ofNat l ∧ f + (x - f) * Int32.ofNat r / Int32.ofNat l ≤ 480 := by
  have c12 : (12 : Int32).toInt = 12 := by decide
  have c480 : (480 : Int32).toInt = 480 := by decide
  rw [Int32.le_iff_toInt_le, Int32.le_iff_toInt_le, c12, c480] at hf hx
  rw [Int32.le_iff_toInt_le, Int32.le_iff_toInt_le, c12, c480, Int32.toInt_add, Int32.toInt_div, Int32.toInt_mul, Int32.toInt_sub, i_ti (show r < 2147483648 by omega), i_ti (show l < 2147483648 by omega)]
  exact i_hr1 hf hx h1 h3
def sp_ss (l : Nat → Nat) : Nat → Nat
  | 0 => 0
  | n + 1 => sp_ss l n + l n
theorem ss_mo {l : Nat → Nat} {i : Nat} : ∀ {d : Nat}, sp_ss l i ≤ sp_ss l (i + d)
  | 0 => Nat.le_refl _
  | d + 1 => Nat.le_trans (ss_mo (d := d)) (Nat.le_add_right _ _)
theorem ss_sum {L : Nat → Int32} {l : Nat → Nat} : ∀ {n : Nat}, (∀ j, j < n → L j = Int32.ofNat (l j)) → sp_sum L n = Int32.ofNat (sp_ss l n)
  | 0, _ => rfl
  | n + 1, h => by
    unfold sp_sum sp_ss
    rw [ss_sum (fun j hj => h j (by omega)), h n (by omega), Int32.ofNat_add]
theorem ss_in {l : Nat → Nat} {t : Nat} : ∀ {n : Nat}, 0 < t → t ≤ sp_ss l n → ∃ i, i < n ∧ sp_ss l i < t ∧ t ≤ sp_ss l (i + 1)
  | 0, h, h2 => by unfold sp_ss at h2; omega
  | n + 1, h, h2 => by
    by_cases h3 : t ≤ sp_ss l n
    · obtain ⟨i, a, b⟩ := ss_in h h3
      exact ⟨i, by omega, b⟩
    · exact ⟨n, by omega, by omega, h2⟩
theorem her_at {G L : Nat → Int32} {l : Nat → Nat} {T : Nat} (hT : T ≤ 600) : ∀ (d kk i : Nat) (f : Int32), d < kk → (∀ j, j < i + kk → L j = Int32.ofNat (l j) ∧ 1 ≤ l j ∧ l j ≤ 99) → sp_ss l (i + d) < T → T ≤ sp_ss l (i + d + 1) → sp_her G L i f (Int32.ofNat (T - sp_ss l i)) kk = (if d = 0 then f else G (i + d - 1)) + (G (i + d) - (if d = 0 then f else G (i + d - 1))) * Int32.ofNat (T - sp_ss l (i + d)) / L (i + d)
  | _, 0, _, _, h, _, _, _ => by omega
  | 0, kk + 1, i, f, _, hl, h1, h2 => by
    have hli := hl i (by omega)
    have e : sp_ss l (i + 0 + 1) = sp_ss l i + l i := rfl
    rw [e] at h2
    unfold sp_her
    rw [hli.1, if_pos (show Int32.ofNat (T - sp_ss l i) ≤ Int32.ofNat (l i) from (i_le (by omega) (by omega)).mpr (by omega)), if_pos rfl]
    show _ = f + (G i - f) * Int32.ofNat (T - sp_ss l i) / L i
    rw [hli.1]
  | d + 1, kk + 1, i, f, h, hl, h1, h2 => by
    have hli := hl i (by omega)
    have e : sp_ss l (i + 1) = sp_ss l i + l i := rfl
    have m : sp_ss l (i + 1) ≤ sp_ss l (i + 1 + d) := ss_mo
    rw [show i + (d + 1) = i + 1 + d by omega] at h1 h2 ⊢
    unfold sp_her
    rw [hli.1, if_neg (show ¬ Int32.ofNat (T - sp_ss l i) ≤ Int32.ofNat (l i) from fun x => by have := (i_le (by omega) (by omega)).mp x; omega)]
    have es : Int32.ofNat (T - sp_ss l i) - Int32.ofNat (l i) = Int32.ofNat (T - sp_ss l (i + 1)) := by
      rw [show T - sp_ss l i = (T - sp_ss l (i + 1)) + l i by omega, Int32.ofNat_add]
      exact Int32.add_sub_cancel _ _
    rw [es, her_at hT d kk (i + 1) (G i) (by omega) (fun j hj => hl j (by omega)) h1 h2]
    have e0 : (if d = 0 then G i else G (i + 1 + d - 1)) = G (i + 1 + d - 1) := by
      by_cases hd : d = 0
      · rw [if_pos hd, hd]; rfl
      · rw [if_neg hd]
    rw [e0, if_neg (show ¬ d + 1 = 0 by omega)]
theorem her_0 {G L : Nat → Int32} {h : Int32} : ∀ {k : Nat}, (0 < k → 1 ≤ L 0 ∧ L 0 ≤ 99) → sp_her G L 0 h 0 k = h
  | 0, _ => rfl
  | k + 1, hl => by
    have hl := hl (by omega)
    unfold sp_her
    rw [if_pos (show (0 : Int32) ≤ L 0 by grind), Int32.mul_zero, show (0 : Int32) / L 0 = 0 by rw [← Int32.toInt_inj, Int32.toInt_div]; simp, Int32.add_zero]
section WK
variable {σ : xS} {l : Nat → Nat} {k : Nat}
abbrev x_wa (σ : xS) (k t : Nat) : Int32 := sp_her (σ.1 8) (σ.1 9) 0 (σ.1 7 0) (Int32.ofNat t) k
theorem wk_at (hl : ∀ j, j < k → σ.1 9 j = Int32.ofNat (l j) ∧ 1 ≤ l j ∧ l j ≤ 99) {i j : Nat} (hi : i < k) (hT : sp_ss l k ≤ 600) (hj : j < l i) : x_wa σ k (sp_ss l i + j + 1) = (if i = 0 then σ.1 7 0 else σ.1 8 (i - 1)) + (σ.1 8 i - (if i = 0 then σ.1 7 0 else σ.1 8 (i - 1))) * Int32.ofNat (j + 1) / Int32.ofNat (l i) := by
  have e : sp_ss l (i + 1) = sp_ss l i + l i := rfl
  have m : sp_ss l (i + 1) ≤ sp_ss l (i + 1 + (k - (i + 1))) := ss_mo
  rw [show i + 1 + (k - (i + 1)) = k by omega] at m
  have := her_at (G := σ.1 8) (L := σ.1 9) (l := l) (T := sp_ss l i + j + 1) (by omega) i k 0 (σ.1 7 0) hi (fun j hj => hl j (by omega)) (by rw [Nat.zero_add]; omega) (by rw [Nat.zero_add]; omega)
  rw [show sp_ss l 0 = 0 from rfl, Nat.sub_zero, Nat.zero_add] at this
  rw [show sp_ss l i + j + 1 - sp_ss l i = j + 1 by omega, (hl i hi).1] at this
  exact this
theorem wk_r (hl : ∀ j, j < k → σ.1 9 j = Int32.ofNat (l j) ∧ 1 ≤ l j ∧ l j ≤ 99) (hT : sp_ss l k ≤ 600) (h7 : 12 ≤ σ.1 7 0 ∧ σ.1 7 0 ≤ 480) (h8 : ∀ j, j < k → 12 ≤ σ.1 8 j ∧ σ.1 8 j ≤ 480) {t : Nat} (ht : t ≤ sp_ss l k) : 12 ≤ x_wa σ k t ∧ x_wa σ k t ≤ 480 := by
  by_cases h0 : t = 0
  · have : x_wa σ k t = σ.1 7 0 := by
      rw [h0]
      refine her_0 (fun hk => ?_)
      obtain ⟨a, b, c⟩ := hl 0 hk
      rw [a]
      exact ⟨(i_le (j := 1) (by omega) (by omega)).mpr b, (i_le (k := 99) (by omega) (by omega)).mpr c⟩
    rw [this]; exact h7
  · obtain ⟨i, hi, a, b⟩ := ss_in (by omega) ht
    have e : sp_ss l (i + 1) = sp_ss l i + l i := rfl
    have := wk_at (σ := σ) hl hi hT (j := t - sp_ss l i - 1) (by omega)
    rw [show sp_ss l i + (t - sp_ss l i - 1) + 1 = t by omega] at this
    rw [this]
    refine i_hr ?_ (h8 i hi) (by omega) (hl i hi).2.1 (hl i hi).2.2
    by_cases hz : i = 0
    · rw [if_pos hz]; exact h7
    · rw [if_neg hz]; exact h8 _ (by omega)
theorem c_wk_in {i : Nat} {τ : xS} {v : Int32} (hl : ∀ j, j < k → σ.1 9 j = Int32.ofNat (l j) ∧ 1 ≤ l j ∧ l j ≤ 99) (hk : k ≤ 12) (hi : i < k) (hT : sp_ss l k ≤ 600) (hv : v = if i = 0 then σ.1 7 0 else σ.1 8 (i - 1)) (f : x_fr [(19, 99999)] σ τ) (h : ∀ t, t ≤ sp_ss l i → τ.1 19 t = x_wa σ k t) : x_ens (x_it (f_Sc_finish_7_L62 v (Int32.ofNat i) (Int32.ofNat (l i))) 10000 (Int32.ofNat (sp_ss l i), (1 : Int32), τ)) (fun b => b.1 = Int32.ofNat (sp_ss l (i + 1)) ∧ x_fr [(19, 99999)] σ b.2.2 ∧ ∀ t, t ≤ sp_ss l (i + 1) → b.2.2.1 19 t = x_wa σ k t) := by
  have e : sp_ss l (i + 1) = sp_ss l i + l i := rfl
  have m : sp_ss l (i + 1) ≤ sp_ss l (i + 1 + (k - (i + 1))) := ss_mo
  rw [show i + 1 + (k - (i + 1)) = k by omega] at m
  have hli := hl i hi
  refine x_iv.go (fun j a => a.1 = Int32.ofNat (sp_ss l i + j) ∧ a.2.1 = Int32.ofNat (j + 1) ∧ x_fr [(19, 99999)] σ a.2.2 ∧ ∀ t, t ≤ sp_ss l i + j → a.2.2.1 19 t = x_wa σ k t) (l i) (by omega) ⟨rfl, rfl, f, h⟩ ?_
  rintro j ⟨a1, a2, a3⟩ hj ⟨e1, e2, fa, ha⟩
  dsimp only at e1 e2 fa ha
  subst e1 e2
  unfold f_Sc_finish_7_L62
  dsimp only
  by_cases hx : j = l i
  · rw [if_pos (show Int32.ofNat (l i) < Int32.ofNat (j + 1) from (i_lt (by omega) (by omega)).mpr (by omega))]
    refine x_iv.l ⟨?_, fa, fun t ht => ha t (by omega)⟩
    rw [e, hx]
  · rw [if_neg (show ¬ Int32.ofNat (l i) < Int32.ofNat (j + 1) from fun x => by have := (i_lt (by omega) (by omega)).mp x; omega), if_neg (show ¬ (600 : Int32) ≤ Int32.ofNat (sp_ss l i + j) from fun x => by have := (i_le (j := 600) (by omega) (by omega)).mp x; omega), if_neg (i_ix (by omega) (by omega)), if_neg (show ¬ Int32.ofNat (l i) = 0 from fun x => by have := (i_ej (k := 0) (by omega) (by omega)).mp x; omega), i_s, if_neg (i_ix (by omega) (by omega)), i_cl (by omega), i_cl (by omega), i_s, fa.ce 8 rfl]
    refine x_iv.r (by omega) ⟨rfl, rfl, x_frI (p := 19) (k := sp_ss l i + j + 1) (by simp [x_in]) fa, fun t ht => ?_⟩
    by_cases ht2 : t = sp_ss l i + j + 1
    · rw [ht2]
      dsimp only
      rw [x_pI_kk, hv]
      exact (wk_at hl hi hT (by omega)).symm
    · dsimp only
      rw [x_pI_kn ht2]
      exact ha t (by omega)
theorem c_walk (hl : ∀ j, j < k → σ.1 9 j = Int32.ofNat (l j) ∧ 1 ≤ l j ∧ l j ≤ 99) (hk : k ≤ 12) (hT : sp_ss l k ≤ 600) (h71 : σ.1 7 1 = Int32.ofNat k) (h19 : σ.1 19 0 = σ.1 7 0) : x_ens (x_it f_Sc_finish_7_L37 10000 (σ.1 7 0, (0 : Int32), (0 : Int32), σ)) (fun b => x_fr [(19, 99999)] σ b.2.2.2 ∧ ∀ t, t ≤ sp_ss l k → b.2.2.2.1 19 t = x_wa σ k t) := by
  refine x_iv.go (fun i a => a.1 = (if i = 0 then σ.1 7 0 else σ.1 8 (i - 1)) ∧ a.2.1 = Int32.ofNat (sp_ss l i) ∧ a.2.2.1 = Int32.ofNat i ∧ x_fr [(19, 99999)] σ a.2.2.2 ∧ ∀ t, t ≤ sp_ss l i → a.2.2.2.1 19 t = x_wa σ k t) k (by omega) ⟨rfl, rfl, rfl, x_fr.rf, ?_⟩ ?_
  · intro t ht
    have : t = 0 := by unfold sp_ss at ht; omega
    rw [this]
    refine h19.trans (her_0 (fun hk => ?_)).symm
    obtain ⟨a, b, c⟩ := hl 0 hk
    rw [a]
    exact ⟨(i_le (j := 1) (by omega) (by omega)).mpr b, (i_le (k := 99) (by omega) (by omega)).mpr c⟩
  · rintro i ⟨a1, a2, a3, a4⟩ hi ⟨e1, e2, e3, fa, ha⟩
    dsimp only at e1 e2 e3 fa ha
    subst e2 e3
    unfold f_Sc_finish_7_L37
    dsimp only
    rw [fa.ck 7 1 rfl, h71]
    by_cases hx : i = k
    · rw [if_pos (show Int32.ofNat k ≤ Int32.ofNat i from (i_le (by omega) (by omega)).mpr (by omega))]
      exact x_iv.l ⟨fa, fun t ht => ha t (by rw [hx]; exact ht)⟩
    · have hl1 := hl i (by omega)
      rw [if_neg (show ¬ Int32.ofNat k ≤ Int32.ofNat i from fun x => by have := (i_le (by omega) (by omega)).mp x; omega), if_neg (show ¬ (12 : Int32) ≤ Int32.ofNat i from fun x => by have := (i_le (j := 12) (by omega) (by omega)).mp x; omega), if_neg (i_ix (by omega) (by omega)), i_cl (by omega), fa.ce 9 rfl, hl1.1]
      refine x_ens.bi (c_wk_in hl hk (by omega) hT e1 fa ha) ?_
      rintro b ⟨b1, b2, b3⟩
      rw [if_neg (show ¬ (Int32.ofNat i < 0 ∨ 12 ≤ i) by rintro (x | x); exact i_ge (by omega) x; omega), i_s]
      refine x_iv.r (by omega) ⟨?_, b1, rfl, b2, b3⟩
      dsimp only
      rw [if_neg (show ¬ i + 1 = 0 by omega), b2.ce 8 rfl]
      rfl
end WK
