def sp_Tx (S : Nat → Int32) (l : List Int32) (m : Nat) (x : Nat × Nat × Nat) (k : Nat) : Int32 := if 6 ≤ k ∧ k < 6 + m then sp_pi l x (k - 6) else S k
theorem sp_Tx_in {S : Nat → Int32} {l : List Int32} {m : Nat} {x : Nat × Nat × Nat} {i : Nat} (hi : i < m) : sp_Tx S l m x (6 + i) = sp_pi l x i := by
  unfold sp_Tx; rw [if_pos (by omega), show 6 + i - 6 = i by omega]
theorem sp_Tx_out {S : Nat → Int32} {l : List Int32} {m : Nat} {x : Nat × Nat × Nat} {k : Nat} (h : k < 6 ∨ 6 + m ≤ k) : sp_Tx S l m x k = S k := by
  unfold sp_Tx; rw [if_neg (by omega)]
def wsc_mk (C : Nat → Nat → Int32) (S : Nat → Int32) (m : Nat) (x : Nat × Nat × Nat) : Int32 := sp_SH C (sp_Tx S (sp_pls C (sp_nm C)) m x) m 0 0 0
def sp_mk (C : Nat → Nat → Int32) (S : Nat → Int32) (n m : Nat) : Nat → Nat × Nat × Nat → Int32 → Nat × Nat × Nat → Int32 × Nat × Nat × Nat
  | 0, _, b, y => (b, y)
  | d + 1, x, b, y => match sp_nxt n m x with
    | none => (if wsc_mk C S m x ≤ b then b else wsc_mk C S m x, if wsc_mk C S m x ≤ b then y else x)
    | some z => sp_mk C S n m d z (if wsc_mk C S m x ≤ b then b else wsc_mk C S m x) (if wsc_mk C S m x ≤ b then y else x)
theorem x_RTx {C : Nat → Nat → Int32} {S : Nat → Int32} {n m : Nat} {x : Nat × Nat × Nat} (G : x_G C) (R : x_R C S (sp_nk C)) (hm : m ≤ 3) (hx : ∀ i, i < m → sp_x x i < (sp_pls C (sp_nm C)).length) : x_R C (sp_Tx S (sp_pls C (sp_nm C)) m x) m := by
  obtain ⟨r0, r1, r2, r3, r5, r4, r6, r7⟩ := R
  unfold x_R sp_hok
  rw [sp_Tx_out (k := 0) (by omega), sp_Tx_out (k := 1) (by omega), sp_Tx_out (k := 2) (by omega), sp_Tx_out (k := 3) (by omega), sp_Tx_out (k := 4) (by omega), sp_Tx_out (k := 5) (by omega)]
  refine ⟨r0, r1, r2, r3, r5, r4, by omega, fun i hi => ?_⟩
  rw [sp_Tx_in hi]
  exact sp_pls_r G (Nat.le_refl _) _ (mem_gd.mpr ⟨sp_x x i, hx i hi, rfl⟩)
abbrev x_WK : List (Nat × Nat) := [(0, 9), (17, 99999), (18, 99999), (49, 99999), (50, 99999), (51, 99999), (52, 99999), (53, 99999), (54, 99999), (55, 4), (57, 99999), (58, 99999)]
theorem c_mk_L {C : Nat → Nat → Int32} {S : Nat → Int32} {σ : xS} {n m : Nat} (G : x_G C) (R : x_R C S (sp_nk C)) (hm : m ≤ 3) (hmn : m ≤ n) (en : (sp_pls C (sp_nm C)).length = n) (K : y_K C σ) (e36 : σ.1 36 = S) (hli : x_li (σ.1 55 1) (σ.1 56) (sp_pls C (sp_nm C))) :
    ∀ (d k fu : Nat) (x y : Nat × Nat × Nat) (b : Int32) (τ : xS), k + d = 300 → d + 1 < fu → sp_seq n m k = some x → x_vn n m x → x_fr x_WK σ τ → x_rw (τ.1 57) m x → (b = -1 ∨ τ.1 55 4 = Int32.ofNat m ∧ ∀ i, i < m → τ.1 58 i = sp_pi (sp_pls C (sp_nm C)) y i) →
    x_ens (x_it (f_RH_marks_0_L51 (Int32.ofNat m)) fu (b, 1, Int32.ofNat k, τ)) (fun r => r.1 = (sp_mk C S n m d x b y).1 ∧ r.2.2.2.1 0 9 = 0 ∧ x_fr x_WK σ r.2.2.2 ∧ (r.1 = -1 ∨ r.2.2.2.1 55 4 = Int32.ofNat m ∧ ∀ i, i < m → r.2.2.2.1 58 i = sp_pi (sp_pls C (sp_nm C)) (sp_mk C S n m d x b y).2 i))
  | d, k, 0, x, y, b, τ, _, h, _, _, _, _, _ => by omega
  | 0, k, fu + 1, x, y, b, τ, h1, _, hs, _, _, _, _ => by
    have hn : n ≤ 13 := by rw [← en]; have := @sp_pls_len C (sp_nm C); have := G.1.2; omega
    rw [show k = 300 by omega, sp_seq_end n (by omega) m (by omega) hmn] at hs
    cases hs
  | d + 1, k, fu + 1, x, y, b, τ, h1, h2, hs, hv, f, hr, hk => by
    have hn : n ≤ 13 := by rw [← en]; have := @sp_pls_len C (sp_nm C); have := G.1.2; omega
    have hl : (sp_pls C (sp_nm C)).length ≤ 13 := by omega
    have hx : ∀ i, i < m → sp_x x i < (sp_pls C (sp_nm C)).length := fun i hi => by rw [en]; exact sp_x_b hn hmn hv hi
    refine x_nx fun P kL kR => ?_
    unfold f_RH_marks_0_L51
    dsimp only
    rw [if_neg (by decide), if_neg (show ¬ (1000 : Int32) ≤ Int32.ofNat k from fun h => by have := (i_le (j := 1000) (by omega) (by omega)).mp h; omega)]
    obtain ⟨υ, e, K2, t1, t2, t3, t4, t5, t6, f2⟩ := c_take G (K.fr f rfl)
    have g2 : x_fr x_WK σ υ := x_fr.trans f (x_fr.su f2 rfl)
    rw [e]
    dsimp only [Option.bind_some]
    have li2 : x_li (υ.1 55 1) (υ.1 56) (sp_pls C (sp_nm C)) := by rw [g2.ck 55 1 rfl, g2.ce 56 rfl]; exact hli
    have rw2 : x_rw (υ.1 57) m x := by rw [f2.ce 57 rfl]; exact hr
    refine x_ens.bf (c_put hm hl li2 rw2 hx) (fun q e => fr_Ch_putPicked_55_49 e) ?_
    rintro q2 ⟨p1, p2, p3⟩ f3
    have g3 : x_fr x_WK σ q2.2 := x_fr.trans g2 (x_fr.su f3 rfl)
    have RT := x_RTx (n := n) G R hm hx
    refine x_ens.bi (c_as (T := sp_Tx S (sp_pls C (sp_nm C)) m x) (n := m) (late := 0) (sh := 0) (ah := 0) G (K.fr g3 rfl) (by omega) ?_ RT.2.2.2.2.2.1 p1 (by rw [f3.ck 49 2 rfl]; exact t3) (by rw [f3.ck 49 3 rfl]; exact t4) (by rw [f3.ck 49 4 rfl]; exact t5)) ?_
    · intro j hj
      by_cases hin : j < 6 ∨ 6 + m ≤ j
      · rw [sp_Tx_out hin, p3 j hin, t1 j hj, f.ce 36 rfl, e36]
      · obtain ⟨i, rfl⟩ : ∃ i, j = 6 + i := ⟨j - 6, by omega⟩
        rw [sp_Tx_in (by omega)]; exact p2 i (by omega)
    · rintro q3 ⟨hq, f4⟩
      have hq' : q3.1 = wsc_mk C S m x := hq
      have g4 : x_fr x_WK σ q3.2 := x_fr.trans g3 (x_fr.su f4 rfl)
      have z4 : q3.2.1 0 9 = 0 := by rw [f4.ck 0 9 rfl, f3.ck 0 9 rfl]; exact t6
      rw [hq']
      have step : ∀ (ω : xS) (b' : Int32) (y' : Nat × Nat × Nat), x_fr x_WK σ ω → ω.1 0 9 = 0 → x_rw (ω.1 57) m x → b' = (if wsc_mk C S m x ≤ b then b else wsc_mk C S m x) → y' = (if wsc_mk C S m x ≤ b then y else x) → (b' = -1 ∨ ω.1 55 4 = Int32.ofNat m ∧ ∀ i, i < m → ω.1 58 i = sp_pi (sp_pls C (sp_nm C)) y' i) → x_ens ((f_Ch_pickNext_55 (Int32.ofNat m) ω).bind fun q5 => some (Sum.inr (b', q5.1, Int32.ofNat k + 1, q5.2))) P := by
        intro ω b' y' gw zw rw5 hb' hy' hk'
        have h55 : ω.1 55 1 = Int32.ofNat n := by rw [gw.ck 55 1 rfl, hli.1, en]
        refine x_ens.bf (c_nextN hn hm hmn h55 rw5 hv) (fun q e => fr_Ch_pickNext_55 e) ?_
        intro q5 h5 f5
        have g5 : x_fr x_WK σ q5.2 := x_fr.trans gw (x_fr.su f5 rfl)
        have hk5 : b' = -1 ∨ q5.2.1 55 4 = Int32.ofNat m ∧ ∀ i, i < m → q5.2.1 58 i = sp_pi (sp_pls C (sp_nm C)) y' i := by rw [f5.ce 55 rfl, f5.ce 58 rfl]; exact hk'
        refine kR _ ?_
        rw [i_s, sp_mk, ← hb', ← hy']
        cases hnx : sp_nxt n m x with
        | none =>
          rw [hnx] at h5
          dsimp only at h5 ⊢
          rw [h5]
          obtain ⟨fu', rfl⟩ : ∃ fu', fu = fu' + 1 := ⟨fu - 1, by omega⟩
          refine x_nx fun P kL kR => ?_
          unfold f_RH_marks_0_L51
          dsimp only
          rw [if_pos rfl]
          exact kL _ ⟨rfl, by rw [f5.ck 0 9 rfl]; exact zw, g5, hk5⟩
        | some z =>
          rw [hnx] at h5
          dsimp only at h5 ⊢
          rw [h5.1]
          exact c_mk_L G R hm hmn en K e36 hli d (k + 1) fu z y' b' q5.2 (by omega) (by omega) (by rw [sp_seq, hs]; exact hnx) (hv.nxt hm hnx) g5 h5.2 hk5
      by_cases hc : wsc_mk C S m x ≤ b
      · rw [if_pos hc]
        refine step q3.2 b y g4 z4 (by rw [f4.ce 57 rfl, f3.ce 57 rfl]; exact rw2) (by rw [if_pos hc]) (by rw [if_pos hc]) ?_
        rw [f4.ce 55 rfl, f3.ce 55 rfl, f2.ce 55 rfl, f4.ce 58 rfl, f3.ce 58 rfl, f2.ce 58 rfl]; exact hk
      · rw [if_neg hc]
        have rw4 : x_rw (q3.2.1 57) m x := by rw [f4.ce 57 rfl, f3.ce 57 rfl]; exact rw2
        refine x_ens.bf (c_keep hm hl (by rw [g4.ck 55 1 rfl, g4.ce 56 rfl]; exact hli) rw4 hx) (fun q e => fr_Ch_keepPicked_55 e) ?_
        rintro q8 ⟨k1, k2⟩ f8
        refine step q8.2 (wsc_mk C S m x) x (x_fr.trans g4 (x_fr.su f8 rfl)) (by rw [f8.ck 0 9 rfl]; exact z4) (by rw [f8.ce 57 rfl]; exact rw4) (by rw [if_neg hc]) (by rw [if_neg hc]) (Or.inr ⟨k1, k2⟩)
