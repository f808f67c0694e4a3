theorem vo_2 {w : Nat} {rule : Int32} (h0 : ¬ rule = 0) (h1 : ¬ rule = 1) : sp_vo w rule = sp_vo w 2 := by
  unfold sp_vo
  rw [if_neg h0, if_neg h1, if_neg (show ¬ (2 : Int32) = 0 by decide), if_neg (show ¬ (2 : Int32) = 1 by decide)]
theorem part_2 {T : tT} {m : Nat} {rule : Int32} {rc : Nat → tR} (h0 : ¬ rule = 0) (h1 : ¬ rule = 1) : rd_part T m rule rc = rd_part T m 2 rc := by
  funext i
  unfold rd_part
  rw [vo_2 h0 h1]
theorem expr_2 {T : tT} {m : Nat} {rule : Int32} (h0 : ¬ rule = 0) (h1 : ¬ rule = 1) : ∀ (f d : Nat), rd_expr T m rule f d = rd_expr T m 2 f d
  | 0, d => rfl
  | f + 1, d => by
    funext i
    rw [rd_expr, rd_expr]
    unfold rd_and rd_test rd_sum
    rw [part_2 h0 h1, expr_2 h0 h1 f (d + 1)]
def x_sr (c P : List Int32) (rule : Int32) (va vb vs : Int32) : Prop := ∃ a b s : Nat, va = Int32.ofNat a ∧ vb = Int32.ofNat b ∧ vs = Int32.ofNat s ∧ a < b ∧ b ≤ c.length ∧ sp_hg ((c.drop a).take (b - a)) 0 ∧ sp_us (ht_lo rule) (ht_hi rule) ((c.drop a).take (b - a)) ∧ ∃ P1 P2, P = P1 ++ (((c.drop a).take (b - a)).flatMap sp_wr ++ [0]) ++ P2 ∧ P1.length = s
theorem x_sr.mo {c P : List Int32} {rule va vb vs : Int32} (h : x_sr c P rule va vb vs) (c' P' : List Int32) : x_sr (c ++ c') (P ++ P') rule va vb vs := by
  obtain ⟨a, b, s, h1, h2, h3, h4, h5, h6, h7, P1, P2, h8, h9⟩ := h
  have e : ((c ++ c').drop a).take (b - a) = (c.drop a).take (b - a) := by
    rw [List.drop_append_of_le_length (by omega), List.take_append_of_le_length (by rw [List.length_drop]; omega)]
  refine ⟨a, b, s, h1, h2, h3, h4, by rw [List.length_append]; omega, by rw [e]; exact h6, by rw [e]; exact h7, P1, P2 ++ P', ?_, h9⟩
  rw [e, h8, List.append_assoc _ P2]
theorem x_sr.new {c P k : List Int32} {rule : Int32} (hk : sp_hg k 0 ∧ sp_us (ht_lo rule) (ht_hi rule) k) : x_sr (c ++ k) (P ++ (k.flatMap sp_wr ++ [0])) rule (Int32.ofNat c.length) (Int32.ofNat (c.length + k.length)) (Int32.ofNat P.length) := by
  have hne : 0 < k.length := by
    cases k with
    | nil => have := hk.1; unfold sp_hg at this; omega
    | cons x y => show 0 < y.length + 1; omega
  have e : ((c ++ k).drop c.length).take (c.length + k.length - c.length) = k := by
    rw [List.drop_left, show c.length + k.length - c.length = k.length by omega, List.take_length]
  refine ⟨c.length, c.length + k.length, P.length, rfl, rfl, rfl, by omega, by rw [List.length_append]; omega, by rw [e]; exact hk.1, by rw [e]; exact hk.2, P, [], ?_, rfl⟩
  rw [e, List.append_nil]
theorem wr_len : ∀ {k : List Int32}, (k.flatMap sp_wr).length ≤ 2 * k.length
  | [] => by simp
  | x :: k => by
    rw [List.flatMap_cons, List.length_append]
    have h := @wr_len k
    have : (sp_wr x).length ≤ 2 := by unfold sp_wr; (repeat' split) <;> simp
    show _ ≤ 2 * (k.length + 1)
    omega
def x_d5 (c P : List Int32) (i : Nat) (τ υ : xS) : Prop := x_li (υ.1 60 40) (υ.1 76) P ∧ P.length ≤ 2 * i ∧
  (if x_bt (υ.1 60 37) 2 = true then x_sr c P 0 (τ.1 29 0) (τ.1 30 0) (υ.1 60 32) else τ.1 29 0 = 0 ∧ τ.1 30 0 = 0 ∧ υ.1 60 32 = -1) ∧
  (if x_bt (υ.1 60 37) 17 = true then x_sr c P 1 (τ.1 29 1) (τ.1 30 1) (υ.1 60 33) else τ.1 29 1 = 0 ∧ τ.1 30 1 = 0 ∧ υ.1 60 33 = -1) ∧
  ∃ k : Nat, k ≤ 4 ∧ τ.1 21 9 = Int32.ofNat k ∧ υ.1 60 31 = Int32.ofNat k ∧ (∀ h, h < k → x_sr c P 2 (τ.1 29 (2 + h)) (τ.1 30 (2 + h)) (υ.1 75 h)) ∧ ∀ h, k ≤ h → h < 4 → τ.1 29 (2 + h) = 0 ∧ τ.1 30 (2 + h) = 0
