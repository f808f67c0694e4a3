def x_d4 (τ υ : xS) : Prop := ((1 ≤ τ.1 26 0 ∧ τ.1 26 0 ≤ 60) ∧ (0 ≤ τ.1 26 1 ∧ τ.1 26 1 ≤ 24) ∧ (1 ≤ τ.1 26 2 ∧ τ.1 26 2 ≤ 90) ∧ (-30 ≤ τ.1 26 3 ∧ τ.1 26 3 ≤ 30) ∧ τ.1 26 4 = -1 ∧ (0 ≤ τ.1 26 5 ∧ τ.1 26 5 ≤ 200)) ∧ (υ.1 74 0 = τ.1 26 0 ∧ υ.1 74 1 = τ.1 26 1 ∧ υ.1 74 2 = τ.1 26 2 ∧ υ.1 74 3 = τ.1 26 3 ∧ υ.1 74 4 = τ.1 26 5) ∧ ((τ.1 6 0 = 0 ↔ ¬ x_bt (υ.1 60 37) 7 = true) ∧ (τ.1 6 1 = 0 ↔ ¬ x_bt (υ.1 60 37) 14 = true) ∧ (τ.1 6 2 = 0 ↔ ¬ x_bt (υ.1 60 37) 15 = true) ∧ (τ.1 6 3 = 0 ↔ ¬ x_bt (υ.1 60 37) 16 = true) ∧ (τ.1 6 5 = 0 ↔ ¬ x_bt (υ.1 60 37) 11 = true))
def x_D4 (b2 b17 : Bool) (τ υ : xS) : Prop := x_d4 τ υ ∧ x_bt (υ.1 60 37) 2 = b2 ∧ x_bt (υ.1 60 37) 17 = b17
def x_sl (p r w : Nat) (v lo hi : Int32) : Prop := (p = 5 ∧ r = 4 ∧ w = 11 ∧ v = 11 ∧ lo = 0 ∧ hi = 200) ∨ (p = 0 ∧ r = 0 ∧ w = 7 ∧ v = 7 ∧ lo = 1 ∧ hi = 60) ∨ (p = 1 ∧ r = 1 ∧ w = 14 ∧ v = 14 ∧ lo = 0 ∧ hi = 24) ∨ (p = 2 ∧ r = 2 ∧ w = 15 ∧ v = 15 ∧ lo = 1 ∧ hi = 90)
theorem x_sl.b {p r w : Nat} {v lo hi : Int32} (h : x_sl p r w v lo hi) : p < 12 ∧ r < 5 ∧ x_ow v w ∧ 0 ≤ lo := by
  rcases h with ⟨rfl, rfl, rfl, rfl, rfl, rfl⟩ | ⟨rfl, rfl, rfl, rfl, rfl, rfl⟩ | ⟨rfl, rfl, rfl, rfl, rfl, rfl⟩ | ⟨rfl, rfl, rfl, rfl, rfl, rfl⟩ <;> exact ⟨by omega, by omega, by unfold x_ow; simp, by decide⟩
theorem d4_set {p r w : Nat} {v lo hi x : Int32} (h : x_sl p r w v lo hi) {τ υ τ' υ' : xS} {b2 b17 : Bool} (d : x_D4 b2 b17 τ υ) (hx : lo ≤ x ∧ x ≤ hi) (h26 : τ'.1 26 = sp_up (τ.1 26) p x) (h6 : τ'.1 6 = sp_up (τ.1 6) p 1) (h74 : υ'.1 74 = sp_up (υ.1 74) r x) (h37 : υ'.1 60 37 = υ.1 60 37 ||| ((1 : Int32) <<< (v &&& 31))) : x_D4 b2 b17 τ' υ' := by
  have ho := h.b.2.2.1
  have hb : ∀ k, k < 32 → x_bt (υ'.1 60 37) k = (x_bt (υ.1 60 37) k || decide (k = w)) := fun k hk => by rw [h37]; exact ob_s ho hk
  obtain ⟨⟨⟨r0, r1, r2, r3, r4, r5⟩, ⟨s0, s1, s2, s3, s4⟩, ⟨q0, q1, q2, q3, q5⟩⟩, z2, z17⟩ := d
  unfold x_D4 x_d4
  rw [hb 2 (by omega), hb 17 (by omega), hb 7 (by omega), hb 14 (by omega), hb 15 (by omega), hb 16 (by omega), hb 11 (by omega), h26, h6, h74]
  rcases h with ⟨rfl, rfl, rfl, rfl, rfl, rfl⟩ | ⟨rfl, rfl, rfl, rfl, rfl, rfl⟩ | ⟨rfl, rfl, rfl, rfl, rfl, rfl⟩ | ⟨rfl, rfl, rfl, rfl, rfl, rfl⟩
  · simp [sp_up_eq, sp_up_ne, r0, r1, r2, r3, r4, hx, s0, s1, s2, s3, q0, q1, q2, q3, z2, z17]
  · simp [sp_up_eq, sp_up_ne, r1, r2, r3, r4, r5, hx, s1, s2, s3, s4, q5, q1, q2, q3, z2, z17]
  · simp [sp_up_eq, sp_up_ne, r0, r2, r3, r4, r5, hx, s0, s2, s3, s4, q0, q5, q2, q3, z2, z17]
  · simp [sp_up_eq, sp_up_ne, r0, r1, r3, r4, r5, hx, s0, s1, s3, s4, q0, q1, q5, q3, z2, z17]
