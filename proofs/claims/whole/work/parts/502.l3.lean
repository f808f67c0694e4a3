theorem x_ens.eq {β : Type} {o : Option β} {x : β} (h : x_ens o (fun b => b = x)) : o = some x := by
  obtain ⟨b, e, rfl⟩ := h; exact e
theorem x_ens.of {β : Type} {o : Option β} {x : β} {Q : β → Prop} (h : o = some x) (k : Q x) : x_ens o Q := ⟨x, h, k⟩
def sp_abs (v : Int32) : Int32 := if 0 ≤ v then v else 0 - v
def sp_wi (v lo hi : Int32) : Int32 := if v < lo then lo else if hi < v then hi else v
theorem e_Mo_off (a b : Int32) (σ : xS) : f_Mo_off a b σ = some (if b ≤ a then a - b else b - a, σ) := by
  unfold f_Mo_off; split <;> rfl
theorem e_Mo_bounded (v lo hi : Int32) (σ : xS) : f_Mo_bounded v lo hi σ = some (sp_wi v lo hi, σ) := by
  unfold f_Mo_bounded sp_wi; grind
theorem e_RH_within (v lo hi : Int32) (σ : xS) : f_RH_within v lo hi σ = some (sp_wi v lo hi, σ) := by
  unfold f_RH_within sp_wi; grind
abbrev sp_nr (T : Nat → Int32) (n : Nat) (v r : Int32) : Prop := ∃ i, i < n ∧ sp_abs (T (6 + i) - v) ≤ r
theorem i_6 {i : Nat} : (6 : Int32) + Int32.ofNat i = Int32.ofNat (6 + i) := (Int32.ofNat_add 6 i).symm
theorem e_RH_isNearMark_50 (n : Nat) (hn : n ≤ 6) (v r : Int32) (σ : xS) : f_RH_isNearMark_50 (Int32.ofNat n) v r σ = some (if sp_nr (σ.1 50) n v r then 1 else 0, σ) := by
  apply x_ens.eq
  unfold f_RH_isNearMark_50
  refine x_ens.bi (P := fun b => if sp_nr (σ.1 50) n v r then b = .inl (1, σ) else ∃ k, b = .inr (k, σ)) ?_ ?_
  · refine x_ens.l0 (fun i a => a = (Int32.ofNat (6 + i), σ) ∧ ∀ j, j < i → ¬ sp_abs (σ.1 50 (6 + j) - v) ≤ r) n (by omega) ⟨rfl, by omega⟩ ?_
    rintro i a hi ⟨rfl, hj⟩
    unfold f_RH_isNearMark_50_L4
    dsimp only
    simp (disch := omega) only [i_6, i_le, i_cl]
    by_cases h1 : i = n
    · subst h1
      rw [if_pos (by omega)]
      refine x_ens.so ⟨?_, by rintro a' ⟨⟩⟩
      rintro b ⟨⟩
      rw [if_neg (by rintro ⟨k, h2, h3⟩; exact hj k h2 h3)]
      exact ⟨_, rfl⟩
    · rw [if_neg (by omega), if_neg (by omega)]
      refine x_ens.gr (by rintro (h | h); exact i_ge (by omega) h; omega) ?_
      by_cases h2 : sp_abs (σ.1 50 (6 + i) - v) ≤ r
      · rw [if_neg (by unfold sp_abs at h2; grind)]
        refine x_ens.so ⟨?_, by rintro a' ⟨⟩⟩
        rintro b ⟨⟩
        rw [if_pos ⟨i, by omega, h2⟩]
      · rw [if_pos (by unfold sp_abs at h2; grind)]
        refine x_ens.so ⟨by rintro b ⟨⟩, ?_⟩
        rintro a' ⟨⟩
        refine ⟨by omega, by rw [i_s]; rfl, ?_⟩
        intro j h3
        by_cases h4 : j = i
        · subst h4; exact h2
        · exact hj j (by omega)
  · intro b hb
    by_cases h : sp_nr (σ.1 50) n v r
    · rw [if_pos h] at hb ⊢; subst hb; exact x_ens.so rfl
    · rw [if_neg h] at hb ⊢; obtain ⟨k, rfl⟩ := hb; exact x_ens.so rfl
theorem e_RH_isNearMark_36 (n : Nat) (hn : n ≤ 6) (v r : Int32) (σ : xS) : f_RH_isNearMark_36 (Int32.ofNat n) v r σ = some (if sp_nr (σ.1 36) n v r then 1 else 0, σ) := by
  apply x_ens.eq
  unfold f_RH_isNearMark_36
  refine x_ens.bi (P := fun b => if sp_nr (σ.1 36) n v r then b = .inl (1, σ) else ∃ k, b = .inr (k, σ)) ?_ ?_
  · refine x_ens.l0 (fun i a => a = (Int32.ofNat (6 + i), σ) ∧ ∀ j, j < i → ¬ sp_abs (σ.1 36 (6 + j) - v) ≤ r) n (by omega) ⟨rfl, by omega⟩ ?_
    rintro i a hi ⟨rfl, hj⟩
    unfold f_RH_isNearMark_36_L4
    dsimp only
    simp (disch := omega) only [i_6, i_le, i_cl]
    by_cases h1 : i = n
    · subst h1
      rw [if_pos (by omega)]
      refine x_ens.so ⟨?_, by rintro a' ⟨⟩⟩
      rintro b ⟨⟩
      rw [if_neg (by rintro ⟨k, h2, h3⟩; exact hj k h2 h3)]
      exact ⟨_, rfl⟩
    · rw [if_neg (by omega), if_neg (by omega)]
      refine x_ens.gr (by rintro (h | h); exact i_ge (by omega) h; omega) ?_
      by_cases h2 : sp_abs (σ.1 36 (6 + i) - v) ≤ r
      · rw [if_neg (by unfold sp_abs at h2; grind)]
        refine x_ens.so ⟨?_, by rintro a' ⟨⟩⟩
        rintro b ⟨⟩
        rw [if_pos ⟨i, by omega, h2⟩]
      · rw [if_pos (by unfold sp_abs at h2; grind)]
        refine x_ens.so ⟨by rintro b ⟨⟩, ?_⟩
        rintro a' ⟨⟩
        refine ⟨by omega, by rw [i_s]; rfl, ?_⟩
        intro j h3
        by_cases h4 : j = i
        · subst h4; exact h2
        · exact hj j (by omega)
  · intro b hb
    by_cases h : sp_nr (σ.1 36) n v r
    · rw [if_pos h] at hb ⊢; subst hb; exact x_ens.so rfl
    · rw [if_neg h] at hb ⊢; obtain ⟨k, rfl⟩ := hb; exact x_ens.so rfl
theorem e_RH_isNearMark_26 (n : Nat) (hn : n ≤ 6) (v r : Int32) (σ : xS) : f_RH_isNearMark_26 (Int32.ofNat n) v r σ = some (if sp_nr (σ.1 26) n v r then 1 else 0, σ) := by
  apply x_ens.eq
  unfold f_RH_isNearMark_26
  refine x_ens.bi (P := fun b => if sp_nr (σ.1 26) n v r then b = .inl (1, σ) else ∃ k, b = .inr (k, σ)) ?_ ?_
  · refine x_ens.l0 (fun i a => a = (Int32.ofNat (6 + i), σ) ∧ ∀ j, j < i → ¬ sp_abs (σ.1 26 (6 + j) - v) ≤ r) n (by omega) ⟨rfl, by omega⟩ ?_
    rintro i a hi ⟨rfl, hj⟩
    unfold f_RH_isNearMark_26_L4
    dsimp only
    simp (disch := omega) only [i_6, i_le, i_cl]
    by_cases h1 : i = n
    · subst h1
      rw [if_pos (by omega)]
      refine x_ens.so ⟨?_, by rintro a' ⟨⟩⟩
      rintro b ⟨⟩
      rw [if_neg (by rintro ⟨k, h2, h3⟩; exact hj k h2 h3)]
      exact ⟨_, rfl⟩
    · rw [if_neg (by omega), if_neg (by omega)]
      refine x_ens.gr (by rintro (h | h); exact i_ge (by omega) h; omega) ?_
      by_cases h2 : sp_abs (σ.1 26 (6 + i) - v) ≤ r
      · rw [if_neg (by unfold sp_abs at h2; grind)]
        refine x_ens.so ⟨?_, by rintro a' ⟨⟩⟩
        rintro b ⟨⟩
        rw [if_pos ⟨i, by omega, h2⟩]
      · rw [if_pos (by unfold sp_abs at h2; grind)]
        refine x_ens.so ⟨by rintro b ⟨⟩, ?_⟩
        rintro a' ⟨⟩
        refine ⟨by omega, by rw [i_s]; rfl, ?_⟩
        intro j h3
        by_cases h4 : j = i
        · subst h4; exact h2
        · exact hj j (by omega)
  · intro b hb
    by_cases h : sp_nr (σ.1 26) n v r
    · rw [if_pos h] at hb ⊢; subst hb; exact x_ens.so rfl
    · rw [if_neg h] at hb ⊢; obtain ⟨k, rfl⟩ := hb; exact x_ens.so rfl
theorem i_ab {a v r : Int32} (ha : 0 ≤ a ∧ a ≤ 1000) (hv : 0 ≤ v ∧ v ≤ 1000) : sp_abs (a - v) = if a ≤ v then v - a else a - v := by
  unfold sp_abs; grind
theorem i_nl {a b : Int32} : ¬ a < b ↔ b ≤ a := by grind
theorem i_nle {a b : Int32} : ¬ a ≤ b ↔ b < a := by grind
theorem e_Mo_isByMark (n : Nat) (hn : n ≤ 6) (v : Int32) (σ : xS) (hm : σ.1 60 4 = Int32.ofNat n) (hv : 0 ≤ v ∧ v ≤ 1000) (hr : ∀ i, i < n → 0 ≤ σ.1 79 (6 + i) ∧ σ.1 79 (6 + i) ≤ 1000) :
    f_Mo_isByMark_60 v σ = some (if sp_nr (σ.1 79) n v 6 then 1 else 0, σ) := by
  apply x_ens.eq
  unfold f_Mo_isByMark_60
  refine x_ens.bi (P := fun b => if sp_nr (σ.1 79) n v 6 then b = .inl (1, σ) else ∃ k, b = .inr (k, σ)) ?_ ?_
  · refine x_ens.l0 (fun i a => a = (Int32.ofNat i, σ) ∧ ∀ j, j < i → ¬ sp_abs (σ.1 79 (6 + j) - v) ≤ 6) n (by omega) ⟨rfl, by omega⟩ ?_
    rintro i a hi ⟨rfl, hj⟩
    unfold f_Mo_isByMark_60_L2
    dsimp only
    simp (disch := omega) only [hm, i_6, i_le, i_cl]
    by_cases h1 : i = n
    · subst h1
      rw [if_pos (by omega)]
      refine x_ens.so ⟨?_, by rintro a' ⟨⟩⟩
      rintro b ⟨⟩
      rw [if_neg (by rintro ⟨k, h2, h3⟩; exact hj k h2 h3)]
      exact ⟨_, rfl⟩
    · rw [if_neg (by omega)]
      refine x_ens.gr (by rintro (h | h); exact i_ge (by omega) h; omega) ?_
      rw [e_Mo_off]
      dsimp only [Option.bind_some]
      have h5 := hr i (by omega)
      rw [← i_ab (r := 0) h5 hv]
      by_cases h2 : sp_abs (σ.1 79 (6 + i) - v) ≤ 6
      · rw [if_neg (i_nl.mpr h2)]
        refine x_ens.so ⟨?_, by rintro a' ⟨⟩⟩
        rintro b ⟨⟩
        rw [if_pos ⟨i, by omega, h2⟩]
      · rw [if_pos (i_nle.mp h2)]
        refine x_ens.so ⟨by rintro b ⟨⟩, ?_⟩
        rintro a' ⟨⟩
        refine ⟨by omega, by rw [i_s], ?_⟩
        intro j h3
        by_cases h4 : j = i
        · subst h4; exact h2
        · exact hj j (by omega)
  · intro b hb
    by_cases h : sp_nr (σ.1 79) n v 6
    · rw [if_pos h] at hb ⊢; subst hb; exact x_ens.so rfl
    · rw [if_neg h] at hb ⊢; obtain ⟨k, rfl⟩ := hb; exact x_ens.so rfl
def sp_face (ct cw : Nat → Int32) (t later : Int32) : Nat → Int32
  | 0 => 0
  | n + 1 => if ct n + later ≤ t then cw n else sp_face ct cw t later n
theorem e_Sc_faceIn (n : Nat) (hn : n ≤ 6) (t later : Int32) (σ : xS) (hc : σ.1 7 5 = Int32.ofNat n) : f_Sc_faceIn_7 t later σ = some (sp_face (σ.1 10) (σ.1 11) t later n, σ) := by
  apply x_ens.eq
  unfold f_Sc_faceIn_7
  refine x_ens.bi (P := fun b => ∃ k, b = (sp_face (σ.1 10) (σ.1 11) t later n, k, σ)) ?_ ?_
  · refine x_ens.l0 (fun i a => a = (sp_face (σ.1 10) (σ.1 11) t later i, Int32.ofNat i, σ)) n (by omega) rfl ?_
    rintro i a hi rfl
    unfold f_Sc_faceIn_7_L5
    dsimp only
    simp (disch := omega) only [hc, i_le, i_cl]
    by_cases h1 : i = n
    · subst h1
      rw [if_pos (by omega)]
      exact x_ens.so ⟨by rintro b ⟨⟩; exact ⟨_, rfl⟩, by rintro a' ⟨⟩⟩
    · rw [if_neg (by omega), if_neg (by rw [show (6 : Int32) = Int32.ofNat 6 from rfl, i_le (by omega) (by omega)]; omega)]
      refine x_ens.gr (by rintro (h | h); exact i_ge (by omega) h; omega) ?_
      by_cases h2 : σ.1 10 i + later ≤ t
      · rw [if_neg (i_nl.mpr h2)]
        refine x_ens.gr (by rintro (h | h); exact i_ge (by omega) h; omega) ?_
        refine x_ens.so ⟨by rintro b ⟨⟩, ?_⟩
        rintro a' ⟨⟩
        refine ⟨by omega, ?_⟩
        rw [i_s, sp_face, if_pos h2]
      · rw [if_pos (i_nle.mp h2)]
        refine x_ens.so ⟨by rintro b ⟨⟩, ?_⟩
        rintro a' ⟨⟩
        refine ⟨by omega, ?_⟩
        rw [i_s, sp_face, if_neg h2]
  · rintro b ⟨k, rfl⟩; exact x_ens.so rfl
theorem e_Mo_whoseBy (n : Nat) (hn : n ≤ 6) (t later : Int32) (σ : xS) (hc : σ.1 60 3 = Int32.ofNat n) : f_Mo_whoseBy_60 t later σ = some (sp_face (σ.1 63) (σ.1 64) t later n, σ) := by
  apply x_ens.eq
  unfold f_Mo_whoseBy_60
  refine x_ens.bi (P := fun b => ∃ k, b = (sp_face (σ.1 63) (σ.1 64) t later n, k, σ)) ?_ ?_
  · refine x_ens.l0 (fun i a => a = (sp_face (σ.1 63) (σ.1 64) t later i, Int32.ofNat i, σ)) n (by omega) rfl ?_
    rintro i a hi rfl
    unfold f_Mo_whoseBy_60_L5
    dsimp only
    simp (disch := omega) only [hc, i_le, i_cl]
    by_cases h1 : i = n
    · subst h1
      rw [if_pos (by omega)]
      exact x_ens.so ⟨by rintro b ⟨⟩; exact ⟨_, rfl⟩, by rintro a' ⟨⟩⟩
    · rw [if_neg (by omega)]
      refine x_ens.gr (by rintro (h | h); exact i_ge (by omega) h; omega) ?_
      by_cases h2 : σ.1 63 i + later ≤ t
      · rw [if_neg (i_nl.mpr h2)]
        refine x_ens.gr (by rintro (h | h); exact i_ge (by omega) h; omega) ?_
        refine x_ens.so ⟨by rintro b ⟨⟩, ?_⟩
        rintro a' ⟨⟩
        refine ⟨by omega, ?_⟩
        rw [i_s, sp_face, if_pos h2]
      · rw [if_pos (i_nle.mp h2)]
        refine x_ens.so ⟨by rintro b ⟨⟩, ?_⟩
        rintro a' ⟨⟩
        refine ⟨by omega, ?_⟩
        rw [i_s, sp_face, if_neg h2]
  · rintro b ⟨k, rfl⟩; exact x_ens.so rfl
theorem sp_face_congr {ct cw ct' cw' : Nat → Int32} {t later : Int32} : ∀ {n : Nat}, (∀ i, i < n → ct i = ct' i ∧ cw i = cw' i) → sp_face ct cw t later n = sp_face ct' cw' t later n
  | 0, _ => rfl
  | n + 1, h => by
    unfold sp_face
    rw [(h n (by omega)).1, (h n (by omega)).2, sp_face_congr (fun i hi => h i (by omega))]
