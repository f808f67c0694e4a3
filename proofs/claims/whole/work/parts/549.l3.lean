theorem i_dg {a v b : Int32} (h : 0 ≤ v) (h1 : 48 ≤ b ∧ b ≤ 57) : (v ≤ 0 → 0 ≤ v * 10 + b - 48 ∧ v * 10 + b - 48 ≤ 9) ∧ (v ≤ 9 → 0 ≤ v * 10 + b - 48 ∧ v * 10 + b - 48 ≤ 99) ∧ (v ≤ 99 → 0 ≤ v * 10 + b - 48 ∧ v * 10 + b - 48 ≤ 999) ∧ (v ≤ 999 → 0 ≤ v * 10 + b - 48 ∧ v * 10 + b - 48 ≤ 9999) := by
  refine ⟨fun h2 => ?_, fun h2 => ?_, fun h2 => ?_, fun h2 => ?_⟩ <;> grind
theorem tk_nu_b {g : Nat → Int32} {s k : Nat} (hk : k ≤ 4) (h : ∀ i, i < k → tk_d (g (s + i)) = true) : 0 ≤ tk_nu g s k ∧ tk_nu g s k ≤ 9999 := by
  have hd : ∀ i, i < k → 48 ≤ g (s + i) ∧ g (s + i) ≤ 57 := fun i hi => of_decide_eq_true (h i hi)
  have b0 : 0 ≤ tk_nu g s 0 ∧ tk_nu g s 0 ≤ 0 := by unfold tk_nu; decide
  have up : ∀ {a b : Int32}, a ≤ b → b ≤ 9999 → a ≤ 9999 := by intro a b h1 h2; grind
  by_cases h1 : k < 1
  · rw [show k = 0 by omega]; exact ⟨b0.1, up b0.2 (by decide)⟩
  have b1 : 0 ≤ tk_nu g s 1 ∧ tk_nu g s 1 ≤ 9 := by rw [tk_nu]; exact (i_dg (a := 0) b0.1 (hd 0 (by omega))).1 b0.2
  by_cases h2 : k < 2
  · rw [show k = 1 by omega]; exact ⟨b1.1, up b1.2 (by decide)⟩
  have b2 : 0 ≤ tk_nu g s 2 ∧ tk_nu g s 2 ≤ 99 := by rw [tk_nu]; exact (i_dg (a := 0) b1.1 (hd 1 (by omega))).2.1 b1.2
  by_cases h3 : k < 3
  · rw [show k = 2 by omega]; exact ⟨b2.1, up b2.2 (by decide)⟩
  have b3 : 0 ≤ tk_nu g s 3 ∧ tk_nu g s 3 ≤ 999 := by rw [tk_nu]; exact (i_dg (a := 0) b2.1 (hd 2 (by omega))).2.2.1 b2.2
  by_cases h4 : k < 4
  · rw [show k = 3 by omega]; exact ⟨b3.1, up b3.2 (by decide)⟩
  rw [show k = 4 by omega, tk_nu]; exact (i_dg (a := 0) b3.1 (hd 3 (by omega))).2.2.2 b3.2
theorem tk_at_num {g : Nat → Int32} {n s : Nat} (h : (tk_at g n s).1 = 2) : if (tk_at g n s).2.2.2 - (tk_at g n s).2.2.1 ≤ 4 then 0 ≤ (tk_at g n s).2.1 ∧ (tk_at g n s).2.1 ≤ 9999 else (tk_at g n s).2.1 = -1 := by
  revert h
  unfold tk_at
  by_cases h1 : n ≤ s
  · rw [if_pos h1]; intro h; dsimp only at h; exact absurd h (by decide)
  · rw [if_neg h1]
    by_cases h2 : tk_l (g s) = true
    · rw [if_pos h2]; intro h; dsimp only at h; exact absurd h (by decide)
    · rw [if_neg h2]
      by_cases h3 : tk_d (g s) = true
      · rw [if_pos h3]
        intro _
        dsimp only
        unfold tk_n
        by_cases h4 : tk_e tk_d g (n - s) s - s ≤ 4
        · rw [if_pos h4, if_pos h4]
          exact tk_nu_b h4 (fun i hi => tk_e_all (k := n - s) (p := s) (by omega) (by omega))
        · rw [if_neg h4, if_neg h4]
      · rw [if_neg h3]
        intro h
        dsimp only at h
        split at h <;> exact absurd h (by decide)
theorem tk_i_at {g : Nat → Int32} {n : Nat} : ∀ {i : Nat}, ∃ s, tk_i g n i = tk_at g n s
  | 0 => ⟨_, rfl⟩
  | i + 1 => ⟨_, rfl⟩
theorem tk_i_num {g : Nat → Int32} {n i : Nat} (h : (tk_i g n i).1 = 2) : if (tk_i g n i).2.2.2 - (tk_i g n i).2.2.1 ≤ 4 then 0 ≤ (tk_i g n i).2.1 ∧ (tk_i g n i).2.1 ≤ 9999 else (tk_i g n i).2.1 = -1 := by
  obtain ⟨s, e⟩ := @tk_i_at g n i
  rw [e] at h ⊢
  exact tk_at_num h
def sp_wr (c : Int32) : List Int32 := if 0 ≤ c then [1, c] else if c ≤ -10 then [2, Int32.ofNat (sp_pm ((-10 : Int32) - c).toNatClampNeg)] else [sp_om c]
def x_ru (rule lo hi : Int32) : Prop := (rule = 0 ∧ lo = 5 ∧ hi = 5) ∨ (rule = 1 ∧ lo = 5 ∧ hi = 7) ∨ (rule = 2 ∧ lo = 0 ∧ hi = 4)
theorem km_ru {rule lo hi : Int32} (h : x_ru rule lo hi) : ∀ w, w < 23 → if sp_vo w rule = -1 then (tk_km.getD w 0 < lo ∨ ¬ tk_km.getD w 0 ≤ hi) else (¬ tk_km.getD w 0 < lo ∧ tk_km.getD w 0 ≤ hi ∧ ¬ (0 : Int32) ≤ -10 - sp_vo w rule ∧ -10 - sp_vo w rule ≤ -10 ∧ Int32.ofNat (sp_pm ((-10 : Int32) - (-10 - sp_vo w rule)).toNatClampNeg) = tk_km.getD w 0) := by
  rcases h with ⟨rfl, rfl, rfl⟩ | ⟨rfl, rfl, rfl⟩ | ⟨rfl, rfl, rfl⟩ <;> decide
section MP
variable {g : Nat → Int32} {n m : Nat} {σ τ : xS} {i : Nat} {W D P : List Int32}
theorem tk_i_w {g : Nat → Int32} {n i : Nat} (h : (tk_i g n i).1 = 1) : 0 ≤ (tk_i g n i).2.1 ∧ (tk_i g n i).2.1.toNatClampNeg < 23 := by
  obtain ⟨s, e⟩ := @tk_i_at g n i
  rw [e] at h ⊢
  revert h
  unfold tk_at
  by_cases h1 : n ≤ s
  · rw [if_pos h1]; intro h; dsimp only at h; exact absurd h (by decide)
  · rw [if_neg h1]
    by_cases h2 : tk_l (g s) = true
    · rw [if_pos h2]
      intro _
      dsimp only
      have := @tk_w_lt g s (tk_e tk_l g (n - s) s)
      rw [i_cl (by omega)]
      exact ⟨i_0k (by omega), this⟩
    · rw [if_neg h2]
      by_cases h3 : tk_d (g s) = true
      · rw [if_pos h3]; intro h; dsimp only at h; exact absurd h (by decide)
      · rw [if_neg h3]; intro h; dsimp only at h; split at h <;> exact absurd h (by decide)
theorem x_HM.lt (H : x_HM g n m σ) (hi : i ≤ m) (h : ¬ (tk_i g n i).1 = 0) : i < m := by
  by_cases e : i = m
  · subst e; rw [H.2.2.1] at h; exact absurd rfl h
  · omega
theorem x_ms.two (H : x_HM g n m σ) (K : x_ms g n m σ τ i W D P) (hi : i < m) {a v : Int32} {b : xS → Int32} (hb : ∀ υ : xS, υ.1 60 24 = τ.1 60 24 → b υ = v) : x_ens ((f_Mo_puts_60 a τ).bind fun q6 => (f_Mo_puts_60 (b q6.2) q6.2).bind fun q7 => (f_Mo_isGood_60 q7.2).bind fun q8 => if q8.1 = 0 then some ((), q8.2) else (f_Mo_goes_60 q8.2).bind fun q9 => some ((), q9.2)) (fun q => x_ms g n m σ q.2 (i + 1) W D (P ++ [a, v])) := by
  obtain ⟨f, h16, ht, -, hw, hd, hp, b1, b2, b3⟩ := K
  have := H.1
  have := H.2.1
  refine x_ens.bi (s_puts (v := a) hp (by omega)) ?_
  rintro q6 ⟨p1, f1⟩
  refine x_ens.bi (s_puts (v := b q6.2) p1 (by rw [List.length_append]; show P.length + 1 < 4200; omega)) ?_
  rintro q7 ⟨p2, f2⟩
  rw [hb q6.2 (f1.ck 60 24 rfl), List.append_assoc] at p2
  have g2 : x_fr x_WE σ q7.2 := x_fr.trans (x_fr.trans f (x_fr.su f1 rfl)) (x_fr.su f2 rfl)
  have e16 : q7.2.1 60 16 = 0 := by rw [f2.ck 60 16 rfl, f1.ck 60 16 rfl]; exact h16
  have eg : f_Mo_isGood_60 q7.2 = some (1, q7.2) := by unfold f_Mo_isGood_60; rw [if_pos e16]
  rw [eg]
  dsimp only [Option.bind_some]
  rw [if_neg (by decide)]
  refine x_ens.bi (s_goes (i := i) H (by omega) g2 (by rw [f2.ck 60 20 rfl, f1.ck 60 20 rfl]; exact ht.1)) ?_
  rintro q ⟨h1, f3⟩
  rw [tk_ad_lt hi] at h1
  refine x_ens.so ⟨x_fr.trans g2 (x_fr.su f3 rfl), by rw [f3.ck 60 16 rfl]; exact e16, h1, by omega, ?_, ?_, ?_, by omega, b2, by rw [List.length_append]; show P.length + 2 + _ ≤ _; omega⟩
  · rw [f3.ck 60 41 rfl, f3.ce 77 rfl, f2.ck 60 41 rfl, f2.ce 77 rfl, f1.ck 60 41 rfl, f1.ce 77 rfl]; exact hw
  · unfold x_dp; rw [f3.ck 60 42 rfl, f3.ce 78 rfl, f2.ck 60 42 rfl, f2.ce 78 rfl, f1.ck 60 42 rfl, f1.ce 78 rfl]; exact hd
  · rw [f3.ck 60 40 rfl, f3.ce 76 rfl]; exact p2
theorem s_wtwo (H : x_HM g n m σ) (K : x_ms g n m σ τ i W D P) {k : Int32} (hk : ¬ k = 0) {a : Int32} {b : xS → Int32} : x_ens ((f_Mo_wrong_60 k τ).bind fun q5 => (f_Mo_puts_60 a q5.2).bind fun q6 => (f_Mo_puts_60 (b q6.2) q6.2).bind fun q7 => (f_Mo_isGood_60 q7.2).bind fun q8 => if q8.1 = 0 then some ((), q8.2) else (f_Mo_goes_60 q8.2).bind fun q9 => some ((), q9.2)) (fun q => x_mf g n m σ q.2 k i) := by
  obtain ⟨f, h16, ht, hi, hw, hd, hp, b1, b2, b3⟩ := id K
  have := H.1
  have := H.2.1
  refine x_ens.bi (s_wrong H K hk) ?_
  rintro q5 ⟨⟨F, -, k16, k17, x, y, hx, hx', hy, hy'⟩, f5⟩
  have hp5 : x_li (q5.2.1 60 40) (q5.2.1 76) P := by rw [f5.ck 60 40 rfl, f5.ce 76 rfl]; exact hp
  refine x_ens.bi (s_puts (v := a) hp5 (by omega)) ?_
  rintro q6 ⟨p1, f1⟩
  refine x_ens.bi (s_puts (v := b q6.2) p1 (by rw [List.length_append]; show P.length + 1 < 4200; omega)) ?_
  rintro q7 ⟨p2, f2⟩
  have K2 : x_mf g n m σ q7.2 k i := by
    refine ⟨x_fr.trans (x_fr.trans F (x_fr.su f1 rfl)) (x_fr.su f2 rfl), hk, by rw [f2.ck 60 16 rfl, f1.ck 60 16 rfl]; exact k16, by rw [f2.ck 60 17 rfl, f1.ck 60 17 rfl]; exact k17, x, P.length + 2, by rw [f2.ck 60 41 rfl, f1.ck 60 41 rfl]; exact hx, hx', ?_, by omega⟩
    rw [p2.1, List.length_append, List.length_append]; rfl
  rw [s_bad K2]
  dsimp only [Option.bind_some]
  rw [if_pos rfl]
  exact x_ens.so K2
theorem s_part (H : x_HM g n m σ) {rule : Int32} (hr : x_ru rule (σ.1 60 38) (σ.1 60 39)) {rc : Nat → tR} (K : x_ms g n m σ τ i W D P) (hn : ¬ ((tk_i g n i).1 = 3 ∧ (tk_i g n i).2.1 = 40)) : x_ens (f_Mo_part_60 τ) (fun q => match rd_part (tk_i g n) m rule rc i with
    | .inl s => s.1 = i + 1 ∧ s.2.2 = [] ∧ x_ms g n m σ q.2 (i + 1) W D (P ++ s.2.1.flatMap sp_wr)
    | .inr e => x_mf g n m σ q.2 e.1 e.2) := by
  obtain ⟨f, h16, ht, hi, hw, hd, hp, b1, b2, b3⟩ := id K
  obtain ⟨t20, t21, t22, t23, t24, t25, t26⟩ := id ht
  have hnx := @tk_i_nx g n i
  have := H.1
  have := H.2.1
  unfold f_Mo_part_60 rd_part
  rw [s_good K]
  dsimp only [Option.bind_some]
  rw [if_neg (show ¬ (1 : Int32) = 0 by decide), t21]
  by_cases h2 : (tk_i g n i).1 = 2
  · have hl := H.lt hi (by rw [h2]; decide)
    have hnum := tk_i_num h2
    have e24 := t24 h2
    rw [if_pos h2, if_pos h2, t23]
    by_cases h4 : (tk_i g n i).2.2.2 - (tk_i g n i).2.2.1 ≤ 4
    · rw [if_pos h4] at hnum e24
      rw [if_pos (show Int32.ofNat _ ≤ 4 from (i_le (k := 4) (by omega) (by omega)).mpr h4), if_pos hnum]
      unfold f_Mo_part_60_J29
      refine (K.two H hl (a := 1) (b := fun υ => υ.1 60 24) (v := (tk_i g n i).2.1) (fun υ h => h.trans e24)).im ?_
      intro q hq
      refine ⟨tk_ad_lt hl, rfl, ?_⟩
      have : [(tk_i g n i).2.1].flatMap sp_wr = [1, (tk_i g n i).2.1] := by rw [List.flatMap_cons, List.flatMap_nil, List.append_nil]; unfold sp_wr; rw [if_pos hnum.1]
      dsimp only
      rw [this]; exact hq
    · rw [if_neg h4] at hnum
      rw [if_neg (show ¬ Int32.ofNat _ ≤ 4 from fun x => h4 ((i_le (k := 4) (by omega) (by omega)).mp x)), if_neg (by rw [hnum]; decide)]
      unfold f_Mo_part_60_J29
      exact s_wtwo H K (by decide) (b := fun υ => υ.1 60 24)
  · rw [if_neg h2, if_neg h2]
    by_cases h1 : (tk_i g n i).1 = 1
    · have hl := H.lt hi (by rw [h1]; decide)
      obtain ⟨w0, w1⟩ := tk_i_w h1
      have hru := km_ru hr _ w1
      have ewd : tk_wd (tk_i g n) i = (tk_i g n i).2.1.toNatClampNeg := by unfold tk_wd; rw [if_pos h1]
      rw [if_pos h1, if_pos h1, s_known H K, if_pos h1, ewd]
      dsimp only [Option.bind_some]
      rw [f.ck 60 38 rfl, f.ck 60 39 rfl]
      have bad : x_ens (f_Mo_part_60_J74 (tk_km.getD (tk_i g n i).2.1.toNatClampNeg 0) τ) (fun q => x_mf g n m σ q.2 3 i) := by
        unfold f_Mo_part_60_J74 f_Mo_part_60_J79
        exact s_wtwo H K (by decide) (b := fun _ => _)
      by_cases hv : sp_vo (tk_i g n i).2.1.toNatClampNeg rule = -1
      · rw [if_pos hv] at hru
        rw [if_pos hv]
        by_cases hx : tk_km.getD (tk_i g n i).2.1.toNatClampNeg 0 < σ.1 60 38
        · rw [if_pos hx]; exact bad
        · rw [if_neg hx, if_neg (hru.resolve_left hx)]; exact bad
      · rw [if_neg hv] at hru
        obtain ⟨r1, r2, r3, r4, r5⟩ := hru
        rw [if_neg hv, if_neg r1, if_pos r2]
        unfold f_Mo_part_60_J79
        refine (K.two H hl (a := 2) (b := fun _ => tk_km.getD (tk_i g n i).2.1.toNatClampNeg 0) (v := tk_km.getD (tk_i g n i).2.1.toNatClampNeg 0) (fun υ h => rfl)).im ?_
        intro q hq
        refine ⟨tk_ad_lt hl, rfl, ?_⟩
        dsimp only
        rw [List.flatMap_cons, List.flatMap_nil, List.append_nil]
        unfold sp_wr
        rw [if_neg r3, if_pos r4, r5]; exact hq
    · rw [if_neg h1, if_neg h1, if_neg hn]
      refine x_ens.bi (s_wrong H K (k := 1) (by decide)) ?_
      rintro q ⟨hq, -⟩
      rw [s_bad hq]
      dsimp only [Option.bind_some]
      rw [if_pos rfl]
      exact x_ens.so hq
end MP
