def x_ow (v : Int32) (w : Nat) : Prop := (v = 2 ∧ w = 2) ∨ (v = 7 ∧ w = 7) ∨ (v = 11 ∧ w = 11) ∨ (v = 14 ∧ w = 14) ∨ (v = 15 ∧ w = 15) ∨ (v = 16 ∧ w = 16) ∨ (v = 17 ∧ w = 17)
def x_bt (x : Int32) (w : Nat) : Bool := x.toBitVec.getLsbD w
theorem wbv_1 {y : BitVec 32} : y &&& 1#32 = 1#32 ↔ y.getLsbD 0 = true := by
  constructor
  · intro h
    have := congrArg (fun z => z.getLsbD 0) h
    simpa using this
  · intro h
    apply BitVec.eq_of_getLsbD_eq
    intro i hi
    rw [BitVec.getLsbD_and]
    by_cases e : i = 0
    · subst e; simp [h]
    · simp [BitVec.getLsbD_one, e]
theorem wbv_t {x : BitVec 32} {w : Nat} (hw : w < 32) : (x.sshiftRight w) &&& 1#32 = 1#32 ↔ x.getLsbD w = true := by
  rw [wbv_1, BitVec.getLsbD_sshiftRight]
  simp [hw]
theorem wbv_s {x : BitVec 32} {w k : Nat} (hw : w < 32) (hk : k < 32) : (x ||| (1#32 <<< w)).getLsbD k = (x.getLsbD k || decide (k = w)) := by
  rw [BitVec.getLsbD_or, BitVec.getLsbD_shiftLeft, BitVec.getLsbD_one]
  congr 1
  by_cases h : k = w
  · subst h; simp [hk]
  · by_cases h2 : k < w
    · simp [h2, h]
    · have : ¬ k - w = 0 := by omega
      simp [h, this]
theorem ob_t {x v : Int32} {w : Nat} (h : x_ow v w) : ((x >>> (v &&& 31)) &&& (1 : Int32)) = (1 : Int32) ↔ x_bt x w = true := by
  rcases h with ⟨rfl, rfl⟩ | ⟨rfl, rfl⟩ | ⟨rfl, rfl⟩ | ⟨rfl, rfl⟩ | ⟨rfl, rfl⟩ | ⟨rfl, rfl⟩ | ⟨rfl, rfl⟩
  · exact Int32.toBitVec_inj.symm.trans (wbv_t (x := x.toBitVec) (w := 2) (by omega))
  · exact Int32.toBitVec_inj.symm.trans (wbv_t (x := x.toBitVec) (w := 7) (by omega))
  · exact Int32.toBitVec_inj.symm.trans (wbv_t (x := x.toBitVec) (w := 11) (by omega))
  · exact Int32.toBitVec_inj.symm.trans (wbv_t (x := x.toBitVec) (w := 14) (by omega))
  · exact Int32.toBitVec_inj.symm.trans (wbv_t (x := x.toBitVec) (w := 15) (by omega))
  · exact Int32.toBitVec_inj.symm.trans (wbv_t (x := x.toBitVec) (w := 16) (by omega))
  · exact Int32.toBitVec_inj.symm.trans (wbv_t (x := x.toBitVec) (w := 17) (by omega))
theorem ob_s {x v : Int32} {w k : Nat} (h : x_ow v w) (hk : k < 32) : x_bt (x ||| ((1 : Int32) <<< (v &&& 31))) k = (x_bt x k || decide (k = w)) := by
  rcases h with ⟨rfl, rfl⟩ | ⟨rfl, rfl⟩ | ⟨rfl, rfl⟩ | ⟨rfl, rfl⟩ | ⟨rfl, rfl⟩ | ⟨rfl, rfl⟩ | ⟨rfl, rfl⟩
  · exact wbv_s (x := x.toBitVec) (w := 2) (by omega) hk
  · exact wbv_s (x := x.toBitVec) (w := 7) (by omega) hk
  · exact wbv_s (x := x.toBitVec) (w := 11) (by omega) hk
  · exact wbv_s (x := x.toBitVec) (w := 14) (by omega) hk
  · exact wbv_s (x := x.toBitVec) (w := 15) (by omega) hk
  · exact wbv_s (x := x.toBitVec) (w := 16) (by omega) hk
  · exact wbv_s (x := x.toBitVec) (w := 17) (by omega) hk
section LO
variable {g : Nat → Int32} {n m i : Nat} {υ : xS}
theorem l_once {v : Int32} {w : Nat} (hv : x_ow v w) (h : x_mh g n m υ i) (hi : i < m) : x_ens (f_Mo_once_60 v υ) (fun q => if x_bt (υ.1 60 37) w = true then q.1 = 0 ∧ x_bad g n q.2 5 i else q.1 = 1 ∧ x_mh g n m q.2 (i + 1) ∧ q.2.1 60 37 = υ.1 60 37 ||| ((1 : Int32) <<< (v &&& 31))) := by
  unfold f_Mo_once_60
  by_cases hb : x_bt (υ.1 60 37) w = true
  · simp only [if_pos hb]
    rw [if_pos ((ob_t hv).mpr hb)]
    refine x_ens.bi (l_wrong h (k := 5) (by decide)) ?_
    rintro q ⟨hq, -⟩
    unfold f_Mo_once_60_J17
    have hq' : x_bad g n (x_pI q.2 60 37 (q.2.1 60 37 ||| ((1 : Int32) <<< (v &&& 31)))) 5 i := hq.fr (W := [(60, 37)]) (x_frI (p := 60) (k := 37) rfl x_fr.rf) rfl rfl
    dsimp only
    rw [hq'.good]
    dsimp only [Option.bind_some]
    rw [if_pos rfl, hq'.good]
    dsimp only [Option.bind_some]
    exact x_ens.ok (Or.inl rfl) (x_ens.so ⟨rfl, hq'⟩)
  · simp only [if_neg hb]
    rw [if_neg (fun x => hb ((ob_t hv).mp x))]
    unfold f_Mo_once_60_J17
    have hq' : x_mh g n m (x_pI υ 60 37 (υ.1 60 37 ||| ((1 : Int32) <<< (v &&& 31)))) i := h.fr (W := [(60, 37)]) (x_frI (p := 60) (k := 37) rfl x_fr.rf) rfl rfl rfl rfl rfl rfl rfl rfl rfl rfl
    dsimp only
    rw [hq'.good]
    dsimp only [Option.bind_some]
    rw [if_neg (show ¬ (1 : Int32) = 0 by decide)]
    refine x_ens.bi (l_go hq') ?_
    rintro q ⟨hq, f⟩
    rw [tk_ad_lt hi] at hq
    rw [hq.good]
    dsimp only [Option.bind_some]
    refine x_ens.ok (Or.inr rfl) (x_ens.so ⟨rfl, hq, ?_⟩)
    rw [f.ck 60 37 rfl]; exact x_pI_kk
end LO
section LF
variable {T : tT} {m i : Nat} {c : List Int32} {τ : xS}
theorem k_first {p : Nat} (hp : p < 12) (h : x_kh T m τ i c) : x_ens (f_Re_isFirst_2 (Int32.ofNat p) τ) (fun q => if τ.1 6 p = 0 then q.1 = 1 ∧ q.2 = x_pI τ 6 p 1 ∧ x_kh T m q.2 i c else q.1 = 0 ∧ q.2.1 2 6 = 5 ∧ q.2.1 2 7 = Int32.ofNat (T i).2.2.1) := by
  unfold f_Re_isFirst_2
  rw [if_neg (i_ge (by omega)), if_neg (show ¬ (12 : Int32) ≤ Int32.ofNat p from fun x => by have := (i_le (j := 12) (by omega) (by omega)).mp x; omega), i_cl (by omega)]
  refine x_ens.gr (by rintro (x | x); exact i_ge (by omega) x; omega) ?_
  by_cases e : τ.1 6 p = 0
  · simp only [if_pos e]
    refine x_ens.gr (by rintro (x | x); exact i_ge (by omega) x; omega) ?_
    exact x_ens.so ⟨rfl, rfl, h.fr (W := [(6, 99999)]) (x_frI (p := 6) rfl x_fr.rf) rfl rfl rfl rfl rfl rfl rfl⟩
  · simp only [if_neg e]
    refine x_ens.bi (k_ref h 5) ?_
    rintro q ⟨a, b, d⟩
    exact x_ens.ok (Or.inl a) (x_ens.so ⟨a, b, d⟩)
end LF
