abbrev x_o1b (A : Option (Int32 × xS)) : Option (Int32 × xS) := A.bind fun q => x_ok (q.1 = 0 ∨ q.1 = 1) <| some (q.1, q.2)
def x_lnC (s : Int32) (τ : xS) : Option (Int32 × xS) :=
  if s = (1 : Int32) then x_o1b (f_Re_readGo_2_21 τ) else
  if s = (2 : Int32) then x_o1b (f_Re_readStay_2_21 τ) else
  if s = (3 : Int32) then x_o1b (f_Re_readChange_2_21 1 τ) else
  if s = (4 : Int32) then x_o1b (f_Re_readChange_2_21 0 τ) else
  if s = (5 : Int32) then x_o1b (f_Re_readMark_2_21 τ) else
  if s = (6 : Int32) then x_o1b (f_Re_readSetting_2_21 (Int32.ofNat 5) 0 200 τ) else
  if s = (7 : Int32) then x_o1b (f_Re_readSetting_2_21 (Int32.ofNat 0) 1 60 τ) else
  if s = (8 : Int32) then x_o1b (f_Re_readSetting_2_21 (Int32.ofNat 1) 0 24 τ) else
  if s = (9 : Int32) then x_o1b (f_Re_readSetting_2_21 (Int32.ofNat 2) 1 90 τ) else
  if s = (10 : Int32) then x_o1b (f_Re_readEye_2_21 τ) else
  if s = (11 : Int32) then x_o1b (f_Re_readRule_2_21 (Int32.ofNat 0) τ) else
  if s = (12 : Int32) then x_o1b (f_Re_readRule_2_21 (Int32.ofNat 1) τ) else
  if s = (13 : Int32) then x_o1b (f_Re_readRule_2_21 ((2 : Int32) + τ.1 21 9) τ) else
  x_o1b (f_Re_refuse_2 1 τ)
def x_lnM (w : Int32) (υ : xS) : Option (Unit × xS) :=
  if w = (9 : Int32) then ((f_Mo_readsMove_60 0 υ).bind fun q => l_fin q.2) else
  if w = (10 : Int32) then ((f_Mo_readsMove_60 1 υ).bind fun q => l_fin q.2) else
  if w = (12 : Int32) then ((f_Mo_readsChange_60 1 υ).bind fun q => l_fin q.2) else
  if w = (13 : Int32) then ((f_Mo_readsChange_60 0 υ).bind fun q => l_fin q.2) else
  if w = (4 : Int32) then ((f_Mo_readsMark_60 υ).bind fun q => l_fin q.2) else
  if w = (2 : Int32) then ((f_Mo_readsRule_60 2 υ).bind fun q => l_fin q.2) else
  if w = (17 : Int32) then ((f_Mo_readsRule_60 17 υ).bind fun q => l_fin q.2) else
  if w = (18 : Int32) then ((f_Mo_readsRule_60 18 υ).bind fun q => l_fin q.2) else
  if w = (11 : Int32) then ((f_Mo_once_60 11 υ).bind fun q57 => if q57.1 = 0 then l_fin q57.2 else (f_Mo_number_60 0 200 q57.2).bind fun q60 => l_fin (x_pI q60.2 74 4 q60.1)) else
  if w = (7 : Int32) then ((f_Mo_once_60 7 υ).bind fun q57 => if q57.1 = 0 then l_fin q57.2 else (f_Mo_number_60 1 60 q57.2).bind fun q60 => l_fin (x_pI q60.2 74 0 q60.1)) else
  if w = (14 : Int32) then ((f_Mo_once_60 14 υ).bind fun q57 => if q57.1 = 0 then l_fin q57.2 else (f_Mo_number_60 0 24 q57.2).bind fun q60 => l_fin (x_pI q60.2 74 1 q60.1)) else
  if w = (15 : Int32) then ((f_Mo_once_60 15 υ).bind fun q57 => if q57.1 = 0 then l_fin q57.2 else (f_Mo_number_60 1 90 q57.2).bind fun q60 => l_fin (x_pI q60.2 74 2 q60.1)) else
  if w = (16 : Int32) then ((f_Mo_once_60 16 υ).bind fun q32 => if q32.1 = 0 then some ((), q32.2) else (f_Mo_isSign_60 45 q32.2).bind fun q33 => if q33.1 = 0 then f_Mo_line_60_J253 q33.1 q33.2 else (f_Mo_goes_60 q33.2).bind fun q35 => f_Mo_line_60_J253 q33.1 q35.2) else
  (f_Mo_wrong_60 1 υ).bind fun q => l_fin q.2
theorem lc_1 {τ : xS} : x_lnC 1 τ = x_o1b (f_Re_readGo_2_21 τ) := by
  unfold x_lnC
  rw [if_pos rfl]
theorem lc_2 {τ : xS} : x_lnC 2 τ = x_o1b (f_Re_readStay_2_21 τ) := by
  unfold x_lnC
  rw [if_neg (show ¬ (2 : Int32) = 1 by decide), if_pos rfl]
theorem lc_3 {τ : xS} : x_lnC 3 τ = x_o1b (f_Re_readChange_2_21 1 τ) := by
  unfold x_lnC
  rw [if_neg (show ¬ (3 : Int32) = 1 by decide), if_neg (show ¬ (3 : Int32) = 2 by decide), if_pos rfl]
theorem lc_4 {τ : xS} : x_lnC 4 τ = x_o1b (f_Re_readChange_2_21 0 τ) := by
  unfold x_lnC
  rw [if_neg (show ¬ (4 : Int32) = 1 by decide), if_neg (show ¬ (4 : Int32) = 2 by decide), if_neg (show ¬ (4 : Int32) = 3 by decide), if_pos rfl]
theorem lc_5 {τ : xS} : x_lnC 5 τ = x_o1b (f_Re_readMark_2_21 τ) := by
  unfold x_lnC
  rw [if_neg (show ¬ (5 : Int32) = 1 by decide), if_neg (show ¬ (5 : Int32) = 2 by decide), if_neg (show ¬ (5 : Int32) = 3 by decide), if_neg (show ¬ (5 : Int32) = 4 by decide), if_pos rfl]
theorem lc_6 {τ : xS} : x_lnC 6 τ = x_o1b (f_Re_readSetting_2_21 (Int32.ofNat 5) 0 200 τ) := by
  unfold x_lnC
  rw [if_neg (show ¬ (6 : Int32) = 1 by decide), if_neg (show ¬ (6 : Int32) = 2 by decide), if_neg (show ¬ (6 : Int32) = 3 by decide), if_neg (show ¬ (6 : Int32) = 4 by decide), if_neg (show ¬ (6 : Int32) = 5 by decide), if_pos rfl]
theorem lc_7 {τ : xS} : x_lnC 7 τ = x_o1b (f_Re_readSetting_2_21 (Int32.ofNat 0) 1 60 τ) := by
  unfold x_lnC
  rw [if_neg (show ¬ (7 : Int32) = 1 by decide), if_neg (show ¬ (7 : Int32) = 2 by decide), if_neg (show ¬ (7 : Int32) = 3 by decide), if_neg (show ¬ (7 : Int32) = 4 by decide), if_neg (show ¬ (7 : Int32) = 5 by decide), if_neg (show ¬ (7 : Int32) = 6 by decide), if_pos rfl]
theorem lc_8 {τ : xS} : x_lnC 8 τ = x_o1b (f_Re_readSetting_2_21 (Int32.ofNat 1) 0 24 τ) := by
  unfold x_lnC
  rw [if_neg (show ¬ (8 : Int32) = 1 by decide), if_neg (show ¬ (8 : Int32) = 2 by decide), if_neg (show ¬ (8 : Int32) = 3 by decide), if_neg (show ¬ (8 : Int32) = 4 by decide), if_neg (show ¬ (8 : Int32) = 5 by decide), if_neg (show ¬ (8 : Int32) = 6 by decide), if_neg (show ¬ (8 : Int32) = 7 by decide), if_pos rfl]
theorem lc_9 {τ : xS} : x_lnC 9 τ = x_o1b (f_Re_readSetting_2_21 (Int32.ofNat 2) 1 90 τ) := by
  unfold x_lnC
  rw [if_neg (show ¬ (9 : Int32) = 1 by decide), if_neg (show ¬ (9 : Int32) = 2 by decide), if_neg (show ¬ (9 : Int32) = 3 by decide), if_neg (show ¬ (9 : Int32) = 4 by decide), if_neg (show ¬ (9 : Int32) = 5 by decide), if_neg (show ¬ (9 : Int32) = 6 by decide), if_neg (show ¬ (9 : Int32) = 7 by decide), if_neg (show ¬ (9 : Int32) = 8 by decide), if_pos rfl]
theorem lc_10 {τ : xS} : x_lnC 10 τ = x_o1b (f_Re_readEye_2_21 τ) := by
  unfold x_lnC
  rw [if_neg (show ¬ (10 : Int32) = 1 by decide), if_neg (show ¬ (10 : Int32) = 2 by decide), if_neg (show ¬ (10 : Int32) = 3 by decide), if_neg (show ¬ (10 : Int32) = 4 by decide), if_neg (show ¬ (10 : Int32) = 5 by decide), if_neg (show ¬ (10 : Int32) = 6 by decide), if_neg (show ¬ (10 : Int32) = 7 by decide), if_neg (show ¬ (10 : Int32) = 8 by decide), if_neg (show ¬ (10 : Int32) = 9 by decide), if_pos rfl]
theorem lc_11 {τ : xS} : x_lnC 11 τ = x_o1b (f_Re_readRule_2_21 (Int32.ofNat 0) τ) := by
  unfold x_lnC
  rw [if_neg (show ¬ (11 : Int32) = 1 by decide), if_neg (show ¬ (11 : Int32) = 2 by decide), if_neg (show ¬ (11 : Int32) = 3 by decide), if_neg (show ¬ (11 : Int32) = 4 by decide), if_neg (show ¬ (11 : Int32) = 5 by decide), if_neg (show ¬ (11 : Int32) = 6 by decide), if_neg (show ¬ (11 : Int32) = 7 by decide), if_neg (show ¬ (11 : Int32) = 8 by decide), if_neg (show ¬ (11 : Int32) = 9 by decide), if_neg (show ¬ (11 : Int32) = 10 by decide), if_pos rfl]
theorem lc_12 {τ : xS} : x_lnC 12 τ = x_o1b (f_Re_readRule_2_21 (Int32.ofNat 1) τ) := by
  unfold x_lnC
  rw [if_neg (show ¬ (12 : Int32) = 1 by decide), if_neg (show ¬ (12 : Int32) = 2 by decide), if_neg (show ¬ (12 : Int32) = 3 by decide), if_neg (show ¬ (12 : Int32) = 4 by decide), if_neg (show ¬ (12 : Int32) = 5 by decide), if_neg (show ¬ (12 : Int32) = 6 by decide), if_neg (show ¬ (12 : Int32) = 7 by decide), if_neg (show ¬ (12 : Int32) = 8 by decide), if_neg (show ¬ (12 : Int32) = 9 by decide), if_neg (show ¬ (12 : Int32) = 10 by decide), if_neg (show ¬ (12 : Int32) = 11 by decide), if_pos rfl]
theorem lc_13 {τ : xS} : x_lnC 13 τ = x_o1b (f_Re_readRule_2_21 ((2 : Int32) + τ.1 21 9) τ) := by
  unfold x_lnC
  rw [if_neg (show ¬ (13 : Int32) = 1 by decide), if_neg (show ¬ (13 : Int32) = 2 by decide), if_neg (show ¬ (13 : Int32) = 3 by decide), if_neg (show ¬ (13 : Int32) = 4 by decide), if_neg (show ¬ (13 : Int32) = 5 by decide), if_neg (show ¬ (13 : Int32) = 6 by decide), if_neg (show ¬ (13 : Int32) = 7 by decide), if_neg (show ¬ (13 : Int32) = 8 by decide), if_neg (show ¬ (13 : Int32) = 9 by decide), if_neg (show ¬ (13 : Int32) = 10 by decide), if_neg (show ¬ (13 : Int32) = 11 by decide), if_neg (show ¬ (13 : Int32) = 12 by decide), if_pos rfl]
theorem lm_9 {υ : xS} : x_lnM 9 υ = ((f_Mo_readsMove_60 0 υ).bind fun q => l_fin q.2) := by
  unfold x_lnM
  rw [if_pos rfl]
theorem lm_10 {υ : xS} : x_lnM 10 υ = ((f_Mo_readsMove_60 1 υ).bind fun q => l_fin q.2) := by
  unfold x_lnM
  rw [if_neg (show ¬ (10 : Int32) = 9 by decide), if_pos rfl]
theorem lm_12 {υ : xS} : x_lnM 12 υ = ((f_Mo_readsChange_60 1 υ).bind fun q => l_fin q.2) := by
  unfold x_lnM
  rw [if_neg (show ¬ (12 : Int32) = 9 by decide), if_neg (show ¬ (12 : Int32) = 10 by decide), if_pos rfl]
theorem lm_13 {υ : xS} : x_lnM 13 υ = ((f_Mo_readsChange_60 0 υ).bind fun q => l_fin q.2) := by
  unfold x_lnM
  rw [if_neg (show ¬ (13 : Int32) = 9 by decide), if_neg (show ¬ (13 : Int32) = 10 by decide), if_neg (show ¬ (13 : Int32) = 12 by decide), if_pos rfl]
theorem lm_4 {υ : xS} : x_lnM 4 υ = ((f_Mo_readsMark_60 υ).bind fun q => l_fin q.2) := by
  unfold x_lnM
  rw [if_neg (show ¬ (4 : Int32) = 9 by decide), if_neg (show ¬ (4 : Int32) = 10 by decide), if_neg (show ¬ (4 : Int32) = 12 by decide), if_neg (show ¬ (4 : Int32) = 13 by decide), if_pos rfl]
theorem lm_2 {υ : xS} : x_lnM 2 υ = ((f_Mo_readsRule_60 2 υ).bind fun q => l_fin q.2) := by
  unfold x_lnM
  rw [if_neg (show ¬ (2 : Int32) = 9 by decide), if_neg (show ¬ (2 : Int32) = 10 by decide), if_neg (show ¬ (2 : Int32) = 12 by decide), if_neg (show ¬ (2 : Int32) = 13 by decide), if_neg (show ¬ (2 : Int32) = 4 by decide), if_pos rfl]
theorem lm_17 {υ : xS} : x_lnM 17 υ = ((f_Mo_readsRule_60 17 υ).bind fun q => l_fin q.2) := by
  unfold x_lnM
  rw [if_neg (show ¬ (17 : Int32) = 9 by decide), if_neg (show ¬ (17 : Int32) = 10 by decide), if_neg (show ¬ (17 : Int32) = 12 by decide), if_neg (show ¬ (17 : Int32) = 13 by decide), if_neg (show ¬ (17 : Int32) = 4 by decide), if_neg (show ¬ (17 : Int32) = 2 by decide), if_pos rfl]
theorem lm_18 {υ : xS} : x_lnM 18 υ = ((f_Mo_readsRule_60 18 υ).bind fun q => l_fin q.2) := by
  unfold x_lnM
  rw [if_neg (show ¬ (18 : Int32) = 9 by decide), if_neg (show ¬ (18 : Int32) = 10 by decide), if_neg (show ¬ (18 : Int32) = 12 by decide), if_neg (show ¬ (18 : Int32) = 13 by decide), if_neg (show ¬ (18 : Int32) = 4 by decide), if_neg (show ¬ (18 : Int32) = 2 by decide), if_neg (show ¬ (18 : Int32) = 17 by decide), if_pos rfl]
theorem lm_11 {υ : xS} : x_lnM 11 υ = ((f_Mo_once_60 11 υ).bind fun q57 => if q57.1 = 0 then l_fin q57.2 else (f_Mo_number_60 0 200 q57.2).bind fun q60 => l_fin (x_pI q60.2 74 4 q60.1)) := by
  unfold x_lnM
  rw [if_neg (show ¬ (11 : Int32) = 9 by decide), if_neg (show ¬ (11 : Int32) = 10 by decide), if_neg (show ¬ (11 : Int32) = 12 by decide), if_neg (show ¬ (11 : Int32) = 13 by decide), if_neg (show ¬ (11 : Int32) = 4 by decide), if_neg (show ¬ (11 : Int32) = 2 by decide), if_neg (show ¬ (11 : Int32) = 17 by decide), if_neg (show ¬ (11 : Int32) = 18 by decide), if_pos rfl]
theorem lm_7 {υ : xS} : x_lnM 7 υ = ((f_Mo_once_60 7 υ).bind fun q57 => if q57.1 = 0 then l_fin q57.2 else (f_Mo_number_60 1 60 q57.2).bind fun q60 => l_fin (x_pI q60.2 74 0 q60.1)) := by
  unfold x_lnM
  rw [if_neg (show ¬ (7 : Int32) = 9 by decide), if_neg (show ¬ (7 : Int32) = 10 by decide), if_neg (show ¬ (7 : Int32) = 12 by decide), if_neg (show ¬ (7 : Int32) = 13 by decide), if_neg (show ¬ (7 : Int32) = 4 by decide), if_neg (show ¬ (7 : Int32) = 2 by decide), if_neg (show ¬ (7 : Int32) = 17 by decide), if_neg (show ¬ (7 : Int32) = 18 by decide), if_neg (show ¬ (7 : Int32) = 11 by decide), if_pos rfl]
theorem lm_14 {υ : xS} : x_lnM 14 υ = ((f_Mo_once_60 14 υ).bind fun q57 => if q57.1 = 0 then l_fin q57.2 else (f_Mo_number_60 0 24 q57.2).bind fun q60 => l_fin (x_pI q60.2 74 1 q60.1)) := by
  unfold x_lnM
  rw [if_neg (show ¬ (14 : Int32) = 9 by decide), if_neg (show ¬ (14 : Int32) = 10 by decide), if_neg (show ¬ (14 : Int32) = 12 by decide), if_neg (show ¬ (14 : Int32) = 13 by decide), if_neg (show ¬ (14 : Int32) = 4 by decide), if_neg (show ¬ (14 : Int32) = 2 by decide), if_neg (show ¬ (14 : Int32) = 17 by decide), if_neg (show ¬ (14 : Int32) = 18 by decide), if_neg (show ¬ (14 : Int32) = 11 by decide), if_neg (show ¬ (14 : Int32) = 7 by decide), if_pos rfl]
theorem lm_15 {υ : xS} : x_lnM 15 υ = ((f_Mo_once_60 15 υ).bind fun q57 => if q57.1 = 0 then l_fin q57.2 else (f_Mo_number_60 1 90 q57.2).bind fun q60 => l_fin (x_pI q60.2 74 2 q60.1)) := by
  unfold x_lnM
  rw [if_neg (show ¬ (15 : Int32) = 9 by decide), if_neg (show ¬ (15 : Int32) = 10 by decide), if_neg (show ¬ (15 : Int32) = 12 by decide), if_neg (show ¬ (15 : Int32) = 13 by decide), if_neg (show ¬ (15 : Int32) = 4 by decide), if_neg (show ¬ (15 : Int32) = 2 by decide), if_neg (show ¬ (15 : Int32) = 17 by decide), if_neg (show ¬ (15 : Int32) = 18 by decide), if_neg (show ¬ (15 : Int32) = 11 by decide), if_neg (show ¬ (15 : Int32) = 7 by decide), if_neg (show ¬ (15 : Int32) = 14 by decide), if_pos rfl]
theorem lm_16 {υ : xS} : x_lnM 16 υ = ((f_Mo_once_60 16 υ).bind fun q32 => if q32.1 = 0 then some ((), q32.2) else (f_Mo_isSign_60 45 q32.2).bind fun q33 => if q33.1 = 0 then f_Mo_line_60_J253 q33.1 q33.2 else (f_Mo_goes_60 q33.2).bind fun q35 => f_Mo_line_60_J253 q33.1 q35.2) := by
  unfold x_lnM
  rw [if_neg (show ¬ (16 : Int32) = 9 by decide), if_neg (show ¬ (16 : Int32) = 10 by decide), if_neg (show ¬ (16 : Int32) = 12 by decide), if_neg (show ¬ (16 : Int32) = 13 by decide), if_neg (show ¬ (16 : Int32) = 4 by decide), if_neg (show ¬ (16 : Int32) = 2 by decide), if_neg (show ¬ (16 : Int32) = 17 by decide), if_neg (show ¬ (16 : Int32) = 18 by decide), if_neg (show ¬ (16 : Int32) = 11 by decide), if_neg (show ¬ (16 : Int32) = 7 by decide), if_neg (show ¬ (16 : Int32) = 14 by decide), if_neg (show ¬ (16 : Int32) = 15 by decide), if_pos rfl]
theorem lc_o {s : Int32} {τ : xS} (h : ¬ s = 1 ∧ ¬ s = 2 ∧ ¬ s = 3 ∧ ¬ s = 4 ∧ ¬ s = 5 ∧ ¬ s = 6 ∧ ¬ s = 7 ∧ ¬ s = 8 ∧ ¬ s = 9 ∧ ¬ s = 10 ∧ ¬ s = 11 ∧ ¬ s = 12 ∧ ¬ s = 13) : x_lnC s τ = x_o1b (f_Re_refuse_2 1 τ) := by
  obtain ⟨h1, h2, h3, h4, h5, h6, h7, h8, h9, h10, h11, h12, h13⟩ := h
  unfold x_lnC
  rw [if_neg h1, if_neg h2, if_neg h3, if_neg h4, if_neg h5, if_neg h6, if_neg h7, if_neg h8, if_neg h9, if_neg h10, if_neg h11, if_neg h12, if_neg h13]
theorem lm_o {w : Int32} {υ : xS} (h : ¬ w = 9 ∧ ¬ w = 10 ∧ ¬ w = 12 ∧ ¬ w = 13 ∧ ¬ w = 4 ∧ ¬ w = 2 ∧ ¬ w = 17 ∧ ¬ w = 18 ∧ ¬ w = 11 ∧ ¬ w = 7 ∧ ¬ w = 14 ∧ ¬ w = 15 ∧ ¬ w = 16) : x_lnM w υ = (f_Mo_wrong_60 1 υ).bind fun q => l_fin q.2 := by
  obtain ⟨h9, h10, h12, h13, h4, h2, h17, h18, h11, h7, h14, h15, h16⟩ := h
  unfold x_lnM
  rw [if_neg h9, if_neg h10, if_neg h12, if_neg h13, if_neg h4, if_neg h2, if_neg h17, if_neg h18, if_neg h11, if_neg h7, if_neg h14, if_neg h15, if_neg h16]
theorem ln_ws {w : Nat} (h : w < 23) : (x_sm.getD w 0 = 1 ∧ tk_km.getD w 0 = 9) ∨ (x_sm.getD w 0 = 2 ∧ tk_km.getD w 0 = 10) ∨ (x_sm.getD w 0 = 3 ∧ tk_km.getD w 0 = 12) ∨ (x_sm.getD w 0 = 4 ∧ tk_km.getD w 0 = 13) ∨ (x_sm.getD w 0 = 5 ∧ tk_km.getD w 0 = 4) ∨ (x_sm.getD w 0 = 6 ∧ tk_km.getD w 0 = 11) ∨ (x_sm.getD w 0 = 7 ∧ tk_km.getD w 0 = 7) ∨ (x_sm.getD w 0 = 8 ∧ tk_km.getD w 0 = 14) ∨ (x_sm.getD w 0 = 9 ∧ tk_km.getD w 0 = 15) ∨ (x_sm.getD w 0 = 10 ∧ tk_km.getD w 0 = 16) ∨ (x_sm.getD w 0 = 11 ∧ tk_km.getD w 0 = 2) ∨ (x_sm.getD w 0 = 12 ∧ tk_km.getD w 0 = 17) ∨ (x_sm.getD w 0 = 13 ∧ tk_km.getD w 0 = 18) ∨ ((¬ x_sm.getD w 0 = 1 ∧ ¬ x_sm.getD w 0 = 2 ∧ ¬ x_sm.getD w 0 = 3 ∧ ¬ x_sm.getD w 0 = 4 ∧ ¬ x_sm.getD w 0 = 5 ∧ ¬ x_sm.getD w 0 = 6 ∧ ¬ x_sm.getD w 0 = 7 ∧ ¬ x_sm.getD w 0 = 8 ∧ ¬ x_sm.getD w 0 = 9 ∧ ¬ x_sm.getD w 0 = 10 ∧ ¬ x_sm.getD w 0 = 11 ∧ ¬ x_sm.getD w 0 = 12 ∧ ¬ x_sm.getD w 0 = 13) ∧ (¬ tk_km.getD w 0 = 9 ∧ ¬ tk_km.getD w 0 = 10 ∧ ¬ tk_km.getD w 0 = 12 ∧ ¬ tk_km.getD w 0 = 13 ∧ ¬ tk_km.getD w 0 = 4 ∧ ¬ tk_km.getD w 0 = 2 ∧ ¬ tk_km.getD w 0 = 17 ∧ ¬ tk_km.getD w 0 = 18 ∧ ¬ tk_km.getD w 0 = 11 ∧ ¬ tk_km.getD w 0 = 7 ∧ ¬ tk_km.getD w 0 = 14 ∧ ¬ tk_km.getD w 0 = 15 ∧ ¬ tk_km.getD w 0 = 16)) := by
  match w, h with
  | 0, _ => exact Or.inr (Or.inr (Or.inr (Or.inr (Or.inr (Or.inr (Or.inr (Or.inr (Or.inr (Or.inr (Or.inr (Or.inr (Or.inr (⟨⟨by decide, by decide, by decide, by decide, by decide, by decide, by decide, by decide, by decide, by decide, by decide, by decide, by decide⟩, ⟨by decide, by decide, by decide, by decide, by decide, by decide, by decide, by decide, by decide, by decide, by decide, by decide, by decide⟩⟩)))))))))))))
  | 1, _ => exact Or.inr (Or.inr (Or.inr (Or.inr (Or.inr (Or.inr (Or.inr (Or.inr (Or.inr (Or.inr (Or.inr (Or.inr (Or.inr (⟨⟨by decide, by decide, by decide, by decide, by decide, by decide, by decide, by decide, by decide, by decide, by decide, by decide, by decide⟩, ⟨by decide, by decide, by decide, by decide, by decide, by decide, by decide, by decide, by decide, by decide, by decide, by decide, by decide⟩⟩)))))))))))))
  | 2, _ => exact Or.inl ⟨by decide, by decide⟩
  | 3, _ => exact Or.inr (Or.inl ⟨by decide, by decide⟩)
  | 4, _ => exact Or.inr (Or.inr (Or.inr (Or.inr (Or.inr (Or.inl ⟨by decide, by decide⟩)))))
  | 5, _ => exact Or.inr (Or.inr (Or.inl ⟨by decide, by decide⟩))
  | 6, _ => exact Or.inr (Or.inr (Or.inr (Or.inl ⟨by decide, by decide⟩)))
  | 7, _ => exact Or.inr (Or.inr (Or.inr (Or.inr (Or.inl ⟨by decide, by decide⟩))))
  | 8, _ => exact Or.inr (Or.inr (Or.inr (Or.inr (Or.inr (Or.inr (Or.inl ⟨by decide, by decide⟩))))))
  | 9, _ => exact Or.inr (Or.inr (Or.inr (Or.inr (Or.inr (Or.inr (Or.inr (Or.inl ⟨by decide, by decide⟩)))))))
  | 10, _ => exact Or.inr (Or.inr (Or.inr (Or.inr (Or.inr (Or.inr (Or.inr (Or.inr (Or.inl ⟨by decide, by decide⟩))))))))
  | 11, _ => exact Or.inr (Or.inr (Or.inr (Or.inr (Or.inr (Or.inr (Or.inr (Or.inr (Or.inr (Or.inl ⟨by decide, by decide⟩)))))))))
  | 12, _ => exact Or.inr (Or.inr (Or.inr (Or.inr (Or.inr (Or.inr (Or.inr (Or.inr (Or.inr (Or.inr (Or.inl ⟨by decide, by decide⟩))))))))))
  | 13, _ => exact Or.inr (Or.inr (Or.inr (Or.inr (Or.inr (Or.inr (Or.inr (Or.inr (Or.inr (Or.inr (Or.inr (Or.inl ⟨by decide, by decide⟩)))))))))))
  | 14, _ => exact Or.inr (Or.inr (Or.inr (Or.inr (Or.inr (Or.inr (Or.inr (Or.inr (Or.inr (Or.inr (Or.inr (Or.inr (Or.inl ⟨by decide, by decide⟩))))))))))))
  | 15, _ => exact Or.inr (Or.inr (Or.inr (Or.inr (Or.inr (Or.inr (Or.inr (Or.inr (Or.inr (Or.inr (Or.inr (Or.inr (Or.inr (⟨⟨by decide, by decide, by decide, by decide, by decide, by decide, by decide, by decide, by decide, by decide, by decide, by decide, by decide⟩, ⟨by decide, by decide, by decide, by decide, by decide, by decide, by decide, by decide, by decide, by decide, by decide, by decide, by decide⟩⟩)))))))))))))
  | 16, _ => exact Or.inr (Or.inr (Or.inr (Or.inr (Or.inr (Or.inr (Or.inr (Or.inr (Or.inr (Or.inr (Or.inr (Or.inr (Or.inr (⟨⟨by decide, by decide, by decide, by decide, by decide, by decide, by decide, by decide, by decide, by decide, by decide, by decide, by decide⟩, ⟨by decide, by decide, by decide, by decide, by decide, by decide, by decide, by decide, by decide, by decide, by decide, by decide, by decide⟩⟩)))))))))))))
  | 17, _ => exact Or.inr (Or.inr (Or.inr (Or.inr (Or.inr (Or.inr (Or.inr (Or.inr (Or.inr (Or.inr (Or.inr (Or.inr (Or.inr (⟨⟨by decide, by decide, by decide, by decide, by decide, by decide, by decide, by decide, by decide, by decide, by decide, by decide, by decide⟩, ⟨by decide, by decide, by decide, by decide, by decide, by decide, by decide, by decide, by decide, by decide, by decide, by decide, by decide⟩⟩)))))))))))))
  | 18, _ => exact Or.inr (Or.inr (Or.inr (Or.inr (Or.inr (Or.inr (Or.inr (Or.inr (Or.inr (Or.inr (Or.inr (Or.inr (Or.inr (⟨⟨by decide, by decide, by decide, by decide, by decide, by decide, by decide, by decide, by decide, by decide, by decide, by decide, by decide⟩, ⟨by decide, by decide, by decide, by decide, by decide, by decide, by decide, by decide, by decide, by decide, by decide, by decide, by decide⟩⟩)))))))))))))
  | 19, _ => exact Or.inr (Or.inr (Or.inr (Or.inr (Or.inr (Or.inr (Or.inr (Or.inr (Or.inr (Or.inr (Or.inr (Or.inr (Or.inr (⟨⟨by decide, by decide, by decide, by decide, by decide, by decide, by decide, by decide, by decide, by decide, by decide, by decide, by decide⟩, ⟨by decide, by decide, by decide, by decide, by decide, by decide, by decide, by decide, by decide, by decide, by decide, by decide, by decide⟩⟩)))))))))))))
  | 20, _ => exact Or.inr (Or.inr (Or.inr (Or.inr (Or.inr (Or.inr (Or.inr (Or.inr (Or.inr (Or.inr (Or.inr (Or.inr (Or.inr (⟨⟨by decide, by decide, by decide, by decide, by decide, by decide, by decide, by decide, by decide, by decide, by decide, by decide, by decide⟩, ⟨by decide, by decide, by decide, by decide, by decide, by decide, by decide, by decide, by decide, by decide, by decide, by decide, by decide⟩⟩)))))))))))))
  | 21, _ => exact Or.inr (Or.inr (Or.inr (Or.inr (Or.inr (Or.inr (Or.inr (Or.inr (Or.inr (Or.inr (Or.inr (Or.inr (Or.inr (⟨⟨by decide, by decide, by decide, by decide, by decide, by decide, by decide, by decide, by decide, by decide, by decide, by decide, by decide⟩, ⟨by decide, by decide, by decide, by decide, by decide, by decide, by decide, by decide, by decide, by decide, by decide, by decide, by decide⟩⟩)))))))))))))
  | 22, _ => exact Or.inr (Or.inr (Or.inr (Or.inr (Or.inr (Or.inr (Or.inr (Or.inr (Or.inr (Or.inr (Or.inr (Or.inr (Or.inr (⟨⟨by decide, by decide, by decide, by decide, by decide, by decide, by decide, by decide, by decide, by decide, by decide, by decide, by decide⟩, ⟨by decide, by decide, by decide, by decide, by decide, by decide, by decide, by decide, by decide, by decide, by decide, by decide, by decide⟩⟩)))))))))))))
  | n + 23, h => exact absurd h (by omega)
theorem mo_line {g : Nat → Int32} {n m i : Nat} {υ : xS} (h : x_mh g n m υ i) : f_Mo_line_60 υ = x_lnM (tk_km.getD (tk_wd (tk_i g n) i) 0) υ := by
  have e : x_kw (tk_i g n) i = tk_km.getD (tk_wd (tk_i g n) i) 0 := by
    unfold x_kw tk_wd
    by_cases h1 : (tk_i g n i).1 = 1
    · rw [if_pos h1, if_pos h1]
    · rw [if_neg h1, if_neg h1]; rfl
  unfold f_Mo_line_60
  rw [l_kw h, e]
  generalize tk_km.getD (tk_wd (tk_i g n) i) 0 = w
  dsimp only [Option.bind_some]
  unfold x_lnM f_Mo_line_60_J17 f_Mo_line_60_J47
  by_cases h9 : w = 9
  · subst h9
    (simp only [if_neg (show ¬ (9 : Int32) = 10 by decide), if_neg (show ¬ (9 : Int32) = 12 by decide), if_pos rfl, if_true, eq_self]) <;> try rfl
  simp only [if_neg h9]
  by_cases h10 : w = 10
  · subst h10
    (simp only [if_neg (show ¬ (10 : Int32) = 9 by decide), if_neg (show ¬ (10 : Int32) = 12 by decide), if_pos rfl, if_true, eq_self]) <;> try rfl
  simp only [if_neg h10]
  by_cases h12 : w = 12
  · subst h12
    (simp only [if_neg (show ¬ (12 : Int32) = 9 by decide), if_neg (show ¬ (12 : Int32) = 10 by decide), if_pos rfl, if_true, eq_self]) <;> try rfl
  simp only [if_neg h12]
  by_cases h13 : w = 13
  · subst h13
    (simp only [if_neg (show ¬ (13 : Int32) = 9 by decide), if_neg (show ¬ (13 : Int32) = 10 by decide), if_neg (show ¬ (13 : Int32) = 12 by decide), if_pos rfl, if_true, eq_self]) <;> try rfl
  simp only [if_neg h13]
  by_cases h4 : w = 4
  · subst h4
    (simp only [if_pos rfl, if_true, eq_self]) <;> try rfl
  simp only [if_neg h4]
  by_cases h2 : w = 2
  · subst h2
    (simp only [if_pos rfl, if_true, eq_self]) <;> try rfl
  simp only [if_neg h2]
  by_cases h17 : w = 17
  · subst h17
    (simp only [if_pos rfl, if_true, eq_self]) <;> try rfl
  simp only [if_neg h17]
  by_cases h18 : w = 18
  · subst h18
    (simp only [if_pos rfl, if_true, eq_self]) <;> try rfl
  simp only [if_neg h18]
  by_cases h11 : w = 11
  · subst h11
    (simp only [if_pos rfl, if_true, eq_self]) <;> try rfl
  simp only [if_neg h11]
  by_cases h7 : w = 7
  · subst h7
    (simp only [if_pos rfl, if_true, eq_self]) <;> try rfl
  simp only [if_neg h7]
  by_cases h14 : w = 14
  · subst h14
    (simp only [if_pos rfl, if_true, eq_self]) <;> try rfl
  simp only [if_neg h14]
  by_cases h15 : w = 15
  · subst h15
    (simp only [if_pos rfl, if_true, eq_self]) <;> try rfl
  simp only [if_neg h15]
  by_cases h16 : w = 16
  · subst h16
    (simp only [if_pos rfl, if_true, eq_self]) <;> try rfl
  (simp only [if_neg h16]) <;> try rfl
