theorem x_ens.bf {α β : Type} {o : Option α} {f : α → Option β} {P F : α → Prop} {Q : β → Prop} (h : x_ens o P) (hf : ∀ q, o = some q → F q) (k : ∀ q, P q → F q → x_ens (f q) Q) : x_ens (o.bind f) Q := by
  obtain ⟨b, e, hb⟩ := h; have := hf b e; subst e; exact k b hb this
theorem x_fr.ce {W : List (Nat × Nat)} {σ τ : xS} (h : x_fr W σ τ) (p : Nat) (hp : (W.all fun w => w.1 != p) = true) : τ.1 p = σ.1 p := by
  funext k
  refine h.1 p k ?_
  unfold x_in
  rw [List.any_eq_false]
  intro w hw h2
  have := List.all_eq_true.mp hp w hw
  simp only [Bool.and_eq_true, beq_iff_eq] at h2
  rw [h2.1] at this
  simp at this
theorem x_fr.ck {W : List (Nat × Nat)} {σ τ : xS} (h : x_fr W σ τ) (p k : Nat) (hp : x_in W p k = false) : τ.1 p k = σ.1 p k := h.1 p k hp
def sp_nm (C : Nat → Nat → Int32) : Nat := (C 7 1).toNatClampNeg
def sp_la (C : Nat → Nat → Int32) : Nat := (C 7 4).toNatClampNeg
def sp_nc (C : Nat → Nat → Int32) : Nat := (C 7 5).toNatClampNeg
def sp_nk (C : Nat → Nat → Int32) : Nat := (C 7 8).toNatClampNeg
def sp_nh (C : Nat → Nat → Int32) : Nat := (C 7 9).toNatClampNeg
def sp_tu (C : Nat → Nat → Int32) (v : Int32) : Int32 := if sp_has C 0 then sp_wi (sp_w C 0 (fun _ => v)) 0 999 else 4320 / v
def y_K (C : Nat → Nat → Int32) (σ : xS) : Prop := σ.1 7 = C 7 ∧ σ.1 8 = C 8 ∧ σ.1 9 = C 9 ∧ σ.1 10 = C 10 ∧ σ.1 11 = C 11 ∧ σ.1 14 = C 14 ∧ σ.1 15 = C 15 ∧ σ.1 16 = C 16 ∧ σ.1 19 = C 19 ∧ σ.1 20 = C 20
def x_G (C : Nat → Nat → Int32) : Prop :=
  (C 7 1 = Int32.ofNat (sp_nm C) ∧ sp_nm C ≤ 12) ∧ (C 7 4 = Int32.ofNat (sp_la C) ∧ sp_la C ≤ 600) ∧ (C 7 5 = Int32.ofNat (sp_nc C) ∧ sp_nc C ≤ 6) ∧ (C 7 8 = Int32.ofNat (sp_nk C) ∧ sp_nk C ≤ 6) ∧ (C 7 9 = Int32.ofNat (sp_nh C) ∧ sp_nh C ≤ 4) ∧
  (12 ≤ C 7 0 ∧ C 7 0 ≤ 480) ∧ (∀ i, i < sp_nm C → (12 ≤ C 8 i ∧ C 8 i ≤ 480) ∧ 1 ≤ C 9 i ∧ C 9 i ≤ 99) ∧ sp_sum (C 9) (sp_nm C) = C 7 4 ∧ (∀ i, i < sp_nc C → (1 ≤ C 10 i ∧ C 10 i ≤ 600) ∧ (C 11 i = 0 ∨ C 11 i = 1)) ∧
  C 19 0 = C 7 0 ∧ (∀ t, t ≤ sp_la C → C 19 t = sp_her (C 8) (C 9) 0 (C 7 0) (Int32.ofNat t) (sp_nm C) ∧ 12 ≤ C 19 t ∧ C 19 t ≤ 480) ∧ (∀ v, 12 ≤ v → v ≤ 480 → C 20 v.toNatClampNeg = sp_tu C v ∧ 0 ≤ sp_tu C v ∧ sp_tu C v ≤ 999) ∧
  (sp_has C 0 → sp_RG C 0 0 0) ∧ (sp_has C 1 → sp_RG C 1 0 2) ∧ ∀ h, h < sp_nh C → sp_has C (2 + h) ∧ sp_RG C (2 + h) 3 7
def x_cd (σ : xS) (v : Int32) (cs : List Int32) : Prop := 0 ≤ v ∧ v.toNatClampNeg + 2 * cs.length < 4200 ∧ sp_en (σ.1 66) v.toNatClampNeg cs
def x_M (C : Nat → Nat → Int32) (σ : xS) : Prop :=
  (σ.1 60 1 = C 7 0 ∧ σ.1 60 2 = C 7 1 ∧ σ.1 60 3 = C 7 5 ∧ σ.1 60 5 = C 7 9) ∧ (∀ i, i < sp_nm C → σ.1 61 i = C 8 i ∧ σ.1 62 i = C 9 i) ∧ (∀ i, i < sp_nc C → σ.1 63 i = C 10 i ∧ σ.1 64 i = C 11 i) ∧
  (if sp_has C 0 then x_cd σ (σ.1 60 6) (sp_seg C 0) else σ.1 60 6 = -1) ∧ (if sp_has C 1 then x_cd σ (σ.1 60 7) (sp_seg C 1) else σ.1 60 7 = -1) ∧ ∀ h, h < sp_nh C → x_cd σ (σ.1 65 h) (sp_seg C (2 + h))
theorem y_K.fr {W : List (Nat × Nat)} {C : Nat → Nat → Int32} {σ τ : xS} (K : y_K C σ) (h : x_fr W σ τ) (hw : (W.all fun w => w.1 != 7 && w.1 != 8 && w.1 != 9 && w.1 != 10 && w.1 != 11 && w.1 != 14 && w.1 != 15 && w.1 != 16 && w.1 != 19 && w.1 != 20) = true) : y_K C τ := by
  have key : ∀ p, (p = 7 ∨ p = 8 ∨ p = 9 ∨ p = 10 ∨ p = 11 ∨ p = 14 ∨ p = 15 ∨ p = 16 ∨ p = 19 ∨ p = 20) → τ.1 p = σ.1 p := by
    intro p hp
    refine h.ce p ?_
    rw [List.all_eq_true] at hw ⊢
    intro w h1
    have := hw w h1
    simp only [Bool.and_eq_true, bne_iff_ne] at this ⊢
    rcases hp with rfl | rfl | rfl | rfl | rfl | rfl | rfl | rfl | rfl | rfl <;> simp [this]
  obtain ⟨a, b, c, d, e, f, g, i, j, k⟩ := K
  exact ⟨(key 7 (by simp)).trans a, (key 8 (by simp)).trans b, (key 9 (by simp)).trans c, (key 10 (by simp)).trans d, (key 11 (by simp)).trans e, (key 14 (by simp)).trans f, (key 15 (by simp)).trans g, (key 16 (by simp)).trans i, (key 19 (by simp)).trans j, (key 20 (by simp)).trans k⟩
theorem x_M.fr {W : List (Nat × Nat)} {C : Nat → Nat → Int32} {σ τ : xS} (K : x_M C σ) (h : x_fr W σ τ) (hw : (W.all fun w => w.1 != 61 && w.1 != 62 && w.1 != 63 && w.1 != 64 && w.1 != 65 && w.1 != 66) = true) (h1 : x_in W 60 1 = false) (h2 : x_in W 60 2 = false) (h3 : x_in W 60 3 = false) (h5 : x_in W 60 5 = false) (h6 : x_in W 60 6 = false) (h7 : x_in W 60 7 = false) : x_M C τ := by
  have key : ∀ p, (p = 61 ∨ p = 62 ∨ p = 63 ∨ p = 64 ∨ p = 65 ∨ p = 66) → τ.1 p = σ.1 p := by
    intro p hp
    refine h.ce p ?_
    rw [List.all_eq_true] at hw ⊢
    intro w h1
    have := hw w h1
    simp only [Bool.and_eq_true, bne_iff_ne] at this ⊢
    rcases hp with rfl | rfl | rfl | rfl | rfl | rfl <;> simp [this]
  unfold x_M x_cd at K ⊢
  rw [h.ck 60 1 h1, h.ck 60 2 h2, h.ck 60 3 h3, h.ck 60 5 h5, h.ck 60 6 h6, h.ck 60 7 h7, key 61 (by simp), key 62 (by simp), key 63 (by simp), key 64 (by simp), key 65 (by simp), key 66 (by simp)]
  exact K
