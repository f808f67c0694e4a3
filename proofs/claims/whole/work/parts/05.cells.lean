/-! Fields and rows. Written by wip/gen/cells.py. -/
def x_pI (σ : xS) (p k : Nat) (v : Int32) : xS := (fun a b => if a = p ∧ b = k then v else σ.1 a b, σ.2)
def x_pL (σ : xS) (p k : Nat) (v : Int64) : xS := (σ.1, fun a b => if a = p ∧ b = k then v else σ.2 a b)
def x_pR (rf : xR) (p k : Nat) (q : Option Nat) : xR := fun a b => if a = p ∧ b = k then q else rf a b
/-- the field that entry n of the class 'own' names: number k of class ci, of kind tc and type ty, final or not -/
def x_F (cl : List vw_C) (fk : Nat → Nat → Nat) (own : String) (n ci k tc : Nat) (ty : FieldType) (fin w : Bool) : Prop :=
  ∃ (C : String) (T : u_T) (N : Nat) (ty0 : Nat → FieldType), cl[ci]? = some (C, T, N) ∧ k < N ∧ ci < 50 ∧ fk ci k = tc ∧ Cond.fieldLink own n (T k).1 (T k).2.1 (T k).2.2.1 ∈ lw_tbl ∧
    (∀ w ∈ u_ws C T N, w ∈ lw_tbl ∧ goodWord w = true) ∧ (∀ j, j < N → parseFieldDescriptor (T j).2.2.1 = some (ty0 j)) ∧ (∀ a, a < N → ∀ b, b < N → a ≠ b → (T a).2.1 ≠ (T b).2.1) ∧ ty0 k = ty ∧ (T k).2.2.2 = fin ∧ (w = true → fin = true → (T k).1 = own)
theorem x_Rl.put {cl : List vw_C} {fk : Nat → Nat → Nat} {s0 : State} {D : va_G} {cA : Nat → ClassId} {sp : Nat → Nat} {gr : Bool} {ad : Nat → Nat} {sh : xH} {rf rf' : xR} {σ σ' : xS} {H H1 : Heap} (hR : x_Rl cl fk s0 D cA sp gr ad sh rf σ H) {p : Nat} {s : Nat × Nat} (hs : sh[p]? = some s)
    (z : H1.size = H.size) (oq : ∀ q : Nat, q ≠ ad p → H1[q]? = H[q]?) (hnew : x_cell cl fk D cA ad rf' σ' H1 p s) (h1 : ∀ a, a ≠ p → ∀ k, σ'.1 a k = σ.1 a k) (h2 : ∀ a, a ≠ p → ∀ k, σ'.2 a k = σ.2 a k) (h3 : ∀ a, a ≠ p → ∀ k, rf' a k = rf a k) :
    x_Rl cl fk s0 D cA sp gr ad sh rf' σ' H1 := by
  obtain ⟨r1, r2, r3, r4, r5, r6, r7⟩ := hR
  have hp : p < sh.length := (List.getElem?_eq_some_iff.mp hs).1
  refine ⟨fun a t ha => ?_, r2, r3, by rw [z]; exact r4, fun q hq => ?_, fun hg => ⟨(r6 hg).1, by rw [z]; exact (r6 hg).2⟩, r7⟩
  · by_cases e : a = p
    · subst e
      cases hs.symm.trans ha
      exact hnew
    · have hal : a < sh.length := (List.getElem?_eq_some_iff.mp ha).1
      exact (r1 a t ha).kept (oq _ (fun h => e (r2 a p hal hp h))) (h1 a e) (h2 a e) (h3 a e)
  · rw [oq q (fun h => by have := r3 p hp; omega)]
    exact r5 q hq
theorem x_pI_ne {σ : xS} {p k : Nat} {v : Int32} (a : Nat) (h : a ≠ p) (j : Nat) : (x_pI σ p k v).1 a j = σ.1 a j := if_neg (fun e => h e.1)
theorem x_pL_ne {σ : xS} {p k : Nat} {v : Int64} (a : Nat) (h : a ≠ p) (j : Nat) : (x_pL σ p k v).2 a j = σ.2 a j := if_neg (fun e => h e.1)
theorem x_pR_ne {rf : xR} {p k : Nat} {q : Option Nat} (a : Nat) (h : a ≠ p) (j : Nat) : x_pR rf p k q a j = rf a j := if_neg (fun e => h e.1)
theorem x_fv_pI {ad : Nat → Nat} {rf : xR} {σ : xS} {p k tc : Nat} {v : Int32} (fkc : Nat → Nat) (ht : fkc k = tc) (h0 : tc = 0) (j : Nat) : updV (fun k => x_fv ad rf σ p k (fkc k)) k (.int v) j = x_fv ad rf (x_pI σ p k v) p j (fkc j) := by
  unfold updV
  by_cases e : j = k
  · subst e
    rw [if_pos rfl]
    simp [x_fv, x_pI, ht, h0]
  · rw [if_neg e]
    simp [x_fv, x_pI, e]
theorem x_fv_pL {ad : Nat → Nat} {rf : xR} {σ : xS} {p k tc : Nat} {v : Int64} (fkc : Nat → Nat) (ht : fkc k = tc) (h0 : tc = 1) (j : Nat) : updV (fun k => x_fv ad rf σ p k (fkc k)) k (.long v) j = x_fv ad rf (x_pL σ p k v) p j (fkc j) := by
  unfold updV
  by_cases e : j = k
  · subst e
    rw [if_pos rfl]
    simp [x_fv, x_pL, ht, h0]
  · rw [if_neg e]
    simp [x_fv, x_pL, e]
theorem x_fv_pR {ad : Nat → Nat} {rf : xR} {σ : xS} {p k tc : Nat} {q : Nat} (fkc : Nat → Nat) (ht : fkc k = tc) (h0 : tc = 2) (j : Nat) : updV (fun k => x_fv ad rf σ p k (fkc k)) k (.ref (ad q)) j = x_fv ad (x_pR rf p k (some q)) σ p j (fkc j) := by
  unfold updV
  by_cases e : j = k
  · subst e
    rw [if_pos rfl]
    simp [x_fv, x_pR, ht, h0, va_rf]
  · rw [if_neg e]
    simp [x_fv, x_pR, e]
section XC
variable {cl : List vw_C} {fk : Nat → Nat → Nat} {l : Launch} {s0 : State} {a0 : Array Value} {D : va_G} {cA : Nat → ClassId} {sp : Nat → Nat} {QQ : List Frame → Array Value → State → (Nat → Nat) → State → Prop} {R : Room} {gr : Bool} {M : xM} {bc bs : Nat} {sh : xH} {rf : xR} {pc : Nat} {ls : List (Option Value)} {st : List Value} {σ : xS}
/-- a field's read, whatever its kind -/
theorem x_get0 (E : x_En cl l s0 a0 D cA sp) {n ci k tc q u : Nat} {ty : FieldType} {fin w : Bool} {v : Value} (hd : decode M.2.1 pc = .ok (.getfield n, 3)) (F : x_F cl fk M.1.cls n ci k tc ty fin w) (hp : sh[q]? = some (ci, u))
    (hv : ∀ ad : Nat → Nat, x_fv ad rf σ q k tc = x_tr ad v) (pc' : Nat) (hpc : pc + 3 = pc') (kk : x_W cl fk l s0 D cA sp QQ R gr M bc bs sh (rf) pc' ls (v :: st) (σ)) : x_W cl fk l s0 D cA sp QQ R gr M bc bs sh (rf) pc ls (.ref q :: st) (σ) := by
  subst hpc
  intro p e s m args below meth c ad mls H locs cells slots hM hR hS hl hc hs
  obtain ⟨C, T, N, ty0, hcl, hk, h50, hfk, hlk, hws, hty, hnm, -, -, -⟩ := F
  have hcell := hR.1 q (ci, u) hp
  unfold x_cell at hcell
  rw [if_pos (show (ci, u).1 < 50 from h50)] at hcell
  obtain ⟨r, g1, cell, q1, q2, q3, q4⟩ := hcell
  have hr : r = (C, T, N) := Option.some.inj (g1.symm.trans hcl)
  subst hr
  obtain ⟨hSl, hfc, kC, hkC, hkind⟩ := u_Kn_moved hM.2.1.alike (E.2.2.1 ci _ hcl)
  obtain ⟨cf, kf, fi, f, hi, hsl⟩ := hSl k hk
  have hts : ∀ w ∈ u_ws C T N, w.before args s = true := fun w hw => x_word E hM.2.1 (hws w hw).1 (hws w hw).2 args
  refine W.getf hM.1.1 hM.1.2.1 hM.1.2.2.2.1 (x_word E hM.2.1 hlk rfl args) hi (u_facts hfc hkC (u_lays hts (fun _ h => h) hk) hi).1 q1 (by rw [q3]; exact fun h => by cases h) (v := x_tr ad v) ?_ rfl rfl hd (kk p e s m args below meth c ad mls H locs cells slots hM hR hS hl hc hs)
  rw [hsl, q4 k hk, ← hv ad]
  show some (x_fv ad rf σ q k (fk ci k)) = _
  rw [hfk]
theorem x_getI (E : x_En cl l s0 a0 D cA sp) {n ci k q u : Nat} {ty : FieldType} {fin w : Bool} (hd : decode M.2.1 pc = .ok (.getfield n, 3)) (F : x_F cl fk M.1.cls n ci k 0 ty fin w) (hp : sh[q]? = some (ci, u)) (pc' : Nat) (hpc : pc + 3 = pc') (kk : x_W cl fk l s0 D cA sp QQ R gr M bc bs sh (rf) pc' ls (.int (σ.1 q k) :: st) (σ)) : x_W cl fk l s0 D cA sp QQ R gr M bc bs sh (rf) pc ls (.ref q :: st) (σ) :=
  x_get0 E hd F hp (fun _ => rfl) pc' hpc kk
theorem x_getL (E : x_En cl l s0 a0 D cA sp) {n ci k q u : Nat} {ty : FieldType} {fin w : Bool} (hd : decode M.2.1 pc = .ok (.getfield n, 3)) (F : x_F cl fk M.1.cls n ci k 1 ty fin w) (hp : sh[q]? = some (ci, u)) (pc' : Nat) (hpc : pc + 3 = pc') (kk : x_W cl fk l s0 D cA sp QQ R gr M bc bs sh (rf) pc' ls (.long (σ.2 q k) :: st) (σ)) : x_W cl fk l s0 D cA sp QQ R gr M bc bs sh (rf) pc ls (.ref q :: st) (σ) :=
  x_get0 E hd F hp (fun _ => rfl) pc' hpc kk
theorem x_getR (E : x_En cl l s0 a0 D cA sp) {n ci k q u z : Nat} {ty : FieldType} {fin w : Bool} (hd : decode M.2.1 pc = .ok (.getfield n, 3)) (F : x_F cl fk M.1.cls n ci k 2 ty fin w) (hp : sh[q]? = some (ci, u)) (hz : rf q k = some z) (pc' : Nat) (hpc : pc + 3 = pc') (kk : x_W cl fk l s0 D cA sp QQ R gr M bc bs sh (rf) pc' ls (.ref z :: st) (σ)) : x_W cl fk l s0 D cA sp QQ R gr M bc bs sh (rf) pc ls (.ref q :: st) (σ) :=
  x_get0 E hd F hp (fun ad => by simp [x_fv, hz, va_rf, x_tr]) pc' hpc kk
/-- a field's write, whatever its kind -/
theorem x_put0 (E : x_En cl l s0 a0 D cA sp) {n ci k tc q u : Nat} {ty : FieldType} {v : Value} {σ' : xS} {rf' : xR} {fin : Bool} (hini : fin = true → M.1.name = "<init>") (hd : decode M.2.1 pc = .ok (.putfield n, 3)) (F : x_F cl fk M.1.cls n ci k tc ty fin true) (hp : sh[q]? = some (ci, u))
    (hv : ∀ ad : Nat → Nat, narrow ty (x_tr ad v) = x_tr ad v ∧ fits ty (x_tr ad v) = true)
    (hnew : ∀ (ad : Nat → Nat) (fkc : Nat → Nat), fkc k = tc → ∀ j, updV (fun k => x_fv ad rf σ q k (fkc k)) k (x_tr ad v) j = x_fv ad rf' σ' q j (fkc j))
    (h1 : ∀ a, a ≠ q → ∀ k, σ'.1 a k = σ.1 a k) (h2 : ∀ a, a ≠ q → ∀ k, σ'.2 a k = σ.2 a k) (h3 : ∀ a, a ≠ q → ∀ k, rf' a k = rf a k)
    (pc' : Nat) (hpc : pc + 3 = pc') (kk : x_W cl fk l s0 D cA sp QQ R gr M bc bs sh (rf') pc' ls (st) (σ')) : x_W cl fk l s0 D cA sp QQ R gr M bc bs sh (rf) pc ls (v :: .ref q :: st) (σ) := by
  subst hpc
  intro p e s m args below meth c ad mls H locs cells slots hM hR hS hl hc hs
  obtain ⟨C, T, N, ty0, hcl, hk, h50, hfk, hlk, hws, hty, hnm, hty1, hfin, hown⟩ := F
  have hcell := hR.1 q (ci, u) hp
  unfold x_cell at hcell
  rw [if_pos (show (ci, u).1 < 50 from h50)] at hcell
  obtain ⟨r, g1, cell, q1, q2, q3, q4⟩ := hcell
  have hr : r = (C, T, N) := Option.some.inj (g1.symm.trans hcl)
  subst hr
  obtain ⟨hSl, hfc, kC, hkC, hkind⟩ := u_Kn_moved hM.2.1.alike (E.2.2.1 ci _ hcl)
  obtain ⟨cf, kf, fi, f, hi, hsl⟩ := hSl k hk
  have hts : ∀ w ∈ u_ws C T N, w.before args s = true := fun w hw => x_word E hM.2.1 (hws w hw).1 (hws w hw).2 args
  have hap : ∀ x y, x < N → y < N → x ≠ y → (D.2 ci) x ≠ (D.2 ci) y := by
    intro x y hx hy hne
    obtain ⟨_, _, _, fa, hia, ea⟩ := hSl x hx
    obtain ⟨_, _, _, fb, hib, eb⟩ := hSl y hy
    rw [← ea, ← eb]
    refine u_apart (u_lays hts (fun _ h => h) hx) (u_lays hts (fun _ h => h) hy) hia hib ?_
    rw [(State.fieldFound?_type hia (hty x hx)).1, (State.fieldFound?_type hib (hty y hy)).1]
    exact hnm x hx y hy hne
  have hd1 : parseFieldDescriptor (T k).2.2.1 = some ty := by rw [hty k hk, hty1]
  have hlay := hts _ (u_in_lay hk)
  have hst := (u_facts hfc hkC (u_lays hts (fun _ h => h) hk) hi).1
  have hqA : s0.heap.size ≤ ad q := hR.2.2.1 q (List.getElem?_eq_some_iff.mp hp).1
  have fin' : ∀ H' : Heap, H'[ad q]? = some (cell.setSlot (D.2 ci k) (x_tr ad v)) → H'.size = H.size → (∀ z, z ≠ ad q → H'[z]? = H[z]?) →
      W p l e R s m args below meth c H' (locs ++ [⟨ad q, D.2 ci k⟩]) cells slots (QQ below args s ad) (F0 m (pc + 3) mls (st.map (x_tr ad))) := by
    intro H' e1 e2 e3
    refine kk p e s m args below meth c ad mls H' _ cells slots hM (hR.put hp e2 e3 ?_ h1 h2 h3) (hS.put e2 e3 hqA) hl hc hs
    unfold x_cell
    rw [if_pos (show (ci, u).1 < 50 from h50)]
    exact ⟨_, hcl, t_OB.to ⟨_, e1, q2, q3, t_set q4 hap hk (x_tr ad v)⟩ (fun j _ => hnew ad (fk ci) hfk j)⟩
  unfold u_lay at hlay
  cases fin with
  | false =>
    rw [if_neg (by rw [hfin]; decide)] at hlay
    have h6 := u_store hfc hkC hkind hlay hi hd1 (hv ad).1 (hv ad).2
    refine W.putK hM.1.1 hM.1.2.1 (f := f) ⟨hM.1.2.2.2.1, x_word E hM.2.1 hlk rfl args, ⟨_, _, _, hi⟩, hst⟩ (by rw [q2]; exact h6) q1 q3 (by rw [hsl]; exact k2_hasslot (q4 k hk)) rfl rfl hd fun H' e1 e2 e3 => ?_
    rw [hsl] at e1 ⊢
    exact fin' H' e1 e2 e3
  | true =>
    rw [if_pos hfin] at hlay
    have hcf : m.cls = cf := by
      obtain ⟨_, _, c', _, _, _, -, -, hf', -, -, -, hown2, -⟩ := Cond.laysFinal_spec hlay
      have e1 : c' = cf := by have := hi.symm.trans hf'; simp at this; exact this.1.symm
      rw [hown rfl rfl] at hown2
      rw [← e1]; exact Option.some.inj (hM.1.2.2.2.1.symm.trans hown2)
    have h6 := u_fits hfc hkC hkind (Or.inr hlay) hi hd1 (hv ad).1 (hv ad).2
    refine W.putFinK hM.1.1 hM.1.2.1 hM.1.2.2.2.1 (x_word E hM.2.1 hlk rfl args) hi hst hcf (hM.1.2.2.2.2.2.2.1.trans (hini rfl)) (by rw [q2]; exact h6) q1 q3 (by rw [hsl]; exact k2_hasslot (q4 k hk)) rfl rfl hd fun H' e1 e2 e3 => ?_
    rw [hsl] at e1 ⊢
    exact fin' H' e1 e2 e3
theorem x_putI (E : x_En cl l s0 a0 D cA sp) {n ci k q u : Nat} {v : Int32} (hd : decode M.2.1 pc = .ok (.putfield n, 3)) (F : x_F cl fk M.1.cls n ci k 0 .int false true) (hp : sh[q]? = some (ci, u)) (pc' : Nat) (hpc : pc + 3 = pc') (kk : x_W cl fk l s0 D cA sp QQ R gr M bc bs sh (rf) pc' ls (st) (x_pI σ q k v)) : x_W cl fk l s0 D cA sp QQ R gr M bc bs sh (rf) pc ls (.int v :: .ref q :: st) (σ) :=
  x_put0 E (fun h => by cases h) hd F hp (fun _ => ⟨rfl, rfl⟩) (fun ad fkc h j => x_fv_pI fkc h rfl j) x_pI_ne (fun _ _ _ => rfl) (fun _ _ _ => rfl) pc' hpc kk
theorem x_putZ (E : x_En cl l s0 a0 D cA sp) {n ci k q u : Nat} {v : Int32} (hv : v = 0 ∨ v = 1) (hd : decode M.2.1 pc = .ok (.putfield n, 3)) (F : x_F cl fk M.1.cls n ci k 0 .boolean false true) (hp : sh[q]? = some (ci, u)) (pc' : Nat) (hpc : pc + 3 = pc') (kk : x_W cl fk l s0 D cA sp QQ R gr M bc bs sh (rf) pc' ls (st) (x_pI σ q k v)) : x_W cl fk l s0 D cA sp QQ R gr M bc bs sh (rf) pc ls (.int v :: .ref q :: st) (σ) :=
  x_put0 E (fun h => by cases h) hd F hp (fun _ => by rcases hv with rfl | rfl <;> exact ⟨rfl, rfl⟩) (fun ad fkc h j => x_fv_pI fkc h rfl j) x_pI_ne (fun _ _ _ => rfl) (fun _ _ _ => rfl) pc' hpc kk
theorem x_putL (E : x_En cl l s0 a0 D cA sp) {n ci k q u : Nat} {v : Int64} (hd : decode M.2.1 pc = .ok (.putfield n, 3)) (F : x_F cl fk M.1.cls n ci k 1 .long false true) (hp : sh[q]? = some (ci, u)) (pc' : Nat) (hpc : pc + 3 = pc') (kk : x_W cl fk l s0 D cA sp QQ R gr M bc bs sh (rf) pc' ls (st) (x_pL σ q k v)) : x_W cl fk l s0 D cA sp QQ R gr M bc bs sh (rf) pc ls (.long v :: .ref q :: st) (σ) :=
  x_put0 E (fun h => by cases h) hd F hp (fun _ => ⟨rfl, rfl⟩) (fun ad fkc h j => x_fv_pL fkc h rfl j) (fun _ _ _ => rfl) x_pL_ne (fun _ _ _ => rfl) pc' hpc kk
theorem x_putR (E : x_En cl l s0 a0 D cA sp) {n ci k q u z : Nat} {ty : FieldType} {fin : Bool} (hini : fin = true → M.1.name = "<init>") (hty : (∃ x, ty = .object x) ∨ ∃ x, ty = .array x) (hd : decode M.2.1 pc = .ok (.putfield n, 3)) (F : x_F cl fk M.1.cls n ci k 2 ty fin true) (hp : sh[q]? = some (ci, u)) (pc' : Nat) (hpc : pc + 3 = pc') (kk : x_W cl fk l s0 D cA sp QQ R gr M bc bs sh (x_pR rf q k (some z)) pc' ls (st) (σ)) : x_W cl fk l s0 D cA sp QQ R gr M bc bs sh (rf) pc ls (.ref z :: .ref q :: st) (σ) :=
  x_put0 E hini hd F hp (fun _ => by rcases hty with ⟨x, rfl⟩ | ⟨x, rfl⟩ <;> exact ⟨rfl, rfl⟩) (fun ad fkc h j => x_fv_pR fkc h rfl j) (fun _ _ _ => rfl) (fun _ _ _ => rfl) x_pR_ne pc' hpc kk
/-- rows -/
theorem x_row {H : Heap} {ad : Nat → Nat} (hR : x_Rl cl fk s0 D cA sp gr ad sh rf σ H) {q t n : Nat} (hp : sh[q]? = some (t, n)) (h : t = 50 ∨ t = 51) : H[ad q]? = some (arrV (cA t) n (fun j => .int (σ.1 q j))) := by
  have hcell := hR.1 q (t, n) hp
  unfold x_cell at hcell
  rw [if_neg (by show ¬ t < 50; omega), if_neg (by show ¬ t = 52; omega)] at hcell
  exact hcell
theorem x_rowL {H : Heap} {ad : Nat → Nat} (hR : x_Rl cl fk s0 D cA sp gr ad sh rf σ H) {q n : Nat} (hp : sh[q]? = some (52, n)) : H[ad q]? = some (arrV (cA 52) n (fun j => .long (σ.2 q j))) := by
  have hcell := hR.1 q (52, n) hp
  unfold x_cell at hcell
  rw [if_neg (by show ¬ 52 < 50; omega), if_pos rfl] at hcell
  exact hcell
theorem x_iald (E : x_En cl l s0 a0 D cA sp) {q n : Nat} {i : Int32} (hd : decode M.2.1 pc = .ok (.iaload, 1)) (hp : sh[q]? = some (50, n)) (j : Nat) (hj : i.toNatClampNeg = j) (hin : ¬ (i < 0 ∨ n ≤ j)) (pc' : Nat) (hpc : pc + 1 = pc') (kk : x_W cl fk l s0 D cA sp QQ R gr M bc bs sh (rf) pc' ls (.int (σ.1 q j) :: st) (σ)) : x_W cl fk l s0 D cA sp QQ R gr M bc bs sh (rf) pc ls (.int i :: .ref q :: st) (σ) := by
  subst hpc
  subst hj
  intro p e s m args below meth c ad mls H locs cells slots hM hR hS hl hc hs
  have hlt : i.toNatClampNeg < n := Nat.not_le.mp fun z => hin (Or.inr z)
  exact W.iald (v := .int (σ.1 q i.toNatClampNeg)) hM.1.1 hM.1.2.1 (x_row hR hp (Or.inl rfl)) (arrOfT_moved hM.2.1.alike E.2.2.2.1 n _) (fun z => by cases z) (by rw [arrV_size]; exact hin) (by rw [arrV_read _ _ hlt]) rfl rfl hd (kk p e s m args below meth c ad mls H locs cells slots hM hR hS hl hc hs)
theorem x_zald (E : x_En cl l s0 a0 D cA sp) {q n : Nat} {i : Int32} (hd : decode M.2.1 pc = .ok (.baload, 1)) (hp : sh[q]? = some (51, n)) (j : Nat) (hj : i.toNatClampNeg = j) (hin : ¬ (i < 0 ∨ n ≤ j)) (pc' : Nat) (hpc : pc + 1 = pc') (kk : x_W cl fk l s0 D cA sp QQ R gr M bc bs sh (rf) pc' ls (.int (σ.1 q j) :: st) (σ)) : x_W cl fk l s0 D cA sp QQ R gr M bc bs sh (rf) pc ls (.int i :: .ref q :: st) (σ) := by
  subst hpc
  subst hj
  intro p e s m args below meth c ad mls H locs cells slots hM hR hS hl hc hs
  have hlt : i.toNatClampNeg < n := Nat.not_le.mp fun z => hin (Or.inr z)
  exact W.zald (v := .int (σ.1 q i.toNatClampNeg)) hM.1.1 hM.1.2.1 (x_row hR hp (Or.inr rfl)) (arrOfT_moved hM.2.1.alike E.2.2.2.2.1 n _) (fun z => by cases z) (by rw [arrV_size]; exact hin) (by rw [arrV_read _ _ hlt]) rfl rfl hd (kk p e s m args below meth c ad mls H locs cells slots hM hR hS hl hc hs)
theorem x_lald (E : x_En cl l s0 a0 D cA sp) {q n : Nat} {i : Int32} (hd : decode M.2.1 pc = .ok (.laload, 1)) (hp : sh[q]? = some (52, n)) (j : Nat) (hj : i.toNatClampNeg = j) (hin : ¬ (i < 0 ∨ n ≤ j)) (pc' : Nat) (hpc : pc + 1 = pc') (kk : x_W cl fk l s0 D cA sp QQ R gr M bc bs sh (rf) pc' ls (.long (σ.2 q j) :: st) (σ)) : x_W cl fk l s0 D cA sp QQ R gr M bc bs sh (rf) pc ls (.int i :: .ref q :: st) (σ) := by
  subst hpc
  subst hj
  intro p e s m args below meth c ad mls H locs cells slots hM hR hS hl hc hs
  have hlt : i.toNatClampNeg < n := Nat.not_le.mp fun z => hin (Or.inr z)
  exact W.lald (v := .long (σ.2 q i.toNatClampNeg)) hM.1.1 hM.1.2.1 (x_rowL hR hp) (arrOfT_moved hM.2.1.alike E.2.2.2.2.2.1 n _) (fun z => by cases z) (by rw [arrV_size]; exact hin) (by rw [arrV_read _ _ hlt]) rfl rfl hd (kk p e s m args below meth c ad mls H locs cells slots hM hR hS hl hc hs)
theorem x_putrow {ad : Nat → Nat} {H H1 : Heap} (hR : x_Rl cl fk s0 D cA sp gr ad sh rf σ H) {q t n k : Nat} {v : Int32} (hp : sh[q]? = some (t, n)) (h : t = 50 ∨ t = 51) (e1 : H1[ad q]? = some ((arrV (cA t) n (fun j => .int (σ.1 q j))).setSlot k (.int v))) (e2 : H1.size = H.size) (e3 : ∀ z, z ≠ ad q → H1[z]? = H[z]?) :
    x_Rl cl fk s0 D cA sp gr ad sh rf (x_pI σ q k v) H1 := by
  refine hR.put hp e2 e3 ?_ x_pI_ne (fun _ _ _ => rfl) (fun _ _ _ => rfl)
  unfold x_cell
  rw [if_neg (by show ¬ t < 50; omega), if_neg (by show ¬ t = 52; omega), e1, arrV_store]
  show some (arrV (cA t) n _) = some (arrV (cA t) n _)
  congr 2
  funext j
  unfold updV
  by_cases e : j = k
  · subst e; simp [x_pI]
  · simp [x_pI, e]
theorem x_iast (E : x_En cl l s0 a0 D cA sp) {q n : Nat} {i v : Int32} (hd : decode M.2.1 pc = .ok (.iastore, 1)) (hp : sh[q]? = some (50, n)) (j : Nat) (hj : i.toNatClampNeg = j) (hin : ¬ (i < 0 ∨ n ≤ j)) (pc' : Nat) (hpc : pc + 1 = pc') (kk : x_W cl fk l s0 D cA sp QQ R gr M bc bs sh (rf) pc' ls (st) (x_pI σ q j v)) : x_W cl fk l s0 D cA sp QQ R gr M bc bs sh (rf) pc ls (.int v :: .int i :: .ref q :: st) (σ) := by
  subst hpc
  subst hj
  intro p e s m args below meth c ad mls H locs cells slots hM hR hS hl hc hs
  have hqA : s0.heap.size ≤ ad q := hR.2.2.1 q (List.getElem?_eq_some_iff.mp hp).1
  refine W.iast hM.1.1 hM.1.2.1 (x_row hR hp (Or.inl rfl)) (arrOfT_moved hM.2.1.alike E.2.2.2.1 n _) (fun z => by cases z) (by rw [arrV_size]; exact hin) rfl rfl hd fun H1 e1 e2 e3 => ?_
  exact kk p e s m args below meth c ad mls H1 _ cells slots hM (x_putrow hR hp (Or.inl rfl) e1 e2 e3) (hS.put e2 e3 hqA) hl hc hs
theorem x_zast (E : x_En cl l s0 a0 D cA sp) {q n : Nat} {i v : Int32} (hv : v = 0 ∨ v = 1) (hd : decode M.2.1 pc = .ok (.bastore, 1)) (hp : sh[q]? = some (51, n)) (j : Nat) (hj : i.toNatClampNeg = j) (hin : ¬ (i < 0 ∨ n ≤ j)) (pc' : Nat) (hpc : pc + 1 = pc') (kk : x_W cl fk l s0 D cA sp QQ R gr M bc bs sh (rf) pc' ls (st) (x_pI σ q j v)) : x_W cl fk l s0 D cA sp QQ R gr M bc bs sh (rf) pc ls (.int v :: .int i :: .ref q :: st) (σ) := by
  subst hpc
  subst hj
  intro p e s m args below meth c ad mls H locs cells slots hM hR hS hl hc hs
  have hqA : s0.heap.size ≤ ad q := hR.2.2.1 q (List.getElem?_eq_some_iff.mp hp).1
  refine W.zast hM.1.1 hM.1.2.1 (x_row hR hp (Or.inr rfl)) (arrOfT_moved hM.2.1.alike E.2.2.2.2.1 n _) (fun z => by cases z) (by rw [arrV_size]; exact hin) rfl rfl hd fun H1 e1 e2 e3 => ?_
  rw [show narrow .boolean (.int v) = .int v by rcases hv with rfl | rfl <;> rfl] at e1
  exact kk p e s m args below meth c ad mls H1 _ cells slots hM (x_putrow hR hp (Or.inr rfl) e1 e2 e3) (hS.put e2 e3 hqA) hl hc hs
theorem x_last (E : x_En cl l s0 a0 D cA sp) {q n : Nat} {i : Int32} {v : Int64} (hd : decode M.2.1 pc = .ok (.lastore, 1)) (hp : sh[q]? = some (52, n)) (j : Nat) (hj : i.toNatClampNeg = j) (hin : ¬ (i < 0 ∨ n ≤ j)) (pc' : Nat) (hpc : pc + 1 = pc') (kk : x_W cl fk l s0 D cA sp QQ R gr M bc bs sh (rf) pc' ls (st) (x_pL σ q j v)) : x_W cl fk l s0 D cA sp QQ R gr M bc bs sh (rf) pc ls (.long v :: .int i :: .ref q :: st) (σ) := by
  subst hpc
  subst hj
  intro p e s m args below meth c ad mls H locs cells slots hM hR hS hl hc hs
  have hqA : s0.heap.size ≤ ad q := hR.2.2.1 q (List.getElem?_eq_some_iff.mp hp).1
  refine W.last hM.1.1 hM.1.2.1 (x_rowL hR hp) (arrOfT_moved hM.2.1.alike E.2.2.2.2.2.1 n _) (fun z => by cases z) (by rw [arrV_size]; exact hin) rfl rfl hd fun H1 e1 e2 e3 => ?_
  refine kk p e s m args below meth c ad mls H1 _ cells slots hM (hR.put hp e2 e3 ?_ (fun _ _ _ => rfl) x_pL_ne (fun _ _ _ => rfl)) (hS.put e2 e3 hqA) hl hc hs
  unfold x_cell
  rw [if_neg (by show ¬ 52 < 50; omega), if_pos rfl, e1, arrV_store]
  show some (arrV (cA 52) n _) = some (arrV (cA 52) n _)
  congr 2
  funext j
  unfold updV
  by_cases e : j = i.toNatClampNeg
  · subst e; simp [x_pL]
  · simp [x_pL, e]
theorem x_alen (E : x_En cl l s0 a0 D cA sp) {q n : Nat} (hd : decode M.2.1 pc = .ok (.arraylength, 1)) (hp : sh[q]? = some (50, n)) (pc' : Nat) (hpc : pc + 1 = pc') (kk : x_W cl fk l s0 D cA sp QQ R gr M bc bs sh (rf) pc' ls (.int (Int32.ofNat n) :: st) (σ)) : x_W cl fk l s0 D cA sp QQ R gr M bc bs sh (rf) pc ls (.ref q :: st) (σ) := by
  subst hpc
  intro p e s m args below meth c ad mls H locs cells slots hM hR hS hl hc hs
  exact W.alen (n := Int32.ofNat n) hM.1.1 hM.1.2.1 (x_row hR hp (Or.inl rfl)) (arrOfT_moved hM.2.1.alike E.2.2.2.1 n _) (by rw [arrV_size]) rfl rfl hd (kk p e s m args below meth c ad mls H locs cells slots hM hR hS hl hc hs)
theorem x_zlen (E : x_En cl l s0 a0 D cA sp) {q n : Nat} (hd : decode M.2.1 pc = .ok (.arraylength, 1)) (hp : sh[q]? = some (51, n)) (pc' : Nat) (hpc : pc + 1 = pc') (kk : x_W cl fk l s0 D cA sp QQ R gr M bc bs sh (rf) pc' ls (.int (Int32.ofNat n) :: st) (σ)) : x_W cl fk l s0 D cA sp QQ R gr M bc bs sh (rf) pc ls (.ref q :: st) (σ) := by
  subst hpc
  intro p e s m args below meth c ad mls H locs cells slots hM hR hS hl hc hs
  exact W.alen (n := Int32.ofNat n) hM.1.1 hM.1.2.1 (x_row hR hp (Or.inr rfl)) (arrOfT_moved hM.2.1.alike E.2.2.2.2.1 n _) (by rw [arrV_size]) rfl rfl hd (kk p e s m args below meth c ad mls H locs cells slots hM hR hS hl hc hs)
end XC
