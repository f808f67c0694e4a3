/-! The law's beginning; what holds at the start. Written by wip/gen/start.py. -/
theorem KW_RL_8 : x_KW CL FK RL 8 6 13 := ⟨RX8, TX8, tyX8, rfl, by decide, (List.mem_append_right _ (List.mem_of_getElem? (i := 23) (by decide +kernel))), (List.mem_append_right _ (List.mem_of_getElem? (i := 24) (by decide +kernel))), (List.mem_append_right _ (List.mem_of_getElem? (i := 1) (by decide +kernel))), inW8, tyX8_ok, by decide +kernel⟩
theorem KW_RL_96 : x_KW CL FK RL 96 7 86 := ⟨RX9, TX9, tyX9, rfl, by decide, (List.mem_append_right _ (List.mem_of_getElem? (i := 1211) (by decide +kernel))), (List.mem_append_right _ (List.mem_of_getElem? (i := 1212) (by decide +kernel))), (List.mem_append_right _ (List.mem_of_getElem? (i := 9) (by decide +kernel))), inW9, tyX9_ok, by decide +kernel⟩
theorem KI_RL_95 : x_KI RL 95 M_RH_init 0 := ⟨⟨(List.mem_append_right _ (List.mem_of_getElem? (i := 25) (by decide +kernel))), (List.mem_append_right _ (List.mem_of_getElem? (i := 27) (by decide +kernel))), (List.mem_append_right _ (List.mem_of_getElem? (i := 1) (by decide +kernel))), ⟨by decide +kernel, by decide +kernel⟩, by decide +kernel⟩, (List.mem_append_right _ (List.mem_of_getElem? (i := 26) (by decide +kernel))), rfl⟩
theorem KI_RL_98 : x_KI RL 98 M_Mo_init 0 := ⟨⟨(List.mem_append_right _ (List.mem_of_getElem? (i := 1213) (by decide +kernel))), (List.mem_append_right _ (List.mem_of_getElem? (i := 1215) (by decide +kernel))), (List.mem_append_right _ (List.mem_of_getElem? (i := 9) (by decide +kernel))), ⟨by decide +kernel, by decide +kernel⟩, by decide +kernel⟩, (List.mem_append_right _ (List.mem_of_getElem? (i := 1214) (by decide +kernel))), rfl⟩
set_option maxHeartbeats 4000000 in
set_option maxRecDepth 100000 in
theorem law_begin {l : Launch} {s0 : State} {a0 : Array Value} {D : va_G} {cA : Nat → ClassId} {sp : Nat → Nat} (E : x_En CL l s0 a0 D cA sp) (A : x_Ar s0 cA) (S : x_Sw s0 sp) {xs : Nat → Int32} {L : Nat} (Z : x_Sc s0 sp L xs) {n : Nat} {σ1 : xS} {b : Int32 × xS} (h : f_lawInit = some σ1) (hl : x_it (f_law xs L) n (0, σ1) = some b) :
    x_W CL FK l s0 D cA sp (x_QL s0) room_1 true M_La_law (n + 97) (6 * n + 22704) (SH.take 0) (fun _ _ => none) 0 [some (.ref 1500), none, none, none, none, none, none] [] law_σ := by
  unfold f_lawInit at h
  obtain ⟨⟨qr, qs⟩, qh, h⟩ := x_bind h
  try dsimp only at h
  refine x_new (bc := n + 96) (bs := 6 * n + 22691) (N := 13) E (q := 0) dL_law_0 KW_RL_8 (by decide) (by decide) (SH.take 1) (by decide) 3 rfl ?_
  refine x_rfs (rf' := fun _ _ => none) 1 rfl (by decide +kernel) ?_
  refine x_dup 4 rfl dL_law_3 rfl ?_
  refine x_callI (bc := n + 37) (bs := 6 * n + 13281) E (as := []) (rest := [.ref 0]) dL_law_4 KI_RL_95 rfl ⟨(Nat.le_of_ble_eq_true rfl), (Nat.le_of_ble_eq_true rfl)⟩ rfl rfl (Nat.le_of_ble_eq_true rfl) (k_RH_init E A qh) 7 rfl ?_
  refine x_astore_n 8 rfl 1 dL_law_7 rfl (by decide) [some (.ref 1500), some (.ref 0), none, none, none, none, none] rfl ?_
  refine x_new (bc := n + 36) (bs := 6 * n + 13195) (N := 86) E (q := 60) dL_law_8 KW_RL_96 (by decide) (by decide) (SH.take 61) (by decide) 11 rfl ?_
  refine x_dup 12 rfl dL_law_11 rfl ?_
  refine x_callI (bc := n + 1) (bs := 6 * n + 1) E (as := []) (rest := [.ref 60]) dL_law_12 KI_RL_98 rfl ⟨(Nat.le_of_ble_eq_true rfl), (Nat.le_of_ble_eq_true rfl)⟩ rfl rfl (Nat.le_of_ble_eq_true rfl) (k_Mo_init_60 E A _ _) 15 rfl ?_
  refine x_rfs (rf' := RF) 96 rfl (by decide +kernel) ?_
  refine x_astore_n 16 rfl 2 dL_law_15 rfl (by decide) [some (.ref 1500), some (.ref 0), some (.ref 60), none, none, none, none] rfl ?_
  refine x_iconst 17 rfl (v := 1) dL_law_16 (by decide) ?_
  refine x_newA (bc := n) (bs := 6 * n) E (q := 96) (t := 52) (N := 1) dL_law_17 rfl (Or.inr (Or.inr ⟨rfl, rfl⟩)) KA_52 A.2.2 (by decide) (by decide) (by decide) (by decide) (by decide) SH (by decide) 19 rfl ?_
  refine x_rfs (rf' := RF) 97 rfl (by decide +kernel) ?_
  refine x_astore_n 20 rfl 3 dL_law_19 rfl (by decide) [some (.ref 1500), some (.ref 0), some (.ref 60), some (.ref 96), none, none, none] rfl ?_
  refine x_iconst 21 rfl (v := 0) dL_law_20 (by decide) ?_
  refine x_istore 23 rfl dL_law_21 (by decide) [some (.ref 1500), some (.ref 0), some (.ref 60), some (.ref 96), some (.int _), none, none] rfl ?_
  refine x_gro ?_
  cases h
  exact law_loop E S Z n (0, _) b hl
def st_lk : List Nat := [107, 113, 116, 119, 122, 125, 128, 131, 134, 137, 140, 143, 146, 149, 152, 155, 158, 161, 164, 167, 170, 173, 176]
def st_ix : List (List Nat) := [[0, 45, 102, 111, 121, 132, 144, 157, 171, 186, 202, 219, 237, 256, 276, 94, 87, 76, 81, 297, 319, 342, 366], [45, 0, 101, 110, 120, 131, 143, 156, 170, 185, 201, 218, 236, 255, 275, 93, 86, 75, 80, 296, 318, 341, 365], [102, 101, 0, 116, 126, 137, 149, 162, 176, 191, 207, 224, 242, 261, 281, 106, 105, 103, 104, 302, 324, 347, 371], [111, 110, 116, 0, 127, 138, 150, 163, 177, 192, 208, 225, 243, 262, 282, 115, 114, 112, 113, 303, 325, 348, 372], [121, 120, 126, 127, 0, 139, 151, 164, 178, 193, 209, 226, 244, 263, 283, 125, 124, 122, 123, 304, 326, 349, 373], [132, 131, 137, 138, 139, 0, 152, 165, 179, 194, 210, 227, 245, 264, 284, 136, 135, 133, 134, 305, 327, 350, 374], [144, 143, 149, 150, 151, 152, 0, 166, 180, 195, 211, 228, 246, 265, 285, 148, 147, 145, 146, 306, 328, 351, 375], [157, 156, 162, 163, 164, 165, 166, 0, 181, 196, 212, 229, 247, 266, 286, 161, 160, 158, 159, 307, 329, 352, 376], [171, 170, 176, 177, 178, 179, 180, 181, 0, 197, 213, 230, 248, 267, 287, 175, 174, 172, 173, 308, 330, 353, 377], [186, 185, 191, 192, 193, 194, 195, 196, 197, 0, 214, 231, 249, 268, 288, 190, 189, 187, 188, 309, 331, 354, 378], [202, 201, 207, 208, 209, 210, 211, 212, 213, 214, 0, 232, 250, 269, 289, 206, 205, 203, 204, 310, 332, 355, 379], [219, 218, 224, 225, 226, 227, 228, 229, 230, 231, 232, 0, 251, 270, 290, 223, 222, 220, 221, 311, 333, 356, 380], [237, 236, 242, 243, 244, 245, 246, 247, 248, 249, 250, 251, 0, 271, 291, 241, 240, 238, 239, 312, 334, 357, 381], [256, 255, 261, 262, 263, 264, 265, 266, 267, 268, 269, 270, 271, 0, 292, 260, 259, 257, 258, 313, 335, 358, 382], [276, 275, 281, 282, 283, 284, 285, 286, 287, 288, 289, 290, 291, 292, 0, 280, 279, 277, 278, 314, 336, 359, 383], [94, 93, 106, 115, 125, 136, 148, 161, 175, 190, 206, 223, 241, 260, 280, 0, 97, 95, 96, 301, 323, 346, 370], [87, 86, 105, 114, 124, 135, 147, 160, 174, 189, 205, 222, 240, 259, 279, 97, 0, 88, 89, 300, 322, 345, 369], [76, 75, 103, 112, 122, 133, 145, 158, 172, 187, 203, 220, 238, 257, 277, 95, 88, 0, 82, 298, 320, 343, 367], [81, 80, 104, 113, 123, 134, 146, 159, 173, 188, 204, 221, 239, 258, 278, 96, 89, 82, 0, 299, 321, 344, 368], [297, 296, 302, 303, 304, 305, 306, 307, 308, 309, 310, 311, 312, 313, 314, 301, 300, 298, 299, 0, 337, 360, 384], [319, 318, 324, 325, 326, 327, 328, 329, 330, 331, 332, 333, 334, 335, 336, 323, 322, 320, 321, 337, 0, 361, 385], [342, 341, 347, 348, 349, 350, 351, 352, 353, 354, 355, 356, 357, 358, 359, 346, 345, 343, 344, 360, 361, 0, 386], [366, 365, 371, 372, 373, 374, 375, 376, 377, 378, 379, 380, 381, 382, 383, 370, 369, 367, 368, 384, 385, 386, 0]]
def st_x3 : List Nat := [42, 39, 98, 107, 117, 128, 140, 153, 167, 182, 198, 215, 233, 252, 272, 90, 83, 72, 77, 293, 315, 338, 362]
def st_x4 : List Nat := [43, 40, 99, 108, 118, 129, 141, 154, 168, 183, 199, 216, 234, 253, 273, 91, 84, 73, 78, 294, 316, 339, 363]
def st_x6 : List Nat := [11, 12, 13, 14, 15, 16, 17, 18, 19, 20, 21, 22, 23, 24, 25, 26, 27, 28, 29, 30, 31, 32, 33]
def st_x7 : List Nat := [49, 50, 51, 52, 53, 54, 55, 56, 57, 58, 59, 60, 61, 62, 63, 64, 65, 66, 67, 68, 69, 70, 71]
def st_x8 : List Nat := [44, 41, 100, 109, 119, 130, 142, 155, 169, 184, 200, 217, 235, 254, 274, 92, 85, 74, 79, 295, 317, 340, 364]
def st_x9 : List Nat := [1125, 1117, 1157, 1163, 1171, 1181, 1188, 1195, 1203, 1211, 1218, 1227, 1234, 1242, 1251, 1151, 1144, 1129, 1136, 1259, 1266, 1274, 1281]
def st_x10 : List (List Nat) := [[], [1121, 1122, 1123, 1124], [1161, 1162], [1167, 1168, 1169, 1170], [1175, 1176, 1177, 1178, 1179, 1180], [1185, 1186, 1187], [1192, 1193, 1194], [1199, 1200, 1201, 1202], [1207, 1208, 1209, 1210], [1215, 1216, 1217], [1222, 1223, 1224, 1225, 1226], [1231, 1232, 1233], [1238, 1239, 1240, 1241], [1246, 1247, 1248, 1249, 1250], [1255, 1256, 1257, 1258], [1155, 1156], [1148, 1149, 1150], [1133, 1134, 1135], [1140, 1141, 1142, 1143], [1263, 1264, 1265], [1270, 1271, 1272, 1273], [1278, 1279, 1280], [1285, 1286, 1287, 1288, 1289]]
set_option maxRecDepth 100000 in
theorem st_1 : ∀ i, i < 23 → Cond.laysStatic "RingHand$Word" (x_wn.getD i "") "LRingHand$Word;" ∈ lw_tbl := by decide +kernel
set_option maxRecDepth 100000 in
theorem st_3 : ∀ i, i < 23 → (flatC (Jvm.Cond.and given_1 narrow_1))[st_x3.getD i 0]? = some (Cond.exactly (.static "RingHand$Word" (x_wn.getD i "") "LRingHand$Word;") "RingHand$Word") := by decide +kernel
set_option maxRecDepth 100000 in
theorem st_4 : ∀ i, i < 23 → (flatC (Jvm.Cond.and given_1 narrow_1))[st_x4.getD i 0]? = some (Cond.eq (.field (.static "RingHand$Word" (x_wn.getD i "") "LRingHand$Word;") "java/lang/Enum" "ordinal" "I") (.int (([0, 1, 2, 3, 4, 5, 6, 7, 8, 9, 10, 11, 12, 13, 14, 15, 16, 17, 18, 19, 20, 21, 22] : List Int32).getD i 0))) := by decide +kernel
set_option maxRecDepth 100000 in
theorem st_5 : ∀ i, i < 23 → ∀ j, j < 23 → i ≠ j → (flatC (Jvm.Cond.and given_1 narrow_1))[(st_ix.getD i []).getD j 0]? = some (Cond.not (.eq (.static "RingHand$Word" (x_wn.getD i "") "LRingHand$Word;") (.static "RingHand$Word" (x_wn.getD j "") "LRingHand$Word;"))) ∨ (flatC (Jvm.Cond.and given_1 narrow_1))[(st_ix.getD i []).getD j 0]? = some (Cond.not (.eq (.static "RingHand$Word" (x_wn.getD j "") "LRingHand$Word;") (.static "RingHand$Word" (x_wn.getD i "") "LRingHand$Word;"))) := by decide +kernel
set_option maxRecDepth 100000 in
theorem st_6 : ∀ i, i < 23 → (flatC (Jvm.Cond.and given_1 narrow_1))[st_x6.getD i 0]? = some (Cond.eq (.elem (.static "RingHand" "WORDS" "[LRingHand$Word;") (.int (Int32.ofNat i))) (.static "RingHand$Word" (x_wn.getD i "") "LRingHand$Word;")) := by decide +kernel
set_option maxRecDepth 100000 in
theorem st_7 : ∀ i, i < 23 → (flatC (Jvm.Cond.and given_1 narrow_1))[st_x7.getD i 0]? = some (Cond.eq (.elem (.static "RingHand$1" "$SwitchMap$RingHand$Word" "[I") (.int (Int32.ofNat i))) (.int (x_sm.getD i 0))) := by decide +kernel
set_option maxRecDepth 100000 in
theorem st_8 : ∀ i, i < 23 → (flatC (Jvm.Cond.and given_1 narrow_1))[st_x8.getD i 0]? = some (Cond.eq (.field (.static "RingHand$Word" (x_wn.getD i "") "LRingHand$Word;") "RingHand$Word" "letters" "Ljava/lang/String;") (.string "RingHand$Word" (st_lk.getD i 0))) := by decide +kernel
set_option maxRecDepth 100000 in
theorem st_9a : ∀ i, i < 23 → (flatC (Jvm.Cond.and given_1 narrow_1))[st_x9.getD i 0]? = some (Cond.exactly (.string "RingHand$Word" (st_lk.getD i 0)) "java/lang/String") := by decide +kernel
set_option maxRecDepth 100000 in
theorem st_9b : ∀ i, i < 23 → (flatC (Jvm.Cond.and given_1 narrow_1))[st_x9.getD i 0 + 1]? = some (Cond.eq (.field (.string "RingHand$Word" (st_lk.getD i 0)) "java/lang/String" "coder" "B") (.int 0)) := by decide +kernel
set_option maxRecDepth 100000 in
theorem st_9c : ∀ i, i < 23 → (flatC (Jvm.Cond.and given_1 narrow_1))[st_x9.getD i 0 + 2]? = some (Cond.arrayOf (.field (.string "RingHand$Word" (st_lk.getD i 0)) "java/lang/String" "value" "[B") .byte) := by decide +kernel
set_option maxRecDepth 100000 in
theorem st_9d : ∀ i, i < 23 → (flatC (Jvm.Cond.and given_1 narrow_1))[st_x9.getD i 0 + 3]? = some (Cond.eq (.length (.field (.string "RingHand$Word" (st_lk.getD i 0)) "java/lang/String" "value" "[B")) (.int (Int32.ofNat (x_ln.getD i 0)))) := by decide +kernel
set_option maxRecDepth 100000 in
theorem st_9e : ∀ i, i < 23 → x_ln.getD i 0 < 2 ^ 31 := by decide +kernel
set_option maxRecDepth 100000 in
theorem st_10 : ∀ i, i < 23 → ∀ j, j < x_ln.getD i 0 → (flatC (Jvm.Cond.and given_1 narrow_1))[(st_x10.getD i []).getD j 0]? = some (Cond.eq (.elem (.field (.string "RingHand$Word" (st_lk.getD i 0)) "java/lang/String" "value" "[B") (.int (Int32.ofNat j))) (.int ((x_by.getD i []).getD j 0))) := by decide +kernel
set_option maxHeartbeats 4000000 in
set_option maxRecDepth 100000 in
theorem st_Sw {args : Array Value} {s : State} (hts : ∀ w ∈ lw_tbl, w.before args s = true) (hgv : (Jvm.Cond.and given_1 narrow_1).before args s = true) (b : Nat) : ∃ sp : Nat → Nat, x_Sw s sp ∧ sp 1500 = b := by
  have hp := flat_of_before _ hgv
  have hA : ∀ a : Nat, a < s.heap.size → ¬ (fun q => s.heap.size ≤ q) a := fun a h => Nat.not_le.mpr h
  obtain ⟨adW, hEn, hEv⟩ := va_Enof2 (args := args) (s := s) (E := "RingHand$Word") (d := "LRingHand$Word;") (nm := x_wn) (F := [("java/lang/Enum", "ordinal", "I", [0, 1, 2, 3, 4, 5, 6, 7, 8, 9, 10, 11, 12, 13, 14, 15, 16, 17, 18, 19, 20, 21, 22])]) (A := fun q => s.heap.size ≤ q)
    (fun i hi => hts _ (st_1 i hi)) (hts _ (List.mem_append_right _ (List.mem_of_getElem? (i := 20) (by decide +kernel)))) (fun i hi => hp _ (List.mem_of_getElem? (st_3 i hi))) (fun q hq i hi => by rw [List.mem_singleton.mp hq]; exact hp _ (List.mem_of_getElem? (st_4 i hi)))
    (fun i j hi hj hij => (st_5 i hi j hj hij).imp (fun h => hp _ (List.mem_of_getElem? h)) (fun h => hp _ (List.mem_of_getElem? h))) hA
  obtain ⟨tW, hW1, hW2⟩ := va_Tof (args := args) (s := s) (tm := .static "RingHand" "WORDS" "[LRingHand$Word;") (ty := .object "RingHand$Word") (N := 23) (f := fun i => .ref (adW i)) (A := fun q => s.heap.size ≤ q) (by decide) (hp _ (List.mem_of_getElem? (i := 8) (by decide +kernel)))
    (va_eqt (hp _ (List.mem_of_getElem? (i := 9) (by decide +kernel)))) (fun j hj => va_eqv (hp _ (List.mem_of_getElem? (st_6 j hj))) (hEv j hj)) hA
  obtain ⟨tM, hM1, hM2⟩ := va_Tof (args := args) (s := s) (tm := .static "RingHand$1" "$SwitchMap$RingHand$Word" "[I") (ty := .int) (N := 23) (f := fun i => .int (x_sm.getD i 0)) (A := fun q => s.heap.size ≤ q) (by decide) (hp _ (List.mem_of_getElem? (i := 47) (by decide +kernel)))
    (va_eqt (hp _ (List.mem_of_getElem? (i := 48) (by decide +kernel)))) (fun j hj => va_eqt (hp _ (List.mem_of_getElem? (st_7 j hj)))) hA
  have h0 : ∀ i : Nat, ∃ q : Nat × Nat, i < 23 → (Term.string "RingHand$Word" (st_lk.getD i 0)).eval args s none [] s = some (.ref q.1) ∧ va_O "java/lang/String" q.1 (fun q => s.heap.size ≤ q) s s.heap ∧ va_OF "java/lang/String" "coder" "B" (.int 0) q.1 (fun q => s.heap.size ≤ q) s s.heap ∧ va_OF "java/lang/String" "value" "[B" (.ref q.2) q.1 (fun q => s.heap.size ≤ q) s s.heap ∧ va_T .byte q.2 (x_ln.getD i 0) (fun j => .int ((x_by.getD i []).getD j 0)) (fun q => s.heap.size ≤ q) s s.heap := by
    intro i
    by_cases hi : i < 23
    · have g1 := List.mem_of_getElem? (st_9a i hi)
      have g2 := List.mem_of_getElem? (st_9b i hi)
      have g3 := List.mem_of_getElem? (st_9c i hi)
      have g4 := List.mem_of_getElem? (st_9d i hi)
      have g5 := st_9e i hi
      obtain ⟨a, c, cA, kA, q1, q2, q3, q4, q5, q6, -⟩ := Cond.exactly_spec (args := args) (first := s) (o := none) (s := s) (idx := []) (hp _ g1)
      obtain ⟨t, ht, hT⟩ := va_Tof (args := args) (s := s) (f := fun j => .int ((x_by.getD i []).getD j 0)) (A := fun q => s.heap.size ≤ q) g5 (hp _ g3) (va_eqt (hp _ g4)) (fun j hj => va_eqt (hp _ (List.mem_of_getElem? (st_10 i hi j hj)))) hA
      exact ⟨(a, t), fun _ => ⟨q1, ⟨cA, q3, q5, by rw [q6]; exact q2, hA a (Array.getElem?_eq_some_iff.mp q3).1⟩, vk_OFof q1 (va_eqt (hp _ g2)) hA, vk_OFof q1 ht hA, hT⟩⟩
    · exact ⟨(0, 0), fun h => absurd h hi⟩
  obtain ⟨adK, hK⟩ := Classical.axiomOfChoice h0
  have hF : ∃ (v : Value) (tF : Nat), (v = .null ∨ v = .ref tF) ∧ va_Z "jdk/internal/util/Preconditions" "SIOOBE_FORMATTER" "Ljava/util/function/BiFunction;" v (fun q => s.heap.size ≤ q) s s.heap := by
    have h1 := hp (Cond.isRef (.static "jdk/internal/util/Preconditions" "SIOOBE_FORMATTER" "Ljava/util/function/BiFunction;")) (List.mem_of_getElem? (i := 35) (by decide +kernel))
    cases hv : (Term.static "jdk/internal/util/Preconditions" "SIOOBE_FORMATTER" "Ljava/util/function/BiFunction;").eval args s none [] s with
    | none => simp [Cond.before, Cond.holds, Cond.value, hv] at h1
    | some w =>
      have hz := va_Zof (args := args) (s := s) (A := fun q => s.heap.size ≤ q) (hts _ (List.mem_append_right _ (List.mem_of_getElem? (i := 660) (by decide +kernel)))) (hts _ (List.mem_append_right _ (List.mem_of_getElem? (i := 17) (by decide +kernel)))) hv hA
      cases w with
      | ref t => exact ⟨_, t, Or.inr rfl, hz⟩
      | null => exact ⟨_, 0, Or.inl rfl, hz⟩
      | _ => simp [Cond.before, Cond.holds, Cond.value, hv] at h1
  obtain ⟨vF, tF, hF1, hF2⟩ := hF
  refine ⟨fun p => if p < 1100 then adW (p - 1000) else if p = 1100 then tW else if p = 1101 then tM else if p < 1300 then (adK (p - 1200)).1 else if p < 1400 then (adK (p - 1300)).2 else if p = 1400 then tF else b, ?_, by simp⟩
  have e1 : ∀ i, i < 23 → (if 1000 + i < 1100 then adW (1000 + i - 1000) else if 1000 + i = 1100 then tW else if 1000 + i = 1101 then tM else if 1000 + i < 1300 then (adK (1000 + i - 1200)).1 else if 1000 + i < 1400 then (adK (1000 + i - 1300)).2 else if 1000 + i = 1400 then tF else b) = adW i := fun i hi => by
    rw [if_pos (by omega), show 1000 + i - 1000 = i by omega]
  have e2 : ∀ i, i < 23 → (if 1200 + i < 1100 then adW (1200 + i - 1000) else if 1200 + i = 1100 then tW else if 1200 + i = 1101 then tM else if 1200 + i < 1300 then (adK (1200 + i - 1200)).1 else if 1200 + i < 1400 then (adK (1200 + i - 1300)).2 else if 1200 + i = 1400 then tF else b) = (adK i).1 := fun i hi => by
    rw [if_neg (by omega), if_neg (by omega), if_neg (by omega), if_pos (by omega), show 1200 + i - 1200 = i by omega]
  have e3 : ∀ i, i < 23 → (if 1300 + i < 1100 then adW (1300 + i - 1000) else if 1300 + i = 1100 then tW else if 1300 + i = 1101 then tM else if 1300 + i < 1300 then (adK (1300 + i - 1200)).1 else if 1300 + i < 1400 then (adK (1300 + i - 1300)).2 else if 1300 + i = 1400 then tF else b) = (adK i).2 := fun i hi => by
    rw [if_neg (by omega), if_neg (by omega), if_neg (by omega), if_neg (by omega), if_pos (by omega), show 1300 + i - 1300 = i by omega]
  have hlen : x_wn.length = 23 := rfl
  refine ⟨⟨fun i hi => ?_, fun i j hi hj h => ?_⟩, ?_, ?_, ?_, ?_, fun i hi => ?_, fun i hi => ?_, ?_, ?_⟩
  · dsimp only
    rw [e1 i (by rw [← hlen]; exact hi)]
    exact hEn.1 i hi
  · dsimp only at h
    rw [e1 i (by rw [← hlen]; exact hi), e1 j (by rw [← hlen]; exact hj)] at h
    exact hEn.2 i j hi hj h
  · exact va_Zof (hts _ (List.mem_append_right _ (List.mem_of_getElem? (i := 630) (by decide +kernel)))) (hts _ (List.mem_append_right _ (List.mem_of_getElem? (i := 1) (by decide +kernel)))) hW1 hA
  · obtain ⟨cell, q1, q2, q3, q4, q5, q6, q7⟩ := hW2
    refine ⟨cell, q1, q2, q3, q4, q5, fun j hj => ?_, q7⟩
    dsimp only
    rw [e1 j hj]
    exact q6 j hj
  · exact va_Zof (hts _ (List.mem_append_right _ (List.mem_of_getElem? (i := 749) (by decide +kernel)))) (hts _ (List.mem_append_right _ (List.mem_of_getElem? (i := 21) (by decide +kernel)))) hM1 hA
  · exact hM2
  · dsimp only
    rw [e1 i hi, e2 i hi]
    exact vk_OFof (hEv i hi) (va_eqv (hp _ (List.mem_of_getElem? (st_8 i hi))) (hK i hi).1) hA
  · dsimp only
    rw [e2 i hi, e3 i hi]
    exact (hK i hi).2
  · exact va_Zof (hts _ (List.mem_append_right _ (List.mem_of_getElem? (i := 644) (by decide +kernel)))) (hts _ (List.mem_append_right _ (List.mem_of_getElem? (i := 15) (by decide +kernel)))) (va_eqt (hp _ (List.mem_of_getElem? (i := 34) (by decide +kernel)))) hA
  · rcases hF1 with h | h
    · exact ⟨.null, Or.inl rfl, by rw [h] at hF2; exact hF2⟩
    · exact ⟨.ref 1400, Or.inr rfl, by rw [h] at hF2; exact hF2⟩
set_option maxHeartbeats 4000000 in
set_option maxRecDepth 100000 in
theorem st_En {l : Launch} {args : Array Value} {s : State} (hst : l.stackTraces = false) (hts : ∀ w ∈ lw_tbl, w.before args s = true) (hgv : (Jvm.Cond.and given_1 narrow_1).before args s = true) (sp : Nat → Nat) : ∃ (D : va_G) (cA : Nat → ClassId), x_En CL l s args D cA sp ∧ x_Ar s cA := by
  obtain ⟨c0, i0, k0⟩ := u_known hts (fun w hw => (inW1 w hw).1) (hts (Cond.instantiable "RingHand$Chalk" 5) (List.mem_append_right _ (List.mem_of_getElem? (i := 246) (by decide +kernel))))
  obtain ⟨c1, i1, k1⟩ := u_known hts (fun w hw => (inW2 w hw).1) (hts (Cond.instantiable "RingHand$Reader" 8) (List.mem_append_right _ (List.mem_of_getElem? (i := 32) (by decide +kernel))))
  obtain ⟨c2, i2, k2⟩ := u_known hts (fun w hw => (inW3 w hw).1) (hts (Cond.instantiable "RingHand$Rules" 6) (List.mem_append_right _ (List.mem_of_getElem? (i := 73) (by decide +kernel))))
  obtain ⟨c3, i3, k3⟩ := u_known hts (fun w hw => (inW4 w hw).1) (hts (Cond.instantiable "RingHand$Scene" 14) (List.mem_append_right _ (List.mem_of_getElem? (i := 67) (by decide +kernel))))
  obtain ⟨c4, i4, k4⟩ := u_known hts (fun w hw => (inW5 w hw).1) (hts (Cond.instantiable "RingHand$Setup" 9) (List.mem_append_right _ (List.mem_of_getElem? (i := 162) (by decide +kernel))))
  obtain ⟨c5, i5, k5⟩ := u_known hts (fun w hw => (inW6 w hw).1) (hts (Cond.instantiable "RingHand$Trial" 10) (List.mem_append_right _ (List.mem_of_getElem? (i := 200) (by decide +kernel))))
  obtain ⟨c6, i6, k6⟩ := u_known hts (fun w hw => (inW8 w hw).1) (hts (Cond.instantiable "RingHand" 13) (List.mem_append_right _ (List.mem_of_getElem? (i := 24) (by decide +kernel))))
  obtain ⟨c7, i7, k7⟩ := u_known hts (fun w hw => (inW9 w hw).1) (hts (Cond.instantiable "RingHandModel" 86) (List.mem_append_right _ (List.mem_of_getElem? (i := 1212) (by decide +kernel))))
  obtain ⟨a50, k50, p50, f50, g50, h50⟩ := Cond.arrayClass_spec (hts _ KA_50)
  obtain ⟨a51, k51, p51, f51, g51, h51⟩ := Cond.arrayClass_spec (hts _ KA_51)
  obtain ⟨a52, k52, p52, f52, g52, h52⟩ := Cond.arrayClass_spec (hts _ KA_52)
  refine ⟨(fun c => [c0, c1, c2, c3, c4, c5, c6, c7].getD c c0, fun c => [i0, i1, i2, i3, i4, i5, i6, i7].getD c i0), fun t => if t = 50 then a50 else if t = 51 then a51 else a52, ⟨hst, hts, ?_, fun n z => ⟨fun k h => (by cases h), k50, g50, p50, h50⟩, fun n z => ⟨fun k h => (by cases h), k51, g51, p51, h51⟩, fun n z => ⟨fun k h => (by cases h), k52, g52, p52, h52⟩, hgv, trivial⟩, f50, f51, f52⟩
  exact fun c q h => match c, h with
    | 0, h => by cases h; exact k0
    | 1, h => by cases h; exact k1
    | 2, h => by cases h; exact k2
    | 3, h => by cases h; exact k3
    | 4, h => by cases h; exact k4
    | 5, h => by cases h; exact k5
    | 6, h => by cases h; exact k6
    | 7, h => by cases h; exact k7
    | c + 8, h => by cases h
theorem st_start {p : Program} {e : Env} {s : State} {m : MethodId} {below : List Frame} {meth : Method} {c : Code} (l : Launch) {b L : Nat} {xs : Nat → Int32} (hst : l.stackTraces = false) (hx : p.tables.exec = Jvm.exec) (hcode : c.code = code) (hret : meth.sig.returnType = ret) (hml : c.maxLocals = 7) (hown : s.vm.findClass "RingHandLaw" = some m.cls)
    (hts : ∀ w ∈ lw_tbl, w.before #[Value.ref b] s = true) (hX : va_X b L xs s s.heap) (hbl : b < s.heap.size) (hlocks : meth.locks = false) (hgv : (Jvm.Cond.and given_1 narrow_1).before #[Value.ref b] s = true) (hnm : meth.name = "law") (htab : c.exceptionTable.toList = [])
    (hall : ∃ (σ1 : xS) (r : Int32 × xS), f_lawInit = some σ1 ∧ x_it (f_law xs L) 600 (0, σ1) = some r) : W p l e room_1 s m #[Value.ref b] below meth c s.heap [] 0 0 (lw_Z below #[Value.ref b] s) (entryFrame m ([Value.ref b] : List Value).toArray 7) := by
  obtain ⟨sp, S, hsp⟩ := st_Sw hts hgv b
  obtain ⟨D, cA, E, A⟩ := st_En hst hts hgv sp
  obtain ⟨σ1, r, h1, h2⟩ := hall
  have Z : x_Sc s sp L xs := by
    unfold x_Sc
    rw [hsp]
    exact ⟨hX, hbl⟩
  have w := law_begin E A S Z h1 h2
  have ha : ([Value.ref b] : List Value) = ([Value.ref 1500] : List Value).map (x_tr (fun p => if p < 1000 then s.heap.size + p else sp p)) := by
    show [Value.ref b] = [Value.ref (sp 1500)]
    rw [hsp]
  have hR : x_Rl CL FK s D cA sp true (fun p => if p < 1000 then s.heap.size + p else sp p) (SH.take 0) (fun _ _ => none) law_σ s.heap :=
    ⟨fun p t h => (by cases h), fun p q h => absurd h (Nat.not_lt_zero _), fun p h => absurd h (Nat.not_lt_zero _), Nat.le_refl _, fun _ _ => rfl, fun _ => ⟨fun p hp => if_pos hp, rfl⟩, fun p hp => if_neg (Nat.not_lt.mpr hp)⟩
  have hM : x_Mx M_La_law s p m meth c s := ⟨⟨hx, hcode, hml, hown, hret, hlocks, hnm, htab⟩, State.WarmedH.refl s, Nat.le_refl _, fun _ _ => rfl⟩
  have w2 := w p e s m (([Value.ref 1500] : List Value).map (x_tr (fun p => if p < 1000 then s.heap.size + p else sp p))).toArray below meth c (fun p => if p < 1000 then s.heap.size + p else sp p) _ s.heap [] 0 0 hM hR va_S.rf (x_lo_entry (fun p => if p < 1000 then s.heap.size + p else sp p) [Value.ref 1500] (n := 7) (by decide)) (by decide) (by decide)
  rw [ha, lg_entry_eq]
  intro T hT X
  obtain ⟨t, a1, b1⟩ := w2 T hT X
  exact ⟨t, a1, b1 rfl⟩
