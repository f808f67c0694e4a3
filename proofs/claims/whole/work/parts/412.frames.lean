/-! Frames. Written by wip/gen/frames.py. -/
set_option maxHeartbeats 4000000 in
set_option maxRecDepth 100000 in
theorem fr_Mo_nextNumbers_60_L51 {v1 : Int32} {a : Int32 × xS} {o : (Int32 × xS) ⊕ (Int32 × xS)} (h : f_Mo_nextNumbers_60_L51 v1 a = some o) : x_frO [(89, 99999)] (fun a => a.2) (fun b => b.2) a.2 o := by
  unfold f_Mo_nextNumbers_60_L51 at h
  try dsimp only at h
  refine x_iteC h (fun h => ?_) (fun h => ?_)
  · skip
    cases h
    exact x_frO.b x_fr.rf
  · skip
    obtain ⟨-, h⟩ := x_ifn h
    obtain ⟨-, h⟩ := x_ifn h
    cases h
    exact x_frO.a1 (x_frI (p := 89) rfl x_fr.rf)
set_option maxHeartbeats 4000000 in
set_option maxRecDepth 100000 in
theorem fr_Mo_nextNumbers_60_J31 {v1 : Int32} {v2 : Int32} {σ : xS} {r : Int32 × xS} (h : f_Mo_nextNumbers_60_J31 v1 v2 σ = some r) : x_fr [(89, 99999)] σ r.2 := by
  unfold f_Mo_nextNumbers_60_J31 at h
  try dsimp only at h
  refine x_iteC h (fun h => ?_) (fun h => ?_)
  · skip
    obtain ⟨-, h⟩ := x_ifn h
    obtain ⟨-, h⟩ := x_ifn h
    obtain ⟨b6, b6h, h⟩ := x_bind h
    try dsimp only at h
    have b6f := x_itF (sA := (fun a => a.2)) (sB := (fun b => b.2)) (fun a o h => fr_Mo_nextNumbers_60_L51 h) _ _ _ b6h
    cases h
    exact (x_fr.trans (x_frI (p := 89) rfl x_fr.rf) (x_fr.su b6f rfl))
  · skip
    cases h
    exact x_fr.rf
set_option maxHeartbeats 4000000 in
set_option maxRecDepth 100000 in
theorem fr_Mo_nextNumbers_60 {v1 : Int32} {σ : xS} {r : Int32 × xS} (h : f_Mo_nextNumbers_60 v1 σ = some r) : x_fr [(89, 99999)] σ r.2 := by
  unfold f_Mo_nextNumbers_60 at h
  try dsimp only at h
  obtain ⟨b8, b8h, h⟩ := x_bind h
  try dsimp only at h
  have b8f := x_itF (sA := (fun a => a.2)) (sB := (fun b => b.2)) (fun a o h => fr_Mo_nextNumbers_60_L4 h) _ _ _ b8h
  exact x_fr.trans (x_fr.trans x_fr.rf (x_fr.su b8f rfl)) (x_fr.su (fr_Mo_nextNumbers_60_J31 h) rfl)
set_option maxHeartbeats 4000000 in
set_option maxRecDepth 100000 in
theorem fr_Mo_copies_60_79_80_L2 {a : Int32 × xS} {o : (Int32 × xS) ⊕ (Int32 × xS)} (h : f_Mo_copies_60_79_80_L2 a = some o) : x_frO [(80, 99999)] (fun a => a.2) (fun b => b.2) a.2 o := by
  unfold f_Mo_copies_60_79_80_L2 at h
  try dsimp only at h
  refine x_iteC h (fun h => ?_) (fun h => ?_)
  · skip
    cases h
    exact x_frO.b x_fr.rf
  · skip
    obtain ⟨-, h⟩ := x_ifn h
    obtain ⟨-, h⟩ := x_ifn h
    cases h
    exact x_frO.a1 (x_frI (p := 80) rfl x_fr.rf)
set_option maxHeartbeats 4000000 in
set_option maxRecDepth 100000 in
theorem fr_Mo_copies_60_79_80 {σ : xS} {r : Unit × xS} (h : f_Mo_copies_60_79_80 σ = some r) : x_fr [(80, 99999)] σ r.2 := by
  unfold f_Mo_copies_60_79_80 at h
  try dsimp only at h
  obtain ⟨b3, b3h, h⟩ := x_bind h
  try dsimp only at h
  have b3f := x_itF (sA := (fun a => a.2)) (sB := (fun b => b.2)) (fun a o h => fr_Mo_copies_60_79_80_L2 h) _ _ _ b3h
  cases h
  exact (x_fr.trans x_fr.rf (x_fr.su b3f rfl))
set_option maxHeartbeats 4000000 in
set_option maxRecDepth 100000 in
theorem fr_Mo_copies_60_80_79_L2 {a : Int32 × xS} {o : (Int32 × xS) ⊕ (Int32 × xS)} (h : f_Mo_copies_60_80_79_L2 a = some o) : x_frO [(79, 99999)] (fun a => a.2) (fun b => b.2) a.2 o := by
  unfold f_Mo_copies_60_80_79_L2 at h
  try dsimp only at h
  refine x_iteC h (fun h => ?_) (fun h => ?_)
  · skip
    cases h
    exact x_frO.b x_fr.rf
  · skip
    obtain ⟨-, h⟩ := x_ifn h
    obtain ⟨-, h⟩ := x_ifn h
    cases h
    exact x_frO.a1 (x_frI (p := 79) rfl x_fr.rf)
set_option maxHeartbeats 4000000 in
set_option maxRecDepth 100000 in
theorem fr_Mo_copies_60_80_79 {σ : xS} {r : Unit × xS} (h : f_Mo_copies_60_80_79 σ = some r) : x_fr [(79, 99999)] σ r.2 := by
  unfold f_Mo_copies_60_80_79 at h
  try dsimp only at h
  obtain ⟨b3, b3h, h⟩ := x_bind h
  try dsimp only at h
  have b3f := x_itF (sA := (fun a => a.2)) (sB := (fun b => b.2)) (fun a o h => fr_Mo_copies_60_80_79_L2 h) _ _ _ b3h
  cases h
  exact (x_fr.trans x_fr.rf (x_fr.su b3f rfl))
set_option maxHeartbeats 4000000 in
set_option maxRecDepth 100000 in
theorem fr_Mo_marks_60_L94 {v1 : Int32} {v2 : Int32} {a : Int32 × xS} {o : (Int32 × xS) ⊕ (Int32 × xS)} (h : f_Mo_marks_60_L94 v1 v2 a = some o) : x_frO [(89, 99999)] (fun a => a.2) (fun b => b.2) a.2 o := by
  unfold f_Mo_marks_60_L94 at h
  try dsimp only at h
  refine x_iteC h (fun h => ?_) (fun h => ?_)
  · skip
    cases h
    exact x_frO.b x_fr.rf
  · skip
    obtain ⟨-, h⟩ := x_ifn h
    cases h
    exact x_frO.a1 (x_frI (p := 89) rfl x_fr.rf)
set_option maxHeartbeats 4000000 in
set_option maxRecDepth 100000 in
theorem fr_Mo_marks_60_L36 {v1 : Int32} {a : Int32 × xS} {o : (Int32 × xS) ⊕ (Int32 × xS)} (h : f_Mo_marks_60_L36 v1 a = some o) : x_frO [(60, 69), (88, 99999)] (fun a => a.2) (fun b => b.2) a.2 o := by
  unfold f_Mo_marks_60_L36 at h
  try dsimp only at h
  refine x_iteC h (fun h => ?_) (fun h => ?_)
  · skip
    cases h
    exact x_frO.b x_fr.rf
  · skip
    obtain ⟨-, h⟩ := x_ifn h
    obtain ⟨q3, q3h, h⟩ := x_bind h
    try dsimp only at h
    have q3f := fr_Mo_addsSpot_60 q3h
    cases h
    exact x_frO.a1 (x_fr.trans x_fr.rf (x_fr.su q3f rfl))
set_option maxHeartbeats 4000000 in
set_option maxRecDepth 100000 in
theorem fr_Mo_marks_60_L177 {v1 : Int32} {v2 : Int32} {v3 : Int32} {a : Int32 × xS} {o : (Int32 × xS) ⊕ (Int32 × xS)} (h : f_Mo_marks_60_L177 v1 v2 v3 a = some o) : x_frO [(87, 99999)] (fun a => a.2) (fun b => b.2) a.2 o := by
  unfold f_Mo_marks_60_L177 at h
  try dsimp only at h
  refine x_iteC h (fun h => ?_) (fun h => ?_)
  · skip
    cases h
    exact x_frO.b x_fr.rf
  · skip
    obtain ⟨-, h⟩ := x_ifn h
    obtain ⟨-, h⟩ := x_ifn h
    obtain ⟨-, h⟩ := x_ifn h
    cases h
    exact x_frO.a1 (x_frI (p := 87) rfl x_fr.rf)
set_option maxHeartbeats 4000000 in
set_option maxRecDepth 100000 in
theorem fr_Mo_marks_60_L125 {v1 : Int32} {v2 : Int32} {v3 : Int32} {a : Int32 × xS} {o : (Int32 × xS) ⊕ (Int32 × xS)} (h : f_Mo_marks_60_L125 v1 v2 v3 a = some o) : x_frO [(79, 99999)] (fun a => a.2) (fun b => b.2) a.2 o := by
  unfold f_Mo_marks_60_L125 at h
  try dsimp only at h
  refine x_iteC h (fun h => ?_) (fun h => ?_)
  · skip
    cases h
    exact x_frO.b x_fr.rf
  · skip
    obtain ⟨-, h⟩ := x_ifn h
    obtain ⟨-, h⟩ := x_ifn h
    obtain ⟨-, h⟩ := x_ifn h
    cases h
    exact x_frO.a1 (x_frI (p := 79) rfl x_fr.rf)
set_option maxHeartbeats 4000000 in
set_option maxRecDepth 100000 in
theorem fr_Mo_marks_60_L117 {v1 : Int32} {v2 : Int32} {a : Int32 × Int32 × xS} {o : (Int32 × Int32 × xS) ⊕ (Int32 × Int32 × xS)} (h : f_Mo_marks_60_L117 v1 v2 a = some o) : x_frO [(79, 99999), (82, 99999), (83, 99999), (84, 99999), (85, 99999), (86, 99999), (87, 99999), (89, 99999)] (fun a => a.2.2) (fun b => b.2.2) a.2.2 o := by
  unfold f_Mo_marks_60_L117 at h
  try dsimp only at h
  refine x_iteC h (fun h => ?_) (fun h => ?_)
  · skip
    cases h
    exact x_frO.b x_fr.rf
  · skip
    obtain ⟨b9, b9h, h⟩ := x_bind h
    try dsimp only at h
    have b9f := x_itF (sA := (fun a => a.2)) (sB := (fun b => b.2)) (fun a o h => fr_Mo_marks_60_L125 h) _ _ _ b9h
    obtain ⟨q10, q10h, h⟩ := x_bind h
    try dsimp only at h
    have q10f := fr_Mo_takesSharp_60 q10h
    refine x_iteC h (fun h => ?_) (fun h => ?_)
    · skip
      obtain ⟨q12, q12h, h⟩ := x_bind h
      try dsimp only at h
      have q12f := fr_Mo_nextNumbers_60 q12h
      cases h
      exact x_frO.a2 (x_fr.trans (x_fr.trans (x_fr.trans x_fr.rf (x_fr.su b9f rfl)) (x_fr.su q10f rfl)) (x_fr.su q12f rfl))
    · skip
      obtain ⟨b14, b14h, h⟩ := x_bind h
      try dsimp only at h
      have b14f := x_itF (sA := (fun a => a.2)) (sB := (fun b => b.2)) (fun a o h => fr_Mo_marks_60_L177 h) _ _ _ b14h
      obtain ⟨q15, q15h, h⟩ := x_bind h
      try dsimp only at h
      have q15f := fr_Mo_nextNumbers_60 q15h
      cases h
      exact x_frO.a2 (x_fr.trans (x_fr.trans (x_fr.trans (x_fr.trans x_fr.rf (x_fr.su b9f rfl)) (x_fr.su q10f rfl)) (x_fr.su b14f rfl)) (x_fr.su q15f rfl))
set_option maxHeartbeats 4000000 in
set_option maxRecDepth 100000 in
theorem fr_Mo_marks_60 {v1 : Int32} {σ : xS} {r : Int32 × xS} (h : f_Mo_marks_60 v1 σ = some r) : x_fr [(60, 0), (60, 4), (60, 68), (60, 69), (79, 99999), (80, 99999), (82, 99999), (83, 99999), (84, 99999), (85, 99999), (86, 99999), (87, 99999), (88, 99999), (89, 99999)] σ r.2 := by
  unfold f_Mo_marks_60 at h
  try dsimp only at h
  obtain ⟨q18, q18h, h⟩ := x_bind h
  try dsimp only at h
  have q18f := fr_Mo_within q18h
  obtain ⟨q19, q19h, h⟩ := x_bind h
  try dsimp only at h
  have q19f := fr_Mo_right_60 q19h
  refine x_iteC h (fun h => ?_) (fun h => ?_)
  · skip
    cases h
    exact (x_fr.trans (x_fr.trans (x_frI (p := 60) (k := 0) rfl x_fr.rf) (x_fr.su q18f rfl)) (x_fr.su q19f rfl))
  · skip
    obtain ⟨q21, q21h, h⟩ := x_bind h
    try dsimp only at h
    have q21f := fr_Mo_addsSpot_60 q21h
    obtain ⟨b22, b22h, h⟩ := x_bind h
    try dsimp only at h
    have b22f := x_itF (sA := (fun a => a.2)) (sB := (fun b => b.2)) (fun a o h => fr_Mo_marks_60_L36 h) _ _ _ b22h
    refine x_iteC h (fun h => ?_) (fun h => ?_)
    · skip
      obtain ⟨q23, q23h, h⟩ := x_bind h
      try dsimp only at h
      have q23f := fr_Mo_copies_60_79_80 q23h
      obtain ⟨b26, b26h, h⟩ := x_bind h
      try dsimp only at h
      have b26f := x_itF (sA := (fun a => a.2)) (sB := (fun b => b.2)) (fun a o h => fr_Mo_marks_60_L94 h) _ _ _ b26h
      obtain ⟨b27, b27h, h⟩ := x_bind h
      try dsimp only at h
      have b27f := x_itF (sA := (fun a => a.2.2)) (sB := (fun b => b.2.2)) (fun a o h => fr_Mo_marks_60_L117 h) _ _ _ b27h
      obtain ⟨q29, q29h, h⟩ := x_bind h
      try dsimp only at h
      have q29f := fr_Mo_copies_60_80_79 q29h
      cases h
      exact (x_frI (p := 60) (k := 68) rfl (x_fr.trans (x_frI (p := 60) (k := 4) rfl (x_fr.trans (x_fr.trans (x_frI (p := 60) (k := 4) rfl (x_fr.trans (x_fr.trans (x_fr.trans (x_frI (p := 60) (k := 69) rfl (x_fr.trans (x_fr.trans (x_frI (p := 60) (k := 0) rfl x_fr.rf) (x_fr.su q18f rfl)) (x_fr.su q19f rfl))) (x_fr.su q21f rfl)) (x_fr.su b22f rfl)) (x_fr.su q23f rfl))) (x_fr.su b26f rfl)) (x_fr.su b27f rfl))) (x_fr.su q29f rfl)))
    · skip
      cases h
      exact (x_fr.trans (x_fr.trans (x_frI (p := 60) (k := 69) rfl (x_fr.trans (x_fr.trans (x_frI (p := 60) (k := 0) rfl x_fr.rf) (x_fr.su q18f rfl)) (x_fr.su q19f rfl))) (x_fr.su q21f rfl)) (x_fr.su b22f rfl))
set_option maxHeartbeats 4000000 in
set_option maxRecDepth 100000 in
theorem fr_Mo_kept_60_J31 {v1 : Int32} {y1 : Int32} {σ : xS} {r : Int32 × xS} (h : f_Mo_kept_60_J31 v1 y1 σ = some r) : x_fr [(60, 0)] σ r.2 := by
  unfold f_Mo_kept_60_J31 at h
  try dsimp only at h
  obtain ⟨q1, q1h, h⟩ := x_bind h
  try dsimp only at h
  have q1f := fr_Mo_right_60 q1h
  refine x_iteC h (fun h => ?_) (fun h => ?_)
  · skip
    cases h
    exact (x_fr.trans x_fr.rf (x_fr.su q1f rfl))
  · skip
    obtain ⟨-, h⟩ := x_ifn h
    cases h
    exact (x_fr.trans x_fr.rf (x_fr.su q1f rfl))
set_option maxHeartbeats 4000000 in
set_option maxRecDepth 100000 in
theorem fr_Mo_kept_60_J30 {v1 : Int32} {σ : xS} {r : Int32 × xS} (h : f_Mo_kept_60_J30 v1 σ = some r) : x_fr [(60, 0)] σ r.2 := by
  unfold f_Mo_kept_60_J30 at h
  try dsimp only at h
  exact x_fr.trans x_fr.rf (x_fr.su (fr_Mo_kept_60_J31 h) rfl)
set_option maxHeartbeats 4000000 in
set_option maxRecDepth 100000 in
theorem fr_Mo_kept_60 {v1 : Int32} {σ : xS} {r : Int32 × xS} (h : f_Mo_kept_60 v1 σ = some r) : x_fr [(60, 0)] σ r.2 := by
  unfold f_Mo_kept_60 at h
  try dsimp only at h
  refine x_iteC h (fun h => ?_) (fun h => ?_)
  · skip
    exact x_fr.trans (x_frI (p := 60) (k := 0) rfl x_fr.rf) (x_fr.su (fr_Mo_kept_60_J30 h) rfl)
  · skip
    refine x_iteC h (fun h => ?_) (fun h => ?_)
    · skip
      exact x_fr.trans (x_frI (p := 60) (k := 0) rfl x_fr.rf) (x_fr.su (fr_Mo_kept_60_J30 h) rfl)
    · skip
      refine x_iteC h (fun h => ?_) (fun h => ?_)
      · skip
        exact x_fr.trans (x_frI (p := 60) (k := 0) rfl x_fr.rf) (x_fr.su (fr_Mo_kept_60_J30 h) rfl)
      · skip
        exact x_fr.trans (x_frI (p := 60) (k := 0) rfl x_fr.rf) (x_fr.su (fr_Mo_kept_60_J31 h) rfl)
set_option maxHeartbeats 4000000 in
set_option maxRecDepth 100000 in
theorem fr_Mo_draw_60 {v1 : Int32} {σ : xS} {r : Int32 × xS} (h : f_Mo_draw_60 v1 σ = some r) : x_fr [(60, 73)] σ r.2 := by
  unfold f_Mo_draw_60 at h
  try dsimp only at h
  obtain ⟨-, h⟩ := x_ifn h
  cases h
  exact (x_frI (p := 60) (k := 73) rfl x_fr.rf)
set_option maxHeartbeats 4000000 in
set_option maxRecDepth 100000 in
theorem fr_Mo_takes_60_J114 {v2 : Int32} {v3 : Int32} {v4 : Int32} {v5 : Int32} {v7 : Int32} {v8 : Int32} {v9 : Int32} {v10 : Int32} {y0 : Int32} {y1 : Int32} {σ : xS} {o : (Int32 × Int32 × Int32 × Int32 × xS) ⊕ (Int32 × Int32 × Int32 × Int32 × xS)} (h : f_Mo_takes_60_J114 v2 v3 v4 v5 v7 v8 v9 v10 y0 y1 σ = some o) : x_frO [] (fun a => a.2.2.2.2) (fun b => b.2.2.2.2) σ o := by
  unfold f_Mo_takes_60_J114 at h
  try dsimp only at h
  refine x_iteC h (fun h => ?_) (fun h => ?_)
  · skip
    cases h
    exact x_frO.a4 x_fr.rf
  · skip
    refine x_iteC h (fun h => ?_) (fun h => ?_)
    · skip
      cases h
      exact x_frO.a4 x_fr.rf
    · skip
      cases h
      exact x_frO.a4 x_fr.rf
set_option maxHeartbeats 4000000 in
set_option maxRecDepth 100000 in
theorem fr_Mo_takes_60_L79 {v2 : Int32} {v3 : Int32} {v4 : Int32} {v5 : Int32} {a : Int32 × Int32 × Int32 × Int32 × xS} {o : (Int32 × Int32 × Int32 × Int32 × xS) ⊕ (Int32 × Int32 × Int32 × Int32 × xS)} (h : f_Mo_takes_60_L79 v2 v3 v4 v5 a = some o) : x_frO [(60, 59), (60, 73), (82, 99999), (83, 99999), (84, 99999), (85, 99999), (86, 99999)] (fun a => a.2.2.2.2) (fun b => b.2.2.2.2) a.2.2.2.2 o := by
  unfold f_Mo_takes_60_L79 at h
  try dsimp only at h
  refine x_iteC h (fun h => ?_) (fun h => ?_)
  · skip
    cases h
    exact x_frO.b x_fr.rf
  · skip
    obtain ⟨q6, q6h, h⟩ := x_bind h
    try dsimp only at h
    have q6f := fr_Mo_draw_60 q6h
    obtain ⟨q8, q8h, h⟩ := x_bind h
    try dsimp only at h
    have q8f := fr_Mo_takesSharp_60 q8h
    refine x_iteC h (fun h => ?_) (fun h => ?_)
    · skip
      exact x_frO.tr (x_fr.trans (x_frI (p := 60) (k := 59) rfl (x_fr.trans x_fr.rf (x_fr.su q6f rfl))) (x_fr.su q8f rfl)) (x_frO.su (fr_Mo_takes_60_J114 h) rfl)
    · skip
      exact x_frO.tr (x_fr.trans (x_frI (p := 60) (k := 59) rfl (x_fr.trans x_fr.rf (x_fr.su q6f rfl))) (x_fr.su q8f rfl)) (x_frO.su (fr_Mo_takes_60_J114 h) rfl)
set_option maxHeartbeats 4000000 in
set_option maxRecDepth 100000 in
theorem fr_Mo_takes_60_J53 {v1 : Int32} {v2 : Int32} {v3 : Int32} {v4 : Int32} {v5 : Int32} {y1 : Int32} {σ : xS} {r : Int32 × xS} (h : f_Mo_takes_60_J53 v1 v2 v3 v4 v5 y1 σ = some r) : x_fr [(60, 0), (60, 59), (60, 73), (82, 99999), (83, 99999), (84, 99999), (85, 99999), (86, 99999)] σ r.2 := by
  unfold f_Mo_takes_60_J53 at h
  try dsimp only at h
  obtain ⟨q10, q10h, h⟩ := x_bind h
  try dsimp only at h
  have q10f := fr_Mo_right_60 q10h
  refine x_iteC h (fun h => ?_) (fun h => ?_)
  · skip
    cases h
    exact (x_fr.trans x_fr.rf (x_fr.su q10f rfl))
  · skip
    obtain ⟨b12, b12h, h⟩ := x_bind h
    try dsimp only at h
    have b12f := x_itF (sA := (fun a => a.2.2.2.2)) (sB := (fun b => b.2.2.2.2)) (fun a o h => fr_Mo_takes_60_L79 h) _ _ _ b12h
    refine x_iteC h (fun h => ?_) (fun h => ?_)
    · skip
      cases h
      exact (x_frI (p := 60) (k := 59) rfl (x_fr.trans (x_frI (p := 60) (k := 73) rfl (x_fr.trans x_fr.rf (x_fr.su q10f rfl))) (x_fr.su b12f rfl)))
    · skip
      refine x_iteC h (fun h => ?_) (fun h => ?_)
      · skip
        cases h
        exact (x_frI (p := 60) (k := 59) rfl (x_fr.trans (x_frI (p := 60) (k := 73) rfl (x_fr.trans x_fr.rf (x_fr.su q10f rfl))) (x_fr.su b12f rfl)))
      · skip
        cases h
        exact (x_frI (p := 60) (k := 59) rfl (x_fr.trans (x_frI (p := 60) (k := 73) rfl (x_fr.trans x_fr.rf (x_fr.su q10f rfl))) (x_fr.su b12f rfl)))
set_option maxHeartbeats 4000000 in
set_option maxRecDepth 100000 in
theorem fr_Mo_takes_60_J52 {v1 : Int32} {v2 : Int32} {v3 : Int32} {v4 : Int32} {v5 : Int32} {σ : xS} {r : Int32 × xS} (h : f_Mo_takes_60_J52 v1 v2 v3 v4 v5 σ = some r) : x_fr [(60, 0), (60, 59), (60, 73), (82, 99999), (83, 99999), (84, 99999), (85, 99999), (86, 99999)] σ r.2 := by
  unfold f_Mo_takes_60_J52 at h
  try dsimp only at h
  exact x_fr.trans x_fr.rf (x_fr.su (fr_Mo_takes_60_J53 h) rfl)
set_option maxHeartbeats 4000000 in
set_option maxRecDepth 100000 in
theorem fr_Mo_takes_60 {v1 : Int32} {v2 : Int32} {v3 : Int32} {v4 : Int32} {v5 : Int32} {σ : xS} {r : Int32 × xS} (h : f_Mo_takes_60 v1 v2 v3 v4 v5 σ = some r) : x_fr [(60, 0), (60, 59), (60, 73), (82, 99999), (83, 99999), (84, 99999), (85, 99999), (86, 99999)] σ r.2 := by
  unfold f_Mo_takes_60 at h
  try dsimp only at h
  obtain ⟨q15, q15h, h⟩ := x_bind h
  try dsimp only at h
  have q15f := fr_Mo_isWhat_60 q15h
  refine x_iteC h (fun h => ?_) (fun h => ?_)
  · skip
    cases h
    exact (x_fr.trans (x_frI (p := 60) (k := 0) rfl x_fr.rf) (x_fr.su q15f rfl))
  · skip
    obtain ⟨q16, q16h, h⟩ := x_bind h
    try dsimp only at h
    have q16f := fr_Mo_within q16h
    refine x_iteC h (fun h => ?_) (fun h => ?_)
    · skip
      exact x_fr.trans (x_fr.trans (x_fr.trans (x_frI (p := 60) (k := 0) rfl x_fr.rf) (x_fr.su q15f rfl)) (x_fr.su q16f rfl)) (x_fr.su (fr_Mo_takes_60_J52 h) rfl)
    · skip
      obtain ⟨q17, q17h, h⟩ := x_bind h
      try dsimp only at h
      have q17f := fr_Mo_within q17h
      refine x_iteC h (fun h => ?_) (fun h => ?_)
      · skip
        exact x_fr.trans (x_fr.trans (x_fr.trans (x_fr.trans (x_frI (p := 60) (k := 0) rfl x_fr.rf) (x_fr.su q15f rfl)) (x_fr.su q16f rfl)) (x_fr.su q17f rfl)) (x_fr.su (fr_Mo_takes_60_J52 h) rfl)
      · skip
        obtain ⟨q18, q18h, h⟩ := x_bind h
        try dsimp only at h
        have q18f := fr_Mo_within q18h
        refine x_iteC h (fun h => ?_) (fun h => ?_)
        · skip
          exact x_fr.trans (x_fr.trans (x_fr.trans (x_fr.trans (x_fr.trans (x_frI (p := 60) (k := 0) rfl x_fr.rf) (x_fr.su q15f rfl)) (x_fr.su q16f rfl)) (x_fr.su q17f rfl)) (x_fr.su q18f rfl)) (x_fr.su (fr_Mo_takes_60_J52 h) rfl)
        · skip
          exact x_fr.trans (x_fr.trans (x_fr.trans (x_fr.trans (x_fr.trans (x_frI (p := 60) (k := 0) rfl x_fr.rf) (x_fr.su q15f rfl)) (x_fr.su q16f rfl)) (x_fr.su q17f rfl)) (x_fr.su q18f rfl)) (x_fr.su (fr_Mo_takes_60_J53 h) rfl)
set_option maxHeartbeats 4000000 in
set_option maxRecDepth 100000 in
theorem fr_Mo_see_60 {v1 : Int32} {v2 : Int32} {σ : xS} {r : Int32 × xS} (h : f_Mo_see_60 v1 v2 σ = some r) : x_fr [(60, 0), (60, 74), (68, 99999), (90, 99999)] σ r.2 := by
  unfold f_Mo_see_60 at h
  try dsimp only at h
  obtain ⟨q2, q2h, h⟩ := x_bind h
  try dsimp only at h
  have q2f := fr_Mo_isTenth_60 q2h
  refine x_iteC h (fun h => ?_) (fun h => ?_)
  · skip
    cases h
    exact (x_fr.trans (x_frI (p := 60) (k := 0) rfl x_fr.rf) (x_fr.su q2f rfl))
  · skip
    refine x_iteC h (fun h => ?_) (fun h => ?_)
    · skip
      obtain ⟨q8, q8h, h⟩ := x_bind h
      try dsimp only at h
      have q8f := fr_Mo_refuses_60 q8h
      cases h
      exact (x_fr.trans (x_fr.trans (x_frI (p := 60) (k := 0) rfl x_fr.rf) (x_fr.su q2f rfl)) (x_fr.su q8f rfl))
    · skip
      obtain ⟨-, h⟩ := x_ifn h
      refine x_iteC h (fun h => ?_) (fun h => ?_)
      · skip
        obtain ⟨-, h⟩ := x_ifn h
        cases h
        exact (x_frI (p := 60) (k := 74) rfl (x_frI (p := 90) rfl (x_frI (p := 90) rfl (x_fr.trans (x_frI (p := 60) (k := 0) rfl x_fr.rf) (x_fr.su q2f rfl)))))
      · skip
        obtain ⟨-, h⟩ := x_ifn h
        cases h
        exact (x_frI (p := 60) (k := 74) rfl (x_frI (p := 90) rfl (x_frI (p := 90) rfl (x_fr.trans (x_frI (p := 60) (k := 0) rfl x_fr.rf) (x_fr.su q2f rfl)))))
set_option maxHeartbeats 4000000 in
set_option maxRecDepth 100000 in
theorem fr_Mo_fits_60_L53 {v1 : Int32} {v2 : Int32} {v5 : Int32} {a : Int32 × Int32 × xS} {o : (Int32 × Int32 × xS) ⊕ (Int32 × Int32 × xS)} (h : f_Mo_fits_60_L53 v1 v2 v5 a = some o) : x_frO [(60, 59), (82, 99999), (83, 99999), (84, 99999), (85, 99999), (86, 99999)] (fun a => a.2.2) (fun b => b.2.2) a.2.2 o := by
  unfold f_Mo_fits_60_L53 at h
  try dsimp only at h
  refine x_iteC h (fun h => ?_) (fun h => ?_)
  · skip
    cases h
    exact x_frO.b x_fr.rf
  · skip
    obtain ⟨q1, q1h, h⟩ := x_bind h
    try dsimp only at h
    have q1f := fr_Mo_goesThrough_60 q1h
    obtain ⟨q2, q2h, h⟩ := x_bind h
    try dsimp only at h
    have q2f := fr_Mo_isAsSeen_60 q2h
    refine x_iteC h (fun h => ?_) (fun h => ?_)
    · skip
      cases h
      exact x_frO.a2 (x_frI (p := 60) (k := 59) rfl (x_fr.trans (x_fr.trans x_fr.rf (x_fr.su q1f rfl)) (x_fr.su q2f rfl)))
    · skip
      refine x_iteC h (fun h => ?_) (fun h => ?_)
      · skip
        cases h
        exact x_frO.a2 (x_frI (p := 60) (k := 59) rfl (x_fr.trans (x_fr.trans x_fr.rf (x_fr.su q1f rfl)) (x_fr.su q2f rfl)))
      · skip
        cases h
        exact x_frO.a2 (x_frI (p := 60) (k := 59) rfl (x_fr.trans (x_fr.trans x_fr.rf (x_fr.su q1f rfl)) (x_fr.su q2f rfl)))
set_option maxHeartbeats 4000000 in
set_option maxRecDepth 100000 in
theorem fr_Mo_fits_60_L31 {v1 : Int32} {v2 : Int32} {a : Int32 × Int32 × Int32 × xS} {o : (Int32 × Int32 × Int32 × xS) ⊕ (Int32 × Int32 × Int32 × xS)} (h : f_Mo_fits_60_L31 v1 v2 a = some o) : x_frO [(60, 59), (79, 99999), (82, 99999), (83, 99999), (84, 99999), (85, 99999), (86, 99999)] (fun a => a.2.2.2) (fun b => b.2.2.2) a.2.2.2 o := by
  unfold f_Mo_fits_60_L31 at h
  try dsimp only at h
  refine x_iteC h (fun h => ?_) (fun h => ?_)
  · skip
    cases h
    exact x_frO.b x_fr.rf
  · skip
    obtain ⟨b10, b10h, h⟩ := x_bind h
    try dsimp only at h
    have b10f := x_itF (sA := (fun a => a.2.2)) (sB := (fun b => b.2.2)) (fun a o h => fr_Mo_fits_60_L53 h) _ _ _ b10h
    cases h
    exact x_frO.a3 (x_fr.trans (x_frI (p := 60) (k := 59) rfl (x_frI (p := 79) (k := 5) rfl x_fr.rf)) (x_fr.su b10f rfl))
set_option maxHeartbeats 4000000 in
set_option maxRecDepth 100000 in
theorem fr_Mo_fits_60 {v1 : Int32} {σ : xS} {r : Int32 × xS} (h : f_Mo_fits_60 v1 σ = some r) : x_fr [(60, 0), (60, 59), (79, 99999), (82, 99999), (83, 99999), (84, 99999), (85, 99999), (86, 99999)] σ r.2 := by
  unfold f_Mo_fits_60 at h
  try dsimp only at h
  obtain ⟨q13, q13h, h⟩ := x_bind h
  try dsimp only at h
  have q13f := fr_Mo_isWhat_60 q13h
  refine x_iteC h (fun h => ?_) (fun h => ?_)
  · skip
    cases h
    exact (x_fr.trans (x_frI (p := 60) (k := 0) rfl x_fr.rf) (x_fr.su q13f rfl))
  · skip
    obtain ⟨b15, b15h, h⟩ := x_bind h
    try dsimp only at h
    have b15f := x_itF (sA := (fun a => a.2.2.2)) (sB := (fun b => b.2.2.2)) (fun a o h => fr_Mo_fits_60_L31 h) _ _ _ b15h
    refine x_iteC h (fun h => ?_) (fun h => ?_)
    · skip
      cases h
      exact (x_frI (p := 79) (k := 5) rfl (x_frI (p := 60) (k := 59) rfl (x_fr.trans (x_fr.trans (x_frI (p := 60) (k := 0) rfl x_fr.rf) (x_fr.su q13f rfl)) (x_fr.su b15f rfl))))
    · skip
      cases h
      exact (x_frI (p := 79) (k := 5) rfl (x_frI (p := 60) (k := 59) rfl (x_fr.trans (x_fr.trans (x_frI (p := 60) (k := 0) rfl x_fr.rf) (x_fr.su q13f rfl)) (x_fr.su b15f rfl))))
set_option maxHeartbeats 4000000 in
set_option maxRecDepth 100000 in
theorem fr_Mo_book_60 {v1 : Int32} {σ : xS} {r : Int32 × xS} (h : f_Mo_book_60 v1 σ = some r) : x_fr [(60, 0), (60, 76), (68, 99999), (91, 99999)] σ r.2 := by
  unfold f_Mo_book_60 at h
  try dsimp only at h
  refine x_iteC h (fun h => ?_) (fun h => ?_)
  · skip
    obtain ⟨q2, q2h, h⟩ := x_bind h
    try dsimp only at h
    have q2f := fr_Mo_refuses_60 q2h
    cases h
    exact (x_fr.trans (x_frI (p := 60) (k := 0) rfl x_fr.rf) (x_fr.su q2f rfl))
  · skip
    obtain ⟨q3, q3h, h⟩ := x_bind h
    try dsimp only at h
    have q3f := fr_Mo_within q3h
    refine x_iteC h (fun h => ?_) (fun h => ?_)
    · skip
      obtain ⟨q6, q6h, h⟩ := x_bind h
      try dsimp only at h
      have q6f := fr_Mo_refuses_60 q6h
      cases h
      exact (x_fr.trans (x_fr.trans (x_frI (p := 60) (k := 0) rfl x_fr.rf) (x_fr.su q3f rfl)) (x_fr.su q6f rfl))
    · skip
      obtain ⟨-, h⟩ := x_ifn h
      cases h
      exact (x_frI (p := 60) (k := 76) rfl (x_frI (p := 91) rfl (x_fr.trans (x_frI (p := 60) (k := 0) rfl x_fr.rf) (x_fr.su q3f rfl))))
set_option maxHeartbeats 4000000 in
set_option maxRecDepth 100000 in
theorem fr_Mo_portion_L5 {v0 : Int32} {v1 : Int32} {v2 : Int32} {a : Int32 × Int32 × xS} {o : (Int32 × Int32 × xS) ⊕ (Int32 × Int32 × xS)} (h : f_Mo_portion_L5 v0 v1 v2 a = some o) : x_frO [] (fun a => a.2.2) (fun b => b.2.2) a.2.2 o := by
  unfold f_Mo_portion_L5 at h
  try dsimp only at h
  refine x_iteC h (fun h => ?_) (fun h => ?_)
  · skip
    cases h
    exact x_frO.b x_fr.rf
  · skip
    obtain ⟨-, h⟩ := x_ifn h
    cases h
    exact x_frO.a2 x_fr.rf
set_option maxHeartbeats 4000000 in
set_option maxRecDepth 100000 in
theorem fr_Mo_portion {v0 : Int32} {v1 : Int32} {v2 : Int32} {σ : xS} {r : Int32 × xS} (h : f_Mo_portion v0 v1 v2 σ = some r) : x_fr [] σ r.2 := by
  unfold f_Mo_portion at h
  try dsimp only at h
  obtain ⟨b2, b2h, h⟩ := x_bind h
  try dsimp only at h
  have b2f := x_itF (sA := (fun a => a.2.2)) (sB := (fun b => b.2.2)) (fun a o h => fr_Mo_portion_L5 h) _ _ _ b2h
  refine x_iteC h (fun h => ?_) (fun h => ?_)
  · skip
    obtain ⟨-, h⟩ := x_ifn h
    cases h
    exact (x_fr.trans x_fr.rf (x_fr.su b2f rfl))
  · skip
    obtain ⟨-, h⟩ := x_ifn h
    cases h
    exact (x_fr.trans x_fr.rf (x_fr.su b2f rfl))
set_option maxHeartbeats 4000000 in
set_option maxRecDepth 100000 in
theorem fr_Mo_next_60_L21 {v1 : Int32} {v2 : Int32} {a : Int32 × Int32 × xS} {o : (Int32 × Int32 × xS) ⊕ (Int32 × Int32 × xS)} (h : f_Mo_next_60_L21 v1 v2 a = some o) : x_frO [] (fun a => a.2.2) (fun b => b.2.2) a.2.2 o := by
  unfold f_Mo_next_60_L21 at h
  try dsimp only at h
  refine x_iteC h (fun h => ?_) (fun h => ?_)
  · skip
    cases h
    exact x_frO.b x_fr.rf
  · skip
    obtain ⟨-, h⟩ := x_ifn h
    refine x_iteC h (fun h => ?_) (fun h => ?_)
    · skip
      cases h
      exact x_frO.a2 x_fr.rf
    · skip
      cases h
      exact x_frO.a2 x_fr.rf
set_option maxHeartbeats 4000000 in
set_option maxRecDepth 100000 in
theorem fr_Mo_next_60 {v1 : Int32} {v2 : Int32} {σ : xS} {r : Int32 × xS} (h : f_Mo_next_60 v1 v2 σ = some r) : x_fr [(60, 0)] σ r.2 := by
  unfold f_Mo_next_60 at h
  try dsimp only at h
  obtain ⟨q6, q6h, h⟩ := x_bind h
  try dsimp only at h
  have q6f := fr_Mo_isWhat_60 q6h
  refine x_iteC h (fun h => ?_) (fun h => ?_)
  · skip
    cases h
    exact (x_fr.trans (x_frI (p := 60) (k := 0) rfl x_fr.rf) (x_fr.su q6f rfl))
  · skip
    obtain ⟨b7, b7h, h⟩ := x_bind h
    try dsimp only at h
    have b7f := x_itF (sA := (fun a => a.2.2)) (sB := (fun b => b.2.2)) (fun a o h => fr_Mo_next_60_L21 h) _ _ _ b7h
    refine x_iteC h (fun h => ?_) (fun h => ?_)
    · skip
      obtain ⟨q9, q9h, h⟩ := x_bind h
      try dsimp only at h
      have q9f := fr_Mo_portion q9h
      cases h
      exact (x_fr.trans (x_fr.trans (x_fr.trans (x_frI (p := 60) (k := 0) rfl x_fr.rf) (x_fr.su q6f rfl)) (x_fr.su b7f rfl)) (x_fr.su q9f rfl))
    · skip
      obtain ⟨q8, q8h, h⟩ := x_bind h
      try dsimp only at h
      have q8f := fr_Mo_portion q8h
      cases h
      exact (x_fr.trans (x_fr.trans (x_fr.trans (x_frI (p := 60) (k := 0) rfl x_fr.rf) (x_fr.su q6f rfl)) (x_fr.su b7f rfl)) (x_fr.su q8f rfl))
set_option maxHeartbeats 4000000 in
set_option maxRecDepth 100000 in
theorem fr_Mo_middle_60_J72 {v1 : Int32} {v2 : Int32} {v4 : Int32} {v5 : Int32} {y0 : Int32} {σ : xS} {o : (Int32 × Int32 × Int32 × Int32 × xS) ⊕ (Int32 × Int32 × Int32 × Int32 × xS)} (h : f_Mo_middle_60_J72 v1 v2 v4 v5 y0 σ = some o) : x_frO [] (fun a => a.2.2.2.2) (fun b => b.2.2.2.2) σ o := by
  unfold f_Mo_middle_60_J72 at h
  try dsimp only at h
  refine x_iteC h (fun h => ?_) (fun h => ?_)
  · skip
    obtain ⟨-, h⟩ := x_ifn h
    cases h
    exact x_frO.a4 x_fr.rf
  · skip
    obtain ⟨-, h⟩ := x_ifn h
    refine x_iteC h (fun h => ?_) (fun h => ?_)
    · skip
      cases h
      exact x_frO.a4 x_fr.rf
    · skip
      obtain ⟨-, h⟩ := x_ifn h
      cases h
      exact x_frO.a4 x_fr.rf
set_option maxHeartbeats 4000000 in
set_option maxRecDepth 100000 in
theorem fr_Mo_middle_60_J61 {v1 : Int32} {v2 : Int32} {v4 : Int32} {v5 : Int32} {σ : xS} {o : (Int32 × Int32 × Int32 × Int32 × xS) ⊕ (Int32 × Int32 × Int32 × Int32 × xS)} (h : f_Mo_middle_60_J61 v1 v2 v4 v5 σ = some o) : x_frO [] (fun a => a.2.2.2.2) (fun b => b.2.2.2.2) σ o := by
  unfold f_Mo_middle_60_J61 at h
  try dsimp only at h
  obtain ⟨-, h⟩ := x_ifn h
  exact x_frO.tr x_fr.rf (x_frO.su (fr_Mo_middle_60_J72 h) rfl)
set_option maxHeartbeats 4000000 in
set_option maxRecDepth 100000 in
theorem fr_Mo_middle_60_L26 {v1 : Int32} {a : Int32 × Int32 × Int32 × Int32 × xS} {o : (Int32 × Int32 × Int32 × Int32 × xS) ⊕ (Int32 × Int32 × Int32 × Int32 × xS)} (h : f_Mo_middle_60_L26 v1 a = some o) : x_frO [] (fun a => a.2.2.2.2) (fun b => b.2.2.2.2) a.2.2.2.2 o := by
  unfold f_Mo_middle_60_L26 at h
  try dsimp only at h
  refine x_iteC h (fun h => ?_) (fun h => ?_)
  · skip
    cases h
    exact x_frO.b x_fr.rf
  · skip
    obtain ⟨-, h⟩ := x_ifn h
    refine x_iteC h (fun h => ?_) (fun h => ?_)
    · skip
      exact x_frO.tr x_fr.rf (x_frO.su (fr_Mo_middle_60_J61 h) rfl)
    · skip
      obtain ⟨-, h⟩ := x_ifn h
      refine x_iteC h (fun h => ?_) (fun h => ?_)
      · skip
        exact x_frO.tr x_fr.rf (x_frO.su (fr_Mo_middle_60_J72 h) rfl)
      · skip
        exact x_frO.tr x_fr.rf (x_frO.su (fr_Mo_middle_60_J61 h) rfl)
set_option maxHeartbeats 4000000 in
set_option maxRecDepth 100000 in
theorem fr_Mo_middle_60 {v1 : Int32} {σ : xS} {r : Int32 × xS} (h : f_Mo_middle_60 v1 σ = some r) : x_fr [(60, 0)] σ r.2 := by
  unfold f_Mo_middle_60 at h
  try dsimp only at h
  obtain ⟨q8, q8h, h⟩ := x_bind h
  try dsimp only at h
  have q8f := fr_Mo_isWhat_60 q8h
  refine x_iteC h (fun h => ?_) (fun h => ?_)
  · skip
    cases h
    exact (x_fr.trans (x_frI (p := 60) (k := 0) rfl x_fr.rf) (x_fr.su q8f rfl))
  · skip
    obtain ⟨b9, b9h, h⟩ := x_bind h
    try dsimp only at h
    have b9f := x_itF (sA := (fun a => a.2.2.2.2)) (sB := (fun b => b.2.2.2.2)) (fun a o h => fr_Mo_middle_60_L26 h) _ _ _ b9h
    refine x_iteC h (fun h => ?_) (fun h => ?_)
    · skip
      cases h
      exact (x_fr.trans (x_fr.trans (x_frI (p := 60) (k := 0) rfl x_fr.rf) (x_fr.su q8f rfl)) (x_fr.su b9f rfl))
    · skip
      refine x_iteC h (fun h => ?_) (fun h => ?_)
      · skip
        obtain ⟨q11, q11h, h⟩ := x_bind h
        try dsimp only at h
        have q11f := fr_Mo_portion q11h
        cases h
        exact (x_fr.trans (x_fr.trans (x_fr.trans (x_frI (p := 60) (k := 0) rfl x_fr.rf) (x_fr.su q8f rfl)) (x_fr.su b9f rfl)) (x_fr.su q11f rfl))
      · skip
        obtain ⟨q10, q10h, h⟩ := x_bind h
        try dsimp only at h
        have q10f := fr_Mo_portion q10h
        cases h
        exact (x_fr.trans (x_fr.trans (x_fr.trans (x_frI (p := 60) (k := 0) rfl x_fr.rf) (x_fr.su q8f rfl)) (x_fr.su b9f rfl)) (x_fr.su q10f rfl))
set_option maxHeartbeats 4000000 in
set_option maxRecDepth 100000 in
theorem fr_Mo_forget_60 {σ : xS} {r : Unit × xS} (h : f_Mo_forget_60 σ = some r) : x_fr [(60, 0), (60, 74), (60, 76)] σ r.2 := by
  unfold f_Mo_forget_60 at h
  try dsimp only at h
  cases h
  exact (x_frI (p := 60) (k := 76) rfl (x_frI (p := 60) (k := 74) rfl (x_frI (p := 60) (k := 0) rfl x_fr.rf)))
set_option maxHeartbeats 4000000 in
set_option maxRecDepth 100000 in
theorem fr_Mo_copies_60_79_92_L2 {a : Int32 × xS} {o : (Int32 × xS) ⊕ (Int32 × xS)} (h : f_Mo_copies_60_79_92_L2 a = some o) : x_frO [(92, 99999)] (fun a => a.2) (fun b => b.2) a.2 o := by
  unfold f_Mo_copies_60_79_92_L2 at h
  try dsimp only at h
  refine x_iteC h (fun h => ?_) (fun h => ?_)
  · skip
    cases h
    exact x_frO.b x_fr.rf
  · skip
    obtain ⟨-, h⟩ := x_ifn h
    obtain ⟨-, h⟩ := x_ifn h
    cases h
    exact x_frO.a1 (x_frI (p := 92) rfl x_fr.rf)
set_option maxHeartbeats 4000000 in
set_option maxRecDepth 100000 in
theorem fr_Mo_copies_60_79_92 {σ : xS} {r : Unit × xS} (h : f_Mo_copies_60_79_92 σ = some r) : x_fr [(92, 99999)] σ r.2 := by
  unfold f_Mo_copies_60_79_92 at h
  try dsimp only at h
  obtain ⟨b3, b3h, h⟩ := x_bind h
  try dsimp only at h
  have b3f := x_itF (sA := (fun a => a.2)) (sB := (fun b => b.2)) (fun a o h => fr_Mo_copies_60_79_92_L2 h) _ _ _ b3h
  cases h
  exact (x_fr.trans x_fr.rf (x_fr.su b3f rfl))
set_option maxHeartbeats 4000000 in
set_option maxRecDepth 100000 in
theorem fr_Mo_copies_60_81_93_L2 {a : Int32 × xS} {o : (Int32 × xS) ⊕ (Int32 × xS)} (h : f_Mo_copies_60_81_93_L2 a = some o) : x_frO [(93, 99999)] (fun a => a.2) (fun b => b.2) a.2 o := by
  unfold f_Mo_copies_60_81_93_L2 at h
  try dsimp only at h
  refine x_iteC h (fun h => ?_) (fun h => ?_)
  · skip
    cases h
    exact x_frO.b x_fr.rf
  · skip
    obtain ⟨-, h⟩ := x_ifn h
    obtain ⟨-, h⟩ := x_ifn h
    cases h
    exact x_frO.a1 (x_frI (p := 93) rfl x_fr.rf)
set_option maxHeartbeats 4000000 in
set_option maxRecDepth 100000 in
theorem fr_Mo_copies_60_81_93 {σ : xS} {r : Unit × xS} (h : f_Mo_copies_60_81_93 σ = some r) : x_fr [(93, 99999)] σ r.2 := by
  unfold f_Mo_copies_60_81_93 at h
  try dsimp only at h
  obtain ⟨b3, b3h, h⟩ := x_bind h
  try dsimp only at h
  have b3f := x_itF (sA := (fun a => a.2)) (sB := (fun b => b.2)) (fun a o h => fr_Mo_copies_60_81_93_L2 h) _ _ _ b3h
  cases h
  exact (x_fr.trans x_fr.rf (x_fr.su b3f rfl))
set_option maxHeartbeats 4000000 in
set_option maxRecDepth 100000 in
theorem fr_Mo_copies_60_90_94_L2 {a : Int32 × xS} {o : (Int32 × xS) ⊕ (Int32 × xS)} (h : f_Mo_copies_60_90_94_L2 a = some o) : x_frO [(94, 99999)] (fun a => a.2) (fun b => b.2) a.2 o := by
  unfold f_Mo_copies_60_90_94_L2 at h
  try dsimp only at h
  refine x_iteC h (fun h => ?_) (fun h => ?_)
  · skip
    cases h
    exact x_frO.b x_fr.rf
  · skip
    obtain ⟨-, h⟩ := x_ifn h
    obtain ⟨-, h⟩ := x_ifn h
    cases h
    exact x_frO.a1 (x_frI (p := 94) rfl x_fr.rf)
set_option maxHeartbeats 4000000 in
set_option maxRecDepth 100000 in
theorem fr_Mo_copies_60_90_94 {σ : xS} {r : Unit × xS} (h : f_Mo_copies_60_90_94 σ = some r) : x_fr [(94, 99999)] σ r.2 := by
  unfold f_Mo_copies_60_90_94 at h
  try dsimp only at h
  obtain ⟨b3, b3h, h⟩ := x_bind h
  try dsimp only at h
  have b3f := x_itF (sA := (fun a => a.2)) (sB := (fun b => b.2)) (fun a o h => fr_Mo_copies_60_90_94_L2 h) _ _ _ b3h
  cases h
  exact (x_fr.trans x_fr.rf (x_fr.su b3f rfl))
set_option maxHeartbeats 4000000 in
set_option maxRecDepth 100000 in
theorem fr_Mo_copies_60_91_95_L2 {a : Int32 × xS} {o : (Int32 × xS) ⊕ (Int32 × xS)} (h : f_Mo_copies_60_91_95_L2 a = some o) : x_frO [(95, 99999)] (fun a => a.2) (fun b => b.2) a.2 o := by
  unfold f_Mo_copies_60_91_95_L2 at h
  try dsimp only at h
  refine x_iteC h (fun h => ?_) (fun h => ?_)
  · skip
    cases h
    exact x_frO.b x_fr.rf
  · skip
    obtain ⟨-, h⟩ := x_ifn h
    obtain ⟨-, h⟩ := x_ifn h
    cases h
    exact x_frO.a1 (x_frI (p := 95) rfl x_fr.rf)
set_option maxHeartbeats 4000000 in
set_option maxRecDepth 100000 in
theorem fr_Mo_copies_60_91_95 {σ : xS} {r : Unit × xS} (h : f_Mo_copies_60_91_95 σ = some r) : x_fr [(95, 99999)] σ r.2 := by
  unfold f_Mo_copies_60_91_95 at h
  try dsimp only at h
  obtain ⟨b3, b3h, h⟩ := x_bind h
  try dsimp only at h
  have b3f := x_itF (sA := (fun a => a.2)) (sB := (fun b => b.2)) (fun a o h => fr_Mo_copies_60_91_95_L2 h) _ _ _ b3h
  cases h
  exact (x_fr.trans x_fr.rf (x_fr.su b3f rfl))
set_option maxHeartbeats 4000000 in
set_option maxRecDepth 100000 in
theorem fr_Mo_image_60 {σ : xS} {r : Unit × xS} (h : f_Mo_image_60 σ = some r) : x_fr [(60, 0), (60, 78), (60, 79), (60, 80), (60, 81), (92, 99999), (93, 99999), (94, 99999), (95, 99999)] σ r.2 := by
  unfold f_Mo_image_60 at h
  try dsimp only at h
  obtain ⟨q6, q6h, h⟩ := x_bind h
  try dsimp only at h
  have q6f := fr_Mo_copies_60_79_92 q6h
  obtain ⟨q7, q7h, h⟩ := x_bind h
  try dsimp only at h
  have q7f := fr_Mo_copies_60_81_93 q7h
  obtain ⟨q8, q8h, h⟩ := x_bind h
  try dsimp only at h
  have q8f := fr_Mo_copies_60_90_94 q8h
  obtain ⟨q9, q9h, h⟩ := x_bind h
  try dsimp only at h
  have q9f := fr_Mo_copies_60_91_95 q9h
  cases h
  exact (x_fr.trans (x_fr.trans (x_fr.trans (x_fr.trans (x_frI (p := 60) (k := 81) rfl (x_frI (p := 60) (k := 80) rfl (x_frI (p := 60) (k := 79) rfl (x_frI (p := 60) (k := 78) rfl (x_frI (p := 60) (k := 0) rfl x_fr.rf))))) (x_fr.su q6f rfl)) (x_fr.su q7f rfl)) (x_fr.su q8f rfl)) (x_fr.su q9f rfl))
set_option maxHeartbeats 4000000 in
set_option maxRecDepth 100000 in
theorem fr_Mo_copies_60_92_79_L2 {a : Int32 × xS} {o : (Int32 × xS) ⊕ (Int32 × xS)} (h : f_Mo_copies_60_92_79_L2 a = some o) : x_frO [(79, 99999)] (fun a => a.2) (fun b => b.2) a.2 o := by
  unfold f_Mo_copies_60_92_79_L2 at h
  try dsimp only at h
  refine x_iteC h (fun h => ?_) (fun h => ?_)
  · skip
    cases h
    exact x_frO.b x_fr.rf
  · skip
    obtain ⟨-, h⟩ := x_ifn h
    obtain ⟨-, h⟩ := x_ifn h
    cases h
    exact x_frO.a1 (x_frI (p := 79) rfl x_fr.rf)
set_option maxHeartbeats 4000000 in
set_option maxRecDepth 100000 in
theorem fr_Mo_copies_60_92_79 {σ : xS} {r : Unit × xS} (h : f_Mo_copies_60_92_79 σ = some r) : x_fr [(79, 99999)] σ r.2 := by
  unfold f_Mo_copies_60_92_79 at h
  try dsimp only at h
  obtain ⟨b3, b3h, h⟩ := x_bind h
  try dsimp only at h
  have b3f := x_itF (sA := (fun a => a.2)) (sB := (fun b => b.2)) (fun a o h => fr_Mo_copies_60_92_79_L2 h) _ _ _ b3h
  cases h
  exact (x_fr.trans x_fr.rf (x_fr.su b3f rfl))
set_option maxHeartbeats 4000000 in
set_option maxRecDepth 100000 in
theorem fr_Mo_copies_60_93_81_L2 {a : Int32 × xS} {o : (Int32 × xS) ⊕ (Int32 × xS)} (h : f_Mo_copies_60_93_81_L2 a = some o) : x_frO [(81, 99999)] (fun a => a.2) (fun b => b.2) a.2 o := by
  unfold f_Mo_copies_60_93_81_L2 at h
  try dsimp only at h
  refine x_iteC h (fun h => ?_) (fun h => ?_)
  · skip
    cases h
    exact x_frO.b x_fr.rf
  · skip
    obtain ⟨-, h⟩ := x_ifn h
    obtain ⟨-, h⟩ := x_ifn h
    cases h
    exact x_frO.a1 (x_frI (p := 81) rfl x_fr.rf)
set_option maxHeartbeats 4000000 in
set_option maxRecDepth 100000 in
theorem fr_Mo_copies_60_93_81 {σ : xS} {r : Unit × xS} (h : f_Mo_copies_60_93_81 σ = some r) : x_fr [(81, 99999)] σ r.2 := by
  unfold f_Mo_copies_60_93_81 at h
  try dsimp only at h
  obtain ⟨b3, b3h, h⟩ := x_bind h
  try dsimp only at h
  have b3f := x_itF (sA := (fun a => a.2)) (sB := (fun b => b.2)) (fun a o h => fr_Mo_copies_60_93_81_L2 h) _ _ _ b3h
  cases h
  exact (x_fr.trans x_fr.rf (x_fr.su b3f rfl))
set_option maxHeartbeats 4000000 in
set_option maxRecDepth 100000 in
theorem fr_Mo_copies_60_94_90_L2 {a : Int32 × xS} {o : (Int32 × xS) ⊕ (Int32 × xS)} (h : f_Mo_copies_60_94_90_L2 a = some o) : x_frO [(90, 99999)] (fun a => a.2) (fun b => b.2) a.2 o := by
  unfold f_Mo_copies_60_94_90_L2 at h
  try dsimp only at h
  refine x_iteC h (fun h => ?_) (fun h => ?_)
  · skip
    cases h
    exact x_frO.b x_fr.rf
  · skip
    obtain ⟨-, h⟩ := x_ifn h
    obtain ⟨-, h⟩ := x_ifn h
    cases h
    exact x_frO.a1 (x_frI (p := 90) rfl x_fr.rf)
set_option maxHeartbeats 4000000 in
set_option maxRecDepth 100000 in
theorem fr_Mo_copies_60_94_90 {σ : xS} {r : Unit × xS} (h : f_Mo_copies_60_94_90 σ = some r) : x_fr [(90, 99999)] σ r.2 := by
  unfold f_Mo_copies_60_94_90 at h
  try dsimp only at h
  obtain ⟨b3, b3h, h⟩ := x_bind h
  try dsimp only at h
  have b3f := x_itF (sA := (fun a => a.2)) (sB := (fun b => b.2)) (fun a o h => fr_Mo_copies_60_94_90_L2 h) _ _ _ b3h
  cases h
  exact (x_fr.trans x_fr.rf (x_fr.su b3f rfl))
set_option maxHeartbeats 4000000 in
set_option maxRecDepth 100000 in
theorem fr_Mo_copies_60_95_91_L2 {a : Int32 × xS} {o : (Int32 × xS) ⊕ (Int32 × xS)} (h : f_Mo_copies_60_95_91_L2 a = some o) : x_frO [(91, 99999)] (fun a => a.2) (fun b => b.2) a.2 o := by
  unfold f_Mo_copies_60_95_91_L2 at h
  try dsimp only at h
  refine x_iteC h (fun h => ?_) (fun h => ?_)
  · skip
    cases h
    exact x_frO.b x_fr.rf
  · skip
    obtain ⟨-, h⟩ := x_ifn h
    obtain ⟨-, h⟩ := x_ifn h
    cases h
    exact x_frO.a1 (x_frI (p := 91) rfl x_fr.rf)
set_option maxHeartbeats 4000000 in
set_option maxRecDepth 100000 in
theorem fr_Mo_copies_60_95_91 {σ : xS} {r : Unit × xS} (h : f_Mo_copies_60_95_91 σ = some r) : x_fr [(91, 99999)] σ r.2 := by
  unfold f_Mo_copies_60_95_91 at h
  try dsimp only at h
  obtain ⟨b3, b3h, h⟩ := x_bind h
  try dsimp only at h
  have b3f := x_itF (sA := (fun a => a.2)) (sB := (fun b => b.2)) (fun a o h => fr_Mo_copies_60_95_91_L2 h) _ _ _ b3h
  cases h
  exact (x_fr.trans x_fr.rf (x_fr.su b3f rfl))
set_option maxHeartbeats 4000000 in
set_option maxRecDepth 100000 in
theorem fr_Mo_restore_60 {σ : xS} {r : Int32 × xS} (h : f_Mo_restore_60 σ = some r) : x_fr [(60, 0), (60, 56), (60, 74), (60, 76), (79, 99999), (81, 99999), (90, 99999), (91, 99999)] σ r.2 := by
  unfold f_Mo_restore_60 at h
  try dsimp only at h
  refine x_iteC h (fun h => ?_) (fun h => ?_)
  · skip
    cases h
    exact (x_frI (p := 60) (k := 0) rfl x_fr.rf)
  · skip
    obtain ⟨q5, q5h, h⟩ := x_bind h
    try dsimp only at h
    have q5f := fr_Mo_copies_60_92_79 q5h
    obtain ⟨q6, q6h, h⟩ := x_bind h
    try dsimp only at h
    have q6f := fr_Mo_copies_60_93_81 q6h
    obtain ⟨q7, q7h, h⟩ := x_bind h
    try dsimp only at h
    have q7f := fr_Mo_copies_60_94_90 q7h
    obtain ⟨q8, q8h, h⟩ := x_bind h
    try dsimp only at h
    have q8f := fr_Mo_copies_60_95_91 q8h
    cases h
    exact (x_fr.trans (x_fr.trans (x_fr.trans (x_fr.trans (x_frI (p := 60) (k := 76) rfl (x_frI (p := 60) (k := 74) rfl (x_frI (p := 60) (k := 56) rfl (x_frI (p := 60) (k := 0) rfl x_fr.rf)))) (x_fr.su q5f rfl)) (x_fr.su q6f rfl)) (x_fr.su q7f rfl)) (x_fr.su q8f rfl))
set_option maxHeartbeats 4000000 in
set_option maxRecDepth 100000 in
theorem fr_RH_addBytes_0_L3 {v1 : Int32} {a : Int32 × xS} {o : (Int32 × xS) ⊕ (Int32 × xS)} (h : f_RH_addBytes_0_L3 v1 a = some o) : x_frO [(0, 1), (1, 99999)] (fun a => a.2) (fun b => b.2) a.2 o := by
  unfold f_RH_addBytes_0_L3 at h
  try dsimp only at h
  refine x_iteC h (fun h => ?_) (fun h => ?_)
  · skip
    cases h
    exact x_frO.b x_fr.rf
  · skip
    refine x_iteC h (fun h => ?_) (fun h => ?_)
    · skip
      cases h
      exact x_frO.b x_fr.rf
    · skip
      obtain ⟨-, h⟩ := x_ifn h
      cases h
      exact x_frO.a1 (x_frI (p := 0) (k := 1) rfl (x_frI (p := 1) rfl x_fr.rf))
set_option maxHeartbeats 4000000 in
set_option maxRecDepth 100000 in
theorem fr_RH_addBytes_0 {v1 : Int32} {σ : xS} {r : Unit × xS} (h : f_RH_addBytes_0 v1 σ = some r) : x_fr [(0, 1), (1, 99999)] σ r.2 := by
  unfold f_RH_addBytes_0 at h
  try dsimp only at h
  obtain ⟨b4, b4h, h⟩ := x_bind h
  try dsimp only at h
  have b4f := x_itF (sA := (fun a => a.2)) (sB := (fun b => b.2)) (fun a o h => fr_RH_addBytes_0_L3 h) _ _ _ b4h
  cases h
  exact (x_fr.trans x_fr.rf (x_fr.su b4f rfl))
set_option maxHeartbeats 4000000 in
set_option maxRecDepth 100000 in
theorem fr_RH_feed_0 {v1 : Int32} {v2 : Int32} {v3 : Int32} {v4 : Int32} {v5 : Int32} {σ : xS} {r : Int32 × xS} (h : f_RH_feed_0 v1 v2 v3 v4 v5 σ = some r) : x_fr [(0, 1), (1, 99999)] σ r.2 := by
  unfold f_RH_feed_0 at h
  try dsimp only at h
  refine x_iteC h (fun h => ?_) (fun h => ?_)
  · skip
    obtain ⟨q1, q1h, h⟩ := x_bind h
    try dsimp only at h
    have q1f := fr_RH_addBytes_0 q1h
    obtain ⟨q2, q2h, h⟩ := x_bind h
    try dsimp only at h
    have q2f := fr_RH_addBytes_0 q2h
    obtain ⟨q3, q3h, h⟩ := x_bind h
    try dsimp only at h
    have q3f := fr_RH_addBytes_0 q3h
    obtain ⟨q4, q4h, h⟩ := x_bind h
    try dsimp only at h
    have q4f := fr_RH_addBytes_0 q4h
    obtain ⟨q5, q5h, h⟩ := x_bind h
    try dsimp only at h
    have q5f := fr_RH_addBytes_0 q5h
    cases h
    exact (x_fr.trans (x_fr.trans (x_fr.trans (x_fr.trans (x_fr.trans x_fr.rf (x_fr.su q1f rfl)) (x_fr.su q2f rfl)) (x_fr.su q3f rfl)) (x_fr.su q4f rfl)) (x_fr.su q5f rfl))
  · skip
    cases h
    exact x_fr.rf
set_option maxHeartbeats 4000000 in
set_option maxRecDepth 100000 in
theorem fr_Re_isKind_2 {v1 : Int32} {σ : xS} {r : Int32 × xS} (h : f_Re_isKind_2 v1 σ = some r) : x_fr [] σ r.2 := by
  unfold f_Re_isKind_2 at h
  try dsimp only at h
  refine x_iteC h (fun h => ?_) (fun h => ?_)
  · skip
    cases h
    exact x_fr.rf
  · skip
    obtain ⟨-, h⟩ := x_ifn h
    refine x_iteC h (fun h => ?_) (fun h => ?_)
    · skip
      cases h
      exact x_fr.rf
    · skip
      cases h
      exact x_fr.rf
set_option maxHeartbeats 4000000 in
set_option maxRecDepth 100000 in
theorem fr_RH_fault_0 {σ : xS} {r : Int32 × xS} (h : f_RH_fault_0 σ = some r) : x_fr [] σ r.2 := by
  unfold f_RH_fault_0 at h
  try dsimp only at h
  cases h
  exact x_fr.rf
set_option maxHeartbeats 4000000 in
set_option maxRecDepth 100000 in
theorem fr_RH_count_0 {v1 : Int32} {σ : xS} {r : (Int32 ⊕ Nat) × xS} (h : f_RH_count_0 v1 σ = some r) : x_fr [] σ r.2 := by
  unfold f_RH_count_0 at h
  try dsimp only at h
  refine x_iteC h (fun h => ?_) (fun h => ?_)
  · skip
    cases h
    exact x_fr.rf
  · skip
    refine x_iteC h (fun h => ?_) (fun h => ?_)
    · skip
      cases h
      exact x_fr.rf
    · skip
      refine x_iteC h (fun h => ?_) (fun h => ?_)
      · skip
        cases h
        exact x_fr.rf
      · skip
        refine x_iteC h (fun h => ?_) (fun h => ?_)
        · skip
          cases h
          exact x_fr.rf
        · skip
          refine x_iteC h (fun h => ?_) (fun h => ?_)
          · skip
            cases h
            exact x_fr.rf
          · skip
            refine x_iteC h (fun h => ?_) (fun h => ?_)
            · skip
              cases h
              exact x_fr.rf
            · skip
              refine x_iteC h (fun h => ?_) (fun h => ?_)
              · skip
                cases h
                exact x_fr.rf
              · skip
                refine x_iteC h (fun h => ?_) (fun h => ?_)
                · skip
                  cases h
                  exact x_fr.rf
                · skip
                  refine x_iteC h (fun h => ?_) (fun h => ?_)
                  · skip
                    cases h
                    exact x_fr.rf
                  · skip
                    refine x_iteC h (fun h => ?_) (fun h => ?_)
                    · skip
                      cases h
                      exact x_fr.rf
                    · skip
                      refine x_iteC h (fun h => ?_) (fun h => ?_)
                      · skip
                        cases h
                        exact x_fr.rf
                      · skip
                        refine x_iteC h (fun h => ?_) (fun h => ?_)
                        · skip
                          cases h
                          exact x_fr.rf
                        · skip
                          refine x_iteC h (fun h => ?_) (fun h => ?_)
                          · skip
                            cases h
                            exact x_fr.rf
                          · skip
                            refine x_iteC h (fun h => ?_) (fun h => ?_)
                            · skip
                              cases h
                              exact x_fr.rf
                            · skip
                              refine x_iteC h (fun h => ?_) (fun h => ?_)
                              · skip
                                cases h
                                exact x_fr.rf
                              · skip
                                refine x_iteC h (fun h => ?_) (fun h => ?_)
                                · skip
                                  cases h
                                  exact x_fr.rf
                                · skip
                                  refine x_iteC h (fun h => ?_) (fun h => ?_)
                                  · skip
                                    cases h
                                    exact x_fr.rf
                                  · skip
                                    refine x_iteC h (fun h => ?_) (fun h => ?_)
                                    · skip
                                      cases h
                                      exact x_fr.rf
                                    · skip
                                      cases h
                                      exact x_fr.rf
set_option maxHeartbeats 4000000 in
set_option maxRecDepth 100000 in
theorem fr_RH_isMark_0 {v1 : Int32} {σ : xS} {r : Int32 × xS} (h : f_RH_isMark_0 v1 σ = some r) : x_fr [] σ r.2 := by
  unfold f_RH_isMark_0 at h
  try dsimp only at h
  refine x_iteC h (fun h => ?_) (fun h => ?_)
  · skip
    cases h
    exact x_fr.rf
  · skip
    refine x_iteC h (fun h => ?_) (fun h => ?_)
    · skip
      cases h
      exact x_fr.rf
    · skip
      refine x_iteC h (fun h => ?_) (fun h => ?_)
      · skip
        cases h
        exact x_fr.rf
      · skip
        cases h
        exact x_fr.rf
set_option maxHeartbeats 4000000 in
set_option maxRecDepth 100000 in
theorem fr_RH_mark_0 {v1 : Int32} {σ : xS} {r : (Int32 ⊕ Nat) × xS} (h : f_RH_mark_0 v1 σ = some r) : x_fr [] σ r.2 := by
  unfold f_RH_mark_0 at h
  try dsimp only at h
  obtain ⟨q1, q1h, h⟩ := x_bind h
  try dsimp only at h
  have q1f := fr_RH_isMark_0 q1h
  refine x_iteC h (fun h => ?_) (fun h => ?_)
  · skip
    cases h
    exact (x_fr.trans x_fr.rf (x_fr.su q1f rfl))
  · skip
    obtain ⟨-, h⟩ := x_ifn h
    cases h
    exact (x_fr.trans x_fr.rf (x_fr.su q1f rfl))
set_option maxHeartbeats 4000000 in
set_option maxRecDepth 100000 in
theorem fr_RH_isTenth_0 {v1 : Int32} {σ : xS} {r : Int32 × xS} (h : f_RH_isTenth_0 v1 σ = some r) : x_fr [] σ r.2 := by
  unfold f_RH_isTenth_0 at h
  try dsimp only at h
  refine x_iteC h (fun h => ?_) (fun h => ?_)
  · skip
    cases h
    exact x_fr.rf
  · skip
    refine x_iteC h (fun h => ?_) (fun h => ?_)
    · skip
      cases h
      exact x_fr.rf
    · skip
      cases h
      exact x_fr.rf
set_option maxHeartbeats 4000000 in
set_option maxRecDepth 100000 in
theorem fr_Sc_herIn_7 {v1 : Int32} {σ : xS} {r : Int32 × xS} (h : f_Sc_herIn_7 v1 σ = some r) : x_fr [] σ r.2 := by
  unfold f_Sc_herIn_7 at h
  try dsimp only at h
  refine x_iteC h (fun h => ?_) (fun h => ?_)
  · skip
    cases h
    exact x_fr.rf
  · skip
    refine x_iteC h (fun h => ?_) (fun h => ?_)
    · skip
      obtain ⟨-, h⟩ := x_ifn h
      cases h
      exact x_fr.rf
    · skip
      cases h
      exact x_fr.rf
set_option maxHeartbeats 4000000 in
set_option maxRecDepth 100000 in
theorem fr_RH_within {v0 : Int32} {v1 : Int32} {v2 : Int32} {σ : xS} {r : Int32 × xS} (h : f_RH_within v0 v1 v2 σ = some r) : x_fr [] σ r.2 := by
  unfold f_RH_within at h
  try dsimp only at h
  refine x_iteC h (fun h => ?_) (fun h => ?_)
  · skip
    refine x_iteC h (fun h => ?_) (fun h => ?_)
    · skip
      cases h
      exact x_fr.rf
    · skip
      cases h
      exact x_fr.rf
  · skip
    cases h
    exact x_fr.rf
set_option maxHeartbeats 4000000 in
set_option maxRecDepth 100000 in
theorem fr_Sc_placeOf_7 {v1 : Int32} {v2 : Int32} {v3 : Int32} {σ : xS} {r : Int32 × xS} (h : f_Sc_placeOf_7 v1 v2 v3 σ = some r) : x_fr [] σ r.2 := by
  unfold f_Sc_placeOf_7 at h
  try dsimp only at h
  refine x_iteC h (fun h => ?_) (fun h => ?_)
  · skip
    cases h
    exact x_fr.rf
  · skip
    obtain ⟨q1, q1h, h⟩ := x_bind h
    try dsimp only at h
    have q1f := fr_RH_within q1h
    cases h
    exact (x_fr.trans x_fr.rf (x_fr.su q1f rfl))
set_option maxHeartbeats 4000000 in
set_option maxRecDepth 100000 in
theorem fr_RH_inches_0 {v1 : Int32} {v2 : Int32} {σ : xS} {r : (Int32 ⊕ Nat) × xS} (h : f_RH_inches_0 v1 v2 σ = some r) : x_fr [] σ r.2 := by
  unfold f_RH_inches_0 at h
  try dsimp only at h
  obtain ⟨q1, q1h, h⟩ := x_bind h
  try dsimp only at h
  have q1f := fr_RH_isTenth_0 q1h
  refine x_iteC h (fun h => ?_) (fun h => ?_)
  · skip
    cases h
    exact (x_fr.trans x_fr.rf (x_fr.su q1f rfl))
  · skip
    refine x_iteC h (fun h => ?_) (fun h => ?_)
    · skip
      cases h
      exact (x_fr.trans x_fr.rf (x_fr.su q1f rfl))
    · skip
      refine x_iteC h (fun h => ?_) (fun h => ?_)
      · skip
        obtain ⟨q2, q2h, h⟩ := x_bind h
        try dsimp only at h
        have q2f := fr_Sc_herIn_7 q2h
        obtain ⟨q3, q3h, h⟩ := x_bind h
        try dsimp only at h
        have q3f := fr_Sc_placeOf_7 q3h
        cases h
        exact (x_fr.trans (x_fr.trans (x_fr.trans x_fr.rf (x_fr.su q1f rfl)) (x_fr.su q2f rfl)) (x_fr.su q3f rfl))
      · skip
        cases h
        exact (x_fr.trans x_fr.rf (x_fr.su q1f rfl))
set_option maxHeartbeats 4000000 in
set_option maxRecDepth 100000 in
theorem fr_RH_isInches {v0 : Int32} {σ : xS} {r : Int32 × xS} (h : f_RH_isInches v0 σ = some r) : x_fr [] σ r.2 := by
  unfold f_RH_isInches at h
  try dsimp only at h
  refine x_iteC h (fun h => ?_) (fun h => ?_)
  · skip
    cases h
    exact x_fr.rf
  · skip
    refine x_iteC h (fun h => ?_) (fun h => ?_)
    · skip
      cases h
      exact x_fr.rf
    · skip
      cases h
      exact x_fr.rf
set_option maxHeartbeats 4000000 in
set_option maxRecDepth 100000 in
theorem fr_Sc_turnOf_7 {v1 : Int32} {σ : xS} {r : Int32 × xS} (h : f_Sc_turnOf_7 v1 σ = some r) : x_fr [] σ r.2 := by
  unfold f_Sc_turnOf_7 at h
  try dsimp only at h
  refine x_iteC h (fun h => ?_) (fun h => ?_)
  · skip
    cases h
    exact x_fr.rf
  · skip
    refine x_iteC h (fun h => ?_) (fun h => ?_)
    · skip
      obtain ⟨-, h⟩ := x_ifn h
      cases h
      exact x_fr.rf
    · skip
      cases h
      exact x_fr.rf
set_option maxHeartbeats 4000000 in
set_option maxRecDepth 100000 in
theorem fr_RH_turn_0 {v1 : Int32} {σ : xS} {r : (Int32 ⊕ Nat) × xS} (h : f_RH_turn_0 v1 σ = some r) : x_fr [] σ r.2 := by
  unfold f_RH_turn_0 at h
  try dsimp only at h
  obtain ⟨q1, q1h, h⟩ := x_bind h
  try dsimp only at h
  have q1f := fr_RH_isInches q1h
  refine x_iteC h (fun h => ?_) (fun h => ?_)
  · skip
    cases h
    exact (x_fr.trans x_fr.rf (x_fr.su q1f rfl))
  · skip
    obtain ⟨q2, q2h, h⟩ := x_bind h
    try dsimp only at h
    have q2f := fr_Sc_turnOf_7 q2h
    cases h
    exact (x_fr.trans (x_fr.trans x_fr.rf (x_fr.su q1f rfl)) (x_fr.su q2f rfl))
set_option maxHeartbeats 4000000 in
set_option maxRecDepth 100000 in
theorem fr_Tr_begin_49_36 {v2 : Int32} {σ : xS} {r : Unit × xS} (h : f_Tr_begin_49_36 v2 σ = some r) : x_fr [(49, 1), (49, 2), (49, 3), (49, 4), (50, 99999)] σ r.2 := by
  unfold f_Tr_begin_49_36 at h
  try dsimp only at h
  obtain ⟨-, h⟩ := x_ift h
  cases h
  exact (x_frI (p := 49) (k := 4) rfl (x_frI (p := 49) (k := 3) rfl (x_frI (p := 49) (k := 2) rfl (x_frI (p := 49) (k := 1) rfl (x_frC (fun _ => rfl) x_fr.rf)))))
set_option maxHeartbeats 4000000 in
set_option maxRecDepth 100000 in
theorem fr_RH_takeSettings_0 {σ : xS} {r : Unit × xS} (h : f_RH_takeSettings_0 σ = some r) : x_fr [(0, 9), (49, 1), (49, 2), (49, 3), (49, 4), (50, 99999)] σ r.2 := by
  unfold f_RH_takeSettings_0 at h
  try dsimp only at h
  obtain ⟨q1, q1h, h⟩ := x_bind h
  try dsimp only at h
  have q1f := fr_Tr_begin_49_36 q1h
  cases h
  exact (x_frI (p := 0) (k := 9) rfl (x_fr.trans x_fr.rf (x_fr.su q1f rfl)))
set_option maxHeartbeats 4000000 in
set_option maxRecDepth 100000 in
theorem fr_Sc_faceIn_7_L5 {v1 : Int32} {v2 : Int32} {a : Int32 × Int32 × xS} {o : (Int32 × Int32 × xS) ⊕ (Int32 × Int32 × xS)} (h : f_Sc_faceIn_7_L5 v1 v2 a = some o) : x_frO [] (fun a => a.2.2) (fun b => b.2.2) a.2.2 o := by
  unfold f_Sc_faceIn_7_L5 at h
  try dsimp only at h
  refine x_iteC h (fun h => ?_) (fun h => ?_)
  · skip
    cases h
    exact x_frO.b x_fr.rf
  · skip
    refine x_iteC h (fun h => ?_) (fun h => ?_)
    · skip
      cases h
      exact x_frO.b x_fr.rf
    · skip
      obtain ⟨-, h⟩ := x_ifn h
      refine x_iteC h (fun h => ?_) (fun h => ?_)
      · skip
        cases h
        exact x_frO.a2 x_fr.rf
      · skip
        obtain ⟨-, h⟩ := x_ifn h
        cases h
        exact x_frO.a2 x_fr.rf
set_option maxHeartbeats 4000000 in
set_option maxRecDepth 100000 in
theorem fr_Sc_faceIn_7 {v1 : Int32} {v2 : Int32} {σ : xS} {r : Int32 × xS} (h : f_Sc_faceIn_7 v1 v2 σ = some r) : x_fr [] σ r.2 := by
  unfold f_Sc_faceIn_7 at h
  try dsimp only at h
  obtain ⟨b4, b4h, h⟩ := x_bind h
  try dsimp only at h
  have b4f := x_itF (sA := (fun a => a.2.2)) (sB := (fun b => b.2.2)) (fun a o h => fr_Sc_faceIn_7_L5 h) _ _ _ b4h
  cases h
  exact (x_fr.trans x_fr.rf (x_fr.su b4f rfl))
set_option maxHeartbeats 4000000 in
set_option maxRecDepth 100000 in
theorem fr_Tr_placeIn_49_7 {v2 : Int32} {v3 : Int32} {σ : xS} {r : Int32 × xS} (h : f_Tr_placeIn_49_7 v2 v3 σ = some r) : x_fr [] σ r.2 := by
  unfold f_Tr_placeIn_49_7 at h
  try dsimp only at h
  obtain ⟨q1, q1h, h⟩ := x_bind h
  try dsimp only at h
  have q1f := fr_Sc_herIn_7 q1h
  obtain ⟨q2, q2h, h⟩ := x_bind h
  try dsimp only at h
  have q2f := fr_Sc_placeOf_7 q2h
  cases h
  exact (x_fr.trans (x_fr.trans x_fr.rf (x_fr.su q1f rfl)) (x_fr.su q2f rfl))
set_option maxHeartbeats 4000000 in
set_option maxRecDepth 100000 in
theorem fr_RH_isNearMark_50_L4 {v1 : Int32} {v2 : Int32} {v3 : Int32} {a : Int32 × xS} {o : ((Int32 × xS) ⊕ (Int32 × xS)) ⊕ (Int32 × xS)} (h : f_RH_isNearMark_50_L4 v1 v2 v3 a = some o) : x_frO [] (fun a => a.2) (fun b => match b with | .inl q => q.2 | .inr e => e.2) a.2 o := by
  unfold f_RH_isNearMark_50_L4 at h
  try dsimp only at h
  refine x_iteC h (fun h => ?_) (fun h => ?_)
  · skip
    cases h
    exact x_frO.b x_fr.rf
  · skip
    refine x_iteC h (fun h => ?_) (fun h => ?_)
    · skip
      cases h
      exact x_frO.b x_fr.rf
    · skip
      obtain ⟨-, h⟩ := x_ifn h
      refine x_iteC h (fun h => ?_) (fun h => ?_)
      · skip
        cases h
        exact x_frO.a1 x_fr.rf
      · skip
        cases h
        exact x_frO.b x_fr.rf
set_option maxHeartbeats 4000000 in
set_option maxRecDepth 100000 in
theorem fr_RH_isNearMark_50 {v1 : Int32} {v2 : Int32} {v3 : Int32} {σ : xS} {r : Int32 × xS} (h : f_RH_isNearMark_50 v1 v2 v3 σ = some r) : x_fr [] σ r.2 := by
  unfold f_RH_isNearMark_50 at h
  try dsimp only at h
  obtain ⟨b2, b2h, h⟩ := x_bind h
  try dsimp only at h
  have b2f := x_itF (sA := (fun a => a.2)) (sB := (fun b => match b with | .inl q => q.2 | .inr e => e.2)) (fun a o h => fr_RH_isNearMark_50_L4 h) _ _ _ b2h
  cases b2 with
  | inl b2r =>
    try dsimp only at h
    cases h
    exact (x_fr.trans x_fr.rf (x_fr.su b2f rfl))
  | inr b2e =>
    try dsimp only at h
    cases h
    exact (x_fr.trans x_fr.rf (x_fr.su b2f rfl))
set_option maxHeartbeats 4000000 in
set_option maxRecDepth 100000 in
theorem fr_Tr_judged_49 {v1 : Int32} {σ : xS} {r : Int32 × xS} (h : f_Tr_judged_49 v1 σ = some r) : x_fr [] σ r.2 := by
  unfold f_Tr_judged_49 at h
  try dsimp only at h
  obtain ⟨q1, q1h, h⟩ := x_bind h
  try dsimp only at h
  have q1f := fr_RH_within q1h
  cases h
  exact (x_fr.trans x_fr.rf (x_fr.su q1f rfl))
set_option maxHeartbeats 4000000 in
set_option maxRecDepth 100000 in
theorem fr_Tr_look_49_7_L16 {a : Int32 × xS} {o : (Int32 × xS) ⊕ (Int32 × xS)} (h : f_Tr_look_49_7_L16 a = some o) : x_frO [(51, 99999), (52, 99999)] (fun a => a.2) (fun b => b.2) a.2 o := by
  unfold f_Tr_look_49_7_L16 at h
  try dsimp only at h
  refine x_iteC h (fun h => ?_) (fun h => ?_)
  · skip
    cases h
    exact x_frO.b x_fr.rf
  · skip
    obtain ⟨q1, q1h, h⟩ := x_bind h
    try dsimp only at h
    have q1f := fr_Sc_faceIn_7 q1h
    obtain ⟨q2, q2h, h⟩ := x_bind h
    try dsimp only at h
    have q2f := fr_Tr_placeIn_49_7 q2h
    obtain ⟨q4, q4h, h⟩ := x_bind h
    try dsimp only at h
    have q4f := fr_RH_isNearMark_50 q4h
    obtain ⟨-, h⟩ := x_ift h
    obtain ⟨-, h⟩ := x_ifn h
    obtain ⟨-, h⟩ := x_ifn h
    refine x_iteC h (fun h => ?_) (fun h => ?_)
    · skip
      obtain ⟨q6, q6h, h⟩ := x_bind h
      try dsimp only at h
      have q6f := fr_Tr_judged_49 q6h
      obtain ⟨q7, q7h, h⟩ := x_bind h
      try dsimp only at h
      have q7f := fr_Sc_turnOf_7 q7h
      obtain ⟨-, h⟩ := x_ifn h
      cases h
      exact x_frO.a1 (x_frI (p := 51) rfl (x_fr.trans (x_fr.trans (x_frI (p := 52) rfl (x_fr.trans (x_fr.trans (x_fr.trans x_fr.rf (x_fr.su q1f rfl)) (x_fr.su q2f rfl)) (x_fr.su q4f rfl))) (x_fr.su q6f rfl)) (x_fr.su q7f rfl)))
    · skip
      obtain ⟨q10, q10h, h⟩ := x_bind h
      try dsimp only at h
      have q10f := fr_Sc_turnOf_7 q10h
      obtain ⟨-, h⟩ := x_ifn h
      cases h
      exact x_frO.a1 (x_frI (p := 51) rfl (x_fr.trans (x_frI (p := 52) rfl (x_fr.trans (x_fr.trans (x_fr.trans x_fr.rf (x_fr.su q1f rfl)) (x_fr.su q2f rfl)) (x_fr.su q4f rfl))) (x_fr.su q10f rfl)))
set_option maxHeartbeats 4000000 in
set_option maxRecDepth 100000 in
theorem fr_Tr_look_49_7 {σ : xS} {r : Unit × xS} (h : f_Tr_look_49_7 σ = some r) : x_fr [(49, 5), (51, 99999), (52, 99999)] σ r.2 := by
  unfold f_Tr_look_49_7 at h
  try dsimp only at h
  obtain ⟨b14, b14h, h⟩ := x_bind h
  try dsimp only at h
  have b14f := x_itF (sA := (fun a => a.2)) (sB := (fun b => b.2)) (fun a o h => fr_Tr_look_49_7_L16 h) _ _ _ b14h
  cases h
  exact (x_fr.trans (x_frI (p := 49) (k := 5) rfl x_fr.rf) (x_fr.su b14f rfl))
set_option maxHeartbeats 4000000 in
set_option maxRecDepth 100000 in
theorem fr_Ru_valueBy_13 {v1 : Int32} {σ : xS} {r : Int32 × xS} (h : f_Ru_valueBy_13 v1 σ = some r) : x_fr [] σ r.2 := by
  unfold f_Ru_valueBy_13 at h
  try dsimp only at h
  refine x_iteC h (fun h => ?_) (fun h => ?_)
  · skip
    cases h
    exact x_fr.rf
  · skip
    refine x_iteC h (fun h => ?_) (fun h => ?_)
    · skip
      cases h
      exact x_fr.rf
    · skip
      obtain ⟨-, h⟩ := x_ifn h
      cases h
      exact x_fr.rf
set_option maxHeartbeats 4000000 in
set_option maxRecDepth 100000 in
theorem fr_Ru_join {v0 : Int32} {v1 : Int32} {v2 : Int32} {σ : xS} {r : Int32 × xS} (h : f_Ru_join v0 v1 v2 σ = some r) : x_fr [] σ r.2 := by
  unfold f_Ru_join at h
  try dsimp only at h
  refine x_iteC h (fun h => ?_) (fun h => ?_)
  · skip
    refine x_iteC h (fun h => ?_) (fun h => ?_)
    · skip
      cases h
      exact x_fr.rf
    · skip
      refine x_iteC h (fun h => ?_) (fun h => ?_)
      · skip
        cases h
        exact x_fr.rf
      · skip
        cases h
        exact x_fr.rf
  · skip
    refine x_iteC h (fun h => ?_) (fun h => ?_)
    · skip
      refine x_iteC h (fun h => ?_) (fun h => ?_)
      · skip
        refine x_iteC h (fun h => ?_) (fun h => ?_)
        · skip
          cases h
          exact x_fr.rf
        · skip
          cases h
          exact x_fr.rf
      · skip
        cases h
        exact x_fr.rf
    · skip
      refine x_iteC h (fun h => ?_) (fun h => ?_)
      · skip
        refine x_iteC h (fun h => ?_) (fun h => ?_)
        · skip
          cases h
          exact x_fr.rf
        · skip
          cases h
          exact x_fr.rf
      · skip
        refine x_iteC h (fun h => ?_) (fun h => ?_)
        · skip
          refine x_iteC h (fun h => ?_) (fun h => ?_)
          · skip
            cases h
            exact x_fr.rf
          · skip
            cases h
            exact x_fr.rf
        · skip
          refine x_iteC h (fun h => ?_) (fun h => ?_)
          · skip
            refine x_iteC h (fun h => ?_) (fun h => ?_)
            · skip
              cases h
              exact x_fr.rf
            · skip
              obtain ⟨-, h⟩ := x_ifn h
              cases h
              exact x_fr.rf
          · skip
            refine x_iteC h (fun h => ?_) (fun h => ?_)
            · skip
              cases h
              exact x_fr.rf
            · skip
              refine x_iteC h (fun h => ?_) (fun h => ?_)
              · skip
                cases h
                exact x_fr.rf
              · skip
                refine x_iteC h (fun h => ?_) (fun h => ?_)
                · skip
                  cases h
                  exact x_fr.rf
                · skip
                  refine x_iteC h (fun h => ?_) (fun h => ?_)
                  · skip
                    refine x_iteC h (fun h => ?_) (fun h => ?_)
                    · skip
                      cases h
                      exact x_fr.rf
                    · skip
                      cases h
                      exact x_fr.rf
                  · skip
                    cases h
                    exact x_fr.rf
set_option maxHeartbeats 4000000 in
set_option maxRecDepth 100000 in
theorem fr_Ru_has_13 {v1 : Int32} {σ : xS} {r : Int32 × xS} (h : f_Ru_has_13 v1 σ = some r) : x_fr [] σ r.2 := by
  unfold f_Ru_has_13 at h
  try dsimp only at h
  refine x_iteC h (fun h => ?_) (fun h => ?_)
  · skip
    cases h
    exact x_fr.rf
  · skip
    refine x_iteC h (fun h => ?_) (fun h => ?_)
    · skip
      cases h
      exact x_fr.rf
    · skip
      obtain ⟨-, h⟩ := x_ifn h
      obtain ⟨-, h⟩ := x_ifn h
      refine x_iteC h (fun h => ?_) (fun h => ?_)
      · skip
        cases h
        exact x_fr.rf
      · skip
        cases h
        exact x_fr.rf
set_option maxHeartbeats 4000000 in
set_option maxRecDepth 100000 in
theorem fr_Ru_worth_13_J58 {v1 : Int32} {v2 : Int32} {v3 : Int32} {v4 : Int32} {σ : xS} {o : (Int32 × Int32 × xS) ⊕ (Int32 × Int32 × xS)} (h : f_Ru_worth_13_J58 v1 v2 v3 v4 σ = some o) : x_frO [(17, 99999)] (fun a => a.2.2) (fun b => b.2.2) σ o := by
  unfold f_Ru_worth_13_J58 at h
  try dsimp only at h
  refine x_iteC h (fun h => ?_) (fun h => ?_)
  · skip
    cases h
    exact x_frO.a2 x_fr.rf
  · skip
    refine x_iteC h (fun h => ?_) (fun h => ?_)
    · skip
      obtain ⟨q2, q2h, h⟩ := x_bind h
      try dsimp only at h
      have q2f := fr_Ru_valueBy_13 q2h
      obtain ⟨-, h⟩ := x_ifn h
      cases h
      exact x_frO.a2 (x_frI (p := 17) rfl (x_fr.trans x_fr.rf (x_fr.su q2f rfl)))
    · skip
      obtain ⟨-, h⟩ := x_ifn h
      cases h
      exact x_frO.a2 (x_frI (p := 17) rfl x_fr.rf)
set_option maxHeartbeats 4000000 in
set_option maxRecDepth 100000 in
theorem fr_Ru_worth_13_L19 {v1 : Int32} {a : Int32 × Int32 × xS} {o : (Int32 × Int32 × xS) ⊕ (Int32 × Int32 × xS)} (h : f_Ru_worth_13_L19 v1 a = some o) : x_frO [(17, 99999)] (fun a => a.2.2) (fun b => b.2.2) a.2.2 o := by
  unfold f_Ru_worth_13_L19 at h
  try dsimp only at h
  obtain ⟨-, h⟩ := x_ifn h
  refine x_iteC h (fun h => ?_) (fun h => ?_)
  · skip
    cases h
    exact x_frO.b x_fr.rf
  · skip
    refine x_iteC h (fun h => ?_) (fun h => ?_)
    · skip
      cases h
      exact x_frO.b x_fr.rf
    · skip
      obtain ⟨-, h⟩ := x_ifn h
      refine x_iteC h (fun h => ?_) (fun h => ?_)
      · skip
        exact x_frO.tr x_fr.rf (x_frO.su (fr_Ru_worth_13_J58 h) rfl)
      · skip
        refine x_iteC h (fun h => ?_) (fun h => ?_)
        · skip
          refine x_iteC h (fun h => ?_) (fun h => ?_)
          · skip
            refine x_iteC h (fun h => ?_) (fun h => ?_)
            · skip
              cases h
              exact x_frO.a2 x_fr.rf
            · skip
              obtain ⟨-, h⟩ := x_ifn h
              refine x_iteC h (fun h => ?_) (fun h => ?_)
              · skip
                obtain ⟨-, h⟩ := x_ifn h
                cases h
                exact x_frO.a2 (x_frI (p := 17) rfl x_fr.rf)
              · skip
                obtain ⟨-, h⟩ := x_ifn h
                cases h
                exact x_frO.a2 (x_frI (p := 17) rfl x_fr.rf)
          · skip
            refine x_iteC h (fun h => ?_) (fun h => ?_)
            · skip
              cases h
              exact x_frO.a2 x_fr.rf
            · skip
              obtain ⟨-, h⟩ := x_ifn h
              obtain ⟨-, h⟩ := x_ifn h
              obtain ⟨q12, q12h, h⟩ := x_bind h
              try dsimp only at h
              have q12f := fr_Ru_join q12h
              obtain ⟨-, h⟩ := x_ifn h
              cases h
              exact x_frO.a2 (x_frI (p := 17) rfl (x_fr.trans x_fr.rf (x_fr.su q12f rfl)))
        · skip
          exact x_frO.tr x_fr.rf (x_frO.su (fr_Ru_worth_13_J58 h) rfl)
set_option maxHeartbeats 4000000 in
set_option maxRecDepth 100000 in
theorem fr_Ru_worth_13_J172 {v2 : Int32} {σ : xS} {r : Int32 × xS} (h : f_Ru_worth_13_J172 v2 σ = some r) : x_fr [] σ r.2 := by
  unfold f_Ru_worth_13_J172 at h
  try dsimp only at h
  refine x_iteC h (fun h => ?_) (fun h => ?_)
  · skip
    cases h
    exact x_fr.rf
  · skip
    cases h
    exact x_fr.rf
set_option maxHeartbeats 4000000 in
set_option maxRecDepth 100000 in
theorem fr_Ru_worth_13 {v1 : Int32} {σ : xS} {r : Int32 × xS} (h : f_Ru_worth_13 v1 σ = some r) : x_fr [(17, 99999)] σ r.2 := by
  unfold f_Ru_worth_13 at h
  try dsimp only at h
  obtain ⟨q20, q20h, h⟩ := x_bind h
  try dsimp only at h
  have q20f := fr_Ru_has_13 q20h
  refine x_iteC h (fun h => ?_) (fun h => ?_)
  · skip
    cases h
    exact (x_fr.trans x_fr.rf (x_fr.su q20f rfl))
  · skip
    obtain ⟨-, h⟩ := x_ifn h
    obtain ⟨b22, b22h, h⟩ := x_bind h
    try dsimp only at h
    have b22f := x_itF (sA := (fun a => a.2.2)) (sB := (fun b => b.2.2)) (fun a o h => fr_Ru_worth_13_L19 h) _ _ _ b22h
    exact x_fr.trans (x_fr.trans (x_fr.trans x_fr.rf (x_fr.su q20f rfl)) (x_fr.su b22f rfl)) (x_fr.su (fr_Ru_worth_13_J172 h) rfl)
set_option maxHeartbeats 4000000 in
set_option maxRecDepth 100000 in
theorem fr_Tr_aim_49_7_J121 {y1 : Int32} {y2 : Int32} {σ : xS} {r : Int32 × xS} (h : f_Tr_aim_49_7_J121 y1 y2 σ = some r) : x_fr [(17, 99999), (18, 99999)] σ r.2 := by
  unfold f_Tr_aim_49_7_J121 at h
  try dsimp only at h
  obtain ⟨-, h⟩ := x_ifn h
  obtain ⟨q2, q2h, h⟩ := x_bind h
  try dsimp only at h
  have q2f := fr_Ru_worth_13 q2h
  obtain ⟨q3, q3h, h⟩ := x_bind h
  try dsimp only at h
  have q3f := fr_RH_within q3h
  cases h
  exact (x_fr.trans (x_fr.trans (x_frI (p := 18) rfl x_fr.rf) (x_fr.su q2f rfl)) (x_fr.su q3f rfl))
set_option maxHeartbeats 4000000 in
set_option maxRecDepth 100000 in
theorem fr_Tr_aim_49_7 {v2 : Int32} {σ : xS} {r : Int32 × xS} (h : f_Tr_aim_49_7 v2 σ = some r) : x_fr [(17, 99999), (18, 99999)] σ r.2 := by
  unfold f_Tr_aim_49_7 at h
  try dsimp only at h
  refine x_iteC h (fun h => ?_) (fun h => ?_)
  · skip
    cases h
    exact x_fr.rf
  · skip
    refine x_iteC h (fun h => ?_) (fun h => ?_)
    · skip
      obtain ⟨-, h⟩ := x_ifn h
      obtain ⟨-, h⟩ := x_ifn h
      obtain ⟨-, h⟩ := x_ifn h
      obtain ⟨q5, q5h, h⟩ := x_bind h
      try dsimp only at h
      have q5f := fr_RH_within q5h
      refine x_iteC h (fun h => ?_) (fun h => ?_)
      · skip
        cases h
        exact (x_fr.trans x_fr.rf (x_fr.su q5f rfl))
      · skip
        obtain ⟨-, h⟩ := x_ifn h
        obtain ⟨-, h⟩ := x_ifn h
        refine x_iteC h (fun h => ?_) (fun h => ?_)
        · skip
          exact x_fr.trans (x_frI (p := 18) (k := 6) rfl (x_frI (p := 18) (k := 5) rfl (x_frI (p := 18) (k := 4) rfl (x_frI (p := 18) (k := 3) rfl (x_fr.trans x_fr.rf (x_fr.su q5f rfl)))))) (x_fr.su (fr_Tr_aim_49_7_J121 h) rfl)
        · skip
          exact x_fr.trans (x_frI (p := 18) (k := 6) rfl (x_frI (p := 18) (k := 5) rfl (x_frI (p := 18) (k := 4) rfl (x_frI (p := 18) (k := 3) rfl (x_fr.trans x_fr.rf (x_fr.su q5f rfl)))))) (x_fr.su (fr_Tr_aim_49_7_J121 h) rfl)
    · skip
      cases h
      exact x_fr.rf
set_option maxHeartbeats 4000000 in
set_option maxRecDepth 100000 in
theorem fr_Tr_rightIn_49_7 {v2 : Int32} {σ : xS} {r : Int32 × xS} (h : f_Tr_rightIn_49_7 v2 σ = some r) : x_fr [] σ r.2 := by
  unfold f_Tr_rightIn_49_7 at h
  try dsimp only at h
  obtain ⟨q1, q1h, h⟩ := x_bind h
  try dsimp only at h
  have q1f := fr_Sc_faceIn_7 q1h
  obtain ⟨q2, q2h, h⟩ := x_bind h
  try dsimp only at h
  have q2f := fr_Tr_placeIn_49_7 q2h
  obtain ⟨q3, q3h, h⟩ := x_bind h
  try dsimp only at h
  have q3f := fr_Sc_turnOf_7 q3h
  cases h
  exact (x_fr.trans (x_fr.trans (x_fr.trans x_fr.rf (x_fr.su q1f rfl)) (x_fr.su q2f rfl)) (x_fr.su q3f rfl))
set_option maxHeartbeats 4000000 in
set_option maxRecDepth 100000 in
theorem fr_Tr_follow_49_7_L21 {a : Int32 × xS} {o : (Int32 × xS) ⊕ (Int32 × xS)} (h : f_Tr_follow_49_7_L21 a = some o) : x_frO [(17, 99999), (18, 99999), (53, 99999), (54, 99999)] (fun a => a.2) (fun b => b.2) a.2 o := by
  unfold f_Tr_follow_49_7_L21 at h
  try dsimp only at h
  refine x_iteC h (fun h => ?_) (fun h => ?_)
  · skip
    cases h
    exact x_frO.b x_fr.rf
  · skip
    obtain ⟨q1, q1h, h⟩ := x_bind h
    try dsimp only at h
    have q1f := fr_Tr_aim_49_7 q1h
    obtain ⟨-, h⟩ := x_ifn h
    obtain ⟨-, h⟩ := x_ifn h
    obtain ⟨q3, q3h, h⟩ := x_bind h
    try dsimp only at h
    have q3f := fr_RH_within q3h
    obtain ⟨-, h⟩ := x_ifn h
    obtain ⟨q5, q5h, h⟩ := x_bind h
    try dsimp only at h
    have q5f := fr_Tr_rightIn_49_7 q5h
    obtain ⟨-, h⟩ := x_ifn h
    obtain ⟨-, h⟩ := x_ifn h
    cases h
    exact x_frO.a1 (x_frI (p := 54) rfl (x_fr.trans (x_frI (p := 53) rfl (x_fr.trans (x_fr.trans x_fr.rf (x_fr.su q1f rfl)) (x_fr.su q3f rfl))) (x_fr.su q5f rfl)))
set_option maxHeartbeats 4000000 in
set_option maxRecDepth 100000 in
theorem fr_Tr_follow_49_7 {σ : xS} {r : Unit × xS} (h : f_Tr_follow_49_7 σ = some r) : x_fr [(17, 99999), (18, 99999), (53, 99999), (54, 99999)] σ r.2 := by
  unfold f_Tr_follow_49_7 at h
  try dsimp only at h
  obtain ⟨q8, q8h, h⟩ := x_bind h
  try dsimp only at h
  have q8f := fr_Tr_rightIn_49_7 q8h
  obtain ⟨b11, b11h, h⟩ := x_bind h
  try dsimp only at h
  have b11f := x_itF (sA := (fun a => a.2)) (sB := (fun b => b.2)) (fun a o h => fr_Tr_follow_49_7_L21 h) _ _ _ b11h
  cases h
  exact (x_fr.trans (x_frI (p := 54) (k := 0) rfl (x_frI (p := 53) (k := 0) rfl (x_fr.trans x_fr.rf (x_fr.su q8f rfl)))) (x_fr.su b11f rfl))
set_option maxHeartbeats 4000000 in
set_option maxRecDepth 100000 in
theorem fr_Tr_walk_49_7 {σ : xS} {r : Unit × xS} (h : f_Tr_walk_49_7 σ = some r) : x_fr [(17, 99999), (18, 99999), (49, 5), (51, 99999), (52, 99999), (53, 99999), (54, 99999)] σ r.2 := by
  unfold f_Tr_walk_49_7 at h
  try dsimp only at h
  obtain ⟨q1, q1h, h⟩ := x_bind h
  try dsimp only at h
  have q1f := fr_Tr_look_49_7 q1h
  obtain ⟨q2, q2h, h⟩ := x_bind h
  try dsimp only at h
  have q2f := fr_Tr_follow_49_7 q2h
  cases h
  exact (x_fr.trans (x_fr.trans x_fr.rf (x_fr.su q1f rfl)) (x_fr.su q2f rfl))
set_option maxHeartbeats 4000000 in
set_option maxRecDepth 100000 in
theorem fr_RH_walkAsSet_0 {σ : xS} {r : Unit × xS} (h : f_RH_walkAsSet_0 σ = some r) : x_fr [(0, 9), (17, 99999), (18, 99999), (49, 1), (49, 2), (49, 3), (49, 4), (49, 5), (50, 99999), (51, 99999), (52, 99999), (53, 99999), (54, 99999)] σ r.2 := by
  unfold f_RH_walkAsSet_0 at h
  try dsimp only at h
  refine x_iteC h (fun h => ?_) (fun h => ?_)
  · skip
    obtain ⟨q1, q1h, h⟩ := x_bind h
    try dsimp only at h
    have q1f := fr_RH_takeSettings_0 q1h
    obtain ⟨q2, q2h, h⟩ := x_bind h
    try dsimp only at h
    have q2f := fr_Tr_walk_49_7 q2h
    cases h
    exact (x_frI (p := 0) (k := 9) rfl (x_fr.trans (x_fr.trans x_fr.rf (x_fr.su q1f rfl)) (x_fr.su q2f rfl)))
  · skip
    cases h
    exact x_fr.rf
set_option maxHeartbeats 4000000 in
set_option maxRecDepth 100000 in
theorem fr_Tr_isSharp_49 {v1 : Int32} {σ : xS} {r : Int32 × xS} (h : f_Tr_isSharp_49 v1 σ = some r) : x_fr [] σ r.2 := by
  unfold f_Tr_isSharp_49 at h
  try dsimp only at h
  refine x_iteC h (fun h => ?_) (fun h => ?_)
  · skip
    cases h
    exact x_fr.rf
  · skip
    refine x_iteC h (fun h => ?_) (fun h => ?_)
    · skip
      cases h
      exact x_fr.rf
    · skip
      obtain ⟨-, h⟩ := x_ifn h
      refine x_iteC h (fun h => ?_) (fun h => ?_)
      · skip
        cases h
        exact x_fr.rf
      · skip
        cases h
        exact x_fr.rf
set_option maxHeartbeats 4000000 in
set_option maxRecDepth 100000 in
theorem fr_Tr_isShown_49_7 {v2 : Int32} {σ : xS} {r : Int32 × xS} (h : f_Tr_isShown_49_7 v2 σ = some r) : x_fr [(17, 99999), (18, 99999)] σ r.2 := by
  unfold f_Tr_isShown_49_7 at h
  try dsimp only at h
  refine x_iteC h (fun h => ?_) (fun h => ?_)
  · skip
    cases h
    exact x_fr.rf
  · skip
    refine x_iteC h (fun h => ?_) (fun h => ?_)
    · skip
      cases h
      exact x_fr.rf
    · skip
      obtain ⟨q1, q1h, h⟩ := x_bind h
      try dsimp only at h
      have q1f := fr_Tr_isSharp_49 q1h
      refine x_iteC h (fun h => ?_) (fun h => ?_)
      · skip
        obtain ⟨q2, q2h, h⟩ := x_bind h
        try dsimp only at h
        have q2f := fr_Ru_has_13 q2h
        refine x_iteC h (fun h => ?_) (fun h => ?_)
        · skip
          cases h
          exact (x_fr.trans (x_fr.trans x_fr.rf (x_fr.su q1f rfl)) (x_fr.su q2f rfl))
        · skip
          obtain ⟨-, h⟩ := x_ifn h
          obtain ⟨q5, q5h, h⟩ := x_bind h
          try dsimp only at h
          have q5f := fr_Sc_faceIn_7 q5h
          obtain ⟨q6, q6h, h⟩ := x_bind h
          try dsimp only at h
          have q6f := fr_Tr_placeIn_49_7 q6h
          obtain ⟨q8, q8h, h⟩ := x_bind h
          try dsimp only at h
          have q8f := fr_Ru_worth_13 q8h
          refine x_iteC h (fun h => ?_) (fun h => ?_)
          · skip
            cases h
            exact (x_fr.trans (x_frI (p := 18) (k := 0) rfl (x_fr.trans (x_fr.trans (x_frI (p := 18) (k := 2) rfl (x_frI (p := 18) (k := 1) rfl (x_fr.trans (x_fr.trans x_fr.rf (x_fr.su q1f rfl)) (x_fr.su q2f rfl)))) (x_fr.su q5f rfl)) (x_fr.su q6f rfl))) (x_fr.su q8f rfl))
          · skip
            cases h
            exact (x_fr.trans (x_frI (p := 18) (k := 0) rfl (x_fr.trans (x_fr.trans (x_frI (p := 18) (k := 2) rfl (x_frI (p := 18) (k := 1) rfl (x_fr.trans (x_fr.trans x_fr.rf (x_fr.su q1f rfl)) (x_fr.su q2f rfl)))) (x_fr.su q5f rfl)) (x_fr.su q6f rfl))) (x_fr.su q8f rfl))
      · skip
        cases h
        exact (x_fr.trans x_fr.rf (x_fr.su q1f rfl))
set_option maxHeartbeats 4000000 in
set_option maxRecDepth 100000 in
theorem fr_RH_tenth_0 {v1 : Int32} {v2 : Int32} {σ : xS} {r : (Int32 ⊕ Nat) × xS} (h : f_RH_tenth_0 v1 v2 σ = some r) : x_fr [(0, 9), (17, 99999), (18, 99999), (49, 1), (49, 2), (49, 3), (49, 4), (49, 5), (50, 99999), (51, 99999), (52, 99999), (53, 99999), (54, 99999)] σ r.2 := by
  unfold f_RH_tenth_0 at h
  try dsimp only at h
  obtain ⟨q1, q1h, h⟩ := x_bind h
  try dsimp only at h
  have q1f := fr_RH_isTenth_0 q1h
  refine x_iteC h (fun h => ?_) (fun h => ?_)
  · skip
    cases h
    exact (x_fr.trans x_fr.rf (x_fr.su q1f rfl))
  · skip
    refine x_iteC h (fun h => ?_) (fun h => ?_)
    · skip
      cases h
      exact (x_fr.trans x_fr.rf (x_fr.su q1f rfl))
    · skip
      refine x_iteC h (fun h => ?_) (fun h => ?_)
      · skip
        obtain ⟨q2, q2h, h⟩ := x_bind h
        try dsimp only at h
        have q2f := fr_RH_walkAsSet_0 q2h
        refine x_iteC h (fun h => ?_) (fun h => ?_)
        · skip
          obtain ⟨q3, q3h, h⟩ := x_bind h
          try dsimp only at h
          have q3f := fr_Sc_faceIn_7 q3h
          cases h
          exact (x_fr.trans (x_fr.trans (x_fr.trans x_fr.rf (x_fr.su q1f rfl)) (x_fr.su q2f rfl)) (x_fr.su q3f rfl))
        · skip
          refine x_iteC h (fun h => ?_) (fun h => ?_)
          · skip
            obtain ⟨-, h⟩ := x_ifn h
            cases h
            exact (x_fr.trans (x_fr.trans x_fr.rf (x_fr.su q1f rfl)) (x_fr.su q2f rfl))
          · skip
            refine x_iteC h (fun h => ?_) (fun h => ?_)
            · skip
              obtain ⟨-, h⟩ := x_ifn h
              cases h
              exact (x_fr.trans (x_fr.trans x_fr.rf (x_fr.su q1f rfl)) (x_fr.su q2f rfl))
            · skip
              refine x_iteC h (fun h => ?_) (fun h => ?_)
              · skip
                obtain ⟨-, h⟩ := x_ifn h
                cases h
                exact (x_fr.trans (x_fr.trans x_fr.rf (x_fr.su q1f rfl)) (x_fr.su q2f rfl))
              · skip
                refine x_iteC h (fun h => ?_) (fun h => ?_)
                · skip
                  obtain ⟨q4, q4h, h⟩ := x_bind h
                  try dsimp only at h
                  have q4f := fr_Tr_isSharp_49 q4h
                  refine x_iteC h (fun h => ?_) (fun h => ?_)
                  · skip
                    cases h
                    exact (x_fr.trans (x_fr.trans (x_fr.trans x_fr.rf (x_fr.su q1f rfl)) (x_fr.su q2f rfl)) (x_fr.su q4f rfl))
                  · skip
                    cases h
                    exact (x_fr.trans (x_fr.trans (x_fr.trans x_fr.rf (x_fr.su q1f rfl)) (x_fr.su q2f rfl)) (x_fr.su q4f rfl))
                · skip
                  obtain ⟨q5, q5h, h⟩ := x_bind h
                  try dsimp only at h
                  have q5f := fr_Tr_isShown_49_7 q5h
                  refine x_iteC h (fun h => ?_) (fun h => ?_)
                  · skip
                    cases h
                    exact (x_fr.trans (x_fr.trans (x_fr.trans x_fr.rf (x_fr.su q1f rfl)) (x_fr.su q2f rfl)) (x_fr.su q5f rfl))
                  · skip
                    cases h
                    exact (x_fr.trans (x_fr.trans (x_fr.trans x_fr.rf (x_fr.su q1f rfl)) (x_fr.su q2f rfl)) (x_fr.su q5f rfl))
      · skip
        cases h
        exact (x_fr.trans x_fr.rf (x_fr.su q1f rfl))
set_option maxHeartbeats 4000000 in
set_option maxRecDepth 100000 in
theorem fr_Tr_sharpBy_49_L4 {v1 : Int32} {a : Int32 × Int32 × xS} {o : (Int32 × Int32 × xS) ⊕ (Int32 × Int32 × xS)} (h : f_Tr_sharpBy_49_L4 v1 a = some o) : x_frO [] (fun a => a.2.2) (fun b => b.2.2) a.2.2 o := by
  unfold f_Tr_sharpBy_49_L4 at h
  try dsimp only at h
  refine x_iteC h (fun h => ?_) (fun h => ?_)
  · skip
    cases h
    exact x_frO.b x_fr.rf
  · skip
    obtain ⟨-, h⟩ := x_ifn h
    refine x_iteC h (fun h => ?_) (fun h => ?_)
    · skip
      cases h
      exact x_frO.a2 x_fr.rf
    · skip
      cases h
      exact x_frO.a2 x_fr.rf
set_option maxHeartbeats 4000000 in
set_option maxRecDepth 100000 in
theorem fr_Tr_sharpBy_49 {v1 : Int32} {σ : xS} {r : Int32 × xS} (h : f_Tr_sharpBy_49 v1 σ = some r) : x_fr [] σ r.2 := by
  unfold f_Tr_sharpBy_49 at h
  try dsimp only at h
  obtain ⟨b5, b5h, h⟩ := x_bind h
  try dsimp only at h
  have b5f := x_itF (sA := (fun a => a.2.2)) (sB := (fun b => b.2.2)) (fun a o h => fr_Tr_sharpBy_49_L4 h) _ _ _ b5h
  cases h
  exact (x_fr.trans x_fr.rf (x_fr.su b5f rfl))
set_option maxHeartbeats 4000000 in
set_option maxRecDepth 100000 in
theorem fr_RH_sharpAsTried_0 {σ : xS} {r : Int32 × xS} (h : f_RH_sharpAsTried_0 σ = some r) : x_fr [(17, 99999), (18, 99999), (49, 5), (51, 99999), (52, 99999), (53, 99999), (54, 99999)] σ r.2 := by
  unfold f_RH_sharpAsTried_0 at h
  try dsimp only at h
  obtain ⟨q1, q1h, h⟩ := x_bind h
  try dsimp only at h
  have q1f := fr_Tr_walk_49_7 q1h
  obtain ⟨q2, q2h, h⟩ := x_bind h
  try dsimp only at h
  have q2f := fr_Tr_sharpBy_49 q2h
  cases h
  exact (x_fr.trans (x_fr.trans x_fr.rf (x_fr.su q1f rfl)) (x_fr.su q2f rfl))
set_option maxHeartbeats 4000000 in
set_option maxRecDepth 100000 in
theorem fr_Tr_mostOff_49_L4 {a : Int32 × Int32 × xS} {o : (Int32 × Int32 × xS) ⊕ (Int32 × Int32 × xS)} (h : f_Tr_mostOff_49_L4 a = some o) : x_frO [] (fun a => a.2.2) (fun b => b.2.2) a.2.2 o := by
  unfold f_Tr_mostOff_49_L4 at h
  try dsimp only at h
  refine x_iteC h (fun h => ?_) (fun h => ?_)
  · skip
    cases h
    exact x_frO.b x_fr.rf
  · skip
    obtain ⟨-, h⟩ := x_ifn h
    cases h
    exact x_frO.a2 x_fr.rf
set_option maxHeartbeats 4000000 in
set_option maxRecDepth 100000 in
theorem fr_Tr_mostOff_49 {σ : xS} {r : Int32 × xS} (h : f_Tr_mostOff_49 σ = some r) : x_fr [] σ r.2 := by
  unfold f_Tr_mostOff_49 at h
  try dsimp only at h
  obtain ⟨b3, b3h, h⟩ := x_bind h
  try dsimp only at h
  have b3f := x_itF (sA := (fun a => a.2.2)) (sB := (fun b => b.2.2)) (fun a o h => fr_Tr_mostOff_49_L4 h) _ _ _ b3h
  cases h
  exact (x_fr.trans x_fr.rf (x_fr.su b3f rfl))
set_option maxHeartbeats 4000000 in
set_option maxRecDepth 100000 in
theorem fr_Tr_longestSoft_49_L6 {a : Int32 × Int32 × Int32 × xS} {o : (Int32 × Int32 × Int32 × xS) ⊕ (Int32 × Int32 × Int32 × xS)} (h : f_Tr_longestSoft_49_L6 a = some o) : x_frO [] (fun a => a.2.2.2) (fun b => b.2.2.2) a.2.2.2 o := by
  unfold f_Tr_longestSoft_49_L6 at h
  try dsimp only at h
  refine x_iteC h (fun h => ?_) (fun h => ?_)
  · skip
    cases h
    exact x_frO.b x_fr.rf
  · skip
    obtain ⟨q1, q1h, h⟩ := x_bind h
    try dsimp only at h
    have q1f := fr_Tr_isSharp_49 q1h
    refine x_iteC h (fun h => ?_) (fun h => ?_)
    · skip
      cases h
      exact x_frO.a3 (x_fr.trans x_fr.rf (x_fr.su q1f rfl))
    · skip
      cases h
      exact x_frO.a3 (x_fr.trans x_fr.rf (x_fr.su q1f rfl))
set_option maxHeartbeats 4000000 in
set_option maxRecDepth 100000 in
theorem fr_Tr_longestSoft_49 {σ : xS} {r : Int32 × xS} (h : f_Tr_longestSoft_49 σ = some r) : x_fr [] σ r.2 := by
  unfold f_Tr_longestSoft_49 at h
  try dsimp only at h
  obtain ⟨b7, b7h, h⟩ := x_bind h
  try dsimp only at h
  have b7f := x_itF (sA := (fun a => a.2.2.2)) (sB := (fun b => b.2.2.2)) (fun a o h => fr_Tr_longestSoft_49_L6 h) _ _ _ b7h
  cases h
  exact (x_fr.trans x_fr.rf (x_fr.su b7f rfl))
set_option maxHeartbeats 4000000 in
set_option maxRecDepth 100000 in
theorem fr_Tr_firstSoft_49_L2 {a : Int32 × xS} {o : ((Int32 × xS) ⊕ (Int32 × xS)) ⊕ (Int32 × xS)} (h : f_Tr_firstSoft_49_L2 a = some o) : x_frO [] (fun a => a.2) (fun b => match b with | .inl q => q.2 | .inr e => e.2) a.2 o := by
  unfold f_Tr_firstSoft_49_L2 at h
  try dsimp only at h
  refine x_iteC h (fun h => ?_) (fun h => ?_)
  · skip
    cases h
    exact x_frO.b x_fr.rf
  · skip
    obtain ⟨q1, q1h, h⟩ := x_bind h
    try dsimp only at h
    have q1f := fr_Tr_isSharp_49 q1h
    refine x_iteC h (fun h => ?_) (fun h => ?_)
    · skip
      cases h
      exact x_frO.b (x_fr.trans x_fr.rf (x_fr.su q1f rfl))
    · skip
      cases h
      exact x_frO.a1 (x_fr.trans x_fr.rf (x_fr.su q1f rfl))
set_option maxHeartbeats 4000000 in
set_option maxRecDepth 100000 in
theorem fr_Tr_firstSoft_49 {σ : xS} {r : Int32 × xS} (h : f_Tr_firstSoft_49 σ = some r) : x_fr [] σ r.2 := by
  unfold f_Tr_firstSoft_49 at h
  try dsimp only at h
  obtain ⟨b3, b3h, h⟩ := x_bind h
  try dsimp only at h
  have b3f := x_itF (sA := (fun a => a.2)) (sB := (fun b => match b with | .inl q => q.2 | .inr e => e.2)) (fun a o h => fr_Tr_firstSoft_49_L2 h) _ _ _ b3h
  cases b3 with
  | inl b3r =>
    try dsimp only at h
    cases h
    exact (x_fr.trans x_fr.rf (x_fr.su b3f rfl))
  | inr b3e =>
    try dsimp only at h
    cases h
    exact (x_fr.trans x_fr.rf (x_fr.su b3f rfl))
set_option maxHeartbeats 4000000 in
set_option maxRecDepth 100000 in
theorem fr_Tr_swings_49_J46 {v2 : Int32} {v3 : Int32} {y0 : Int32} {y1 : Int32} {σ : xS} {o : (Int32 × Int32 × Int32 × xS) ⊕ (Int32 × Int32 × Int32 × xS)} (h : f_Tr_swings_49_J46 v2 v3 y0 y1 σ = some o) : x_frO [] (fun a => a.2.2.2) (fun b => b.2.2.2) σ o := by
  unfold f_Tr_swings_49_J46 at h
  try dsimp only at h
  obtain ⟨-, h⟩ := x_ifn h
  refine x_iteC h (fun h => ?_) (fun h => ?_)
  · skip
    cases h
    exact x_frO.a3 x_fr.rf
  · skip
    obtain ⟨-, h⟩ := x_ifn h
    cases h
    exact x_frO.a3 x_fr.rf
set_option maxHeartbeats 4000000 in
set_option maxRecDepth 100000 in
theorem fr_Tr_swings_49_J45 {v2 : Int32} {v3 : Int32} {y0 : Int32} {σ : xS} {o : (Int32 × Int32 × Int32 × xS) ⊕ (Int32 × Int32 × Int32 × xS)} (h : f_Tr_swings_49_J45 v2 v3 y0 σ = some o) : x_frO [] (fun a => a.2.2.2) (fun b => b.2.2.2) σ o := by
  unfold f_Tr_swings_49_J45 at h
  try dsimp only at h
  exact x_frO.tr x_fr.rf (x_frO.su (fr_Tr_swings_49_J46 h) rfl)
set_option maxHeartbeats 4000000 in
set_option maxRecDepth 100000 in
theorem fr_Tr_swings_49_J41 {v2 : Int32} {v3 : Int32} {y0 : Int32} {σ : xS} {o : (Int32 × Int32 × Int32 × xS) ⊕ (Int32 × Int32 × Int32 × xS)} (h : f_Tr_swings_49_J41 v2 v3 y0 σ = some o) : x_frO [] (fun a => a.2.2.2) (fun b => b.2.2.2) σ o := by
  unfold f_Tr_swings_49_J41 at h
  try dsimp only at h
  exact x_frO.tr x_fr.rf (x_frO.su (fr_Tr_swings_49_J46 h) rfl)
set_option maxHeartbeats 4000000 in
set_option maxRecDepth 100000 in
theorem fr_Tr_swings_49_J28 {v2 : Int32} {v3 : Int32} {y0 : Int32} {σ : xS} {o : (Int32 × Int32 × Int32 × xS) ⊕ (Int32 × Int32 × Int32 × xS)} (h : f_Tr_swings_49_J28 v2 v3 y0 σ = some o) : x_frO [] (fun a => a.2.2.2) (fun b => b.2.2.2) σ o := by
  unfold f_Tr_swings_49_J28 at h
  try dsimp only at h
  obtain ⟨-, h⟩ := x_ifn h
  refine x_iteC h (fun h => ?_) (fun h => ?_)
  · skip
    exact x_frO.tr x_fr.rf (x_frO.su (fr_Tr_swings_49_J45 h) rfl)
  · skip
    refine x_iteC h (fun h => ?_) (fun h => ?_)
    · skip
      exact x_frO.tr x_fr.rf (x_frO.su (fr_Tr_swings_49_J45 h) rfl)
    · skip
      exact x_frO.tr x_fr.rf (x_frO.su (fr_Tr_swings_49_J41 h) rfl)
set_option maxHeartbeats 4000000 in
set_option maxRecDepth 100000 in
theorem fr_Tr_swings_49_L6 {a : Int32 × Int32 × Int32 × xS} {o : (Int32 × Int32 × Int32 × xS) ⊕ (Int32 × Int32 × Int32 × xS)} (h : f_Tr_swings_49_L6 a = some o) : x_frO [] (fun a => a.2.2.2) (fun b => b.2.2.2) a.2.2.2 o := by
  unfold f_Tr_swings_49_L6 at h
  try dsimp only at h
  refine x_iteC h (fun h => ?_) (fun h => ?_)
  · skip
    cases h
    exact x_frO.b x_fr.rf
  · skip
    obtain ⟨-, h⟩ := x_ifn h
    refine x_iteC h (fun h => ?_) (fun h => ?_)
    · skip
      exact x_frO.tr x_fr.rf (x_frO.su (fr_Tr_swings_49_J28 h) rfl)
    · skip
      refine x_iteC h (fun h => ?_) (fun h => ?_)
      · skip
        exact x_frO.tr x_fr.rf (x_frO.su (fr_Tr_swings_49_J41 h) rfl)
      · skip
        exact x_frO.tr x_fr.rf (x_frO.su (fr_Tr_swings_49_J28 h) rfl)
set_option maxHeartbeats 4000000 in
set_option maxRecDepth 100000 in
theorem fr_Tr_swings_49 {σ : xS} {r : Int32 × xS} (h : f_Tr_swings_49 σ = some r) : x_fr [] σ r.2 := by
  unfold f_Tr_swings_49 at h
  try dsimp only at h
  obtain ⟨b5, b5h, h⟩ := x_bind h
  try dsimp only at h
  have b5f := x_itF (sA := (fun a => a.2.2.2)) (sB := (fun b => b.2.2.2)) (fun a o h => fr_Tr_swings_49_L6 h) _ _ _ b5h
  cases h
  exact (x_fr.trans x_fr.rf (x_fr.su b5f rfl))
set_option maxHeartbeats 4000000 in
set_option maxRecDepth 100000 in
theorem fr_Tr_shown_49_7_L4 {a : Int32 × Int32 × xS} {o : (Int32 × Int32 × xS) ⊕ (Int32 × Int32 × xS)} (h : f_Tr_shown_49_7_L4 a = some o) : x_frO [(17, 99999), (18, 99999)] (fun a => a.2.2) (fun b => b.2.2) a.2.2 o := by
  unfold f_Tr_shown_49_7_L4 at h
  try dsimp only at h
  refine x_iteC h (fun h => ?_) (fun h => ?_)
  · skip
    cases h
    exact x_frO.b x_fr.rf
  · skip
    obtain ⟨q1, q1h, h⟩ := x_bind h
    try dsimp only at h
    have q1f := fr_Tr_isShown_49_7 q1h
    refine x_iteC h (fun h => ?_) (fun h => ?_)
    · skip
      cases h
      exact x_frO.a2 (x_fr.trans x_fr.rf (x_fr.su q1f rfl))
    · skip
      cases h
      exact x_frO.a2 (x_fr.trans x_fr.rf (x_fr.su q1f rfl))
set_option maxHeartbeats 4000000 in
set_option maxRecDepth 100000 in
theorem fr_Tr_shown_49_7 {σ : xS} {r : Int32 × xS} (h : f_Tr_shown_49_7 σ = some r) : x_fr [(17, 99999), (18, 99999)] σ r.2 := by
  unfold f_Tr_shown_49_7 at h
  try dsimp only at h
  obtain ⟨b6, b6h, h⟩ := x_bind h
  try dsimp only at h
  have b6f := x_itF (sA := (fun a => a.2.2)) (sB := (fun b => b.2.2)) (fun a o h => fr_Tr_shown_49_7_L4 h) _ _ _ b6h
  cases h
  exact (x_fr.trans x_fr.rf (x_fr.su b6f rfl))
set_option maxHeartbeats 4000000 in
set_option maxRecDepth 100000 in
theorem fr_Tr_turned_49_L4 {a : Int32 × Int32 × xS} {o : (Int32 × Int32 × xS) ⊕ (Int32 × Int32 × xS)} (h : f_Tr_turned_49_L4 a = some o) : x_frO [] (fun a => a.2.2) (fun b => b.2.2) a.2.2 o := by
  unfold f_Tr_turned_49_L4 at h
  try dsimp only at h
  refine x_iteC h (fun h => ?_) (fun h => ?_)
  · skip
    cases h
    exact x_frO.b x_fr.rf
  · skip
    obtain ⟨-, h⟩ := x_ifn h
    obtain ⟨-, h⟩ := x_ifn h
    cases h
    exact x_frO.a2 x_fr.rf
set_option maxHeartbeats 4000000 in
set_option maxRecDepth 100000 in
theorem fr_Tr_turned_49 {σ : xS} {r : Int32 × xS} (h : f_Tr_turned_49 σ = some r) : x_fr [] σ r.2 := by
  unfold f_Tr_turned_49 at h
  try dsimp only at h
  obtain ⟨b3, b3h, h⟩ := x_bind h
  try dsimp only at h
  have b3f := x_itF (sA := (fun a => a.2.2)) (sB := (fun b => b.2.2)) (fun a o h => fr_Tr_turned_49_L4 h) _ _ _ b3h
  cases h
  exact (x_fr.trans x_fr.rf (x_fr.su b3f rfl))
set_option maxHeartbeats 4000000 in
set_option maxRecDepth 100000 in
theorem fr_RH_all_0 {v1 : Int32} {σ : xS} {r : (Int32 ⊕ Nat) × xS} (h : f_RH_all_0 v1 σ = some r) : x_fr [(0, 9), (17, 99999), (18, 99999), (49, 1), (49, 2), (49, 3), (49, 4), (49, 5), (50, 99999), (51, 99999), (52, 99999), (53, 99999), (54, 99999)] σ r.2 := by
  unfold f_RH_all_0 at h
  try dsimp only at h
  refine x_iteC h (fun h => ?_) (fun h => ?_)
  · skip
    cases h
    exact x_fr.rf
  · skip
    refine x_iteC h (fun h => ?_) (fun h => ?_)
    · skip
      obtain ⟨q1, q1h, h⟩ := x_bind h
      try dsimp only at h
      have q1f := fr_RH_walkAsSet_0 q1h
      refine x_iteC h (fun h => ?_) (fun h => ?_)
      · skip
        obtain ⟨q2, q2h, h⟩ := x_bind h
        try dsimp only at h
        have q2f := fr_Tr_sharpBy_49 q2h
        cases h
        exact (x_fr.trans (x_fr.trans x_fr.rf (x_fr.su q1f rfl)) (x_fr.su q2f rfl))
      · skip
        refine x_iteC h (fun h => ?_) (fun h => ?_)
        · skip
          obtain ⟨q3, q3h, h⟩ := x_bind h
          try dsimp only at h
          have q3f := fr_Tr_mostOff_49 q3h
          cases h
          exact (x_fr.trans (x_fr.trans x_fr.rf (x_fr.su q1f rfl)) (x_fr.su q3f rfl))
        · skip
          refine x_iteC h (fun h => ?_) (fun h => ?_)
          · skip
            obtain ⟨q4, q4h, h⟩ := x_bind h
            try dsimp only at h
            have q4f := fr_Tr_longestSoft_49 q4h
            cases h
            exact (x_fr.trans (x_fr.trans x_fr.rf (x_fr.su q1f rfl)) (x_fr.su q4f rfl))
          · skip
            refine x_iteC h (fun h => ?_) (fun h => ?_)
            · skip
              obtain ⟨q5, q5h, h⟩ := x_bind h
              try dsimp only at h
              have q5f := fr_Tr_firstSoft_49 q5h
              cases h
              exact (x_fr.trans (x_fr.trans x_fr.rf (x_fr.su q1f rfl)) (x_fr.su q5f rfl))
            · skip
              refine x_iteC h (fun h => ?_) (fun h => ?_)
              · skip
                obtain ⟨q6, q6h, h⟩ := x_bind h
                try dsimp only at h
                have q6f := fr_Tr_swings_49 q6h
                cases h
                exact (x_fr.trans (x_fr.trans x_fr.rf (x_fr.su q1f rfl)) (x_fr.su q6f rfl))
              · skip
                refine x_iteC h (fun h => ?_) (fun h => ?_)
                · skip
                  obtain ⟨q7, q7h, h⟩ := x_bind h
                  try dsimp only at h
                  have q7f := fr_Tr_shown_49_7 q7h
                  cases h
                  exact (x_fr.trans (x_fr.trans x_fr.rf (x_fr.su q1f rfl)) (x_fr.su q7f rfl))
                · skip
                  obtain ⟨q8, q8h, h⟩ := x_bind h
                  try dsimp only at h
                  have q8f := fr_Tr_turned_49 q8h
                  cases h
                  exact (x_fr.trans (x_fr.trans x_fr.rf (x_fr.su q1f rfl)) (x_fr.su q8f rfl))
    · skip
      cases h
      exact x_fr.rf
set_option maxHeartbeats 4000000 in
set_option maxRecDepth 100000 in
theorem fr_Se_dropEarliest_35_L2 {a : Int32 × xS} {o : (Int32 × xS) ⊕ (Int32 × xS)} (h : f_Se_dropEarliest_35_L2 a = some o) : x_frO [(37, 99999), (38, 99999)] (fun a => a.2) (fun b => b.2) a.2 o := by
  unfold f_Se_dropEarliest_35_L2 at h
  try dsimp only at h
  refine x_iteC h (fun h => ?_) (fun h => ?_)
  · skip
    cases h
    exact x_frO.b x_fr.rf
  · skip
    obtain ⟨-, h⟩ := x_ifn h
    obtain ⟨-, h⟩ := x_ifn h
    obtain ⟨-, h⟩ := x_ifn h
    obtain ⟨-, h⟩ := x_ifn h
    cases h
    exact x_frO.a1 (x_frI (p := 38) rfl (x_frI (p := 37) rfl x_fr.rf))
set_option maxHeartbeats 4000000 in
set_option maxRecDepth 100000 in
theorem fr_Se_dropEarliest_35 {σ : xS} {r : Unit × xS} (h : f_Se_dropEarliest_35 σ = some r) : x_fr [(35, 3), (37, 99999), (38, 99999)] σ r.2 := by
  unfold f_Se_dropEarliest_35 at h
  try dsimp only at h
  obtain ⟨b4, b4h, h⟩ := x_bind h
  try dsimp only at h
  have b4f := x_itF (sA := (fun a => a.2)) (sB := (fun b => b.2)) (fun a o h => fr_Se_dropEarliest_35_L2 h) _ _ _ b4h
  cases h
  exact (x_frI (p := 35) (k := 3) rfl (x_fr.trans x_fr.rf (x_fr.su b4f rfl)))
set_option maxHeartbeats 4000000 in
set_option maxRecDepth 100000 in
theorem fr_Se_act_35_J25 {v1 : Int32} {v2 : Int32} {σ : xS} {r : Int32 × xS} (h : f_Se_act_35_J25 v1 v2 σ = some r) : x_fr [(35, 3), (36, 99999), (37, 99999), (38, 99999)] σ r.2 := by
  unfold f_Se_act_35_J25 at h
  try dsimp only at h
  obtain ⟨-, h⟩ := x_ifn h
  obtain ⟨-, h⟩ := x_ifn h
  obtain ⟨-, h⟩ := x_ifn h
  obtain ⟨-, h⟩ := x_ifn h
  cases h
  exact (x_frI (p := 36) rfl (x_frI (p := 35) (k := 3) rfl (x_frI (p := 38) rfl (x_frI (p := 37) rfl x_fr.rf))))
set_option maxHeartbeats 4000000 in
set_option maxRecDepth 100000 in
theorem fr_Se_act_35 {v1 : Int32} {v2 : Int32} {σ : xS} {r : Int32 × xS} (h : f_Se_act_35 v1 v2 σ = some r) : x_fr [(35, 3), (36, 99999), (37, 99999), (38, 99999)] σ r.2 := by
  unfold f_Se_act_35 at h
  try dsimp only at h
  refine x_iteC h (fun h => ?_) (fun h => ?_)
  · skip
    cases h
    exact x_fr.rf
  · skip
    refine x_iteC h (fun h => ?_) (fun h => ?_)
    · skip
      refine x_iteC h (fun h => ?_) (fun h => ?_)
      · skip
        exact x_fr.trans x_fr.rf (x_fr.su (fr_Se_act_35_J25 h) rfl)
      · skip
        obtain ⟨q6, q6h, h⟩ := x_bind h
        try dsimp only at h
        have q6f := fr_Se_dropEarliest_35 q6h
        exact x_fr.trans (x_fr.trans x_fr.rf (x_fr.su q6f rfl)) (x_fr.su (fr_Se_act_35_J25 h) rfl)
    · skip
      cases h
      exact x_fr.rf
set_option maxHeartbeats 4000000 in
set_option maxRecDepth 100000 in
theorem fr_RH_set_0 {v1 : Int32} {v2 : Int32} {v3 : Int32} {v4 : Int32} {σ : xS} {r : Int32 × xS} (h : f_RH_set_0 v1 v2 v3 v4 σ = some r) : x_fr [(0, 9), (35, 3), (36, 99999), (37, 99999), (38, 99999), (59, 99999)] σ r.2 := by
  unfold f_RH_set_0 at h
  try dsimp only at h
  refine x_iteC h (fun h => ?_) (fun h => ?_)
  · skip
    cases h
    exact (x_frI (p := 59) (k := 1) rfl x_fr.rf)
  · skip
    obtain ⟨q2, q2h, h⟩ := x_bind h
    try dsimp only at h
    have q2f := fr_Se_act_35 q2h
    cases h
    exact (x_fr.trans (x_frI (p := 0) (k := 9) rfl x_fr.rf) (x_fr.su q2f rfl))
set_option maxHeartbeats 4000000 in
set_option maxRecDepth 100000 in
theorem fr_RH_hole_0 {v1 : Int32} {σ : xS} {r : Int32 × xS} (h : f_RH_hole_0 v1 σ = some r) : x_fr [(0, 9), (35, 3), (36, 99999), (37, 99999), (38, 99999), (59, 99999)] σ r.2 := by
  unfold f_RH_hole_0 at h
  try dsimp only at h
  refine x_iteC h (fun h => ?_) (fun h => ?_)
  · skip
    obtain ⟨q1, q1h, h⟩ := x_bind h
    try dsimp only at h
    have q1f := fr_RH_set_0 q1h
    cases h
    exact (x_fr.trans x_fr.rf (x_fr.su q1f rfl))
  · skip
    refine x_iteC h (fun h => ?_) (fun h => ?_)
    · skip
      obtain ⟨q2, q2h, h⟩ := x_bind h
      try dsimp only at h
      have q2f := fr_RH_set_0 q2h
      cases h
      exact (x_fr.trans x_fr.rf (x_fr.su q2f rfl))
    · skip
      obtain ⟨q3, q3h, h⟩ := x_bind h
      try dsimp only at h
      have q3f := fr_RH_set_0 q3h
      cases h
      exact (x_fr.trans x_fr.rf (x_fr.su q3f rfl))
set_option maxHeartbeats 4000000 in
set_option maxRecDepth 100000 in
theorem fr_RH_lag_0 {v1 : Int32} {σ : xS} {r : Int32 × xS} (h : f_RH_lag_0 v1 σ = some r) : x_fr [(0, 9), (35, 3), (36, 99999), (37, 99999), (38, 99999), (59, 99999)] σ r.2 := by
  unfold f_RH_lag_0 at h
  try dsimp only at h
  refine x_iteC h (fun h => ?_) (fun h => ?_)
  · skip
    obtain ⟨q1, q1h, h⟩ := x_bind h
    try dsimp only at h
    have q1f := fr_RH_set_0 q1h
    cases h
    exact (x_fr.trans x_fr.rf (x_fr.su q1f rfl))
  · skip
    refine x_iteC h (fun h => ?_) (fun h => ?_)
    · skip
      obtain ⟨q2, q2h, h⟩ := x_bind h
      try dsimp only at h
      have q2f := fr_RH_set_0 q2h
      cases h
      exact (x_fr.trans x_fr.rf (x_fr.su q2f rfl))
    · skip
      obtain ⟨q3, q3h, h⟩ := x_bind h
      try dsimp only at h
      have q3f := fr_RH_set_0 q3h
      cases h
      exact (x_fr.trans x_fr.rf (x_fr.su q3f rfl))
set_option maxHeartbeats 4000000 in
set_option maxRecDepth 100000 in
theorem fr_RH_wrist_0 {v1 : Int32} {σ : xS} {r : Int32 × xS} (h : f_RH_wrist_0 v1 σ = some r) : x_fr [(0, 9), (35, 3), (36, 99999), (37, 99999), (38, 99999), (59, 99999)] σ r.2 := by
  unfold f_RH_wrist_0 at h
  try dsimp only at h
  refine x_iteC h (fun h => ?_) (fun h => ?_)
  · skip
    obtain ⟨q1, q1h, h⟩ := x_bind h
    try dsimp only at h
    have q1f := fr_RH_set_0 q1h
    cases h
    exact (x_fr.trans x_fr.rf (x_fr.su q1f rfl))
  · skip
    refine x_iteC h (fun h => ?_) (fun h => ?_)
    · skip
      obtain ⟨q2, q2h, h⟩ := x_bind h
      try dsimp only at h
      have q2f := fr_RH_set_0 q2h
      cases h
      exact (x_fr.trans x_fr.rf (x_fr.su q2f rfl))
    · skip
      obtain ⟨q3, q3h, h⟩ := x_bind h
      try dsimp only at h
      have q3f := fr_RH_set_0 q3h
      cases h
      exact (x_fr.trans x_fr.rf (x_fr.su q3f rfl))
set_option maxHeartbeats 4000000 in
set_option maxRecDepth 100000 in
theorem fr_RH_eye_0 {v1 : Int32} {σ : xS} {r : Int32 × xS} (h : f_RH_eye_0 v1 σ = some r) : x_fr [(0, 9), (35, 3), (36, 99999), (37, 99999), (38, 99999), (59, 99999)] σ r.2 := by
  unfold f_RH_eye_0 at h
  try dsimp only at h
  refine x_iteC h (fun h => ?_) (fun h => ?_)
  · skip
    obtain ⟨q1, q1h, h⟩ := x_bind h
    try dsimp only at h
    have q1f := fr_RH_set_0 q1h
    cases h
    exact (x_fr.trans x_fr.rf (x_fr.su q1f rfl))
  · skip
    refine x_iteC h (fun h => ?_) (fun h => ?_)
    · skip
      obtain ⟨q2, q2h, h⟩ := x_bind h
      try dsimp only at h
      have q2f := fr_RH_set_0 q2h
      cases h
      exact (x_fr.trans x_fr.rf (x_fr.su q2f rfl))
    · skip
      obtain ⟨q3, q3h, h⟩ := x_bind h
      try dsimp only at h
      have q3f := fr_RH_set_0 q3h
      cases h
      exact (x_fr.trans x_fr.rf (x_fr.su q3f rfl))
set_option maxHeartbeats 4000000 in
set_option maxRecDepth 100000 in
theorem fr_RH_hand_0_J24 {v1 : Int32} {σ : xS} {r : Int32 × xS} (h : f_RH_hand_0_J24 v1 σ = some r) : x_fr [(0, 9), (35, 3), (36, 99999), (37, 99999), (38, 99999), (59, 99999)] σ r.2 := by
  unfold f_RH_hand_0_J24 at h
  try dsimp only at h
  obtain ⟨q1, q1h, h⟩ := x_bind h
  try dsimp only at h
  have q1f := fr_RH_set_0 q1h
  cases h
  exact (x_fr.trans x_fr.rf (x_fr.su q1f rfl))
set_option maxHeartbeats 4000000 in
set_option maxRecDepth 100000 in
theorem fr_RH_hand_0_J20 {v1 : Int32} {σ : xS} {r : Int32 × xS} (h : f_RH_hand_0_J20 v1 σ = some r) : x_fr [(0, 9), (35, 3), (36, 99999), (37, 99999), (38, 99999), (59, 99999)] σ r.2 := by
  unfold f_RH_hand_0_J20 at h
  try dsimp only at h
  obtain ⟨q2, q2h, h⟩ := x_bind h
  try dsimp only at h
  have q2f := fr_RH_set_0 q2h
  cases h
  exact (x_fr.trans x_fr.rf (x_fr.su q2f rfl))
set_option maxHeartbeats 4000000 in
set_option maxRecDepth 100000 in
theorem fr_RH_hand_0 {v1 : Int32} {σ : xS} {r : Int32 × xS} (h : f_RH_hand_0 v1 σ = some r) : x_fr [(0, 9), (35, 3), (36, 99999), (37, 99999), (38, 99999), (59, 99999)] σ r.2 := by
  unfold f_RH_hand_0 at h
  try dsimp only at h
  refine x_iteC h (fun h => ?_) (fun h => ?_)
  · skip
    exact x_fr.trans x_fr.rf (x_fr.su (fr_RH_hand_0_J20 h) rfl)
  · skip
    refine x_iteC h (fun h => ?_) (fun h => ?_)
    · skip
      exact x_fr.trans x_fr.rf (x_fr.su (fr_RH_hand_0_J24 h) rfl)
    · skip
      refine x_iteC h (fun h => ?_) (fun h => ?_)
      · skip
        exact x_fr.trans x_fr.rf (x_fr.su (fr_RH_hand_0_J24 h) rfl)
      · skip
        exact x_fr.trans x_fr.rf (x_fr.su (fr_RH_hand_0_J20 h) rfl)
set_option maxHeartbeats 4000000 in
set_option maxRecDepth 100000 in
theorem fr_RH_behind_0 {v1 : Int32} {σ : xS} {r : Int32 × xS} (h : f_RH_behind_0 v1 σ = some r) : x_fr [(0, 9), (35, 3), (36, 99999), (37, 99999), (38, 99999), (59, 99999)] σ r.2 := by
  unfold f_RH_behind_0 at h
  try dsimp only at h
  refine x_iteC h (fun h => ?_) (fun h => ?_)
  · skip
    obtain ⟨q1, q1h, h⟩ := x_bind h
    try dsimp only at h
    have q1f := fr_RH_set_0 q1h
    cases h
    exact (x_fr.trans x_fr.rf (x_fr.su q1f rfl))
  · skip
    refine x_iteC h (fun h => ?_) (fun h => ?_)
    · skip
      obtain ⟨q2, q2h, h⟩ := x_bind h
      try dsimp only at h
      have q2f := fr_RH_set_0 q2h
      cases h
      exact (x_fr.trans x_fr.rf (x_fr.su q2f rfl))
    · skip
      obtain ⟨q3, q3h, h⟩ := x_bind h
      try dsimp only at h
      have q3f := fr_RH_set_0 q3h
      cases h
      exact (x_fr.trans x_fr.rf (x_fr.su q3f rfl))
