/-! Frames. Written by wip/gen/frames.py. -/
set_option maxHeartbeats 4000000 in
set_option maxRecDepth 100000 in
theorem fr_Mo_scene_60 {v1 : Int32} {σ : xS} {r : Int32 × xS} (h : f_Mo_scene_60 v1 σ = some r) : x_fr [(60, 0), (60, 1), (60, 2), (60, 3), (60, 4), (60, 5), (60, 6), (60, 7), (60, 15), (60, 16), (60, 17), (60, 19), (60, 20), (60, 21), (60, 22), (60, 23), (60, 24), (60, 25), (60, 26), (60, 27), (60, 28), (60, 29), (60, 30), (60, 31), (60, 32), (60, 33), (60, 34), (60, 35), (60, 37), (60, 38), (60, 39), (60, 40), (60, 41), (60, 42), (60, 56), (60, 68), (60, 74), (60, 76), (60, 78), (61, 99999), (62, 99999), (63, 99999), (64, 99999), (65, 99999), (66, 99999), (68, 99999), (69, 99999), (70, 99999), (71, 99999), (72, 99999), (73, 99999), (74, 99999), (75, 99999), (76, 99999), (77, 99999), (78, 99999), (79, 99999)] σ r.2 := by
  unfold f_Mo_scene_60 at h
  try dsimp only at h
  refine x_iteC h (fun h => ?_) (fun h => ?_)
  · skip
    exact x_fr.trans (x_frI (p := 60) (k := 0) rfl x_fr.rf) (x_fr.su (fr_Mo_scene_60_J22 h) rfl)
  · skip
    refine x_iteC h (fun h => ?_) (fun h => ?_)
    · skip
      exact x_fr.trans (x_frI (p := 60) (k := 0) rfl x_fr.rf) (x_fr.su (fr_Mo_scene_60_J22 h) rfl)
    · skip
      exact x_fr.trans (x_frI (p := 60) (k := 0) rfl x_fr.rf) (x_fr.su (fr_Mo_scene_60_J23 h) rfl)
set_option maxHeartbeats 4000000 in
set_option maxRecDepth 100000 in
theorem fr_Mo_fault_60 {σ : xS} {r : Int32 × xS} (h : f_Mo_fault_60 σ = some r) : x_fr [(60, 0)] σ r.2 := by
  unfold f_Mo_fault_60 at h
  try dsimp only at h
  cases h
  exact (x_frI (p := 60) (k := 0) rfl x_fr.rf)
set_option maxHeartbeats 4000000 in
set_option maxRecDepth 100000 in
theorem fr_Mo_refuses_60 {v1 : Int32} {v2 : Int32} {σ : xS} {r : Int32 × xS} (h : f_Mo_refuses_60 v1 v2 σ = some r) : x_fr [(68, 99999)] σ r.2 := by
  unfold f_Mo_refuses_60 at h
  try dsimp only at h
  obtain ⟨-, h⟩ := x_ifn h
  obtain ⟨-, h⟩ := x_ifn h
  cases h
  exact (x_frI (p := 68) rfl x_fr.rf)
set_option maxHeartbeats 4000000 in
set_option maxRecDepth 100000 in
theorem fr_Mo_becomes_60_L11 {v1 : Int32} {v2 : Int32} {a : Int32 × xS} {o : (Int32 × xS) ⊕ (Int32 × xS)} (h : f_Mo_becomes_60_L11 v1 v2 a = some o) : x_frO [(81, 99999)] (fun a => a.2) (fun b => b.2) a.2 o := by
  unfold f_Mo_becomes_60_L11 at h
  try dsimp only at h
  refine x_iteC h (fun h => ?_) (fun h => ?_)
  · skip
    cases h
    exact x_frO.b x_fr.rf
  · skip
    obtain ⟨-, h⟩ := x_ifn h
    obtain ⟨-, h⟩ := x_ifn h
    cases h
    exact x_frO.a1 (x_frI (p := 81) rfl x_fr.rf)
set_option maxHeartbeats 4000000 in
set_option maxRecDepth 100000 in
theorem fr_Mo_becomes_60_J47 {v1 : Int32} {v2 : Int32} {σ : xS} {r : Int32 × xS} (h : f_Mo_becomes_60_J47 v1 v2 σ = some r) : x_fr [(60, 56), (79, 99999), (81, 99999)] σ r.2 := by
  unfold f_Mo_becomes_60_J47 at h
  try dsimp only at h
  obtain ⟨-, h⟩ := x_ifn h
  obtain ⟨-, h⟩ := x_ifn h
  obtain ⟨-, h⟩ := x_ifn h
  obtain ⟨-, h⟩ := x_ifn h
  cases h
  exact (x_frI (p := 79) rfl (x_frI (p := 60) (k := 56) rfl (x_frI (p := 81) rfl (x_frI (p := 81) rfl x_fr.rf))))
set_option maxHeartbeats 4000000 in
set_option maxRecDepth 100000 in
theorem fr_Mo_becomes_60 {v1 : Int32} {v2 : Int32} {σ : xS} {r : Int32 × xS} (h : f_Mo_becomes_60 v1 v2 σ = some r) : x_fr [(60, 56), (79, 99999), (81, 99999)] σ r.2 := by
  unfold f_Mo_becomes_60 at h
  try dsimp only at h
  refine x_iteC h (fun h => ?_) (fun h => ?_)
  · skip
    obtain ⟨b8, b8h, h⟩ := x_bind h
    try dsimp only at h
    have b8f := x_itF (sA := (fun a => a.2)) (sB := (fun b => b.2)) (fun a o h => fr_Mo_becomes_60_L11 h) _ _ _ b8h
    exact x_fr.trans (x_frI (p := 60) (k := 56) rfl (x_fr.trans x_fr.rf (x_fr.su b8f rfl))) (x_fr.su (fr_Mo_becomes_60_J47 h) rfl)
  · skip
    exact x_fr.trans x_fr.rf (x_fr.su (fr_Mo_becomes_60_J47 h) rfl)
set_option maxHeartbeats 4000000 in
set_option maxRecDepth 100000 in
theorem fr_Mo_undo_60 {σ : xS} {r : Int32 × xS} (h : f_Mo_undo_60 σ = some r) : x_fr [(60, 0), (60, 56), (79, 99999)] σ r.2 := by
  unfold f_Mo_undo_60 at h
  try dsimp only at h
  refine x_iteC h (fun h => ?_) (fun h => ?_)
  · skip
    cases h
    exact (x_frI (p := 60) (k := 0) rfl x_fr.rf)
  · skip
    obtain ⟨-, h⟩ := x_ifn h
    obtain ⟨-, h⟩ := x_ifn h
    obtain ⟨-, h⟩ := x_ifn h
    cases h
    exact (x_frI (p := 79) rfl (x_frI (p := 60) (k := 56) rfl (x_frI (p := 60) (k := 0) rfl x_fr.rf)))
set_option maxHeartbeats 4000000 in
set_option maxRecDepth 100000 in
theorem fr_Mo_works {v0 : Int32} {v1 : Int32} {v2 : Int32} {σ : xS} {r : Int32 × xS} (h : f_Mo_works v0 v1 v2 σ = some r) : x_fr [] σ r.2 := by
  unfold f_Mo_works at h
  try dsimp only at h
  refine x_iteC h (fun h => ?_) (fun h => ?_)
  · skip
    refine x_iteC h (fun h => ?_) (fun h => ?_)
    · skip
      cases h
      exact x_fr.rf
    · skip
      refine x_iteC h (fun h => ?_) (fun h => ?_)
      · skip
        cases h
        exact x_fr.rf
      · skip
        cases h
        exact x_fr.rf
  · skip
    refine x_iteC h (fun h => ?_) (fun h => ?_)
    · skip
      refine x_iteC h (fun h => ?_) (fun h => ?_)
      · skip
        refine x_iteC h (fun h => ?_) (fun h => ?_)
        · skip
          cases h
          exact x_fr.rf
        · skip
          cases h
          exact x_fr.rf
      · skip
        cases h
        exact x_fr.rf
    · skip
      refine x_iteC h (fun h => ?_) (fun h => ?_)
      · skip
        refine x_iteC h (fun h => ?_) (fun h => ?_)
        · skip
          cases h
          exact x_fr.rf
        · skip
          cases h
          exact x_fr.rf
      · skip
        refine x_iteC h (fun h => ?_) (fun h => ?_)
        · skip
          refine x_iteC h (fun h => ?_) (fun h => ?_)
          · skip
            cases h
            exact x_fr.rf
          · skip
            cases h
            exact x_fr.rf
        · skip
          refine x_iteC h (fun h => ?_) (fun h => ?_)
          · skip
            cases h
            exact x_fr.rf
          · skip
            refine x_iteC h (fun h => ?_) (fun h => ?_)
            · skip
              cases h
              exact x_fr.rf
            · skip
              refine x_iteC h (fun h => ?_) (fun h => ?_)
              · skip
                cases h
                exact x_fr.rf
              · skip
                refine x_iteC h (fun h => ?_) (fun h => ?_)
                · skip
                  cases h
                  exact x_fr.rf
                · skip
                  obtain ⟨-, h⟩ := x_ifn h
                  cases h
                  exact x_fr.rf
set_option maxHeartbeats 4000000 in
set_option maxRecDepth 100000 in
theorem fr_Mo_reckons_60_J36 {v2 : Int32} {v3 : Int32} {v4 : Int32} {σ : xS} {o : (Int32 × Int32 × xS) ⊕ (Int32 × Int32 × xS)} (h : f_Mo_reckons_60_J36 v2 v3 v4 σ = some o) : x_frO [(83, 99999)] (fun a => a.2.2) (fun b => b.2.2) σ o := by
  unfold f_Mo_reckons_60_J36 at h
  try dsimp only at h
  refine x_iteC h (fun h => ?_) (fun h => ?_)
  · skip
    obtain ⟨-, h⟩ := x_ifn h
    obtain ⟨-, h⟩ := x_ifn h
    cases h
    exact x_frO.a2 (x_frI (p := 83) rfl x_fr.rf)
  · skip
    obtain ⟨-, h⟩ := x_ifn h
    obtain ⟨-, h⟩ := x_ifn h
    obtain ⟨-, h⟩ := x_ifn h
    cases h
    exact x_frO.a2 (x_frI (p := 83) rfl x_fr.rf)
set_option maxHeartbeats 4000000 in
set_option maxRecDepth 100000 in
theorem fr_Mo_reckons_60_L4 {a : Int32 × Int32 × xS} {o : (Int32 × Int32 × xS) ⊕ (Int32 × Int32 × xS)} (h : f_Mo_reckons_60_L4 a = some o) : x_frO [(83, 99999)] (fun a => a.2.2) (fun b => b.2.2) a.2.2 o := by
  unfold f_Mo_reckons_60_L4 at h
  try dsimp only at h
  obtain ⟨-, h⟩ := x_ifn h
  refine x_iteC h (fun h => ?_) (fun h => ?_)
  · skip
    cases h
    exact x_frO.b x_fr.rf
  · skip
    obtain ⟨-, h⟩ := x_ifn h
    refine x_iteC h (fun h => ?_) (fun h => ?_)
    · skip
      exact x_frO.tr x_fr.rf (x_frO.su (fr_Mo_reckons_60_J36 h) rfl)
    · skip
      refine x_iteC h (fun h => ?_) (fun h => ?_)
      · skip
        exact x_frO.tr x_fr.rf (x_frO.su (fr_Mo_reckons_60_J36 h) rfl)
      · skip
        refine x_iteC h (fun h => ?_) (fun h => ?_)
        · skip
          obtain ⟨-, h⟩ := x_ifn h
          refine x_iteC h (fun h => ?_) (fun h => ?_)
          · skip
            obtain ⟨-, h⟩ := x_ifn h
            cases h
            exact x_frO.a2 (x_frI (p := 83) rfl x_fr.rf)
          · skip
            obtain ⟨-, h⟩ := x_ifn h
            cases h
            exact x_frO.a2 (x_frI (p := 83) rfl x_fr.rf)
        · skip
          obtain ⟨-, h⟩ := x_ifn h
          obtain ⟨-, h⟩ := x_ifn h
          obtain ⟨q10, q10h, h⟩ := x_bind h
          try dsimp only at h
          have q10f := fr_Mo_works q10h
          obtain ⟨-, h⟩ := x_ifn h
          cases h
          exact x_frO.a2 (x_frI (p := 83) rfl (x_fr.trans x_fr.rf (x_fr.su q10f rfl)))
set_option maxHeartbeats 4000000 in
set_option maxRecDepth 100000 in
theorem fr_Mo_reckons_60 {v1 : Int32} {σ : xS} {r : Int32 × xS} (h : f_Mo_reckons_60 v1 σ = some r) : x_fr [(83, 99999)] σ r.2 := by
  unfold f_Mo_reckons_60 at h
  try dsimp only at h
  obtain ⟨b14, b14h, h⟩ := x_bind h
  try dsimp only at h
  have b14f := x_itF (sA := (fun a => a.2.2)) (sB := (fun b => b.2.2)) (fun a o h => fr_Mo_reckons_60_L4 h) _ _ _ b14h
  cases h
  exact (x_fr.trans x_fr.rf (x_fr.su b14f rfl))
set_option maxHeartbeats 4000000 in
set_option maxRecDepth 100000 in
theorem fr_Mo_last_60_L4 {a : Int32 × Int32 × xS} {o : (Int32 × Int32 × xS) ⊕ (Int32 × Int32 × xS)} (h : f_Mo_last_60_L4 a = some o) : x_frO [] (fun a => a.2.2) (fun b => b.2.2) a.2.2 o := by
  unfold f_Mo_last_60_L4 at h
  try dsimp only at h
  refine x_iteC h (fun h => ?_) (fun h => ?_)
  · skip
    cases h
    exact x_frO.b x_fr.rf
  · skip
    obtain ⟨-, h⟩ := x_ifn h
    cases h
    exact x_frO.a2 x_fr.rf
set_option maxHeartbeats 4000000 in
set_option maxRecDepth 100000 in
theorem fr_Mo_last_60 {σ : xS} {r : Int32 × xS} (h : f_Mo_last_60 σ = some r) : x_fr [] σ r.2 := by
  unfold f_Mo_last_60 at h
  try dsimp only at h
  obtain ⟨b3, b3h, h⟩ := x_bind h
  try dsimp only at h
  have b3f := x_itF (sA := (fun a => a.2.2)) (sB := (fun b => b.2.2)) (fun a o h => fr_Mo_last_60_L4 h) _ _ _ b3h
  cases h
  exact (x_fr.trans x_fr.rf (x_fr.su b3f rfl))
set_option maxHeartbeats 4000000 in
set_option maxRecDepth 100000 in
theorem fr_Mo_herIn_60_L10 {a : Int32 × Int32 × Int32 × xS} {o : ((Int32 × xS) ⊕ (Int32 × Int32 × Int32 × xS)) ⊕ (Int32 × Int32 × Int32 × xS)} (h : f_Mo_herIn_60_L10 a = some o) : x_frO [] (fun a => a.2.2.2) (fun b => match b with | .inl q => q.2 | .inr e => e.2.2.2) a.2.2.2 o := by
  unfold f_Mo_herIn_60_L10 at h
  try dsimp only at h
  refine x_iteC h (fun h => ?_) (fun h => ?_)
  · skip
    cases h
    exact x_frO.b x_fr.rf
  · skip
    obtain ⟨-, h⟩ := x_ifn h
    refine x_iteC h (fun h => ?_) (fun h => ?_)
    · skip
      obtain ⟨-, h⟩ := x_ifn h
      obtain ⟨-, h⟩ := x_ifn h
      cases h
      exact x_frO.a3 x_fr.rf
    · skip
      obtain ⟨-, h⟩ := x_ifn h
      obtain ⟨-, h⟩ := x_ifn h
      obtain ⟨-, h⟩ := x_ifn h
      cases h
      exact x_frO.b x_fr.rf
set_option maxHeartbeats 4000000 in
set_option maxRecDepth 100000 in
theorem fr_Mo_herIn_60 {v1 : Int32} {σ : xS} {r : Int32 × xS} (h : f_Mo_herIn_60 v1 σ = some r) : x_fr [] σ r.2 := by
  unfold f_Mo_herIn_60 at h
  try dsimp only at h
  obtain ⟨b5, b5h, h⟩ := x_bind h
  try dsimp only at h
  have b5f := x_itF (sA := (fun a => a.2.2.2)) (sB := (fun b => match b with | .inl q => q.2 | .inr e => e.2.2.2)) (fun a o h => fr_Mo_herIn_60_L10 h) _ _ _ b5h
  cases b5 with
  | inl b5r =>
    try dsimp only at h
    cases h
    exact (x_fr.trans x_fr.rf (x_fr.su b5f rfl))
  | inr b5e =>
    try dsimp only at h
    cases h
    exact (x_fr.trans x_fr.rf (x_fr.su b5f rfl))
set_option maxHeartbeats 4000000 in
set_option maxRecDepth 100000 in
theorem fr_Mo_inchesOf_60_J19 {v2 : Int32} {y1 : Int32} {σ : xS} {r : Int32 × xS} (h : f_Mo_inchesOf_60_J19 v2 y1 σ = some r) : x_fr [] σ r.2 := by
  unfold f_Mo_inchesOf_60_J19 at h
  try dsimp only at h
  obtain ⟨q1, q1h, h⟩ := x_bind h
  try dsimp only at h
  have q1f := fr_Mo_herIn_60 q1h
  refine x_iteC h (fun h => ?_) (fun h => ?_)
  · skip
    cases h
    exact (x_fr.trans x_fr.rf (x_fr.su q1f rfl))
  · skip
    refine x_iteC h (fun h => ?_) (fun h => ?_)
    · skip
      cases h
      exact (x_fr.trans x_fr.rf (x_fr.su q1f rfl))
    · skip
      cases h
      exact (x_fr.trans x_fr.rf (x_fr.su q1f rfl))
set_option maxHeartbeats 4000000 in
set_option maxRecDepth 100000 in
theorem fr_Mo_inchesOf_60 {v1 : Int32} {v2 : Int32} {σ : xS} {r : Int32 × xS} (h : f_Mo_inchesOf_60 v1 v2 σ = some r) : x_fr [] σ r.2 := by
  unfold f_Mo_inchesOf_60 at h
  try dsimp only at h
  refine x_iteC h (fun h => ?_) (fun h => ?_)
  · skip
    exact x_fr.trans x_fr.rf (x_fr.su (fr_Mo_inchesOf_60_J19 h) rfl)
  · skip
    exact x_fr.trans x_fr.rf (x_fr.su (fr_Mo_inchesOf_60_J19 h) rfl)
set_option maxHeartbeats 4000000 in
set_option maxRecDepth 100000 in
theorem fr_Mo_whoseBy_60_L5 {v1 : Int32} {v2 : Int32} {a : Int32 × Int32 × xS} {o : (Int32 × Int32 × xS) ⊕ (Int32 × Int32 × xS)} (h : f_Mo_whoseBy_60_L5 v1 v2 a = some o) : x_frO [] (fun a => a.2.2) (fun b => b.2.2) a.2.2 o := by
  unfold f_Mo_whoseBy_60_L5 at h
  try dsimp only at h
  refine x_iteC h (fun h => ?_) (fun h => ?_)
  · skip
    cases h
    exact x_frO.b x_fr.rf
  · skip
    obtain ⟨-, h⟩ := x_ifn h
    refine x_iteC h (fun h => ?_) (fun h => ?_)
    · skip
      cases h
      exact x_frO.a2 x_fr.rf
    · skip
      obtain ⟨-, h⟩ := x_ifn h
      cases h
      exact x_frO.a2 x_fr.rf
set_option maxHeartbeats 4000000 in
set_option maxRecDepth 100000 in
theorem fr_Mo_whoseBy_60 {v1 : Int32} {v2 : Int32} {σ : xS} {r : Int32 × xS} (h : f_Mo_whoseBy_60 v1 v2 σ = some r) : x_fr [] σ r.2 := by
  unfold f_Mo_whoseBy_60 at h
  try dsimp only at h
  obtain ⟨b4, b4h, h⟩ := x_bind h
  try dsimp only at h
  have b4f := x_itF (sA := (fun a => a.2.2)) (sB := (fun b => b.2.2)) (fun a o h => fr_Mo_whoseBy_60_L5 h) _ _ _ b4h
  cases h
  exact (x_fr.trans x_fr.rf (x_fr.su b4f rfl))
set_option maxHeartbeats 4000000 in
set_option maxRecDepth 100000 in
theorem fr_Mo_whoseIn_60 {v1 : Int32} {σ : xS} {r : Int32 × xS} (h : f_Mo_whoseIn_60 v1 σ = some r) : x_fr [] σ r.2 := by
  unfold f_Mo_whoseIn_60 at h
  try dsimp only at h
  obtain ⟨q1, q1h, h⟩ := x_bind h
  try dsimp only at h
  have q1f := fr_Mo_whoseBy_60 q1h
  cases h
  exact (x_fr.trans x_fr.rf (x_fr.su q1f rfl))
set_option maxHeartbeats 4000000 in
set_option maxRecDepth 100000 in
theorem fr_Mo_turnOf_60 {v1 : Int32} {σ : xS} {r : Int32 × xS} (h : f_Mo_turnOf_60 v1 σ = some r) : x_fr [(82, 99999), (83, 99999)] σ r.2 := by
  unfold f_Mo_turnOf_60 at h
  try dsimp only at h
  refine x_iteC h (fun h => ?_) (fun h => ?_)
  · skip
    obtain ⟨-, h⟩ := x_ifn h
    cases h
    exact x_fr.rf
  · skip
    obtain ⟨q2, q2h, h⟩ := x_bind h
    try dsimp only at h
    have q2f := fr_Mo_reckons_60 q2h
    obtain ⟨q3, q3h, h⟩ := x_bind h
    try dsimp only at h
    have q3f := fr_Mo_bounded q3h
    cases h
    exact (x_fr.trans (x_fr.trans (x_frI (p := 82) (k := 5) rfl x_fr.rf) (x_fr.su q2f rfl)) (x_fr.su q3f rfl))
set_option maxHeartbeats 4000000 in
set_option maxRecDepth 100000 in
theorem fr_Mo_isByMark_60_L2 {v1 : Int32} {a : Int32 × xS} {o : ((Int32 × xS) ⊕ (Int32 × xS)) ⊕ (Int32 × xS)} (h : f_Mo_isByMark_60_L2 v1 a = some o) : x_frO [] (fun a => a.2) (fun b => match b with | .inl q => q.2 | .inr e => e.2) a.2 o := by
  unfold f_Mo_isByMark_60_L2 at h
  try dsimp only at h
  refine x_iteC h (fun h => ?_) (fun h => ?_)
  · skip
    cases h
    exact x_frO.b x_fr.rf
  · skip
    obtain ⟨-, h⟩ := x_ifn h
    obtain ⟨q1, q1h, h⟩ := x_bind h
    try dsimp only at h
    have q1f := fr_Mo_off q1h
    refine x_iteC h (fun h => ?_) (fun h => ?_)
    · skip
      cases h
      exact x_frO.a1 (x_fr.trans x_fr.rf (x_fr.su q1f rfl))
    · skip
      cases h
      exact x_frO.b (x_fr.trans x_fr.rf (x_fr.su q1f rfl))
set_option maxHeartbeats 4000000 in
set_option maxRecDepth 100000 in
theorem fr_Mo_isByMark_60 {v1 : Int32} {σ : xS} {r : Int32 × xS} (h : f_Mo_isByMark_60 v1 σ = some r) : x_fr [] σ r.2 := by
  unfold f_Mo_isByMark_60 at h
  try dsimp only at h
  obtain ⟨b3, b3h, h⟩ := x_bind h
  try dsimp only at h
  have b3f := x_itF (sA := (fun a => a.2)) (sB := (fun b => match b with | .inl q => q.2 | .inr e => e.2)) (fun a o h => fr_Mo_isByMark_60_L2 h) _ _ _ b3h
  cases b3 with
  | inl b3r =>
    try dsimp only at h
    cases h
    exact (x_fr.trans x_fr.rf (x_fr.su b3f rfl))
  | inr b3e =>
    try dsimp only at h
    cases h
    exact (x_fr.trans x_fr.rf (x_fr.su b3f rfl))
set_option maxHeartbeats 4000000 in
set_option maxRecDepth 100000 in
theorem fr_Mo_judged_60 {v1 : Int32} {σ : xS} {r : Int32 × xS} (h : f_Mo_judged_60 v1 σ = some r) : x_fr [] σ r.2 := by
  unfold f_Mo_judged_60 at h
  try dsimp only at h
  obtain ⟨q1, q1h, h⟩ := x_bind h
  try dsimp only at h
  have q1f := fr_Mo_isByMark_60 q1h
  refine x_iteC h (fun h => ?_) (fun h => ?_)
  · skip
    obtain ⟨q2, q2h, h⟩ := x_bind h
    try dsimp only at h
    have q2f := fr_Mo_bounded q2h
    cases h
    exact (x_fr.trans (x_fr.trans x_fr.rf (x_fr.su q1f rfl)) (x_fr.su q2f rfl))
  · skip
    cases h
    exact (x_fr.trans x_fr.rf (x_fr.su q1f rfl))
set_option maxHeartbeats 4000000 in
set_option maxRecDepth 100000 in
theorem fr_Mo_sawAt_60 {v1 : Int32} {σ : xS} {r : Int32 × xS} (h : f_Mo_sawAt_60 v1 σ = some r) : x_fr [] σ r.2 := by
  unfold f_Mo_sawAt_60 at h
  try dsimp only at h
  refine x_iteC h (fun h => ?_) (fun h => ?_)
  · skip
    obtain ⟨q1, q1h, h⟩ := x_bind h
    try dsimp only at h
    have q1f := fr_Mo_whoseBy_60 q1h
    obtain ⟨q2, q2h, h⟩ := x_bind h
    try dsimp only at h
    have q2f := fr_Mo_inchesOf_60 q2h
    cases h
    exact (x_fr.trans (x_fr.trans x_fr.rf (x_fr.su q1f rfl)) (x_fr.su q2f rfl))
  · skip
    obtain ⟨q3, q3h, h⟩ := x_bind h
    try dsimp only at h
    have q3f := fr_Mo_whoseBy_60 q3h
    obtain ⟨q4, q4h, h⟩ := x_bind h
    try dsimp only at h
    have q4f := fr_Mo_inchesOf_60 q4h
    cases h
    exact (x_fr.trans (x_fr.trans x_fr.rf (x_fr.su q3f rfl)) (x_fr.su q4f rfl))
set_option maxHeartbeats 4000000 in
set_option maxRecDepth 100000 in
theorem fr_Mo_shouldBe_60_J111 {y1 : Int32} {y2 : Int32} {σ : xS} {r : Int32 × xS} (h : f_Mo_shouldBe_60_J111 y1 y2 σ = some r) : x_fr [(82, 99999), (83, 99999)] σ r.2 := by
  unfold f_Mo_shouldBe_60_J111 at h
  try dsimp only at h
  obtain ⟨-, h⟩ := x_ifn h
  obtain ⟨-, h⟩ := x_ifn h
  obtain ⟨q2, q2h, h⟩ := x_bind h
  try dsimp only at h
  have q2f := fr_Mo_reckons_60 q2h
  obtain ⟨q3, q3h, h⟩ := x_bind h
  try dsimp only at h
  have q3f := fr_Mo_bounded q3h
  cases h
  exact (x_fr.trans (x_fr.trans (x_frI (p := 82) rfl x_fr.rf) (x_fr.su q2f rfl)) (x_fr.su q3f rfl))
set_option maxHeartbeats 4000000 in
set_option maxRecDepth 100000 in
theorem fr_Mo_shouldBe_60 {v1 : Int32} {σ : xS} {r : Int32 × xS} (h : f_Mo_shouldBe_60 v1 σ = some r) : x_fr [(82, 99999), (83, 99999)] σ r.2 := by
  unfold f_Mo_shouldBe_60 at h
  try dsimp only at h
  obtain ⟨-, h⟩ := x_ifn h
  obtain ⟨-, h⟩ := x_ifn h
  obtain ⟨-, h⟩ := x_ifn h
  obtain ⟨q4, q4h, h⟩ := x_bind h
  try dsimp only at h
  have q4f := fr_Mo_bounded q4h
  refine x_iteC h (fun h => ?_) (fun h => ?_)
  · skip
    cases h
    exact (x_fr.trans x_fr.rf (x_fr.su q4f rfl))
  · skip
    obtain ⟨-, h⟩ := x_ifn h
    obtain ⟨-, h⟩ := x_ifn h
    obtain ⟨q10, q10h, h⟩ := x_bind h
    try dsimp only at h
    have q10f := fr_Mo_sawAt_60 q10h
    obtain ⟨q11, q11h, h⟩ := x_bind h
    try dsimp only at h
    have q11f := fr_Mo_isByMark_60 q11h
    refine x_iteC h (fun h => ?_) (fun h => ?_)
    · skip
      exact x_fr.trans (x_fr.trans (x_fr.trans (x_frI (p := 82) (k := 3) rfl (x_frI (p := 82) (k := 2) rfl (x_frI (p := 82) (k := 1) rfl (x_frI (p := 82) (k := 0) rfl (x_fr.trans x_fr.rf (x_fr.su q4f rfl)))))) (x_fr.su q10f rfl)) (x_fr.su q11f rfl)) (x_fr.su (fr_Mo_shouldBe_60_J111 h) rfl)
    · skip
      exact x_fr.trans (x_fr.trans (x_fr.trans (x_frI (p := 82) (k := 3) rfl (x_frI (p := 82) (k := 2) rfl (x_frI (p := 82) (k := 1) rfl (x_frI (p := 82) (k := 0) rfl (x_fr.trans x_fr.rf (x_fr.su q4f rfl)))))) (x_fr.su q10f rfl)) (x_fr.su q11f rfl)) (x_fr.su (fr_Mo_shouldBe_60_J111 h) rfl)
set_option maxHeartbeats 4000000 in
set_option maxRecDepth 100000 in
theorem fr_Mo_goesThrough_60_J110 {v1 : Int32} {v2 : Int32} {v3 : Int32} {σ : xS} {o : (Int32 × xS) ⊕ (Int32 × xS)} (h : f_Mo_goesThrough_60_J110 v1 v2 v3 σ = some o) : x_frO [(86, 99999)] (fun a => a.2) (fun b => b.2) σ o := by
  unfold f_Mo_goesThrough_60_J110 at h
  try dsimp only at h
  obtain ⟨-, h⟩ := x_ifn h
  obtain ⟨-, h⟩ := x_ifn h
  cases h
  exact x_frO.a1 (x_frI (p := 86) rfl x_fr.rf)
set_option maxHeartbeats 4000000 in
set_option maxRecDepth 100000 in
theorem fr_Mo_goesThrough_60_L7 {v1 : Int32} {a : Int32 × xS} {o : (Int32 × xS) ⊕ (Int32 × xS)} (h : f_Mo_goesThrough_60_L7 v1 a = some o) : x_frO [(82, 99999), (83, 99999), (84, 99999), (85, 99999), (86, 99999)] (fun a => a.2) (fun b => b.2) a.2 o := by
  unfold f_Mo_goesThrough_60_L7 at h
  try dsimp only at h
  refine x_iteC h (fun h => ?_) (fun h => ?_)
  · skip
    cases h
    exact x_frO.b x_fr.rf
  · skip
    obtain ⟨q3, q3h, h⟩ := x_bind h
    try dsimp only at h
    have q3f := fr_Mo_sawAt_60 q3h
    obtain ⟨q4, q4h, h⟩ := x_bind h
    try dsimp only at h
    have q4f := fr_Mo_judged_60 q4h
    obtain ⟨q5, q5h, h⟩ := x_bind h
    try dsimp only at h
    have q5f := fr_Mo_turnOf_60 q5h
    obtain ⟨-, h⟩ := x_ifn h
    obtain ⟨q7, q7h, h⟩ := x_bind h
    try dsimp only at h
    have q7f := fr_Mo_whoseIn_60 q7h
    obtain ⟨q8, q8h, h⟩ := x_bind h
    try dsimp only at h
    have q8f := fr_Mo_inchesOf_60 q8h
    obtain ⟨q9, q9h, h⟩ := x_bind h
    try dsimp only at h
    have q9f := fr_Mo_turnOf_60 q9h
    refine x_iteC h (fun h => ?_) (fun h => ?_)
    · skip
      exact x_frO.tr (x_frI (p := 85) (k := 0) rfl (x_fr.trans (x_fr.trans (x_fr.trans (x_frI (p := 84) rfl (x_fr.trans (x_fr.trans (x_fr.trans x_fr.rf (x_fr.su q3f rfl)) (x_fr.su q4f rfl)) (x_fr.su q5f rfl))) (x_fr.su q7f rfl)) (x_fr.su q8f rfl)) (x_fr.su q9f rfl))) (x_frO.su (fr_Mo_goesThrough_60_J110 h) rfl)
    · skip
      obtain ⟨q11, q11h, h⟩ := x_bind h
      try dsimp only at h
      have q11f := fr_Mo_shouldBe_60 q11h
      obtain ⟨-, h⟩ := x_ifn h
      obtain ⟨-, h⟩ := x_ifn h
      obtain ⟨q14, q14h, h⟩ := x_bind h
      try dsimp only at h
      have q14f := fr_Mo_bounded q14h
      obtain ⟨-, h⟩ := x_ifn h
      exact x_frO.tr (x_frI (p := 85) rfl (x_fr.trans (x_fr.trans (x_fr.trans (x_fr.trans (x_fr.trans (x_frI (p := 84) rfl (x_fr.trans (x_fr.trans (x_fr.trans x_fr.rf (x_fr.su q3f rfl)) (x_fr.su q4f rfl)) (x_fr.su q5f rfl))) (x_fr.su q7f rfl)) (x_fr.su q8f rfl)) (x_fr.su q9f rfl)) (x_fr.su q11f rfl)) (x_fr.su q14f rfl))) (x_frO.su (fr_Mo_goesThrough_60_J110 h) rfl)
set_option maxHeartbeats 4000000 in
set_option maxRecDepth 100000 in
theorem fr_Mo_goesThrough_60 {σ : xS} {r : Unit × xS} (h : f_Mo_goesThrough_60 σ = some r) : x_fr [(82, 99999), (83, 99999), (84, 99999), (85, 99999), (86, 99999)] σ r.2 := by
  unfold f_Mo_goesThrough_60 at h
  try dsimp only at h
  obtain ⟨q17, q17h, h⟩ := x_bind h
  try dsimp only at h
  have q17f := fr_Mo_last_60 q17h
  obtain ⟨b19, b19h, h⟩ := x_bind h
  try dsimp only at h
  have b19f := x_itF (sA := (fun a => a.2)) (sB := (fun b => b.2)) (fun a o h => fr_Mo_goesThrough_60_L7 h) _ _ _ b19h
  cases h
  exact (x_fr.trans (x_fr.trans x_fr.rf (x_fr.su q17f rfl)) (x_fr.su b19f rfl))
set_option maxHeartbeats 4000000 in
set_option maxRecDepth 100000 in
theorem fr_Mo_isSharp_60 {v1 : Int32} {σ : xS} {r : Int32 × xS} (h : f_Mo_isSharp_60 v1 σ = some r) : x_fr [] σ r.2 := by
  unfold f_Mo_isSharp_60 at h
  try dsimp only at h
  obtain ⟨-, h⟩ := x_ifn h
  obtain ⟨q1, q1h, h⟩ := x_bind h
  try dsimp only at h
  have q1f := fr_Mo_off q1h
  refine x_iteC h (fun h => ?_) (fun h => ?_)
  · skip
    cases h
    exact (x_fr.trans x_fr.rf (x_fr.su q1f rfl))
  · skip
    cases h
    exact (x_fr.trans x_fr.rf (x_fr.su q1f rfl))
set_option maxHeartbeats 4000000 in
set_option maxRecDepth 100000 in
theorem fr_Mo_sharpMany_60_L4 {a : Int32 × Int32 × xS} {o : (Int32 × Int32 × xS) ⊕ (Int32 × Int32 × xS)} (h : f_Mo_sharpMany_60_L4 a = some o) : x_frO [] (fun a => a.2.2) (fun b => b.2.2) a.2.2 o := by
  unfold f_Mo_sharpMany_60_L4 at h
  try dsimp only at h
  obtain ⟨q1, q1h, h⟩ := x_bind h
  try dsimp only at h
  have q1f := fr_Mo_last_60 q1h
  refine x_iteC h (fun h => ?_) (fun h => ?_)
  · skip
    cases h
    exact x_frO.b (x_fr.trans x_fr.rf (x_fr.su q1f rfl))
  · skip
    obtain ⟨q2, q2h, h⟩ := x_bind h
    try dsimp only at h
    have q2f := fr_Mo_isSharp_60 q2h
    refine x_iteC h (fun h => ?_) (fun h => ?_)
    · skip
      cases h
      exact x_frO.a2 (x_fr.trans (x_fr.trans x_fr.rf (x_fr.su q1f rfl)) (x_fr.su q2f rfl))
    · skip
      cases h
      exact x_frO.a2 (x_fr.trans (x_fr.trans x_fr.rf (x_fr.su q1f rfl)) (x_fr.su q2f rfl))
set_option maxHeartbeats 4000000 in
set_option maxRecDepth 100000 in
theorem fr_Mo_sharpMany_60 {σ : xS} {r : Int32 × xS} (h : f_Mo_sharpMany_60 σ = some r) : x_fr [] σ r.2 := by
  unfold f_Mo_sharpMany_60 at h
  try dsimp only at h
  obtain ⟨b7, b7h, h⟩ := x_bind h
  try dsimp only at h
  have b7f := x_itF (sA := (fun a => a.2.2)) (sB := (fun b => b.2.2)) (fun a o h => fr_Mo_sharpMany_60_L4 h) _ _ _ b7h
  cases h
  exact (x_fr.trans x_fr.rf (x_fr.su b7f rfl))
set_option maxHeartbeats 4000000 in
set_option maxRecDepth 100000 in
theorem fr_Mo_takesSharp_60 {σ : xS} {r : Int32 × xS} (h : f_Mo_takesSharp_60 σ = some r) : x_fr [(82, 99999), (83, 99999), (84, 99999), (85, 99999), (86, 99999)] σ r.2 := by
  unfold f_Mo_takesSharp_60 at h
  try dsimp only at h
  obtain ⟨q1, q1h, h⟩ := x_bind h
  try dsimp only at h
  have q1f := fr_Mo_goesThrough_60 q1h
  obtain ⟨q2, q2h, h⟩ := x_bind h
  try dsimp only at h
  have q2f := fr_Mo_sharpMany_60 q2h
  cases h
  exact (x_fr.trans (x_fr.trans x_fr.rf (x_fr.su q1f rfl)) (x_fr.su q2f rfl))
set_option maxHeartbeats 4000000 in
set_option maxRecDepth 100000 in
theorem fr_Mo_mostOff_60_L4 {a : Int32 × Int32 × xS} {o : (Int32 × Int32 × xS) ⊕ (Int32 × Int32 × xS)} (h : f_Mo_mostOff_60_L4 a = some o) : x_frO [] (fun a => a.2.2) (fun b => b.2.2) a.2.2 o := by
  unfold f_Mo_mostOff_60_L4 at h
  try dsimp only at h
  obtain ⟨q1, q1h, h⟩ := x_bind h
  try dsimp only at h
  have q1f := fr_Mo_last_60 q1h
  refine x_iteC h (fun h => ?_) (fun h => ?_)
  · skip
    cases h
    exact x_frO.b (x_fr.trans x_fr.rf (x_fr.su q1f rfl))
  · skip
    obtain ⟨-, h⟩ := x_ifn h
    obtain ⟨q2, q2h, h⟩ := x_bind h
    try dsimp only at h
    have q2f := fr_Mo_off q2h
    refine x_iteC h (fun h => ?_) (fun h => ?_)
    · skip
      cases h
      exact x_frO.a2 (x_fr.trans (x_fr.trans x_fr.rf (x_fr.su q1f rfl)) (x_fr.su q2f rfl))
    · skip
      obtain ⟨-, h⟩ := x_ifn h
      obtain ⟨q4, q4h, h⟩ := x_bind h
      try dsimp only at h
      have q4f := fr_Mo_off q4h
      cases h
      exact x_frO.a2 (x_fr.trans (x_fr.trans (x_fr.trans x_fr.rf (x_fr.su q1f rfl)) (x_fr.su q2f rfl)) (x_fr.su q4f rfl))
set_option maxHeartbeats 4000000 in
set_option maxRecDepth 100000 in
theorem fr_Mo_mostOff_60 {σ : xS} {r : Int32 × xS} (h : f_Mo_mostOff_60 σ = some r) : x_fr [] σ r.2 := by
  unfold f_Mo_mostOff_60 at h
  try dsimp only at h
  obtain ⟨b7, b7h, h⟩ := x_bind h
  try dsimp only at h
  have b7f := x_itF (sA := (fun a => a.2.2)) (sB := (fun b => b.2.2)) (fun a o h => fr_Mo_mostOff_60_L4 h) _ _ _ b7h
  cases h
  exact (x_fr.trans x_fr.rf (x_fr.su b7f rfl))
set_option maxHeartbeats 4000000 in
set_option maxRecDepth 100000 in
theorem fr_Mo_isShown_60 {v1 : Int32} {σ : xS} {r : Int32 × xS} (h : f_Mo_isShown_60 v1 σ = some r) : x_fr [(82, 99999), (83, 99999)] σ r.2 := by
  unfold f_Mo_isShown_60 at h
  try dsimp only at h
  obtain ⟨q1, q1h, h⟩ := x_bind h
  try dsimp only at h
  have q1f := fr_Mo_isSharp_60 q1h
  refine x_iteC h (fun h => ?_) (fun h => ?_)
  · skip
    refine x_iteC h (fun h => ?_) (fun h => ?_)
    · skip
      cases h
      exact (x_fr.trans x_fr.rf (x_fr.su q1f rfl))
    · skip
      obtain ⟨-, h⟩ := x_ifn h
      obtain ⟨q2, q2h, h⟩ := x_bind h
      try dsimp only at h
      have q2f := fr_Mo_off q2h
      obtain ⟨q5, q5h, h⟩ := x_bind h
      try dsimp only at h
      have q5f := fr_Mo_whoseIn_60 q5h
      obtain ⟨q6, q6h, h⟩ := x_bind h
      try dsimp only at h
      have q6f := fr_Mo_inchesOf_60 q6h
      obtain ⟨q8, q8h, h⟩ := x_bind h
      try dsimp only at h
      have q8f := fr_Mo_reckons_60 q8h
      refine x_iteC h (fun h => ?_) (fun h => ?_)
      · skip
        cases h
        exact (x_fr.trans (x_frI (p := 82) (k := 5) rfl (x_fr.trans (x_fr.trans (x_frI (p := 82) (k := 7) rfl (x_frI (p := 82) (k := 6) rfl (x_fr.trans (x_fr.trans x_fr.rf (x_fr.su q1f rfl)) (x_fr.su q2f rfl)))) (x_fr.su q5f rfl)) (x_fr.su q6f rfl))) (x_fr.su q8f rfl))
      · skip
        cases h
        exact (x_fr.trans (x_frI (p := 82) (k := 5) rfl (x_fr.trans (x_fr.trans (x_frI (p := 82) (k := 7) rfl (x_frI (p := 82) (k := 6) rfl (x_fr.trans (x_fr.trans x_fr.rf (x_fr.su q1f rfl)) (x_fr.su q2f rfl)))) (x_fr.su q5f rfl)) (x_fr.su q6f rfl))) (x_fr.su q8f rfl))
  · skip
    cases h
    exact (x_fr.trans x_fr.rf (x_fr.su q1f rfl))
set_option maxHeartbeats 4000000 in
set_option maxRecDepth 100000 in
theorem fr_Mo_count_60 {v1 : Int32} {σ : xS} {r : Int32 × xS} (h : f_Mo_count_60 v1 σ = some r) : x_fr [(60, 0)] σ r.2 := by
  unfold f_Mo_count_60 at h
  try dsimp only at h
  obtain ⟨q2, q2h, h⟩ := x_bind h
  try dsimp only at h
  have q2f := fr_Mo_within q2h
  obtain ⟨q3, q3h, h⟩ := x_bind h
  try dsimp only at h
  have q3f := fr_Mo_right_60 q3h
  refine x_iteC h (fun h => ?_) (fun h => ?_)
  · skip
    cases h
    exact (x_fr.trans (x_fr.trans (x_frI (p := 60) (k := 0) rfl x_fr.rf) (x_fr.su q2f rfl)) (x_fr.su q3f rfl))
  · skip
    refine x_iteC h (fun h => ?_) (fun h => ?_)
    · skip
      obtain ⟨q4, q4h, h⟩ := x_bind h
      try dsimp only at h
      have q4f := fr_Mo_last_60 q4h
      cases h
      exact (x_fr.trans (x_fr.trans (x_fr.trans (x_frI (p := 60) (k := 0) rfl x_fr.rf) (x_fr.su q2f rfl)) (x_fr.su q3f rfl)) (x_fr.su q4f rfl))
    · skip
      refine x_iteC h (fun h => ?_) (fun h => ?_)
      · skip
        cases h
        exact (x_fr.trans (x_fr.trans (x_frI (p := 60) (k := 0) rfl x_fr.rf) (x_fr.su q2f rfl)) (x_fr.su q3f rfl))
      · skip
        refine x_iteC h (fun h => ?_) (fun h => ?_)
        · skip
          cases h
          exact (x_fr.trans (x_fr.trans (x_frI (p := 60) (k := 0) rfl x_fr.rf) (x_fr.su q2f rfl)) (x_fr.su q3f rfl))
        · skip
          refine x_iteC h (fun h => ?_) (fun h => ?_)
          · skip
            cases h
            exact (x_fr.trans (x_fr.trans (x_frI (p := 60) (k := 0) rfl x_fr.rf) (x_fr.su q2f rfl)) (x_fr.su q3f rfl))
          · skip
            refine x_iteC h (fun h => ?_) (fun h => ?_)
            · skip
              cases h
              exact (x_fr.trans (x_fr.trans (x_frI (p := 60) (k := 0) rfl x_fr.rf) (x_fr.su q2f rfl)) (x_fr.su q3f rfl))
            · skip
              refine x_iteC h (fun h => ?_) (fun h => ?_)
              · skip
                cases h
                exact (x_fr.trans (x_fr.trans (x_frI (p := 60) (k := 0) rfl x_fr.rf) (x_fr.su q2f rfl)) (x_fr.su q3f rfl))
              · skip
                refine x_iteC h (fun h => ?_) (fun h => ?_)
                · skip
                  cases h
                  exact (x_fr.trans (x_fr.trans (x_frI (p := 60) (k := 0) rfl x_fr.rf) (x_fr.su q2f rfl)) (x_fr.su q3f rfl))
                · skip
                  refine x_iteC h (fun h => ?_) (fun h => ?_)
                  · skip
                    cases h
                    exact (x_fr.trans (x_fr.trans (x_frI (p := 60) (k := 0) rfl x_fr.rf) (x_fr.su q2f rfl)) (x_fr.su q3f rfl))
                  · skip
                    refine x_iteC h (fun h => ?_) (fun h => ?_)
                    · skip
                      cases h
                      exact (x_fr.trans (x_fr.trans (x_frI (p := 60) (k := 0) rfl x_fr.rf) (x_fr.su q2f rfl)) (x_fr.su q3f rfl))
                    · skip
                      refine x_iteC h (fun h => ?_) (fun h => ?_)
                      · skip
                        cases h
                        exact (x_fr.trans (x_fr.trans (x_frI (p := 60) (k := 0) rfl x_fr.rf) (x_fr.su q2f rfl)) (x_fr.su q3f rfl))
                      · skip
                        refine x_iteC h (fun h => ?_) (fun h => ?_)
                        · skip
                          cases h
                          exact (x_fr.trans (x_fr.trans (x_frI (p := 60) (k := 0) rfl x_fr.rf) (x_fr.su q2f rfl)) (x_fr.su q3f rfl))
                        · skip
                          refine x_iteC h (fun h => ?_) (fun h => ?_)
                          · skip
                            cases h
                            exact (x_fr.trans (x_fr.trans (x_frI (p := 60) (k := 0) rfl x_fr.rf) (x_fr.su q2f rfl)) (x_fr.su q3f rfl))
                          · skip
                            refine x_iteC h (fun h => ?_) (fun h => ?_)
                            · skip
                              cases h
                              exact (x_fr.trans (x_fr.trans (x_frI (p := 60) (k := 0) rfl x_fr.rf) (x_fr.su q2f rfl)) (x_fr.su q3f rfl))
                            · skip
                              refine x_iteC h (fun h => ?_) (fun h => ?_)
                              · skip
                                cases h
                                exact (x_fr.trans (x_fr.trans (x_frI (p := 60) (k := 0) rfl x_fr.rf) (x_fr.su q2f rfl)) (x_fr.su q3f rfl))
                              · skip
                                refine x_iteC h (fun h => ?_) (fun h => ?_)
                                · skip
                                  cases h
                                  exact (x_fr.trans (x_fr.trans (x_frI (p := 60) (k := 0) rfl x_fr.rf) (x_fr.su q2f rfl)) (x_fr.su q3f rfl))
                                · skip
                                  obtain ⟨-, h⟩ := x_ifn h
                                  cases h
                                  exact (x_fr.trans (x_fr.trans (x_frI (p := 60) (k := 0) rfl x_fr.rf) (x_fr.su q2f rfl)) (x_fr.su q3f rfl))
set_option maxHeartbeats 4000000 in
set_option maxRecDepth 100000 in
theorem fr_Mo_mark_60_J23 {v1 : Int32} {y1 : Int32} {σ : xS} {r : Int32 × xS} (h : f_Mo_mark_60_J23 v1 y1 σ = some r) : x_fr [(60, 0)] σ r.2 := by
  unfold f_Mo_mark_60_J23 at h
  try dsimp only at h
  obtain ⟨q1, q1h, h⟩ := x_bind h
  try dsimp only at h
  have q1f := fr_Mo_right_60 q1h
  refine x_iteC h (fun h => ?_) (fun h => ?_)
  · skip
    cases h
    exact (x_fr.trans x_fr.rf (x_fr.su q1f rfl))
  · skip
    obtain ⟨-, h⟩ := x_ifn h
    cases h
    exact (x_fr.trans x_fr.rf (x_fr.su q1f rfl))
set_option maxHeartbeats 4000000 in
set_option maxRecDepth 100000 in
theorem fr_Mo_mark_60_J22 {v1 : Int32} {σ : xS} {r : Int32 × xS} (h : f_Mo_mark_60_J22 v1 σ = some r) : x_fr [(60, 0)] σ r.2 := by
  unfold f_Mo_mark_60_J22 at h
  try dsimp only at h
  exact x_fr.trans x_fr.rf (x_fr.su (fr_Mo_mark_60_J23 h) rfl)
set_option maxHeartbeats 4000000 in
set_option maxRecDepth 100000 in
theorem fr_Mo_mark_60 {v1 : Int32} {σ : xS} {r : Int32 × xS} (h : f_Mo_mark_60 v1 σ = some r) : x_fr [(60, 0)] σ r.2 := by
  unfold f_Mo_mark_60 at h
  try dsimp only at h
  refine x_iteC h (fun h => ?_) (fun h => ?_)
  · skip
    exact x_fr.trans (x_frI (p := 60) (k := 0) rfl x_fr.rf) (x_fr.su (fr_Mo_mark_60_J22 h) rfl)
  · skip
    refine x_iteC h (fun h => ?_) (fun h => ?_)
    · skip
      exact x_fr.trans (x_frI (p := 60) (k := 0) rfl x_fr.rf) (x_fr.su (fr_Mo_mark_60_J22 h) rfl)
    · skip
      exact x_fr.trans (x_frI (p := 60) (k := 0) rfl x_fr.rf) (x_fr.su (fr_Mo_mark_60_J23 h) rfl)
set_option maxHeartbeats 4000000 in
set_option maxRecDepth 100000 in
theorem fr_Mo_isTenth_60 {v1 : Int32} {σ : xS} {r : Int32 × xS} (h : f_Mo_isTenth_60 v1 σ = some r) : x_fr [(60, 0)] σ r.2 := by
  unfold f_Mo_isTenth_60 at h
  try dsimp only at h
  refine x_iteC h (fun h => ?_) (fun h => ?_)
  · skip
    obtain ⟨q1, q1h, h⟩ := x_bind h
    try dsimp only at h
    have q1f := fr_Mo_right_60 q1h
    obtain ⟨-, h⟩ := x_ift h
    cases h
    exact (x_fr.trans x_fr.rf (x_fr.su q1f rfl))
  · skip
    obtain ⟨q2, q2h, h⟩ := x_bind h
    try dsimp only at h
    have q2f := fr_Mo_last_60 q2h
    refine x_iteC h (fun h => ?_) (fun h => ?_)
    · skip
      obtain ⟨q3, q3h, h⟩ := x_bind h
      try dsimp only at h
      have q3f := fr_Mo_right_60 q3h
      obtain ⟨-, h⟩ := x_ift h
      cases h
      exact (x_fr.trans (x_fr.trans x_fr.rf (x_fr.su q2f rfl)) (x_fr.su q3f rfl))
    · skip
      obtain ⟨q4, q4h, h⟩ := x_bind h
      try dsimp only at h
      have q4f := fr_Mo_right_60 q4h
      obtain ⟨-, h⟩ := x_ift h
      cases h
      exact (x_fr.trans (x_fr.trans x_fr.rf (x_fr.su q2f rfl)) (x_fr.su q4f rfl))
set_option maxHeartbeats 4000000 in
set_option maxRecDepth 100000 in
theorem fr_Mo_isWhat_60 {v1 : Int32} {v2 : Int32} {σ : xS} {r : Int32 × xS} (h : f_Mo_isWhat_60 v1 v2 σ = some r) : x_fr [(60, 0)] σ r.2 := by
  unfold f_Mo_isWhat_60 at h
  try dsimp only at h
  obtain ⟨q1, q1h, h⟩ := x_bind h
  try dsimp only at h
  have q1f := fr_Mo_within q1h
  obtain ⟨q2, q2h, h⟩ := x_bind h
  try dsimp only at h
  have q2f := fr_Mo_right_60 q2h
  obtain ⟨-, h⟩ := x_ift h
  cases h
  exact (x_fr.trans (x_fr.trans x_fr.rf (x_fr.su q1f rfl)) (x_fr.su q2f rfl))
set_option maxHeartbeats 4000000 in
set_option maxRecDepth 100000 in
theorem fr_Mo_inches_60 {v1 : Int32} {v2 : Int32} {σ : xS} {r : Int32 × xS} (h : f_Mo_inches_60 v1 v2 σ = some r) : x_fr [(60, 0)] σ r.2 := by
  unfold f_Mo_inches_60 at h
  try dsimp only at h
  obtain ⟨q2, q2h, h⟩ := x_bind h
  try dsimp only at h
  have q2f := fr_Mo_isTenth_60 q2h
  refine x_iteC h (fun h => ?_) (fun h => ?_)
  · skip
    cases h
    exact (x_fr.trans (x_frI (p := 60) (k := 0) rfl x_fr.rf) (x_fr.su q2f rfl))
  · skip
    obtain ⟨q3, q3h, h⟩ := x_bind h
    try dsimp only at h
    have q3f := fr_Mo_isWhat_60 q3h
    refine x_iteC h (fun h => ?_) (fun h => ?_)
    · skip
      cases h
      exact (x_fr.trans (x_fr.trans (x_frI (p := 60) (k := 0) rfl x_fr.rf) (x_fr.su q2f rfl)) (x_fr.su q3f rfl))
    · skip
      obtain ⟨q4, q4h, h⟩ := x_bind h
      try dsimp only at h
      have q4f := fr_Mo_inchesOf_60 q4h
      cases h
      exact (x_fr.trans (x_fr.trans (x_fr.trans (x_frI (p := 60) (k := 0) rfl x_fr.rf) (x_fr.su q2f rfl)) (x_fr.su q3f rfl)) (x_fr.su q4f rfl))
set_option maxHeartbeats 4000000 in
set_option maxRecDepth 100000 in
theorem fr_Mo_turn_60 {v1 : Int32} {σ : xS} {r : Int32 × xS} (h : f_Mo_turn_60 v1 σ = some r) : x_fr [(60, 0), (82, 99999), (83, 99999)] σ r.2 := by
  unfold f_Mo_turn_60 at h
  try dsimp only at h
  obtain ⟨q2, q2h, h⟩ := x_bind h
  try dsimp only at h
  have q2f := fr_Mo_within q2h
  obtain ⟨q3, q3h, h⟩ := x_bind h
  try dsimp only at h
  have q3f := fr_Mo_right_60 q3h
  refine x_iteC h (fun h => ?_) (fun h => ?_)
  · skip
    cases h
    exact (x_fr.trans (x_fr.trans (x_frI (p := 60) (k := 0) rfl x_fr.rf) (x_fr.su q2f rfl)) (x_fr.su q3f rfl))
  · skip
    obtain ⟨q4, q4h, h⟩ := x_bind h
    try dsimp only at h
    have q4f := fr_Mo_turnOf_60 q4h
    cases h
    exact (x_fr.trans (x_fr.trans (x_fr.trans (x_frI (p := 60) (k := 0) rfl x_fr.rf) (x_fr.su q2f rfl)) (x_fr.su q3f rfl)) (x_fr.su q4f rfl))
set_option maxHeartbeats 4000000 in
set_option maxRecDepth 100000 in
theorem fr_Mo_tenth_60 {v1 : Int32} {v2 : Int32} {σ : xS} {r : Int32 × xS} (h : f_Mo_tenth_60 v1 v2 σ = some r) : x_fr [(60, 0), (82, 99999), (83, 99999), (84, 99999), (85, 99999), (86, 99999)] σ r.2 := by
  unfold f_Mo_tenth_60 at h
  try dsimp only at h
  obtain ⟨q2, q2h, h⟩ := x_bind h
  try dsimp only at h
  have q2f := fr_Mo_isTenth_60 q2h
  refine x_iteC h (fun h => ?_) (fun h => ?_)
  · skip
    cases h
    exact (x_fr.trans (x_frI (p := 60) (k := 0) rfl x_fr.rf) (x_fr.su q2f rfl))
  · skip
    obtain ⟨q3, q3h, h⟩ := x_bind h
    try dsimp only at h
    have q3f := fr_Mo_isWhat_60 q3h
    refine x_iteC h (fun h => ?_) (fun h => ?_)
    · skip
      cases h
      exact (x_fr.trans (x_fr.trans (x_frI (p := 60) (k := 0) rfl x_fr.rf) (x_fr.su q2f rfl)) (x_fr.su q3f rfl))
    · skip
      obtain ⟨q4, q4h, h⟩ := x_bind h
      try dsimp only at h
      have q4f := fr_Mo_goesThrough_60 q4h
      refine x_iteC h (fun h => ?_) (fun h => ?_)
      · skip
        obtain ⟨q5, q5h, h⟩ := x_bind h
        try dsimp only at h
        have q5f := fr_Mo_whoseIn_60 q5h
        cases h
        exact (x_fr.trans (x_fr.trans (x_fr.trans (x_fr.trans (x_frI (p := 60) (k := 0) rfl x_fr.rf) (x_fr.su q2f rfl)) (x_fr.su q3f rfl)) (x_fr.su q4f rfl)) (x_fr.su q5f rfl))
      · skip
        refine x_iteC h (fun h => ?_) (fun h => ?_)
        · skip
          obtain ⟨-, h⟩ := x_ifn h
          cases h
          exact (x_fr.trans (x_fr.trans (x_fr.trans (x_frI (p := 60) (k := 0) rfl x_fr.rf) (x_fr.su q2f rfl)) (x_fr.su q3f rfl)) (x_fr.su q4f rfl))
        · skip
          refine x_iteC h (fun h => ?_) (fun h => ?_)
          · skip
            obtain ⟨-, h⟩ := x_ifn h
            cases h
            exact (x_fr.trans (x_fr.trans (x_fr.trans (x_frI (p := 60) (k := 0) rfl x_fr.rf) (x_fr.su q2f rfl)) (x_fr.su q3f rfl)) (x_fr.su q4f rfl))
          · skip
            refine x_iteC h (fun h => ?_) (fun h => ?_)
            · skip
              obtain ⟨-, h⟩ := x_ifn h
              cases h
              exact (x_fr.trans (x_fr.trans (x_fr.trans (x_frI (p := 60) (k := 0) rfl x_fr.rf) (x_fr.su q2f rfl)) (x_fr.su q3f rfl)) (x_fr.su q4f rfl))
            · skip
              refine x_iteC h (fun h => ?_) (fun h => ?_)
              · skip
                obtain ⟨q6, q6h, h⟩ := x_bind h
                try dsimp only at h
                have q6f := fr_Mo_isSharp_60 q6h
                refine x_iteC h (fun h => ?_) (fun h => ?_)
                · skip
                  cases h
                  exact (x_fr.trans (x_fr.trans (x_fr.trans (x_fr.trans (x_frI (p := 60) (k := 0) rfl x_fr.rf) (x_fr.su q2f rfl)) (x_fr.su q3f rfl)) (x_fr.su q4f rfl)) (x_fr.su q6f rfl))
                · skip
                  cases h
                  exact (x_fr.trans (x_fr.trans (x_fr.trans (x_fr.trans (x_frI (p := 60) (k := 0) rfl x_fr.rf) (x_fr.su q2f rfl)) (x_fr.su q3f rfl)) (x_fr.su q4f rfl)) (x_fr.su q6f rfl))
              · skip
                obtain ⟨q7, q7h, h⟩ := x_bind h
                try dsimp only at h
                have q7f := fr_Mo_isShown_60 q7h
                refine x_iteC h (fun h => ?_) (fun h => ?_)
                · skip
                  cases h
                  exact (x_fr.trans (x_fr.trans (x_fr.trans (x_fr.trans (x_frI (p := 60) (k := 0) rfl x_fr.rf) (x_fr.su q2f rfl)) (x_fr.su q3f rfl)) (x_fr.su q4f rfl)) (x_fr.su q7f rfl))
                · skip
                  cases h
                  exact (x_fr.trans (x_fr.trans (x_fr.trans (x_fr.trans (x_frI (p := 60) (k := 0) rfl x_fr.rf) (x_fr.su q2f rfl)) (x_fr.su q3f rfl)) (x_fr.su q4f rfl)) (x_fr.su q7f rfl))
set_option maxHeartbeats 4000000 in
set_option maxRecDepth 100000 in
theorem fr_Mo_longestSoft_60_J29 {v1 : Int32} {v3 : Int32} {y0 : Int32} {σ : xS} {o : (Int32 × Int32 × Int32 × xS) ⊕ (Int32 × Int32 × Int32 × xS)} (h : f_Mo_longestSoft_60_J29 v1 v3 y0 σ = some o) : x_frO [] (fun a => a.2.2.2) (fun b => b.2.2.2) σ o := by
  unfold f_Mo_longestSoft_60_J29 at h
  try dsimp only at h
  refine x_iteC h (fun h => ?_) (fun h => ?_)
  · skip
    cases h
    exact x_frO.a3 x_fr.rf
  · skip
    cases h
    exact x_frO.a3 x_fr.rf
set_option maxHeartbeats 4000000 in
set_option maxRecDepth 100000 in
theorem fr_Mo_longestSoft_60_L6 {a : Int32 × Int32 × Int32 × xS} {o : (Int32 × Int32 × Int32 × xS) ⊕ (Int32 × Int32 × Int32 × xS)} (h : f_Mo_longestSoft_60_L6 a = some o) : x_frO [] (fun a => a.2.2.2) (fun b => b.2.2.2) a.2.2.2 o := by
  unfold f_Mo_longestSoft_60_L6 at h
  try dsimp only at h
  obtain ⟨q3, q3h, h⟩ := x_bind h
  try dsimp only at h
  have q3f := fr_Mo_last_60 q3h
  refine x_iteC h (fun h => ?_) (fun h => ?_)
  · skip
    cases h
    exact x_frO.b (x_fr.trans x_fr.rf (x_fr.su q3f rfl))
  · skip
    obtain ⟨q4, q4h, h⟩ := x_bind h
    try dsimp only at h
    have q4f := fr_Mo_isSharp_60 q4h
    refine x_iteC h (fun h => ?_) (fun h => ?_)
    · skip
      exact x_frO.tr (x_fr.trans (x_fr.trans x_fr.rf (x_fr.su q3f rfl)) (x_fr.su q4f rfl)) (x_frO.su (fr_Mo_longestSoft_60_J29 h) rfl)
    · skip
      exact x_frO.tr (x_fr.trans (x_fr.trans x_fr.rf (x_fr.su q3f rfl)) (x_fr.su q4f rfl)) (x_frO.su (fr_Mo_longestSoft_60_J29 h) rfl)
set_option maxHeartbeats 4000000 in
set_option maxRecDepth 100000 in
theorem fr_Mo_longestSoft_60 {σ : xS} {r : Int32 × xS} (h : f_Mo_longestSoft_60 σ = some r) : x_fr [] σ r.2 := by
  unfold f_Mo_longestSoft_60 at h
  try dsimp only at h
  obtain ⟨b5, b5h, h⟩ := x_bind h
  try dsimp only at h
  have b5f := x_itF (sA := (fun a => a.2.2.2)) (sB := (fun b => b.2.2.2)) (fun a o h => fr_Mo_longestSoft_60_L6 h) _ _ _ b5h
  cases h
  exact (x_fr.trans x_fr.rf (x_fr.su b5f rfl))
set_option maxHeartbeats 4000000 in
set_option maxRecDepth 100000 in
theorem fr_Mo_firstSoft_60_L2 {a : Int32 × xS} {o : ((Int32 × xS) ⊕ (Int32 × xS)) ⊕ (Int32 × xS)} (h : f_Mo_firstSoft_60_L2 a = some o) : x_frO [] (fun a => a.2) (fun b => match b with | .inl q => q.2 | .inr e => e.2) a.2 o := by
  unfold f_Mo_firstSoft_60_L2 at h
  try dsimp only at h
  obtain ⟨q1, q1h, h⟩ := x_bind h
  try dsimp only at h
  have q1f := fr_Mo_last_60 q1h
  refine x_iteC h (fun h => ?_) (fun h => ?_)
  · skip
    cases h
    exact x_frO.b (x_fr.trans x_fr.rf (x_fr.su q1f rfl))
  · skip
    obtain ⟨q2, q2h, h⟩ := x_bind h
    try dsimp only at h
    have q2f := fr_Mo_isSharp_60 q2h
    refine x_iteC h (fun h => ?_) (fun h => ?_)
    · skip
      cases h
      exact x_frO.b (x_fr.trans (x_fr.trans x_fr.rf (x_fr.su q1f rfl)) (x_fr.su q2f rfl))
    · skip
      cases h
      exact x_frO.a1 (x_fr.trans (x_fr.trans x_fr.rf (x_fr.su q1f rfl)) (x_fr.su q2f rfl))
set_option maxHeartbeats 4000000 in
set_option maxRecDepth 100000 in
theorem fr_Mo_firstSoft_60 {σ : xS} {r : Int32 × xS} (h : f_Mo_firstSoft_60 σ = some r) : x_fr [] σ r.2 := by
  unfold f_Mo_firstSoft_60 at h
  try dsimp only at h
  obtain ⟨b4, b4h, h⟩ := x_bind h
  try dsimp only at h
  have b4f := x_itF (sA := (fun a => a.2)) (sB := (fun b => match b with | .inl q => q.2 | .inr e => e.2)) (fun a o h => fr_Mo_firstSoft_60_L2 h) _ _ _ b4h
  cases b4 with
  | inl b4r =>
    try dsimp only at h
    cases h
    exact (x_fr.trans x_fr.rf (x_fr.su b4f rfl))
  | inr b4e =>
    try dsimp only at h
    cases h
    exact (x_fr.trans x_fr.rf (x_fr.su b4f rfl))
set_option maxHeartbeats 4000000 in
set_option maxRecDepth 100000 in
theorem fr_Mo_swings_60_J41 {v1 : Int32} {v2 : Int32} {v3 : Int32} {y0 : Int32} {σ : xS} {o : (Int32 × Int32 × Int32 × xS) ⊕ (Int32 × Int32 × Int32 × xS)} (h : f_Mo_swings_60_J41 v1 v2 v3 y0 σ = some o) : x_frO [] (fun a => a.2.2.2) (fun b => b.2.2.2) σ o := by
  unfold f_Mo_swings_60_J41 at h
  try dsimp only at h
  refine x_iteC h (fun h => ?_) (fun h => ?_)
  · skip
    cases h
    exact x_frO.a3 x_fr.rf
  · skip
    refine x_iteC h (fun h => ?_) (fun h => ?_)
    · skip
      cases h
      exact x_frO.a3 x_fr.rf
    · skip
      refine x_iteC h (fun h => ?_) (fun h => ?_)
      · skip
        cases h
        exact x_frO.a3 x_fr.rf
      · skip
        cases h
        exact x_frO.a3 x_fr.rf
set_option maxHeartbeats 4000000 in
set_option maxRecDepth 100000 in
theorem fr_Mo_swings_60_L6 {a : Int32 × Int32 × Int32 × xS} {o : (Int32 × Int32 × Int32 × xS) ⊕ (Int32 × Int32 × Int32 × xS)} (h : f_Mo_swings_60_L6 a = some o) : x_frO [] (fun a => a.2.2.2) (fun b => b.2.2.2) a.2.2.2 o := by
  unfold f_Mo_swings_60_L6 at h
  try dsimp only at h
  obtain ⟨q8, q8h, h⟩ := x_bind h
  try dsimp only at h
  have q8f := fr_Mo_last_60 q8h
  refine x_iteC h (fun h => ?_) (fun h => ?_)
  · skip
    cases h
    exact x_frO.b (x_fr.trans x_fr.rf (x_fr.su q8f rfl))
  · skip
    obtain ⟨-, h⟩ := x_ifn h
    refine x_iteC h (fun h => ?_) (fun h => ?_)
    · skip
      obtain ⟨-, h⟩ := x_ifn h
      refine x_iteC h (fun h => ?_) (fun h => ?_)
      · skip
        exact x_frO.tr (x_fr.trans x_fr.rf (x_fr.su q8f rfl)) (x_frO.su (fr_Mo_swings_60_J41 h) rfl)
      · skip
        exact x_frO.tr (x_fr.trans x_fr.rf (x_fr.su q8f rfl)) (x_frO.su (fr_Mo_swings_60_J41 h) rfl)
    · skip
      exact x_frO.tr (x_fr.trans x_fr.rf (x_fr.su q8f rfl)) (x_frO.su (fr_Mo_swings_60_J41 h) rfl)
set_option maxHeartbeats 4000000 in
set_option maxRecDepth 100000 in
theorem fr_Mo_swings_60 {σ : xS} {r : Int32 × xS} (h : f_Mo_swings_60 σ = some r) : x_fr [] σ r.2 := by
  unfold f_Mo_swings_60 at h
  try dsimp only at h
  obtain ⟨b9, b9h, h⟩ := x_bind h
  try dsimp only at h
  have b9f := x_itF (sA := (fun a => a.2.2.2)) (sB := (fun b => b.2.2.2)) (fun a o h => fr_Mo_swings_60_L6 h) _ _ _ b9h
  cases h
  exact (x_fr.trans x_fr.rf (x_fr.su b9f rfl))
set_option maxHeartbeats 4000000 in
set_option maxRecDepth 100000 in
theorem fr_Mo_all_60_L74 {v1 : Int32} {a : Int32 × Int32 × xS} {o : (Int32 × Int32 × xS) ⊕ (Int32 × Int32 × xS)} (h : f_Mo_all_60_L74 v1 a = some o) : x_frO [(82, 99999), (83, 99999)] (fun a => a.2.2) (fun b => b.2.2) a.2.2 o := by
  unfold f_Mo_all_60_L74 at h
  try dsimp only at h
  obtain ⟨q1, q1h, h⟩ := x_bind h
  try dsimp only at h
  have q1f := fr_Mo_last_60 q1h
  refine x_iteC h (fun h => ?_) (fun h => ?_)
  · skip
    cases h
    exact x_frO.b (x_fr.trans x_fr.rf (x_fr.su q1f rfl))
  · skip
    refine x_iteC h (fun h => ?_) (fun h => ?_)
    · skip
      obtain ⟨q7, q7h, h⟩ := x_bind h
      try dsimp only at h
      have q7f := fr_Mo_isShown_60 q7h
      refine x_iteC h (fun h => ?_) (fun h => ?_)
      · skip
        cases h
        exact x_frO.a2 (x_fr.trans (x_fr.trans x_fr.rf (x_fr.su q1f rfl)) (x_fr.su q7f rfl))
      · skip
        cases h
        exact x_frO.a2 (x_fr.trans (x_fr.trans x_fr.rf (x_fr.su q1f rfl)) (x_fr.su q7f rfl))
    · skip
      refine x_iteC h (fun h => ?_) (fun h => ?_)
      · skip
        cases h
        exact x_frO.a2 (x_fr.trans x_fr.rf (x_fr.su q1f rfl))
      · skip
        obtain ⟨-, h⟩ := x_ifn h
        obtain ⟨-, h⟩ := x_ifn h
        obtain ⟨q2, q2h, h⟩ := x_bind h
        try dsimp only at h
        have q2f := fr_Mo_off q2h
        cases h
        exact x_frO.a2 (x_fr.trans (x_fr.trans x_fr.rf (x_fr.su q1f rfl)) (x_fr.su q2f rfl))
set_option maxHeartbeats 4000000 in
set_option maxRecDepth 100000 in
theorem fr_Mo_all_60 {v1 : Int32} {σ : xS} {r : Int32 × xS} (h : f_Mo_all_60 v1 σ = some r) : x_fr [(60, 0), (82, 99999), (83, 99999), (84, 99999), (85, 99999), (86, 99999)] σ r.2 := by
  unfold f_Mo_all_60 at h
  try dsimp only at h
  obtain ⟨q13, q13h, h⟩ := x_bind h
  try dsimp only at h
  have q13f := fr_Mo_isWhat_60 q13h
  refine x_iteC h (fun h => ?_) (fun h => ?_)
  · skip
    cases h
    exact (x_fr.trans (x_frI (p := 60) (k := 0) rfl x_fr.rf) (x_fr.su q13f rfl))
  · skip
    obtain ⟨q14, q14h, h⟩ := x_bind h
    try dsimp only at h
    have q14f := fr_Mo_goesThrough_60 q14h
    refine x_iteC h (fun h => ?_) (fun h => ?_)
    · skip
      obtain ⟨q20, q20h, h⟩ := x_bind h
      try dsimp only at h
      have q20f := fr_Mo_sharpMany_60 q20h
      cases h
      exact (x_fr.trans (x_fr.trans (x_fr.trans (x_frI (p := 60) (k := 0) rfl x_fr.rf) (x_fr.su q13f rfl)) (x_fr.su q14f rfl)) (x_fr.su q20f rfl))
    · skip
      refine x_iteC h (fun h => ?_) (fun h => ?_)
      · skip
        obtain ⟨q19, q19h, h⟩ := x_bind h
        try dsimp only at h
        have q19f := fr_Mo_mostOff_60 q19h
        cases h
        exact (x_fr.trans (x_fr.trans (x_fr.trans (x_frI (p := 60) (k := 0) rfl x_fr.rf) (x_fr.su q13f rfl)) (x_fr.su q14f rfl)) (x_fr.su q19f rfl))
      · skip
        refine x_iteC h (fun h => ?_) (fun h => ?_)
        · skip
          obtain ⟨q18, q18h, h⟩ := x_bind h
          try dsimp only at h
          have q18f := fr_Mo_longestSoft_60 q18h
          cases h
          exact (x_fr.trans (x_fr.trans (x_fr.trans (x_frI (p := 60) (k := 0) rfl x_fr.rf) (x_fr.su q13f rfl)) (x_fr.su q14f rfl)) (x_fr.su q18f rfl))
        · skip
          refine x_iteC h (fun h => ?_) (fun h => ?_)
          · skip
            obtain ⟨q17, q17h, h⟩ := x_bind h
            try dsimp only at h
            have q17f := fr_Mo_firstSoft_60 q17h
            cases h
            exact (x_fr.trans (x_fr.trans (x_fr.trans (x_frI (p := 60) (k := 0) rfl x_fr.rf) (x_fr.su q13f rfl)) (x_fr.su q14f rfl)) (x_fr.su q17f rfl))
          · skip
            refine x_iteC h (fun h => ?_) (fun h => ?_)
            · skip
              obtain ⟨q16, q16h, h⟩ := x_bind h
              try dsimp only at h
              have q16f := fr_Mo_swings_60 q16h
              cases h
              exact (x_fr.trans (x_fr.trans (x_fr.trans (x_frI (p := 60) (k := 0) rfl x_fr.rf) (x_fr.su q13f rfl)) (x_fr.su q14f rfl)) (x_fr.su q16f rfl))
            · skip
              obtain ⟨b15, b15h, h⟩ := x_bind h
              try dsimp only at h
              have b15f := x_itF (sA := (fun a => a.2.2)) (sB := (fun b => b.2.2)) (fun a o h => fr_Mo_all_60_L74 h) _ _ _ b15h
              cases h
              exact (x_fr.trans (x_fr.trans (x_fr.trans (x_frI (p := 60) (k := 0) rfl x_fr.rf) (x_fr.su q13f rfl)) (x_fr.su q14f rfl)) (x_fr.su b15f rfl))
set_option maxHeartbeats 4000000 in
set_option maxRecDepth 100000 in
theorem fr_Mo_hole_60 {v1 : Int32} {σ : xS} {r : Int32 × xS} (h : f_Mo_hole_60 v1 σ = some r) : x_fr [(60, 0), (60, 56), (68, 99999), (79, 99999), (81, 99999)] σ r.2 := by
  unfold f_Mo_hole_60 at h
  try dsimp only at h
  obtain ⟨q2, q2h, h⟩ := x_bind h
  try dsimp only at h
  have q2f := fr_Mo_within q2h
  refine x_iteC h (fun h => ?_) (fun h => ?_)
  · skip
    obtain ⟨q3, q3h, h⟩ := x_bind h
    try dsimp only at h
    have q3f := fr_Mo_refuses_60 q3h
    cases h
    exact (x_fr.trans (x_fr.trans (x_frI (p := 60) (k := 0) rfl x_fr.rf) (x_fr.su q2f rfl)) (x_fr.su q3f rfl))
  · skip
    obtain ⟨q4, q4h, h⟩ := x_bind h
    try dsimp only at h
    have q4f := fr_Mo_becomes_60 q4h
    cases h
    exact (x_fr.trans (x_fr.trans (x_frI (p := 60) (k := 0) rfl x_fr.rf) (x_fr.su q2f rfl)) (x_fr.su q4f rfl))
set_option maxHeartbeats 4000000 in
set_option maxRecDepth 100000 in
theorem fr_Mo_lag_60 {v1 : Int32} {σ : xS} {r : Int32 × xS} (h : f_Mo_lag_60 v1 σ = some r) : x_fr [(60, 0), (60, 56), (68, 99999), (79, 99999), (81, 99999)] σ r.2 := by
  unfold f_Mo_lag_60 at h
  try dsimp only at h
  obtain ⟨q2, q2h, h⟩ := x_bind h
  try dsimp only at h
  have q2f := fr_Mo_within q2h
  refine x_iteC h (fun h => ?_) (fun h => ?_)
  · skip
    obtain ⟨q3, q3h, h⟩ := x_bind h
    try dsimp only at h
    have q3f := fr_Mo_refuses_60 q3h
    cases h
    exact (x_fr.trans (x_fr.trans (x_frI (p := 60) (k := 0) rfl x_fr.rf) (x_fr.su q2f rfl)) (x_fr.su q3f rfl))
  · skip
    obtain ⟨q4, q4h, h⟩ := x_bind h
    try dsimp only at h
    have q4f := fr_Mo_becomes_60 q4h
    cases h
    exact (x_fr.trans (x_fr.trans (x_frI (p := 60) (k := 0) rfl x_fr.rf) (x_fr.su q2f rfl)) (x_fr.su q4f rfl))
set_option maxHeartbeats 4000000 in
set_option maxRecDepth 100000 in
theorem fr_Mo_wrist_60 {v1 : Int32} {σ : xS} {r : Int32 × xS} (h : f_Mo_wrist_60 v1 σ = some r) : x_fr [(60, 0), (60, 56), (68, 99999), (79, 99999), (81, 99999)] σ r.2 := by
  unfold f_Mo_wrist_60 at h
  try dsimp only at h
  obtain ⟨q2, q2h, h⟩ := x_bind h
  try dsimp only at h
  have q2f := fr_Mo_within q2h
  refine x_iteC h (fun h => ?_) (fun h => ?_)
  · skip
    obtain ⟨q3, q3h, h⟩ := x_bind h
    try dsimp only at h
    have q3f := fr_Mo_refuses_60 q3h
    cases h
    exact (x_fr.trans (x_fr.trans (x_frI (p := 60) (k := 0) rfl x_fr.rf) (x_fr.su q2f rfl)) (x_fr.su q3f rfl))
  · skip
    obtain ⟨q4, q4h, h⟩ := x_bind h
    try dsimp only at h
    have q4f := fr_Mo_becomes_60 q4h
    cases h
    exact (x_fr.trans (x_fr.trans (x_frI (p := 60) (k := 0) rfl x_fr.rf) (x_fr.su q2f rfl)) (x_fr.su q4f rfl))
set_option maxHeartbeats 4000000 in
set_option maxRecDepth 100000 in
theorem fr_Mo_eye_60 {v1 : Int32} {σ : xS} {r : Int32 × xS} (h : f_Mo_eye_60 v1 σ = some r) : x_fr [(60, 0), (60, 56), (68, 99999), (79, 99999), (81, 99999)] σ r.2 := by
  unfold f_Mo_eye_60 at h
  try dsimp only at h
  obtain ⟨q2, q2h, h⟩ := x_bind h
  try dsimp only at h
  have q2f := fr_Mo_within q2h
  refine x_iteC h (fun h => ?_) (fun h => ?_)
  · skip
    obtain ⟨q3, q3h, h⟩ := x_bind h
    try dsimp only at h
    have q3f := fr_Mo_refuses_60 q3h
    cases h
    exact (x_fr.trans (x_fr.trans (x_frI (p := 60) (k := 0) rfl x_fr.rf) (x_fr.su q2f rfl)) (x_fr.su q3f rfl))
  · skip
    obtain ⟨q4, q4h, h⟩ := x_bind h
    try dsimp only at h
    have q4f := fr_Mo_becomes_60 q4h
    cases h
    exact (x_fr.trans (x_fr.trans (x_frI (p := 60) (k := 0) rfl x_fr.rf) (x_fr.su q2f rfl)) (x_fr.su q4f rfl))
set_option maxHeartbeats 4000000 in
set_option maxRecDepth 100000 in
theorem fr_Mo_hand_60 {v1 : Int32} {σ : xS} {r : Int32 × xS} (h : f_Mo_hand_60 v1 σ = some r) : x_fr [(60, 0), (60, 56), (68, 99999), (79, 99999), (81, 99999)] σ r.2 := by
  unfold f_Mo_hand_60 at h
  try dsimp only at h
  refine x_iteC h (fun h => ?_) (fun h => ?_)
  · skip
    obtain ⟨q2, q2h, h⟩ := x_bind h
    try dsimp only at h
    have q2f := fr_Mo_refuses_60 q2h
    refine x_iteC h (fun h => ?_) (fun h => ?_)
    · skip
      cases h
      exact (x_fr.trans (x_frI (p := 60) (k := 0) rfl x_fr.rf) (x_fr.su q2f rfl))
    · skip
      cases h
      exact (x_fr.trans (x_frI (p := 60) (k := 0) rfl x_fr.rf) (x_fr.su q2f rfl))
  · skip
    refine x_iteC h (fun h => ?_) (fun h => ?_)
    · skip
      obtain ⟨q3, q3h, h⟩ := x_bind h
      try dsimp only at h
      have q3f := fr_Mo_becomes_60 q3h
      cases h
      exact (x_fr.trans (x_frI (p := 60) (k := 0) rfl x_fr.rf) (x_fr.su q3f rfl))
    · skip
      obtain ⟨q4, q4h, h⟩ := x_bind h
      try dsimp only at h
      have q4f := fr_Mo_refuses_60 q4h
      refine x_iteC h (fun h => ?_) (fun h => ?_)
      · skip
        cases h
        exact (x_fr.trans (x_frI (p := 60) (k := 0) rfl x_fr.rf) (x_fr.su q4f rfl))
      · skip
        cases h
        exact (x_fr.trans (x_frI (p := 60) (k := 0) rfl x_fr.rf) (x_fr.su q4f rfl))
set_option maxHeartbeats 4000000 in
set_option maxRecDepth 100000 in
theorem fr_Mo_behind_60 {v1 : Int32} {σ : xS} {r : Int32 × xS} (h : f_Mo_behind_60 v1 σ = some r) : x_fr [(60, 0), (60, 56), (68, 99999), (79, 99999), (81, 99999)] σ r.2 := by
  unfold f_Mo_behind_60 at h
  try dsimp only at h
  obtain ⟨q2, q2h, h⟩ := x_bind h
  try dsimp only at h
  have q2f := fr_Mo_within q2h
  refine x_iteC h (fun h => ?_) (fun h => ?_)
  · skip
    obtain ⟨q3, q3h, h⟩ := x_bind h
    try dsimp only at h
    have q3f := fr_Mo_refuses_60 q3h
    cases h
    exact (x_fr.trans (x_fr.trans (x_frI (p := 60) (k := 0) rfl x_fr.rf) (x_fr.su q2f rfl)) (x_fr.su q3f rfl))
  · skip
    obtain ⟨q4, q4h, h⟩ := x_bind h
    try dsimp only at h
    have q4f := fr_Mo_becomes_60 q4h
    cases h
    exact (x_fr.trans (x_fr.trans (x_frI (p := 60) (k := 0) rfl x_fr.rf) (x_fr.su q2f rfl)) (x_fr.su q4f rfl))
set_option maxHeartbeats 4000000 in
set_option maxRecDepth 100000 in
theorem fr_Mo_chalk_60_L37 {v1 : Int32} {v2 : Int32} {a : Int32 × Int32 × xS} {o : (Int32 × Int32 × xS) ⊕ (Int32 × Int32 × xS)} (h : f_Mo_chalk_60_L37 v1 v2 a = some o) : x_frO [] (fun a => a.2.2) (fun b => b.2.2) a.2.2 o := by
  unfold f_Mo_chalk_60_L37 at h
  try dsimp only at h
  refine x_iteC h (fun h => ?_) (fun h => ?_)
  · skip
    cases h
    exact x_frO.b x_fr.rf
  · skip
    refine x_iteC h (fun h => ?_) (fun h => ?_)
    · skip
      obtain ⟨-, h⟩ := x_ifn h
      refine x_iteC h (fun h => ?_) (fun h => ?_)
      · skip
        cases h
        exact x_frO.a2 x_fr.rf
      · skip
        cases h
        exact x_frO.a2 x_fr.rf
    · skip
      cases h
      exact x_frO.a2 x_fr.rf
set_option maxHeartbeats 4000000 in
set_option maxRecDepth 100000 in
theorem fr_Mo_chalk_60_J23 {v1 : Int32} {v2 : Int32} {y1 : Int32} {σ : xS} {r : Int32 × xS} (h : f_Mo_chalk_60_J23 v1 v2 y1 σ = some r) : x_fr [(60, 0), (60, 56), (68, 99999), (79, 99999), (81, 99999)] σ r.2 := by
  unfold f_Mo_chalk_60_J23 at h
  try dsimp only at h
  obtain ⟨q4, q4h, h⟩ := x_bind h
  try dsimp only at h
  have q4f := fr_Mo_right_60 q4h
  refine x_iteC h (fun h => ?_) (fun h => ?_)
  · skip
    cases h
    exact (x_fr.trans x_fr.rf (x_fr.su q4f rfl))
  · skip
    obtain ⟨b5, b5h, h⟩ := x_bind h
    try dsimp only at h
    have b5f := x_itF (sA := (fun a => a.2.2)) (sB := (fun b => b.2.2)) (fun a o h => fr_Mo_chalk_60_L37 h) _ _ _ b5h
    refine x_iteC h (fun h => ?_) (fun h => ?_)
    · skip
      obtain ⟨q7, q7h, h⟩ := x_bind h
      try dsimp only at h
      have q7f := fr_Mo_within q7h
      refine x_iteC h (fun h => ?_) (fun h => ?_)
      · skip
        obtain ⟨q9, q9h, h⟩ := x_bind h
        try dsimp only at h
        have q9f := fr_Mo_refuses_60 q9h
        cases h
        exact (x_fr.trans (x_fr.trans (x_fr.trans (x_fr.trans x_fr.rf (x_fr.su q4f rfl)) (x_fr.su b5f rfl)) (x_fr.su q7f rfl)) (x_fr.su q9f rfl))
      · skip
        obtain ⟨q8, q8h, h⟩ := x_bind h
        try dsimp only at h
        have q8f := fr_Mo_becomes_60 q8h
        cases h
        exact (x_fr.trans (x_fr.trans (x_fr.trans (x_fr.trans x_fr.rf (x_fr.su q4f rfl)) (x_fr.su b5f rfl)) (x_fr.su q7f rfl)) (x_fr.su q8f rfl))
    · skip
      obtain ⟨q6, q6h, h⟩ := x_bind h
      try dsimp only at h
      have q6f := fr_Mo_refuses_60 q6h
      cases h
      exact (x_fr.trans (x_fr.trans (x_fr.trans x_fr.rf (x_fr.su q4f rfl)) (x_fr.su b5f rfl)) (x_fr.su q6f rfl))
set_option maxHeartbeats 4000000 in
set_option maxRecDepth 100000 in
theorem fr_Mo_chalk_60_J22 {v1 : Int32} {v2 : Int32} {σ : xS} {r : Int32 × xS} (h : f_Mo_chalk_60_J22 v1 v2 σ = some r) : x_fr [(60, 0), (60, 56), (68, 99999), (79, 99999), (81, 99999)] σ r.2 := by
  unfold f_Mo_chalk_60_J22 at h
  try dsimp only at h
  exact x_fr.trans x_fr.rf (x_fr.su (fr_Mo_chalk_60_J23 h) rfl)
set_option maxHeartbeats 4000000 in
set_option maxRecDepth 100000 in
theorem fr_Mo_chalk_60 {v1 : Int32} {v2 : Int32} {σ : xS} {r : Int32 × xS} (h : f_Mo_chalk_60 v1 v2 σ = some r) : x_fr [(60, 0), (60, 56), (68, 99999), (79, 99999), (81, 99999)] σ r.2 := by
  unfold f_Mo_chalk_60 at h
  try dsimp only at h
  refine x_iteC h (fun h => ?_) (fun h => ?_)
  · skip
    exact x_fr.trans (x_frI (p := 60) (k := 0) rfl x_fr.rf) (x_fr.su (fr_Mo_chalk_60_J22 h) rfl)
  · skip
    refine x_iteC h (fun h => ?_) (fun h => ?_)
    · skip
      exact x_fr.trans (x_frI (p := 60) (k := 0) rfl x_fr.rf) (x_fr.su (fr_Mo_chalk_60_J22 h) rfl)
    · skip
      exact x_fr.trans (x_frI (p := 60) (k := 0) rfl x_fr.rf) (x_fr.su (fr_Mo_chalk_60_J23 h) rfl)
set_option maxHeartbeats 4000000 in
set_option maxRecDepth 100000 in
theorem fr_Mo_best_60_J79 {v1 : Int32} {v2 : Int32} {v3 : Int32} {v4 : Int32} {v5 : Int32} {v6 : Int32} {v7 : Int32} {σ : xS} {o : (Int32 × Int32 × Int32 × Int32 × Int32 × xS) ⊕ (Int32 × Int32 × Int32 × Int32 × Int32 × xS)} (h : f_Mo_best_60_J79 v1 v2 v3 v4 v5 v6 v7 σ = some o) : x_frO [] (fun a => a.2.2.2.2.2) (fun b => b.2.2.2.2.2) σ o := by
  unfold f_Mo_best_60_J79 at h
  try dsimp only at h
  refine x_iteC h (fun h => ?_) (fun h => ?_)
  · skip
    obtain ⟨q1, q1h, h⟩ := x_bind h
    try dsimp only at h
    have q1f := fr_Mo_mostOff_60 q1h
    cases h
    exact x_frO.a5 (x_fr.trans x_fr.rf (x_fr.su q1f rfl))
  · skip
    obtain ⟨q4, q4h, h⟩ := x_bind h
    try dsimp only at h
    have q4f := fr_Mo_mostOff_60 q4h
    refine x_iteC h (fun h => ?_) (fun h => ?_)
    · skip
      cases h
      exact x_frO.a5 (x_fr.trans x_fr.rf (x_fr.su q4f rfl))
    · skip
      obtain ⟨q6, q6h, h⟩ := x_bind h
      try dsimp only at h
      have q6f := fr_Mo_mostOff_60 q6h
      cases h
      exact x_frO.a5 (x_fr.trans (x_fr.trans x_fr.rf (x_fr.su q4f rfl)) (x_fr.su q6f rfl))
set_option maxHeartbeats 4000000 in
set_option maxRecDepth 100000 in
theorem fr_Mo_best_60_J72 {v1 : Int32} {v2 : Int32} {v5 : Int32} {v6 : Int32} {v7 : Int32} {v8 : Int32} {σ : xS} {o : (Int32 × Int32 × Int32 × Int32 × Int32 × xS) ⊕ (Int32 × Int32 × Int32 × Int32 × Int32 × xS)} (h : f_Mo_best_60_J72 v1 v2 v5 v6 v7 v8 σ = some o) : x_frO [] (fun a => a.2.2.2.2.2) (fun b => b.2.2.2.2.2) σ o := by
  unfold f_Mo_best_60_J72 at h
  try dsimp only at h
  exact x_frO.tr x_fr.rf (x_frO.su (fr_Mo_best_60_J79 h) rfl)
set_option maxHeartbeats 4000000 in
set_option maxRecDepth 100000 in
theorem fr_Mo_best_60_L37 {v1 : Int32} {v2 : Int32} {a : Int32 × Int32 × Int32 × Int32 × Int32 × xS} {o : (Int32 × Int32 × Int32 × Int32 × Int32 × xS) ⊕ (Int32 × Int32 × Int32 × Int32 × Int32 × xS)} (h : f_Mo_best_60_L37 v1 v2 a = some o) : x_frO [(79, 99999), (82, 99999), (83, 99999), (84, 99999), (85, 99999), (86, 99999)] (fun a => a.2.2.2.2.2) (fun b => b.2.2.2.2.2) a.2.2.2.2.2 o := by
  unfold f_Mo_best_60_L37 at h
  try dsimp only at h
  refine x_iteC h (fun h => ?_) (fun h => ?_)
  · skip
    cases h
    exact x_frO.b x_fr.rf
  · skip
    obtain ⟨q10, q10h, h⟩ := x_bind h
    try dsimp only at h
    have q10f := fr_Mo_takesSharp_60 q10h
    refine x_iteC h (fun h => ?_) (fun h => ?_)
    · skip
      exact x_frO.tr (x_fr.trans (x_frI (p := 79) (k := 5) rfl x_fr.rf) (x_fr.su q10f rfl)) (x_frO.su (fr_Mo_best_60_J72 h) rfl)
    · skip
      refine x_iteC h (fun h => ?_) (fun h => ?_)
      · skip
        exact x_frO.tr (x_fr.trans (x_frI (p := 79) (k := 5) rfl x_fr.rf) (x_fr.su q10f rfl)) (x_frO.su (fr_Mo_best_60_J79 h) rfl)
      · skip
        exact x_frO.tr (x_fr.trans (x_frI (p := 79) (k := 5) rfl x_fr.rf) (x_fr.su q10f rfl)) (x_frO.su (fr_Mo_best_60_J72 h) rfl)
set_option maxHeartbeats 4000000 in
set_option maxRecDepth 100000 in
theorem fr_Mo_best_60 {v1 : Int32} {σ : xS} {r : Int32 × xS} (h : f_Mo_best_60 v1 σ = some r) : x_fr [(60, 0), (79, 99999), (82, 99999), (83, 99999), (84, 99999), (85, 99999), (86, 99999)] σ r.2 := by
  unfold f_Mo_best_60 at h
  try dsimp only at h
  obtain ⟨q13, q13h, h⟩ := x_bind h
  try dsimp only at h
  have q13f := fr_Mo_isWhat_60 q13h
  refine x_iteC h (fun h => ?_) (fun h => ?_)
  · skip
    cases h
    exact (x_fr.trans (x_frI (p := 60) (k := 0) rfl x_fr.rf) (x_fr.su q13f rfl))
  · skip
    obtain ⟨b15, b15h, h⟩ := x_bind h
    try dsimp only at h
    have b15f := x_itF (sA := (fun a => a.2.2.2.2.2)) (sB := (fun b => b.2.2.2.2.2)) (fun a o h => fr_Mo_best_60_L37 h) _ _ _ b15h
    refine x_iteC h (fun h => ?_) (fun h => ?_)
    · skip
      cases h
      exact (x_frI (p := 79) (k := 5) rfl (x_fr.trans (x_fr.trans (x_frI (p := 60) (k := 0) rfl x_fr.rf) (x_fr.su q13f rfl)) (x_fr.su b15f rfl)))
    · skip
      refine x_iteC h (fun h => ?_) (fun h => ?_)
      · skip
        cases h
        exact (x_frI (p := 79) (k := 5) rfl (x_fr.trans (x_fr.trans (x_frI (p := 60) (k := 0) rfl x_fr.rf) (x_fr.su q13f rfl)) (x_fr.su b15f rfl)))
      · skip
        refine x_iteC h (fun h => ?_) (fun h => ?_)
        · skip
          cases h
          exact (x_frI (p := 79) (k := 5) rfl (x_fr.trans (x_fr.trans (x_frI (p := 60) (k := 0) rfl x_fr.rf) (x_fr.su q13f rfl)) (x_fr.su b15f rfl)))
        · skip
          cases h
          exact (x_frI (p := 79) (k := 5) rfl (x_fr.trans (x_fr.trans (x_frI (p := 60) (k := 0) rfl x_fr.rf) (x_fr.su q13f rfl)) (x_fr.su b15f rfl)))
set_option maxHeartbeats 4000000 in
set_option maxRecDepth 100000 in
theorem fr_Mo_foretell_60_J54 {v1 : Int32} {v2 : Int32} {v3 : Int32} {v4 : Int32} {y1 : Int32} {σ : xS} {o : (Int32 × Int32 × Int32 × xS) ⊕ (Int32 × Int32 × Int32 × xS)} (h : f_Mo_foretell_60_J54 v1 v2 v3 v4 y1 σ = some o) : x_frO [(60, 64), (82, 99999), (83, 99999), (84, 99999), (85, 99999), (86, 99999)] (fun a => a.2.2.2) (fun b => b.2.2.2) σ o := by
  unfold f_Mo_foretell_60_J54 at h
  try dsimp only at h
  obtain ⟨q2, q2h, h⟩ := x_bind h
  try dsimp only at h
  have q2f := fr_Mo_takesSharp_60 q2h
  refine x_iteC h (fun h => ?_) (fun h => ?_)
  · skip
    cases h
    exact x_frO.a3 (x_fr.trans (x_frI (p := 60) (k := 64) rfl x_fr.rf) (x_fr.su q2f rfl))
  · skip
    cases h
    exact x_frO.a3 (x_fr.trans (x_frI (p := 60) (k := 64) rfl x_fr.rf) (x_fr.su q2f rfl))
set_option maxHeartbeats 4000000 in
set_option maxRecDepth 100000 in
theorem fr_Mo_foretell_60_L23 {v1 : Int32} {a : Int32 × Int32 × Int32 × xS} {o : (Int32 × Int32 × Int32 × xS) ⊕ (Int32 × Int32 × Int32 × xS)} (h : f_Mo_foretell_60_L23 v1 a = some o) : x_frO [(60, 64), (82, 99999), (83, 99999), (84, 99999), (85, 99999), (86, 99999)] (fun a => a.2.2.2) (fun b => b.2.2.2) a.2.2.2 o := by
  unfold f_Mo_foretell_60_L23 at h
  try dsimp only at h
  refine x_iteC h (fun h => ?_) (fun h => ?_)
  · skip
    cases h
    exact x_frO.b x_fr.rf
  · skip
    refine x_iteC h (fun h => ?_) (fun h => ?_)
    · skip
      exact x_frO.tr x_fr.rf (x_frO.su (fr_Mo_foretell_60_J54 h) rfl)
    · skip
      exact x_frO.tr x_fr.rf (x_frO.su (fr_Mo_foretell_60_J54 h) rfl)
set_option maxHeartbeats 4000000 in
set_option maxRecDepth 100000 in
theorem fr_Mo_foretell_60 {v1 : Int32} {σ : xS} {r : Int32 × xS} (h : f_Mo_foretell_60 v1 σ = some r) : x_fr [(60, 0), (60, 64), (82, 99999), (83, 99999), (84, 99999), (85, 99999), (86, 99999)] σ r.2 := by
  unfold f_Mo_foretell_60 at h
  try dsimp only at h
  obtain ⟨q8, q8h, h⟩ := x_bind h
  try dsimp only at h
  have q8f := fr_Mo_isWhat_60 q8h
  refine x_iteC h (fun h => ?_) (fun h => ?_)
  · skip
    cases h
    exact (x_fr.trans (x_frI (p := 60) (k := 0) rfl x_fr.rf) (x_fr.su q8f rfl))
  · skip
    obtain ⟨b9, b9h, h⟩ := x_bind h
    try dsimp only at h
    have b9f := x_itF (sA := (fun a => a.2.2.2)) (sB := (fun b => b.2.2.2)) (fun a o h => fr_Mo_foretell_60_L23 h) _ _ _ b9h
    refine x_iteC h (fun h => ?_) (fun h => ?_)
    · skip
      cases h
      exact (x_frI (p := 60) (k := 64) rfl (x_fr.trans (x_fr.trans (x_frI (p := 60) (k := 0) rfl x_fr.rf) (x_fr.su q8f rfl)) (x_fr.su b9f rfl)))
    · skip
      cases h
      exact (x_frI (p := 60) (k := 64) rfl (x_fr.trans (x_fr.trans (x_frI (p := 60) (k := 0) rfl x_fr.rf) (x_fr.su q8f rfl)) (x_fr.su b9f rfl)))
set_option maxHeartbeats 4000000 in
set_option maxRecDepth 100000 in
theorem fr_Mo_findsRun_60_J82 {v1 : Int32} {v2 : Int32} {σ : xS} {o : (Int32 × xS) ⊕ (Int32 × xS)} (h : f_Mo_findsRun_60_J82 v1 v2 σ = some o) : x_frO [(60, 67)] (fun a => a.2) (fun b => b.2) σ o := by
  unfold f_Mo_findsRun_60_J82 at h
  try dsimp only at h
  refine x_iteC h (fun h => ?_) (fun h => ?_)
  · skip
    cases h
    exact x_frO.a1 (x_frI (p := 60) (k := 67) rfl x_fr.rf)
  · skip
    cases h
    exact x_frO.a1 (x_frI (p := 60) (k := 67) rfl x_fr.rf)
set_option maxHeartbeats 4000000 in
set_option maxRecDepth 100000 in
theorem fr_Mo_findsRun_60_J79 {v1 : Int32} {v2 : Int32} {y1 : Int32} {σ : xS} {o : (Int32 × xS) ⊕ (Int32 × xS)} (h : f_Mo_findsRun_60_J79 v1 v2 y1 σ = some o) : x_frO [(60, 66), (60, 67)] (fun a => a.2) (fun b => b.2) σ o := by
  unfold f_Mo_findsRun_60_J79 at h
  try dsimp only at h
  exact x_frO.tr (x_frI (p := 60) (k := 66) rfl x_fr.rf) (x_frO.su (fr_Mo_findsRun_60_J82 h) rfl)
set_option maxHeartbeats 4000000 in
set_option maxRecDepth 100000 in
theorem fr_Mo_findsRun_60_J50 {v1 : Int32} {v2 : Int32} {σ : xS} {o : (Int32 × xS) ⊕ (Int32 × xS)} (h : f_Mo_findsRun_60_J50 v1 v2 σ = some o) : x_frO [(60, 65), (60, 66), (60, 67)] (fun a => a.2) (fun b => b.2) σ o := by
  unfold f_Mo_findsRun_60_J50 at h
  try dsimp only at h
  refine x_iteC h (fun h => ?_) (fun h => ?_)
  · skip
    exact x_frO.tr (x_frI (p := 60) (k := 65) rfl x_fr.rf) (x_frO.su (fr_Mo_findsRun_60_J79 h) rfl)
  · skip
    exact x_frO.tr (x_frI (p := 60) (k := 65) rfl x_fr.rf) (x_frO.su (fr_Mo_findsRun_60_J79 h) rfl)
set_option maxHeartbeats 4000000 in
set_option maxRecDepth 100000 in
theorem fr_Mo_findsRun_60_L17 {v1 : Int32} {a : Int32 × xS} {o : (Int32 × xS) ⊕ (Int32 × xS)} (h : f_Mo_findsRun_60_L17 v1 a = some o) : x_frO [(60, 65), (60, 66), (60, 67)] (fun a => a.2) (fun b => b.2) a.2 o := by
  unfold f_Mo_findsRun_60_L17 at h
  try dsimp only at h
  obtain ⟨q7, q7h, h⟩ := x_bind h
  try dsimp only at h
  have q7f := fr_Mo_last_60 q7h
  refine x_iteC h (fun h => ?_) (fun h => ?_)
  · skip
    cases h
    exact x_frO.b (x_fr.trans x_fr.rf (x_fr.su q7f rfl))
  · skip
    obtain ⟨q8, q8h, h⟩ := x_bind h
    try dsimp only at h
    have q8f := fr_Mo_isSharp_60 q8h
    refine x_iteC h (fun h => ?_) (fun h => ?_)
    · skip
      refine x_iteC h (fun h => ?_) (fun h => ?_)
      · skip
        exact x_frO.tr (x_fr.trans (x_fr.trans x_fr.rf (x_fr.su q7f rfl)) (x_fr.su q8f rfl)) (x_frO.su (fr_Mo_findsRun_60_J50 h) rfl)
      · skip
        obtain ⟨q9, q9h, h⟩ := x_bind h
        try dsimp only at h
        have q9f := fr_Mo_isSharp_60 q9h
        refine x_iteC h (fun h => ?_) (fun h => ?_)
        · skip
          exact x_frO.tr (x_fr.trans (x_fr.trans (x_fr.trans x_fr.rf (x_fr.su q7f rfl)) (x_fr.su q8f rfl)) (x_fr.su q9f rfl)) (x_frO.su (fr_Mo_findsRun_60_J82 h) rfl)
        · skip
          exact x_frO.tr (x_fr.trans (x_fr.trans (x_fr.trans x_fr.rf (x_fr.su q7f rfl)) (x_fr.su q8f rfl)) (x_fr.su q9f rfl)) (x_frO.su (fr_Mo_findsRun_60_J50 h) rfl)
    · skip
      cases h
      exact x_frO.a1 (x_fr.trans (x_fr.trans x_fr.rf (x_fr.su q7f rfl)) (x_fr.su q8f rfl))
set_option maxHeartbeats 4000000 in
set_option maxRecDepth 100000 in
theorem fr_Mo_findsRun_60 {v1 : Int32} {σ : xS} {r : Unit × xS} (h : f_Mo_findsRun_60 v1 σ = some r) : x_fr [(60, 65), (60, 66), (60, 67)] σ r.2 := by
  unfold f_Mo_findsRun_60 at h
  try dsimp only at h
  obtain ⟨b14, b14h, h⟩ := x_bind h
  try dsimp only at h
  have b14f := x_itF (sA := (fun a => a.2)) (sB := (fun b => b.2)) (fun a o h => fr_Mo_findsRun_60_L17 h) _ _ _ b14h
  cases h
  exact (x_fr.trans (x_frI (p := 60) (k := 67) rfl (x_frI (p := 60) (k := 66) rfl (x_frI (p := 60) (k := 65) rfl x_fr.rf))) (x_fr.su b14f rfl))
set_option maxHeartbeats 4000000 in
set_option maxRecDepth 100000 in
theorem fr_Mo_runs_60_J44 {v1 : Int32} {v2 : Int32} {y1 : Int32} {σ : xS} {r : Int32 × xS} (h : f_Mo_runs_60_J44 v1 v2 y1 σ = some r) : x_fr [(60, 0)] σ r.2 := by
  unfold f_Mo_runs_60_J44 at h
  try dsimp only at h
  obtain ⟨q1, q1h, h⟩ := x_bind h
  try dsimp only at h
  have q1f := fr_Mo_right_60 q1h
  refine x_iteC h (fun h => ?_) (fun h => ?_)
  · skip
    cases h
    exact (x_fr.trans x_fr.rf (x_fr.su q1f rfl))
  · skip
    refine x_iteC h (fun h => ?_) (fun h => ?_)
    · skip
      cases h
      exact (x_fr.trans x_fr.rf (x_fr.su q1f rfl))
    · skip
      refine x_iteC h (fun h => ?_) (fun h => ?_)
      · skip
        cases h
        exact (x_fr.trans x_fr.rf (x_fr.su q1f rfl))
      · skip
        cases h
        exact (x_fr.trans x_fr.rf (x_fr.su q1f rfl))
set_option maxHeartbeats 4000000 in
set_option maxRecDepth 100000 in
theorem fr_Mo_runs_60_J43 {v1 : Int32} {v2 : Int32} {σ : xS} {r : Int32 × xS} (h : f_Mo_runs_60_J43 v1 v2 σ = some r) : x_fr [(60, 0)] σ r.2 := by
  unfold f_Mo_runs_60_J43 at h
  try dsimp only at h
  exact x_fr.trans x_fr.rf (x_fr.su (fr_Mo_runs_60_J44 h) rfl)
set_option maxHeartbeats 4000000 in
set_option maxRecDepth 100000 in
theorem fr_Mo_runs_60 {v1 : Int32} {v2 : Int32} {σ : xS} {r : Int32 × xS} (h : f_Mo_runs_60 v1 v2 σ = some r) : x_fr [(60, 0), (60, 65), (60, 66), (60, 67), (82, 99999), (83, 99999), (84, 99999), (85, 99999), (86, 99999)] σ r.2 := by
  unfold f_Mo_runs_60 at h
  try dsimp only at h
  obtain ⟨q3, q3h, h⟩ := x_bind h
  try dsimp only at h
  have q3f := fr_Mo_isWhat_60 q3h
  refine x_iteC h (fun h => ?_) (fun h => ?_)
  · skip
    cases h
    exact (x_fr.trans (x_frI (p := 60) (k := 0) rfl x_fr.rf) (x_fr.su q3f rfl))
  · skip
    obtain ⟨q4, q4h, h⟩ := x_bind h
    try dsimp only at h
    have q4f := fr_Mo_goesThrough_60 q4h
    obtain ⟨q5, q5h, h⟩ := x_bind h
    try dsimp only at h
    have q5f := fr_Mo_findsRun_60 q5h
    refine x_iteC h (fun h => ?_) (fun h => ?_)
    · skip
      exact x_fr.trans (x_fr.trans (x_fr.trans (x_fr.trans (x_frI (p := 60) (k := 0) rfl x_fr.rf) (x_fr.su q3f rfl)) (x_fr.su q4f rfl)) (x_fr.su q5f rfl)) (x_fr.su (fr_Mo_runs_60_J43 h) rfl)
    · skip
      refine x_iteC h (fun h => ?_) (fun h => ?_)
      · skip
        exact x_fr.trans (x_fr.trans (x_fr.trans (x_fr.trans (x_frI (p := 60) (k := 0) rfl x_fr.rf) (x_fr.su q3f rfl)) (x_fr.su q4f rfl)) (x_fr.su q5f rfl)) (x_fr.su (fr_Mo_runs_60_J43 h) rfl)
      · skip
        exact x_fr.trans (x_fr.trans (x_fr.trans (x_fr.trans (x_frI (p := 60) (k := 0) rfl x_fr.rf) (x_fr.su q3f rfl)) (x_fr.su q4f rfl)) (x_fr.su q5f rfl)) (x_fr.su (fr_Mo_runs_60_J44 h) rfl)
set_option maxHeartbeats 4000000 in
set_option maxRecDepth 100000 in
theorem fr_Mo_sharpWith_60 {v1 : Int32} {v2 : Int32} {σ : xS} {r : Int32 × xS} (h : f_Mo_sharpWith_60 v1 v2 σ = some r) : x_fr [(79, 99999), (82, 99999), (83, 99999), (84, 99999), (85, 99999), (86, 99999)] σ r.2 := by
  unfold f_Mo_sharpWith_60 at h
  try dsimp only at h
  obtain ⟨-, h⟩ := x_ifn h
  obtain ⟨-, h⟩ := x_ifn h
  obtain ⟨q3, q3h, h⟩ := x_bind h
  try dsimp only at h
  have q3f := fr_Mo_takesSharp_60 q3h
  obtain ⟨-, h⟩ := x_ifn h
  cases h
  exact (x_frI (p := 79) rfl (x_fr.trans (x_frI (p := 79) rfl x_fr.rf) (x_fr.su q3f rfl)))
set_option maxHeartbeats 4000000 in
set_option maxRecDepth 100000 in
theorem fr_Mo_cure_60_J49 {v1 : Int32} {v2 : Int32} {v3 : Int32} {y1 : Int32} {y2 : Int32} {σ : xS} {o : (Int32 × Int32 × Int32 × xS) ⊕ (Int32 × Int32 × Int32 × xS)} (h : f_Mo_cure_60_J49 v1 v2 v3 y1 y2 σ = some o) : x_frO [(79, 99999), (82, 99999), (83, 99999), (84, 99999), (85, 99999), (86, 99999)] (fun a => a.2.2.2) (fun b => b.2.2.2) σ o := by
  unfold f_Mo_cure_60_J49 at h
  try dsimp only at h
  obtain ⟨q1, q1h, h⟩ := x_bind h
  try dsimp only at h
  have q1f := fr_Mo_sharpWith_60 q1h
  refine x_iteC h (fun h => ?_) (fun h => ?_)
  · skip
    cases h
    exact x_frO.a3 (x_fr.trans x_fr.rf (x_fr.su q1f rfl))
  · skip
    cases h
    exact x_frO.a3 (x_fr.trans x_fr.rf (x_fr.su q1f rfl))
set_option maxHeartbeats 4000000 in
set_option maxRecDepth 100000 in
theorem fr_Mo_cure_60_J38 {v1 : Int32} {v2 : Int32} {v3 : Int32} {y1 : Int32} {σ : xS} {o : (Int32 × Int32 × Int32 × xS) ⊕ (Int32 × Int32 × Int32 × xS)} (h : f_Mo_cure_60_J38 v1 v2 v3 y1 σ = some o) : x_frO [(79, 99999), (82, 99999), (83, 99999), (84, 99999), (85, 99999), (86, 99999)] (fun a => a.2.2.2) (fun b => b.2.2.2) σ o := by
  unfold f_Mo_cure_60_J38 at h
  try dsimp only at h
  refine x_iteC h (fun h => ?_) (fun h => ?_)
  · skip
    exact x_frO.tr x_fr.rf (x_frO.su (fr_Mo_cure_60_J49 h) rfl)
  · skip
    exact x_frO.tr x_fr.rf (x_frO.su (fr_Mo_cure_60_J49 h) rfl)
set_option maxHeartbeats 4000000 in
set_option maxRecDepth 100000 in
theorem fr_Mo_cure_60_L14 {a : Int32 × Int32 × Int32 × xS} {o : (Int32 × Int32 × Int32 × xS) ⊕ (Int32 × Int32 × Int32 × xS)} (h : f_Mo_cure_60_L14 a = some o) : x_frO [(79, 99999), (82, 99999), (83, 99999), (84, 99999), (85, 99999), (86, 99999)] (fun a => a.2.2.2) (fun b => b.2.2.2) a.2.2.2 o := by
  unfold f_Mo_cure_60_L14 at h
  try dsimp only at h
  refine x_iteC h (fun h => ?_) (fun h => ?_)
  · skip
    cases h
    exact x_frO.b x_fr.rf
  · skip
    refine x_iteC h (fun h => ?_) (fun h => ?_)
    · skip
      exact x_frO.tr x_fr.rf (x_frO.su (fr_Mo_cure_60_J38 h) rfl)
    · skip
      refine x_iteC h (fun h => ?_) (fun h => ?_)
      · skip
        exact x_frO.tr x_fr.rf (x_frO.su (fr_Mo_cure_60_J38 h) rfl)
      · skip
        exact x_frO.tr x_fr.rf (x_frO.su (fr_Mo_cure_60_J38 h) rfl)
set_option maxHeartbeats 4000000 in
set_option maxRecDepth 100000 in
theorem fr_Mo_cure_60 {σ : xS} {r : Int32 × xS} (h : f_Mo_cure_60 σ = some r) : x_fr [(60, 0), (79, 99999), (82, 99999), (83, 99999), (84, 99999), (85, 99999), (86, 99999)] σ r.2 := by
  unfold f_Mo_cure_60 at h
  try dsimp only at h
  obtain ⟨q6, q6h, h⟩ := x_bind h
  try dsimp only at h
  have q6f := fr_Mo_takesSharp_60 q6h
  obtain ⟨b8, b8h, h⟩ := x_bind h
  try dsimp only at h
  have b8f := x_itF (sA := (fun a => a.2.2.2)) (sB := (fun b => b.2.2.2)) (fun a o h => fr_Mo_cure_60_L14 h) _ _ _ b8h
  cases h
  exact (x_fr.trans (x_fr.trans (x_frI (p := 60) (k := 0) rfl x_fr.rf) (x_fr.su q6f rfl)) (x_fr.su b8f rfl))
set_option maxHeartbeats 4000000 in
set_option maxRecDepth 100000 in
theorem fr_Mo_wrists_60_L11 {a : Int32 × Int32 × Int32 × xS} {o : (Int32 × Int32 × Int32 × xS) ⊕ (Int32 × Int32 × Int32 × xS)} (h : f_Mo_wrists_60_L11 a = some o) : x_frO [(79, 99999), (82, 99999), (83, 99999), (84, 99999), (85, 99999), (86, 99999)] (fun a => a.2.2.2) (fun b => b.2.2.2) a.2.2.2 o := by
  unfold f_Mo_wrists_60_L11 at h
  try dsimp only at h
  refine x_iteC h (fun h => ?_) (fun h => ?_)
  · skip
    cases h
    exact x_frO.b x_fr.rf
  · skip
    obtain ⟨q1, q1h, h⟩ := x_bind h
    try dsimp only at h
    have q1f := fr_Mo_sharpWith_60 q1h
    refine x_iteC h (fun h => ?_) (fun h => ?_)
    · skip
      cases h
      exact x_frO.a3 (x_fr.trans x_fr.rf (x_fr.su q1f rfl))
    · skip
      cases h
      exact x_frO.a3 (x_fr.trans x_fr.rf (x_fr.su q1f rfl))
set_option maxHeartbeats 4000000 in
set_option maxRecDepth 100000 in
theorem fr_Mo_wrists_60 {σ : xS} {r : Int32 × xS} (h : f_Mo_wrists_60 σ = some r) : x_fr [(60, 0), (79, 99999), (82, 99999), (83, 99999), (84, 99999), (85, 99999), (86, 99999)] σ r.2 := by
  unfold f_Mo_wrists_60 at h
  try dsimp only at h
  obtain ⟨b6, b6h, h⟩ := x_bind h
  try dsimp only at h
  have b6f := x_itF (sA := (fun a => a.2.2.2)) (sB := (fun b => b.2.2.2)) (fun a o h => fr_Mo_wrists_60_L11 h) _ _ _ b6h
  cases h
  exact (x_fr.trans (x_frI (p := 60) (k := 0) rfl x_fr.rf) (x_fr.su b6f rfl))
set_option maxHeartbeats 4000000 in
set_option maxRecDepth 100000 in
theorem fr_Mo_learn_60_J46 {v1 : Int32} {v2 : Int32} {v3 : Int32} {v4 : Int32} {y1 : Int32} {y2 : Int32} {σ : xS} {o : (Int32 × Int32 × Int32 × xS) ⊕ (Int32 × Int32 × Int32 × xS)} (h : f_Mo_learn_60_J46 v1 v2 v3 v4 y1 y2 σ = some o) : x_frO [(79, 99999), (82, 99999), (83, 99999), (84, 99999), (85, 99999), (86, 99999)] (fun a => a.2.2.2) (fun b => b.2.2.2) σ o := by
  unfold f_Mo_learn_60_J46 at h
  try dsimp only at h
  obtain ⟨q1, q1h, h⟩ := x_bind h
  try dsimp only at h
  have q1f := fr_Mo_sharpWith_60 q1h
  refine x_iteC h (fun h => ?_) (fun h => ?_)
  · skip
    cases h
    exact x_frO.a3 (x_fr.trans x_fr.rf (x_fr.su q1f rfl))
  · skip
    cases h
    exact x_frO.a3 (x_fr.trans x_fr.rf (x_fr.su q1f rfl))
set_option maxHeartbeats 4000000 in
set_option maxRecDepth 100000 in
theorem fr_Mo_learn_60_L19 {v1 : Int32} {a : Int32 × Int32 × Int32 × xS} {o : (Int32 × Int32 × Int32 × xS) ⊕ (Int32 × Int32 × Int32 × xS)} (h : f_Mo_learn_60_L19 v1 a = some o) : x_frO [(79, 99999), (82, 99999), (83, 99999), (84, 99999), (85, 99999), (86, 99999)] (fun a => a.2.2.2) (fun b => b.2.2.2) a.2.2.2 o := by
  unfold f_Mo_learn_60_L19 at h
  try dsimp only at h
  obtain ⟨q5, q5h, h⟩ := x_bind h
  try dsimp only at h
  have q5f := fr_Mo_off q5h
  refine x_iteC h (fun h => ?_) (fun h => ?_)
  · skip
    cases h
    exact x_frO.b (x_fr.trans x_fr.rf (x_fr.su q5f rfl))
  · skip
    refine x_iteC h (fun h => ?_) (fun h => ?_)
    · skip
      exact x_frO.tr (x_fr.trans x_fr.rf (x_fr.su q5f rfl)) (x_frO.su (fr_Mo_learn_60_J46 h) rfl)
    · skip
      exact x_frO.tr (x_fr.trans x_fr.rf (x_fr.su q5f rfl)) (x_frO.su (fr_Mo_learn_60_J46 h) rfl)
set_option maxHeartbeats 4000000 in
set_option maxRecDepth 100000 in
theorem fr_Mo_learn_60 {σ : xS} {r : Int32 × xS} (h : f_Mo_learn_60 σ = some r) : x_fr [(60, 0), (79, 99999), (82, 99999), (83, 99999), (84, 99999), (85, 99999), (86, 99999)] σ r.2 := by
  unfold f_Mo_learn_60 at h
  try dsimp only at h
  obtain ⟨b8, b8h, h⟩ := x_bind h
  try dsimp only at h
  have b8f := x_itF (sA := (fun a => a.2.2.2)) (sB := (fun b => b.2.2.2)) (fun a o h => fr_Mo_learn_60_L19 h) _ _ _ b8h
  cases h
  exact (x_fr.trans (x_frI (p := 60) (k := 0) rfl x_fr.rf) (x_fr.su b8f rfl))
set_option maxHeartbeats 4000000 in
set_option maxRecDepth 100000 in
theorem fr_Mo_shift_60_J54 {v1 : Int32} {v2 : Int32} {v3 : Int32} {v4 : Int32} {y1 : Int32} {σ : xS} {o : (Int32 × Int32 × Int32 × xS) ⊕ (Int32 × Int32 × Int32 × xS)} (h : f_Mo_shift_60_J54 v1 v2 v3 v4 y1 σ = some o) : x_frO [(60, 60), (82, 99999), (83, 99999), (84, 99999), (85, 99999), (86, 99999)] (fun a => a.2.2.2) (fun b => b.2.2.2) σ o := by
  unfold f_Mo_shift_60_J54 at h
  try dsimp only at h
  obtain ⟨q2, q2h, h⟩ := x_bind h
  try dsimp only at h
  have q2f := fr_Mo_takesSharp_60 q2h
  refine x_iteC h (fun h => ?_) (fun h => ?_)
  · skip
    cases h
    exact x_frO.a3 (x_fr.trans (x_frI (p := 60) (k := 60) rfl x_fr.rf) (x_fr.su q2f rfl))
  · skip
    cases h
    exact x_frO.a3 (x_fr.trans (x_frI (p := 60) (k := 60) rfl x_fr.rf) (x_fr.su q2f rfl))
set_option maxHeartbeats 4000000 in
set_option maxRecDepth 100000 in
theorem fr_Mo_shift_60_L23 {v1 : Int32} {a : Int32 × Int32 × Int32 × xS} {o : (Int32 × Int32 × Int32 × xS) ⊕ (Int32 × Int32 × Int32 × xS)} (h : f_Mo_shift_60_L23 v1 a = some o) : x_frO [(60, 60), (82, 99999), (83, 99999), (84, 99999), (85, 99999), (86, 99999)] (fun a => a.2.2.2) (fun b => b.2.2.2) a.2.2.2 o := by
  unfold f_Mo_shift_60_L23 at h
  try dsimp only at h
  refine x_iteC h (fun h => ?_) (fun h => ?_)
  · skip
    cases h
    exact x_frO.b x_fr.rf
  · skip
    refine x_iteC h (fun h => ?_) (fun h => ?_)
    · skip
      exact x_frO.tr x_fr.rf (x_frO.su (fr_Mo_shift_60_J54 h) rfl)
    · skip
      exact x_frO.tr x_fr.rf (x_frO.su (fr_Mo_shift_60_J54 h) rfl)
set_option maxHeartbeats 4000000 in
set_option maxRecDepth 100000 in
theorem fr_Mo_shift_60 {v1 : Int32} {σ : xS} {r : Int32 × xS} (h : f_Mo_shift_60 v1 σ = some r) : x_fr [(60, 0), (60, 60), (82, 99999), (83, 99999), (84, 99999), (85, 99999), (86, 99999)] σ r.2 := by
  unfold f_Mo_shift_60 at h
  try dsimp only at h
  obtain ⟨q8, q8h, h⟩ := x_bind h
  try dsimp only at h
  have q8f := fr_Mo_isWhat_60 q8h
  refine x_iteC h (fun h => ?_) (fun h => ?_)
  · skip
    cases h
    exact (x_fr.trans (x_frI (p := 60) (k := 0) rfl x_fr.rf) (x_fr.su q8f rfl))
  · skip
    obtain ⟨b9, b9h, h⟩ := x_bind h
    try dsimp only at h
    have b9f := x_itF (sA := (fun a => a.2.2.2)) (sB := (fun b => b.2.2.2)) (fun a o h => fr_Mo_shift_60_L23 h) _ _ _ b9h
    refine x_iteC h (fun h => ?_) (fun h => ?_)
    · skip
      cases h
      exact (x_frI (p := 60) (k := 60) rfl (x_fr.trans (x_fr.trans (x_frI (p := 60) (k := 0) rfl x_fr.rf) (x_fr.su q8f rfl)) (x_fr.su b9f rfl)))
    · skip
      cases h
      exact (x_frI (p := 60) (k := 60) rfl (x_fr.trans (x_fr.trans (x_frI (p := 60) (k := 0) rfl x_fr.rf) (x_fr.su q8f rfl)) (x_fr.su b9f rfl)))
set_option maxHeartbeats 4000000 in
set_option maxRecDepth 100000 in
theorem fr_Mo_slip_60_J54 {v1 : Int32} {v4 : Int32} {σ : xS} {o : (Int32 × Int32 × xS) ⊕ (Int32 × Int32 × xS)} (h : f_Mo_slip_60_J54 v1 v4 σ = some o) : x_frO [(60, 59)] (fun a => a.2.2) (fun b => b.2.2) σ o := by
  unfold f_Mo_slip_60_J54 at h
  try dsimp only at h
  cases h
  exact x_frO.a2 (x_frI (p := 60) (k := 59) rfl x_fr.rf)
set_option maxHeartbeats 4000000 in
set_option maxRecDepth 100000 in
theorem fr_Mo_slip_60_L25 {v1 : Int32} {a : Int32 × Int32 × xS} {o : (Int32 × Int32 × xS) ⊕ (Int32 × Int32 × xS)} (h : f_Mo_slip_60_L25 v1 a = some o) : x_frO [(60, 59), (82, 99999), (83, 99999), (84, 99999), (85, 99999), (86, 99999)] (fun a => a.2.2) (fun b => b.2.2) a.2.2 o := by
  unfold f_Mo_slip_60_L25 at h
  try dsimp only at h
  refine x_iteC h (fun h => ?_) (fun h => ?_)
  · skip
    cases h
    exact x_frO.b x_fr.rf
  · skip
    obtain ⟨q3, q3h, h⟩ := x_bind h
    try dsimp only at h
    have q3f := fr_Mo_takesSharp_60 q3h
    refine x_iteC h (fun h => ?_) (fun h => ?_)
    · skip
      exact x_frO.tr (x_fr.trans x_fr.rf (x_fr.su q3f rfl)) (x_frO.su (fr_Mo_slip_60_J54 h) rfl)
    · skip
      refine x_iteC h (fun h => ?_) (fun h => ?_)
      · skip
        exact x_frO.tr (x_fr.trans x_fr.rf (x_fr.su q3f rfl)) (x_frO.su (fr_Mo_slip_60_J54 h) rfl)
      · skip
        cases h
        exact x_frO.a2 (x_frI (p := 60) (k := 59) rfl (x_fr.trans x_fr.rf (x_fr.su q3f rfl)))
set_option maxHeartbeats 4000000 in
set_option maxRecDepth 100000 in
theorem fr_Mo_slip_60 {v1 : Int32} {σ : xS} {r : Int32 × xS} (h : f_Mo_slip_60 v1 σ = some r) : x_fr [(60, 0), (60, 59), (82, 99999), (83, 99999), (84, 99999), (85, 99999), (86, 99999)] σ r.2 := by
  unfold f_Mo_slip_60 at h
  try dsimp only at h
  obtain ⟨q7, q7h, h⟩ := x_bind h
  try dsimp only at h
  have q7f := fr_Mo_isWhat_60 q7h
  refine x_iteC h (fun h => ?_) (fun h => ?_)
  · skip
    cases h
    exact (x_fr.trans (x_frI (p := 60) (k := 0) rfl x_fr.rf) (x_fr.su q7f rfl))
  · skip
    obtain ⟨b9, b9h, h⟩ := x_bind h
    try dsimp only at h
    have b9f := x_itF (sA := (fun a => a.2.2)) (sB := (fun b => b.2.2)) (fun a o h => fr_Mo_slip_60_L25 h) _ _ _ b9h
    refine x_iteC h (fun h => ?_) (fun h => ?_)
    · skip
      cases h
      exact (x_frI (p := 60) (k := 59) rfl (x_fr.trans (x_frI (p := 60) (k := 59) rfl (x_fr.trans (x_frI (p := 60) (k := 0) rfl x_fr.rf) (x_fr.su q7f rfl))) (x_fr.su b9f rfl)))
    · skip
      cases h
      exact (x_frI (p := 60) (k := 59) rfl (x_fr.trans (x_frI (p := 60) (k := 59) rfl (x_fr.trans (x_frI (p := 60) (k := 0) rfl x_fr.rf) (x_fr.su q7f rfl))) (x_fr.su b9f rfl)))
set_option maxHeartbeats 4000000 in
set_option maxRecDepth 100000 in
theorem fr_Mo_isAsSeen_60_L2 {a : Int32 × xS} {o : ((Int32 × xS) ⊕ (Int32 × xS)) ⊕ (Int32 × xS)} (h : f_Mo_isAsSeen_60_L2 a = some o) : x_frO [] (fun a => a.2) (fun b => match b with | .inl q => q.2 | .inr e => e.2) a.2 o := by
  unfold f_Mo_isAsSeen_60_L2 at h
  try dsimp only at h
  refine x_iteC h (fun h => ?_) (fun h => ?_)
  · skip
    cases h
    exact x_frO.b x_fr.rf
  · skip
    obtain ⟨-, h⟩ := x_ifn h
    obtain ⟨q1, q1h, h⟩ := x_bind h
    try dsimp only at h
    have q1f := fr_Mo_isSharp_60 q1h
    obtain ⟨-, h⟩ := x_ifn h
    refine x_iteC h (fun h => ?_) (fun h => ?_)
    · skip
      refine x_iteC h (fun h => ?_) (fun h => ?_)
      · skip
        cases h
        exact x_frO.a1 (x_fr.trans x_fr.rf (x_fr.su q1f rfl))
      · skip
        cases h
        exact x_frO.b (x_fr.trans x_fr.rf (x_fr.su q1f rfl))
    · skip
      refine x_iteC h (fun h => ?_) (fun h => ?_)
      · skip
        cases h
        exact x_frO.a1 (x_fr.trans x_fr.rf (x_fr.su q1f rfl))
      · skip
        cases h
        exact x_frO.b (x_fr.trans x_fr.rf (x_fr.su q1f rfl))
set_option maxHeartbeats 4000000 in
set_option maxRecDepth 100000 in
theorem fr_Mo_isAsSeen_60 {σ : xS} {r : Int32 × xS} (h : f_Mo_isAsSeen_60 σ = some r) : x_fr [] σ r.2 := by
  unfold f_Mo_isAsSeen_60 at h
  try dsimp only at h
  obtain ⟨b4, b4h, h⟩ := x_bind h
  try dsimp only at h
  have b4f := x_itF (sA := (fun a => a.2)) (sB := (fun b => match b with | .inl q => q.2 | .inr e => e.2)) (fun a o h => fr_Mo_isAsSeen_60_L2 h) _ _ _ b4h
  cases b4 with
  | inl b4r =>
    try dsimp only at h
    cases h
    exact (x_fr.trans x_fr.rf (x_fr.su b4f rfl))
  | inr b4e =>
    try dsimp only at h
    cases h
    exact (x_fr.trans x_fr.rf (x_fr.su b4f rfl))
set_option maxHeartbeats 4000000 in
set_option maxRecDepth 100000 in
theorem fr_Mo_lags_60_L31 {v1 : Int32} {v2 : Int32} {a : Int32 × Int32 × Int32 × xS} {o : (Int32 × Int32 × Int32 × xS) ⊕ (Int32 × Int32 × Int32 × xS)} (h : f_Mo_lags_60_L31 v1 v2 a = some o) : x_frO [(79, 99999), (82, 99999), (83, 99999), (84, 99999), (85, 99999), (86, 99999)] (fun a => a.2.2.2) (fun b => b.2.2.2) a.2.2.2 o := by
  unfold f_Mo_lags_60_L31 at h
  try dsimp only at h
  refine x_iteC h (fun h => ?_) (fun h => ?_)
  · skip
    cases h
    exact x_frO.b x_fr.rf
  · skip
    obtain ⟨q2, q2h, h⟩ := x_bind h
    try dsimp only at h
    have q2f := fr_Mo_goesThrough_60 q2h
    obtain ⟨q3, q3h, h⟩ := x_bind h
    try dsimp only at h
    have q3f := fr_Mo_isAsSeen_60 q3h
    refine x_iteC h (fun h => ?_) (fun h => ?_)
    · skip
      cases h
      exact x_frO.a3 (x_fr.trans (x_fr.trans (x_frI (p := 79) (k := 1) rfl x_fr.rf) (x_fr.su q2f rfl)) (x_fr.su q3f rfl))
    · skip
      refine x_iteC h (fun h => ?_) (fun h => ?_)
      · skip
        cases h
        exact x_frO.a3 (x_fr.trans (x_fr.trans (x_frI (p := 79) (k := 1) rfl x_fr.rf) (x_fr.su q2f rfl)) (x_fr.su q3f rfl))
      · skip
        cases h
        exact x_frO.a3 (x_fr.trans (x_fr.trans (x_frI (p := 79) (k := 1) rfl x_fr.rf) (x_fr.su q2f rfl)) (x_fr.su q3f rfl))
set_option maxHeartbeats 4000000 in
set_option maxRecDepth 100000 in
theorem fr_Mo_lags_60 {v1 : Int32} {σ : xS} {r : Int32 × xS} (h : f_Mo_lags_60 v1 σ = some r) : x_fr [(60, 0), (79, 99999), (82, 99999), (83, 99999), (84, 99999), (85, 99999), (86, 99999)] σ r.2 := by
  unfold f_Mo_lags_60 at h
  try dsimp only at h
  obtain ⟨q8, q8h, h⟩ := x_bind h
  try dsimp only at h
  have q8f := fr_Mo_isWhat_60 q8h
  refine x_iteC h (fun h => ?_) (fun h => ?_)
  · skip
    cases h
    exact (x_fr.trans (x_frI (p := 60) (k := 0) rfl x_fr.rf) (x_fr.su q8f rfl))
  · skip
    obtain ⟨b10, b10h, h⟩ := x_bind h
    try dsimp only at h
    have b10f := x_itF (sA := (fun a => a.2.2.2)) (sB := (fun b => b.2.2.2)) (fun a o h => fr_Mo_lags_60_L31 h) _ _ _ b10h
    refine x_iteC h (fun h => ?_) (fun h => ?_)
    · skip
      cases h
      exact (x_frI (p := 79) (k := 1) rfl (x_fr.trans (x_fr.trans (x_frI (p := 60) (k := 0) rfl x_fr.rf) (x_fr.su q8f rfl)) (x_fr.su b10f rfl)))
    · skip
      cases h
      exact (x_frI (p := 79) (k := 1) rfl (x_fr.trans (x_fr.trans (x_frI (p := 60) (k := 0) rfl x_fr.rf) (x_fr.su q8f rfl)) (x_fr.su b10f rfl)))
set_option maxHeartbeats 4000000 in
set_option maxRecDepth 100000 in
theorem fr_Mo_depth_60_L41 {v1 : Int32} {v2 : Int32} {a : Int32 × Int32 × Int32 × xS} {o : (Int32 × Int32 × Int32 × xS) ⊕ (Int32 × Int32 × Int32 × xS)} (h : f_Mo_depth_60_L41 v1 v2 a = some o) : x_frO [(82, 99999), (83, 99999)] (fun a => a.2.2.2) (fun b => b.2.2.2) a.2.2.2 o := by
  unfold f_Mo_depth_60_L41 at h
  try dsimp only at h
  refine x_iteC h (fun h => ?_) (fun h => ?_)
  · skip
    cases h
    exact x_frO.b x_fr.rf
  · skip
    obtain ⟨q1, q1h, h⟩ := x_bind h
    try dsimp only at h
    have q1f := fr_Mo_turnOf_60 q1h
    obtain ⟨q2, q2h, h⟩ := x_bind h
    try dsimp only at h
    have q2f := fr_Mo_off q2h
    refine x_iteC h (fun h => ?_) (fun h => ?_)
    · skip
      refine x_iteC h (fun h => ?_) (fun h => ?_)
      · skip
        cases h
        exact x_frO.a3 (x_fr.trans (x_fr.trans x_fr.rf (x_fr.su q1f rfl)) (x_fr.su q2f rfl))
      · skip
        cases h
        exact x_frO.a3 (x_fr.trans (x_fr.trans x_fr.rf (x_fr.su q1f rfl)) (x_fr.su q2f rfl))
    · skip
      cases h
      exact x_frO.a3 (x_fr.trans (x_fr.trans x_fr.rf (x_fr.su q1f rfl)) (x_fr.su q2f rfl))
set_option maxHeartbeats 4000000 in
set_option maxRecDepth 100000 in
theorem fr_Mo_depth_60 {v1 : Int32} {v2 : Int32} {σ : xS} {r : Int32 × xS} (h : f_Mo_depth_60 v1 v2 σ = some r) : x_fr [(60, 0), (82, 99999), (83, 99999)] σ r.2 := by
  unfold f_Mo_depth_60 at h
  try dsimp only at h
  obtain ⟨q7, q7h, h⟩ := x_bind h
  try dsimp only at h
  have q7f := fr_Mo_isWhat_60 q7h
  refine x_iteC h (fun h => ?_) (fun h => ?_)
  · skip
    cases h
    exact (x_fr.trans (x_frI (p := 60) (k := 0) rfl x_fr.rf) (x_fr.su q7f rfl))
  · skip
    obtain ⟨q8, q8h, h⟩ := x_bind h
    try dsimp only at h
    have q8f := fr_Mo_within q8h
    obtain ⟨q9, q9h, h⟩ := x_bind h
    try dsimp only at h
    have q9f := fr_Mo_right_60 q9h
    refine x_iteC h (fun h => ?_) (fun h => ?_)
    · skip
      cases h
      exact (x_fr.trans (x_fr.trans (x_fr.trans (x_frI (p := 60) (k := 0) rfl x_fr.rf) (x_fr.su q7f rfl)) (x_fr.su q8f rfl)) (x_fr.su q9f rfl))
    · skip
      obtain ⟨b10, b10h, h⟩ := x_bind h
      try dsimp only at h
      have b10f := x_itF (sA := (fun a => a.2.2.2)) (sB := (fun b => b.2.2.2)) (fun a o h => fr_Mo_depth_60_L41 h) _ _ _ b10h
      refine x_iteC h (fun h => ?_) (fun h => ?_)
      · skip
        cases h
        exact (x_fr.trans (x_fr.trans (x_fr.trans (x_fr.trans (x_frI (p := 60) (k := 0) rfl x_fr.rf) (x_fr.su q7f rfl)) (x_fr.su q8f rfl)) (x_fr.su q9f rfl)) (x_fr.su b10f rfl))
      · skip
        cases h
        exact (x_fr.trans (x_fr.trans (x_fr.trans (x_fr.trans (x_frI (p := 60) (k := 0) rfl x_fr.rf) (x_fr.su q7f rfl)) (x_fr.su q8f rfl)) (x_fr.su q9f rfl)) (x_fr.su b10f rfl))
set_option maxHeartbeats 4000000 in
set_option maxRecDepth 100000 in
theorem fr_Mo_shots_60_J59 {v1 : Int32} {v2 : Int32} {v4 : Int32} {y0 : Int32} {σ : xS} {o : (Int32 × Int32 × Int32 × xS) ⊕ (Int32 × Int32 × Int32 × xS)} (h : f_Mo_shots_60_J59 v1 v2 v4 y0 σ = some o) : x_frO [] (fun a => a.2.2.2) (fun b => b.2.2.2) σ o := by
  unfold f_Mo_shots_60_J59 at h
  try dsimp only at h
  refine x_iteC h (fun h => ?_) (fun h => ?_)
  · skip
    cases h
    exact x_frO.a3 x_fr.rf
  · skip
    cases h
    exact x_frO.a3 x_fr.rf
set_option maxHeartbeats 4000000 in
set_option maxRecDepth 100000 in
theorem fr_Mo_shots_60_L34 {v1 : Int32} {a : Int32 × Int32 × Int32 × xS} {o : (Int32 × Int32 × Int32 × xS) ⊕ (Int32 × Int32 × Int32 × xS)} (h : f_Mo_shots_60_L34 v1 a = some o) : x_frO [] (fun a => a.2.2.2) (fun b => b.2.2.2) a.2.2.2 o := by
  unfold f_Mo_shots_60_L34 at h
  try dsimp only at h
  obtain ⟨q5, q5h, h⟩ := x_bind h
  try dsimp only at h
  have q5f := fr_Mo_last_60 q5h
  refine x_iteC h (fun h => ?_) (fun h => ?_)
  · skip
    cases h
    exact x_frO.b (x_fr.trans x_fr.rf (x_fr.su q5f rfl))
  · skip
    obtain ⟨q6, q6h, h⟩ := x_bind h
    try dsimp only at h
    have q6f := fr_Mo_isSharp_60 q6h
    refine x_iteC h (fun h => ?_) (fun h => ?_)
    · skip
      exact x_frO.tr (x_fr.trans (x_fr.trans x_fr.rf (x_fr.su q5f rfl)) (x_fr.su q6f rfl)) (x_frO.su (fr_Mo_shots_60_J59 h) rfl)
    · skip
      exact x_frO.tr (x_fr.trans (x_fr.trans x_fr.rf (x_fr.su q5f rfl)) (x_fr.su q6f rfl)) (x_frO.su (fr_Mo_shots_60_J59 h) rfl)
set_option maxHeartbeats 4000000 in
set_option maxRecDepth 100000 in
theorem fr_Mo_shots_60 {v1 : Int32} {σ : xS} {r : Int32 × xS} (h : f_Mo_shots_60 v1 σ = some r) : x_fr [(60, 0), (82, 99999), (83, 99999), (84, 99999), (85, 99999), (86, 99999)] σ r.2 := by
  unfold f_Mo_shots_60 at h
  try dsimp only at h
  obtain ⟨q8, q8h, h⟩ := x_bind h
  try dsimp only at h
  have q8f := fr_Mo_within q8h
  obtain ⟨q9, q9h, h⟩ := x_bind h
  try dsimp only at h
  have q9f := fr_Mo_right_60 q9h
  refine x_iteC h (fun h => ?_) (fun h => ?_)
  · skip
    cases h
    exact (x_fr.trans (x_fr.trans (x_frI (p := 60) (k := 0) rfl x_fr.rf) (x_fr.su q8f rfl)) (x_fr.su q9f rfl))
  · skip
    obtain ⟨q10, q10h, h⟩ := x_bind h
    try dsimp only at h
    have q10f := fr_Mo_goesThrough_60 q10h
    obtain ⟨b11, b11h, h⟩ := x_bind h
    try dsimp only at h
    have b11f := x_itF (sA := (fun a => a.2.2.2)) (sB := (fun b => b.2.2.2)) (fun a o h => fr_Mo_shots_60_L34 h) _ _ _ b11h
    cases h
    exact (x_fr.trans (x_fr.trans (x_fr.trans (x_fr.trans (x_frI (p := 60) (k := 0) rfl x_fr.rf) (x_fr.su q8f rfl)) (x_fr.su q9f rfl)) (x_fr.su q10f rfl)) (x_fr.su b11f rfl))
set_option maxHeartbeats 4000000 in
set_option maxRecDepth 100000 in
theorem fr_Mo_quickest_60_L23 {v1 : Int32} {a : Int32 × Int32 × Int32 × xS} {o : (Int32 × Int32 × Int32 × xS) ⊕ (Int32 × Int32 × Int32 × xS)} (h : f_Mo_quickest_60_L23 v1 a = some o) : x_frO [(82, 99999), (83, 99999)] (fun a => a.2.2.2) (fun b => b.2.2.2) a.2.2.2 o := by
  unfold f_Mo_quickest_60_L23 at h
  try dsimp only at h
  obtain ⟨q1, q1h, h⟩ := x_bind h
  try dsimp only at h
  have q1f := fr_Mo_last_60 q1h
  refine x_iteC h (fun h => ?_) (fun h => ?_)
  · skip
    cases h
    exact x_frO.b (x_fr.trans x_fr.rf (x_fr.su q1f rfl))
  · skip
    obtain ⟨q2, q2h, h⟩ := x_bind h
    try dsimp only at h
    have q2f := fr_Mo_whoseIn_60 q2h
    obtain ⟨q3, q3h, h⟩ := x_bind h
    try dsimp only at h
    have q3f := fr_Mo_inchesOf_60 q3h
    obtain ⟨q4, q4h, h⟩ := x_bind h
    try dsimp only at h
    have q4f := fr_Mo_turnOf_60 q4h
    obtain ⟨q5, q5h, h⟩ := x_bind h
    try dsimp only at h
    have q5f := fr_Mo_whoseIn_60 q5h
    obtain ⟨q6, q6h, h⟩ := x_bind h
    try dsimp only at h
    have q6f := fr_Mo_inchesOf_60 q6h
    obtain ⟨q7, q7h, h⟩ := x_bind h
    try dsimp only at h
    have q7f := fr_Mo_turnOf_60 q7h
    obtain ⟨q8, q8h, h⟩ := x_bind h
    try dsimp only at h
    have q8f := fr_Mo_off q8h
    refine x_iteC h (fun h => ?_) (fun h => ?_)
    · skip
      cases h
      exact x_frO.a3 (x_fr.trans (x_fr.trans (x_fr.trans (x_fr.trans (x_fr.trans (x_fr.trans (x_fr.trans (x_fr.trans x_fr.rf (x_fr.su q1f rfl)) (x_fr.su q2f rfl)) (x_fr.su q3f rfl)) (x_fr.su q4f rfl)) (x_fr.su q5f rfl)) (x_fr.su q6f rfl)) (x_fr.su q7f rfl)) (x_fr.su q8f rfl))
    · skip
      refine x_iteC h (fun h => ?_) (fun h => ?_)
      · skip
        cases h
        exact x_frO.a3 (x_fr.trans (x_fr.trans (x_fr.trans (x_fr.trans (x_fr.trans (x_fr.trans (x_fr.trans (x_fr.trans x_fr.rf (x_fr.su q1f rfl)) (x_fr.su q2f rfl)) (x_fr.su q3f rfl)) (x_fr.su q4f rfl)) (x_fr.su q5f rfl)) (x_fr.su q6f rfl)) (x_fr.su q7f rfl)) (x_fr.su q8f rfl))
      · skip
        cases h
        exact x_frO.a3 (x_fr.trans (x_fr.trans (x_fr.trans (x_fr.trans (x_fr.trans (x_fr.trans (x_fr.trans (x_fr.trans x_fr.rf (x_fr.su q1f rfl)) (x_fr.su q2f rfl)) (x_fr.su q3f rfl)) (x_fr.su q4f rfl)) (x_fr.su q5f rfl)) (x_fr.su q6f rfl)) (x_fr.su q7f rfl)) (x_fr.su q8f rfl))
set_option maxHeartbeats 4000000 in
set_option maxRecDepth 100000 in
theorem fr_Mo_quickest_60 {v1 : Int32} {σ : xS} {r : Int32 × xS} (h : f_Mo_quickest_60 v1 σ = some r) : x_fr [(60, 0), (82, 99999), (83, 99999)] σ r.2 := by
  unfold f_Mo_quickest_60 at h
  try dsimp only at h
  obtain ⟨q14, q14h, h⟩ := x_bind h
  try dsimp only at h
  have q14f := fr_Mo_isWhat_60 q14h
  refine x_iteC h (fun h => ?_) (fun h => ?_)
  · skip
    cases h
    exact (x_fr.trans (x_frI (p := 60) (k := 0) rfl x_fr.rf) (x_fr.su q14f rfl))
  · skip
    obtain ⟨b15, b15h, h⟩ := x_bind h
    try dsimp only at h
    have b15f := x_itF (sA := (fun a => a.2.2.2)) (sB := (fun b => b.2.2.2)) (fun a o h => fr_Mo_quickest_60_L23 h) _ _ _ b15h
    refine x_iteC h (fun h => ?_) (fun h => ?_)
    · skip
      cases h
      exact (x_fr.trans (x_fr.trans (x_frI (p := 60) (k := 0) rfl x_fr.rf) (x_fr.su q14f rfl)) (x_fr.su b15f rfl))
    · skip
      cases h
      exact (x_fr.trans (x_fr.trans (x_frI (p := 60) (k := 0) rfl x_fr.rf) (x_fr.su q14f rfl)) (x_fr.su b15f rfl))
set_option maxHeartbeats 4000000 in
set_option maxRecDepth 100000 in
theorem fr_Mo_holes_60_L40 {v1 : Int32} {v2 : Int32} {a : Int32 × Int32 × xS} {o : (Int32 × Int32 × xS) ⊕ (Int32 × Int32 × xS)} (h : f_Mo_holes_60_L40 v1 v2 a = some o) : x_frO [(79, 99999)] (fun a => a.2.2) (fun b => b.2.2) a.2.2 o := by
  unfold f_Mo_holes_60_L40 at h
  try dsimp only at h
  refine x_iteC h (fun h => ?_) (fun h => ?_)
  · skip
    cases h
    exact x_frO.b x_fr.rf
  · skip
    obtain ⟨q2, q2h, h⟩ := x_bind h
    try dsimp only at h
    have q2f := fr_Mo_sharpMany_60 q2h
    refine x_iteC h (fun h => ?_) (fun h => ?_)
    · skip
      cases h
      exact x_frO.a2 (x_fr.trans (x_frI (p := 79) (k := 0) rfl x_fr.rf) (x_fr.su q2f rfl))
    · skip
      cases h
      exact x_frO.a2 (x_fr.trans (x_frI (p := 79) (k := 0) rfl x_fr.rf) (x_fr.su q2f rfl))
set_option maxHeartbeats 4000000 in
set_option maxRecDepth 100000 in
theorem fr_Mo_holes_60 {v1 : Int32} {σ : xS} {r : Int32 × xS} (h : f_Mo_holes_60 v1 σ = some r) : x_fr [(60, 0), (79, 99999), (82, 99999), (83, 99999), (84, 99999), (85, 99999), (86, 99999)] σ r.2 := by
  unfold f_Mo_holes_60 at h
  try dsimp only at h
  obtain ⟨q6, q6h, h⟩ := x_bind h
  try dsimp only at h
  have q6f := fr_Mo_within q6h
  obtain ⟨q7, q7h, h⟩ := x_bind h
  try dsimp only at h
  have q7f := fr_Mo_right_60 q7h
  refine x_iteC h (fun h => ?_) (fun h => ?_)
  · skip
    cases h
    exact (x_fr.trans (x_fr.trans (x_frI (p := 60) (k := 0) rfl x_fr.rf) (x_fr.su q6f rfl)) (x_fr.su q7f rfl))
  · skip
    obtain ⟨q8, q8h, h⟩ := x_bind h
    try dsimp only at h
    have q8f := fr_Mo_goesThrough_60 q8h
    obtain ⟨b10, b10h, h⟩ := x_bind h
    try dsimp only at h
    have b10f := x_itF (sA := (fun a => a.2.2)) (sB := (fun b => b.2.2)) (fun a o h => fr_Mo_holes_60_L40 h) _ _ _ b10h
    cases h
    exact (x_frI (p := 79) (k := 0) rfl (x_fr.trans (x_fr.trans (x_fr.trans (x_fr.trans (x_frI (p := 60) (k := 0) rfl x_fr.rf) (x_fr.su q6f rfl)) (x_fr.su q7f rfl)) (x_fr.su q8f rfl)) (x_fr.su b10f rfl)))
set_option maxHeartbeats 4000000 in
set_option maxRecDepth 100000 in
theorem fr_Mo_light_60_L63 {v1 : Int32} {v2 : Int32} {v3 : Int32} {a : Int32 × Int64 × Int64 × Int32 × xS} {o : (Int32 × Int64 × Int64 × Int32 × xS) ⊕ (Int32 × Int64 × Int64 × Int32 × xS)} (h : f_Mo_light_60_L63 v1 v2 v3 a = some o) : x_frO [(79, 99999)] (fun a => a.2.2.2.2) (fun b => b.2.2.2.2) a.2.2.2.2 o := by
  unfold f_Mo_light_60_L63 at h
  try dsimp only at h
  refine x_iteC h (fun h => ?_) (fun h => ?_)
  · skip
    cases h
    exact x_frO.b x_fr.rf
  · skip
    obtain ⟨q2, q2h, h⟩ := x_bind h
    try dsimp only at h
    have q2f := fr_Mo_sharpMany_60 q2h
    refine x_iteC h (fun h => ?_) (fun h => ?_)
    · skip
      cases h
      exact x_frO.a4 (x_fr.trans (x_frI (p := 79) (k := 0) rfl x_fr.rf) (x_fr.su q2f rfl))
    · skip
      obtain ⟨q4, q4h, h⟩ := x_bind h
      try dsimp only at h
      have q4f := fr_Mo_last_60 q4h
      refine x_iteC h (fun h => ?_) (fun h => ?_)
      · skip
        cases h
        exact x_frO.a4 (x_fr.trans (x_fr.trans (x_frI (p := 79) (k := 0) rfl x_fr.rf) (x_fr.su q2f rfl)) (x_fr.su q4f rfl))
      · skip
        refine x_iteC h (fun h => ?_) (fun h => ?_)
        · skip
          cases h
          exact x_frO.a4 (x_fr.trans (x_fr.trans (x_frI (p := 79) (k := 0) rfl x_fr.rf) (x_fr.su q2f rfl)) (x_fr.su q4f rfl))
        · skip
          cases h
          exact x_frO.a4 (x_fr.trans (x_fr.trans (x_frI (p := 79) (k := 0) rfl x_fr.rf) (x_fr.su q2f rfl)) (x_fr.su q4f rfl))
set_option maxHeartbeats 4000000 in
set_option maxRecDepth 100000 in
theorem fr_Mo_light_60_J31 {v1 : Int32} {v2 : Int32} {y1 : Int32} {σ : xS} {r : Int32 × xS} (h : f_Mo_light_60_J31 v1 v2 y1 σ = some r) : x_fr [(60, 0), (79, 99999), (82, 99999), (83, 99999), (84, 99999), (85, 99999), (86, 99999)] σ r.2 := by
  unfold f_Mo_light_60_J31 at h
  try dsimp only at h
  obtain ⟨q10, q10h, h⟩ := x_bind h
  try dsimp only at h
  have q10f := fr_Mo_right_60 q10h
  refine x_iteC h (fun h => ?_) (fun h => ?_)
  · skip
    cases h
    exact (x_fr.trans x_fr.rf (x_fr.su q10f rfl))
  · skip
    obtain ⟨q11, q11h, h⟩ := x_bind h
    try dsimp only at h
    have q11f := fr_Mo_goesThrough_60 q11h
    obtain ⟨b15, b15h, h⟩ := x_bind h
    try dsimp only at h
    have b15f := x_itF (sA := (fun a => a.2.2.2.2)) (sB := (fun b => b.2.2.2.2)) (fun a o h => fr_Mo_light_60_L63 h) _ _ _ b15h
    cases h
    exact (x_frI (p := 79) (k := 0) rfl (x_fr.trans (x_fr.trans (x_fr.trans x_fr.rf (x_fr.su q10f rfl)) (x_fr.su q11f rfl)) (x_fr.su b15f rfl)))
set_option maxHeartbeats 4000000 in
set_option maxRecDepth 100000 in
theorem fr_Mo_light_60_J30 {v1 : Int32} {v2 : Int32} {σ : xS} {r : Int32 × xS} (h : f_Mo_light_60_J30 v1 v2 σ = some r) : x_fr [(60, 0), (79, 99999), (82, 99999), (83, 99999), (84, 99999), (85, 99999), (86, 99999)] σ r.2 := by
  unfold f_Mo_light_60_J30 at h
  try dsimp only at h
  exact x_fr.trans x_fr.rf (x_fr.su (fr_Mo_light_60_J31 h) rfl)
set_option maxHeartbeats 4000000 in
set_option maxRecDepth 100000 in
theorem fr_Mo_light_60 {v1 : Int32} {v2 : Int32} {σ : xS} {r : Int32 × xS} (h : f_Mo_light_60 v1 v2 σ = some r) : x_fr [(60, 0), (79, 99999), (82, 99999), (83, 99999), (84, 99999), (85, 99999), (86, 99999)] σ r.2 := by
  unfold f_Mo_light_60 at h
  try dsimp only at h
  obtain ⟨q18, q18h, h⟩ := x_bind h
  try dsimp only at h
  have q18f := fr_Mo_within q18h
  refine x_iteC h (fun h => ?_) (fun h => ?_)
  · skip
    exact x_fr.trans (x_fr.trans (x_frI (p := 60) (k := 0) rfl x_fr.rf) (x_fr.su q18f rfl)) (x_fr.su (fr_Mo_light_60_J30 h) rfl)
  · skip
    obtain ⟨q19, q19h, h⟩ := x_bind h
    try dsimp only at h
    have q19f := fr_Mo_within q19h
    refine x_iteC h (fun h => ?_) (fun h => ?_)
    · skip
      exact x_fr.trans (x_fr.trans (x_fr.trans (x_frI (p := 60) (k := 0) rfl x_fr.rf) (x_fr.su q18f rfl)) (x_fr.su q19f rfl)) (x_fr.su (fr_Mo_light_60_J30 h) rfl)
    · skip
      exact x_fr.trans (x_fr.trans (x_fr.trans (x_frI (p := 60) (k := 0) rfl x_fr.rf) (x_fr.su q18f rfl)) (x_fr.su q19f rfl)) (x_fr.su (fr_Mo_light_60_J31 h) rfl)
set_option maxHeartbeats 4000000 in
set_option maxRecDepth 100000 in
theorem fr_Mo_both_60_L9 {a : Int32 × Int32 × xS} {o : (Int32 × Int32 × xS) ⊕ (Int32 × Int32 × xS)} (h : f_Mo_both_60_L9 a = some o) : x_frO [(82, 99999), (83, 99999)] (fun a => a.2.2) (fun b => b.2.2) a.2.2 o := by
  unfold f_Mo_both_60_L9 at h
  try dsimp only at h
  obtain ⟨q1, q1h, h⟩ := x_bind h
  try dsimp only at h
  have q1f := fr_Mo_last_60 q1h
  refine x_iteC h (fun h => ?_) (fun h => ?_)
  · skip
    cases h
    exact x_frO.b (x_fr.trans x_fr.rf (x_fr.su q1f rfl))
  · skip
    obtain ⟨q2, q2h, h⟩ := x_bind h
    try dsimp only at h
    have q2f := fr_Mo_inchesOf_60 q2h
    obtain ⟨q3, q3h, h⟩ := x_bind h
    try dsimp only at h
    have q3f := fr_Mo_turnOf_60 q3h
    obtain ⟨q4, q4h, h⟩ := x_bind h
    try dsimp only at h
    have q4f := fr_Mo_inchesOf_60 q4h
    obtain ⟨q5, q5h, h⟩ := x_bind h
    try dsimp only at h
    have q5f := fr_Mo_turnOf_60 q5h
    obtain ⟨q6, q6h, h⟩ := x_bind h
    try dsimp only at h
    have q6f := fr_Mo_off q6h
    refine x_iteC h (fun h => ?_) (fun h => ?_)
    · skip
      cases h
      exact x_frO.a2 (x_fr.trans (x_fr.trans (x_fr.trans (x_fr.trans (x_fr.trans (x_fr.trans x_fr.rf (x_fr.su q1f rfl)) (x_fr.su q2f rfl)) (x_fr.su q3f rfl)) (x_fr.su q4f rfl)) (x_fr.su q5f rfl)) (x_fr.su q6f rfl))
    · skip
      cases h
      exact x_frO.a2 (x_fr.trans (x_fr.trans (x_fr.trans (x_fr.trans (x_fr.trans (x_fr.trans x_fr.rf (x_fr.su q1f rfl)) (x_fr.su q2f rfl)) (x_fr.su q3f rfl)) (x_fr.su q4f rfl)) (x_fr.su q5f rfl)) (x_fr.su q6f rfl))
set_option maxHeartbeats 4000000 in
set_option maxRecDepth 100000 in
theorem fr_Mo_both_60 {σ : xS} {r : Int32 × xS} (h : f_Mo_both_60 σ = some r) : x_fr [(60, 0), (82, 99999), (83, 99999)] σ r.2 := by
  unfold f_Mo_both_60 at h
  try dsimp only at h
  obtain ⟨b11, b11h, h⟩ := x_bind h
  try dsimp only at h
  have b11f := x_itF (sA := (fun a => a.2.2)) (sB := (fun b => b.2.2)) (fun a o h => fr_Mo_both_60_L9 h) _ _ _ b11h
  cases h
  exact (x_fr.trans (x_frI (p := 60) (k := 0) rfl x_fr.rf) (x_fr.su b11f rfl))
set_option maxHeartbeats 4000000 in
set_option maxRecDepth 100000 in
theorem fr_Mo_addsSpot_60_L4 {v1 : Int32} {a : Int32 × Int32 × xS} {o : (Int32 × Int32 × xS) ⊕ (Int32 × Int32 × xS)} (h : f_Mo_addsSpot_60_L4 v1 a = some o) : x_frO [] (fun a => a.2.2) (fun b => b.2.2) a.2.2 o := by
  unfold f_Mo_addsSpot_60_L4 at h
  try dsimp only at h
  refine x_iteC h (fun h => ?_) (fun h => ?_)
  · skip
    cases h
    exact x_frO.b x_fr.rf
  · skip
    refine x_iteC h (fun h => ?_) (fun h => ?_)
    · skip
      obtain ⟨-, h⟩ := x_ifn h
      refine x_iteC h (fun h => ?_) (fun h => ?_)
      · skip
        cases h
        exact x_frO.a2 x_fr.rf
      · skip
        cases h
        exact x_frO.a2 x_fr.rf
    · skip
      cases h
      exact x_frO.a2 x_fr.rf
set_option maxHeartbeats 4000000 in
set_option maxRecDepth 100000 in
theorem fr_Mo_addsSpot_60 {v1 : Int32} {σ : xS} {r : Unit × xS} (h : f_Mo_addsSpot_60 v1 σ = some r) : x_fr [(60, 69), (88, 99999)] σ r.2 := by
  unfold f_Mo_addsSpot_60 at h
  try dsimp only at h
  obtain ⟨b4, b4h, h⟩ := x_bind h
  try dsimp only at h
  have b4f := x_itF (sA := (fun a => a.2.2)) (sB := (fun b => b.2.2)) (fun a o h => fr_Mo_addsSpot_60_L4 h) _ _ _ b4h
  refine x_iteC h (fun h => ?_) (fun h => ?_)
  · skip
    obtain ⟨-, h⟩ := x_ifn h
    cases h
    exact (x_frI (p := 60) (k := 69) rfl (x_frI (p := 88) rfl (x_fr.trans x_fr.rf (x_fr.su b4f rfl))))
  · skip
    cases h
    exact (x_fr.trans x_fr.rf (x_fr.su b4f rfl))
set_option maxHeartbeats 4000000 in
set_option maxRecDepth 100000 in
theorem fr_Mo_nextNumbers_60_L4 {v1 : Int32} {a : Int32 × xS} {o : (Int32 × xS) ⊕ (Int32 × xS)} (h : f_Mo_nextNumbers_60_L4 v1 a = some o) : x_frO [] (fun a => a.2) (fun b => b.2) a.2 o := by
  unfold f_Mo_nextNumbers_60_L4 at h
  try dsimp only at h
  refine x_iteC h (fun h => ?_) (fun h => ?_)
  · skip
    cases h
    exact x_frO.b x_fr.rf
  · skip
    obtain ⟨-, h⟩ := x_ifn h
    refine x_iteC h (fun h => ?_) (fun h => ?_)
    · skip
      cases h
      exact x_frO.a1 x_fr.rf
    · skip
      cases h
      exact x_frO.b x_fr.rf
