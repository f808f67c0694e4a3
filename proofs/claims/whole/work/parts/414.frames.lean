/-! Frames. Written by wip/gen/frames.py. -/
set_option maxHeartbeats 4000000 in
set_option maxRecDepth 100000 in
theorem fr_Re_readEye_2_21_J29 {v2 : Int32} {σ : xS} {r : Int32 × xS} (h : f_Re_readEye_2_21_J29 v2 σ = some r) : x_fr [(2, 4), (2, 6), (2, 7), (26, 99999)] σ r.2 := by
  unfold f_Re_readEye_2_21_J29 at h
  try dsimp only at h
  obtain ⟨q1, q1h, h⟩ := x_bind h
  try dsimp only at h
  have q1f := fr_Re_isNumber_2 q1h
  refine x_iteC h (fun h => ?_) (fun h => ?_)
  · skip
    cases h
    exact (x_fr.trans x_fr.rf (x_fr.su q1f rfl))
  · skip
    obtain ⟨q2, q2h, h⟩ := x_bind h
    try dsimp only at h
    have q2f := fr_Re_takeNumber_2 q2h
    refine x_iteC h (fun h => ?_) (fun h => ?_)
    · skip
      obtain ⟨q5, q5h, h⟩ := x_bind h
      try dsimp only at h
      have q5f := fr_Re_readEnd_2 q5h
      obtain ⟨-, h⟩ := x_ift h
      cases h
      exact (x_fr.trans (x_frI (p := 26) (k := 3) rfl (x_fr.trans (x_fr.trans x_fr.rf (x_fr.su q1f rfl)) (x_fr.su q2f rfl))) (x_fr.su q5f rfl))
    · skip
      obtain ⟨q7, q7h, h⟩ := x_bind h
      try dsimp only at h
      have q7f := fr_Re_readEnd_2 q7h
      obtain ⟨-, h⟩ := x_ift h
      cases h
      exact (x_fr.trans (x_frI (p := 26) (k := 3) rfl (x_fr.trans (x_fr.trans x_fr.rf (x_fr.su q1f rfl)) (x_fr.su q2f rfl))) (x_fr.su q7f rfl))
set_option maxHeartbeats 4000000 in
set_option maxRecDepth 100000 in
theorem fr_Re_readEye_2_21 {σ : xS} {r : Int32 × xS} (h : f_Re_readEye_2_21 σ = some r) : x_fr [(2, 4), (2, 6), (2, 7), (6, 99999), (26, 99999)] σ r.2 := by
  unfold f_Re_readEye_2_21 at h
  try dsimp only at h
  obtain ⟨q8, q8h, h⟩ := x_bind h
  try dsimp only at h
  have q8f := fr_Re_isFirst_2 q8h
  refine x_iteC h (fun h => ?_) (fun h => ?_)
  · skip
    cases h
    exact (x_fr.trans x_fr.rf (x_fr.su q8f rfl))
  · skip
    obtain ⟨q9, q9h, h⟩ := x_bind h
    try dsimp only at h
    have q9f := fr_Re_advance_2 q9h
    obtain ⟨q10, q10h, h⟩ := x_bind h
    try dsimp only at h
    have q10f := fr_Re_isSign_2 q10h
    refine x_iteC h (fun h => ?_) (fun h => ?_)
    · skip
      exact x_fr.trans (x_fr.trans (x_fr.trans (x_fr.trans x_fr.rf (x_fr.su q8f rfl)) (x_fr.su q9f rfl)) (x_fr.su q10f rfl)) (x_fr.su (fr_Re_readEye_2_21_J29 h) rfl)
    · skip
      obtain ⟨q12, q12h, h⟩ := x_bind h
      try dsimp only at h
      have q12f := fr_Re_advance_2 q12h
      exact x_fr.trans (x_fr.trans (x_fr.trans (x_fr.trans (x_fr.trans x_fr.rf (x_fr.su q8f rfl)) (x_fr.su q9f rfl)) (x_fr.su q10f rfl)) (x_fr.su q12f rfl)) (x_fr.su (fr_Re_readEye_2_21_J29 h) rfl)
set_option maxHeartbeats 4000000 in
set_option maxRecDepth 100000 in
theorem fr_Ru_has_27 {v1 : Int32} {σ : xS} {r : Int32 × xS} (h : f_Ru_has_27 v1 σ = some r) : x_fr [] σ r.2 := by
  unfold f_Ru_has_27 at h
  try dsimp only at h
  refine x_iteC h (fun h => ?_) (fun h => ?_)
  · skip
    cases h
    exact x_fr.rf
  · skip
    refine x_iteC h (fun h => ?_) (fun h => ?_)
    · skip
      cases h
      exact x_fr.rf
    · skip
      obtain ⟨-, h⟩ := x_ifn h
      obtain ⟨-, h⟩ := x_ifn h
      refine x_iteC h (fun h => ?_) (fun h => ?_)
      · skip
        cases h
        exact x_fr.rf
      · skip
        cases h
        exact x_fr.rf
set_option maxHeartbeats 4000000 in
set_option maxRecDepth 100000 in
theorem fr_Ru_open_27 {v1 : Int32} {σ : xS} {r : Unit × xS} (h : f_Ru_open_27 v1 σ = some r) : x_fr [(29, 99999), (30, 99999)] σ r.2 := by
  unfold f_Ru_open_27 at h
  try dsimp only at h
  refine x_iteC h (fun h => ?_) (fun h => ?_)
  · skip
    cases h
    exact x_fr.rf
  · skip
    refine x_iteC h (fun h => ?_) (fun h => ?_)
    · skip
      cases h
      exact x_fr.rf
    · skip
      obtain ⟨-, h⟩ := x_ifn h
      obtain ⟨-, h⟩ := x_ifn h
      cases h
      exact (x_frI (p := 30) rfl (x_frI (p := 29) rfl x_fr.rf))
set_option maxHeartbeats 4000000 in
set_option maxRecDepth 100000 in
theorem fr_Re_isWord_2 {v1 : Nat} {σ : xS} {r : Int32 × xS} (h : f_Re_isWord_2 v1 σ = some r) : x_fr [] σ r.2 := by
  unfold f_Re_isWord_2 at h
  try dsimp only at h
  obtain ⟨q1, q1h, h⟩ := x_bind h
  try dsimp only at h
  have q1f := fr_Re_word_2 q1h
  obtain ⟨-, h⟩ := x_ift h
  obtain ⟨-, h⟩ := x_ift h
  refine x_iteC h (fun h => ?_) (fun h => ?_)
  · skip
    cases h
    exact (x_fr.trans x_fr.rf (x_fr.su q1f rfl))
  · skip
    cases h
    exact (x_fr.trans x_fr.rf (x_fr.su q1f rfl))
set_option maxHeartbeats 4000000 in
set_option maxRecDepth 100000 in
theorem fr_Ru_add_27 {v1 : Int32} {σ : xS} {r : Unit × xS} (h : f_Ru_add_27 v1 σ = some r) : x_fr [(27, 1), (28, 99999)] σ r.2 := by
  unfold f_Ru_add_27 at h
  try dsimp only at h
  refine x_iteC h (fun h => ?_) (fun h => ?_)
  · skip
    cases h
    exact x_fr.rf
  · skip
    obtain ⟨-, h⟩ := x_ifn h
    cases h
    exact (x_frI (p := 27) (k := 1) rfl (x_frI (p := 28) rfl x_fr.rf))
set_option maxHeartbeats 4000000 in
set_option maxRecDepth 100000 in
theorem fr_Re_readInner_2_27 {rec : Int32 → Int32 → xS → Option (Int32 × xS)}  {v2 : Int32} {v3 : Int32} {σ : xS} {r : Int32 × xS} (hr : ∀ (v2 v3 : Int32) (σ : xS) (r : Int32 × xS), rec v2 v3 σ = some r → x_fr [(2, 4), (2, 6), (2, 7), (27, 1), (28, 99999)] σ r.2) (h : f_Re_readInner_2_27 rec v2 v3 σ = some r) : x_fr [(2, 4), (2, 6), (2, 7), (27, 1), (28, 99999)] σ r.2 := by
  unfold f_Re_readInner_2_27 at h
  try dsimp only at h
  obtain ⟨q1, q1h, h⟩ := x_bind h
  try dsimp only at h
  have q1f := fr_Re_isSign_2 q1h
  refine x_iteC h (fun h => ?_) (fun h => ?_)
  · skip
    obtain ⟨q7, q7h, h⟩ := x_bind h
    try dsimp only at h
    have q7f := fr_Re_refuse_2 q7h
    obtain ⟨-, h⟩ := x_ift h
    cases h
    exact (x_fr.trans (x_fr.trans x_fr.rf (x_fr.su q1f rfl)) (x_fr.su q7f rfl))
  · skip
    obtain ⟨q2, q2h, h⟩ := x_bind h
    try dsimp only at h
    have q2f := fr_Re_advance_2 q2h
    obtain ⟨q3, q3h, h⟩ := x_bind h
    try dsimp only at h
    have q3f := hr _ _ _ _ q3h
    refine x_iteC h (fun h => ?_) (fun h => ?_)
    · skip
      cases h
      exact (x_fr.trans (x_fr.trans (x_fr.trans x_fr.rf (x_fr.su q1f rfl)) (x_fr.su q2f rfl)) (x_fr.su q3f rfl))
    · skip
      obtain ⟨q4, q4h, h⟩ := x_bind h
      try dsimp only at h
      have q4f := fr_Re_isSign_2 q4h
      refine x_iteC h (fun h => ?_) (fun h => ?_)
      · skip
        obtain ⟨q6, q6h, h⟩ := x_bind h
        try dsimp only at h
        have q6f := fr_Re_refuse_2 q6h
        obtain ⟨-, h⟩ := x_ift h
        cases h
        exact (x_fr.trans (x_fr.trans (x_fr.trans (x_fr.trans (x_fr.trans x_fr.rf (x_fr.su q1f rfl)) (x_fr.su q2f rfl)) (x_fr.su q3f rfl)) (x_fr.su q4f rfl)) (x_fr.su q6f rfl))
      · skip
        obtain ⟨q5, q5h, h⟩ := x_bind h
        try dsimp only at h
        have q5f := fr_Re_advance_2 q5h
        cases h
        exact (x_fr.trans (x_fr.trans (x_fr.trans (x_fr.trans (x_fr.trans x_fr.rf (x_fr.su q1f rfl)) (x_fr.su q2f rfl)) (x_fr.su q3f rfl)) (x_fr.su q4f rfl)) (x_fr.su q5f rfl))
set_option maxHeartbeats 4000000 in
set_option maxRecDepth 100000 in
theorem fr_Re_valueOf {v0 : Nat} {v1 : Int32} {σ : xS} {r : Int32 × xS} (h : f_Re_valueOf v0 v1 σ = some r) : x_fr [] σ r.2 := by
  unfold f_Re_valueOf at h
  try dsimp only at h
  refine x_iteC h (fun h => ?_) (fun h => ?_)
  · skip
    obtain ⟨-, h⟩ := x_ift h
    refine x_iteC h (fun h => ?_) (fun h => ?_)
    · skip
      cases h
      exact x_fr.rf
    · skip
      cases h
      exact x_fr.rf
  · skip
    refine x_iteC h (fun h => ?_) (fun h => ?_)
    · skip
      obtain ⟨-, h⟩ := x_ift h
      obtain ⟨-, h⟩ := x_ifn h
      refine x_iteC h (fun h => ?_) (fun h => ?_)
      · skip
        cases h
        exact x_fr.rf
      · skip
        refine x_iteC h (fun h => ?_) (fun h => ?_)
        · skip
          cases h
          exact x_fr.rf
        · skip
          refine x_iteC h (fun h => ?_) (fun h => ?_)
          · skip
            cases h
            exact x_fr.rf
          · skip
            cases h
            exact x_fr.rf
    · skip
      obtain ⟨-, h⟩ := x_ift h
      obtain ⟨-, h⟩ := x_ifn h
      refine x_iteC h (fun h => ?_) (fun h => ?_)
      · skip
        cases h
        exact x_fr.rf
      · skip
        refine x_iteC h (fun h => ?_) (fun h => ?_)
        · skip
          cases h
          exact x_fr.rf
        · skip
          refine x_iteC h (fun h => ?_) (fun h => ?_)
          · skip
            cases h
            exact x_fr.rf
          · skip
            refine x_iteC h (fun h => ?_) (fun h => ?_)
            · skip
              cases h
              exact x_fr.rf
            · skip
              refine x_iteC h (fun h => ?_) (fun h => ?_)
              · skip
                cases h
                exact x_fr.rf
              · skip
                refine x_iteC h (fun h => ?_) (fun h => ?_)
                · skip
                  cases h
                  exact x_fr.rf
                · skip
                  refine x_iteC h (fun h => ?_) (fun h => ?_)
                  · skip
                    cases h
                    exact x_fr.rf
                  · skip
                    refine x_iteC h (fun h => ?_) (fun h => ?_)
                    · skip
                      cases h
                      exact x_fr.rf
                    · skip
                      refine x_iteC h (fun h => ?_) (fun h => ?_)
                      · skip
                        cases h
                        exact x_fr.rf
                      · skip
                        refine x_iteC h (fun h => ?_) (fun h => ?_)
                        · skip
                          cases h
                          exact x_fr.rf
                        · skip
                          refine x_iteC h (fun h => ?_) (fun h => ?_)
                          · skip
                            cases h
                            exact x_fr.rf
                          · skip
                            refine x_iteC h (fun h => ?_) (fun h => ?_)
                            · skip
                              cases h
                              exact x_fr.rf
                            · skip
                              refine x_iteC h (fun h => ?_) (fun h => ?_)
                              · skip
                                cases h
                                exact x_fr.rf
                              · skip
                                refine x_iteC h (fun h => ?_) (fun h => ?_)
                                · skip
                                  cases h
                                  exact x_fr.rf
                                · skip
                                  cases h
                                  exact x_fr.rf
set_option maxHeartbeats 4000000 in
set_option maxRecDepth 100000 in
theorem fr_Re_readPart_2_27 {rec : Int32 → Int32 → xS → Option (Int32 × xS)}  {v2 : Int32} {v3 : Int32} {σ : xS} {r : Int32 × xS} (hr : ∀ (v2 v3 : Int32) (σ : xS) (r : Int32 × xS), rec v2 v3 σ = some r → x_fr [(2, 4), (2, 6), (2, 7), (27, 1), (28, 99999)] σ r.2) (h : f_Re_readPart_2_27 rec v2 v3 σ = some r) : x_fr [(2, 4), (2, 6), (2, 7), (27, 1), (28, 99999)] σ r.2 := by
  unfold f_Re_readPart_2_27 at h
  try dsimp only at h
  obtain ⟨q1, q1h, h⟩ := x_bind h
  try dsimp only at h
  have q1f := fr_Re_isKind_2 q1h
  refine x_iteC h (fun h => ?_) (fun h => ?_)
  · skip
    obtain ⟨q2, q2h, h⟩ := x_bind h
    try dsimp only at h
    have q2f := fr_Re_isKind_2 q2h
    refine x_iteC h (fun h => ?_) (fun h => ?_)
    · skip
      obtain ⟨q3, q3h, h⟩ := x_bind h
      try dsimp only at h
      have q3f := fr_Re_readInner_2_27 hr q3h
      obtain ⟨-, h⟩ := x_ift h
      cases h
      exact (x_fr.trans (x_fr.trans (x_fr.trans x_fr.rf (x_fr.su q1f rfl)) (x_fr.su q2f rfl)) (x_fr.su q3f rfl))
    · skip
      obtain ⟨q4, q4h, h⟩ := x_bind h
      try dsimp only at h
      have q4f := fr_Re_word_2 q4h
      obtain ⟨q5, q5h, h⟩ := x_bind h
      try dsimp only at h
      have q5f := fr_Re_valueOf q5h
      refine x_iteC h (fun h => ?_) (fun h => ?_)
      · skip
        obtain ⟨q9, q9h, h⟩ := x_bind h
        try dsimp only at h
        have q9f := fr_Re_refuse_2 q9h
        obtain ⟨-, h⟩ := x_ift h
        cases h
        exact (x_fr.trans (x_fr.trans (x_fr.trans (x_fr.trans (x_fr.trans x_fr.rf (x_fr.su q1f rfl)) (x_fr.su q2f rfl)) (x_fr.su q4f rfl)) (x_fr.su q5f rfl)) (x_fr.su q9f rfl))
      · skip
        obtain ⟨q7, q7h, h⟩ := x_bind h
        try dsimp only at h
        have q7f := fr_Ru_add_27 q7h
        obtain ⟨q8, q8h, h⟩ := x_bind h
        try dsimp only at h
        have q8f := fr_Re_advance_2 q8h
        cases h
        exact (x_fr.trans (x_fr.trans (x_fr.trans (x_fr.trans (x_fr.trans (x_fr.trans x_fr.rf (x_fr.su q1f rfl)) (x_fr.su q2f rfl)) (x_fr.su q4f rfl)) (x_fr.su q5f rfl)) (x_fr.su q7f rfl)) (x_fr.su q8f rfl))
  · skip
    obtain ⟨q10, q10h, h⟩ := x_bind h
    try dsimp only at h
    have q10f := fr_Re_isNumber_2 q10h
    refine x_iteC h (fun h => ?_) (fun h => ?_)
    · skip
      cases h
      exact (x_fr.trans (x_fr.trans x_fr.rf (x_fr.su q1f rfl)) (x_fr.su q10f rfl))
    · skip
      obtain ⟨q11, q11h, h⟩ := x_bind h
      try dsimp only at h
      have q11f := fr_Re_takeNumber_2 q11h
      obtain ⟨q12, q12h, h⟩ := x_bind h
      try dsimp only at h
      have q12f := fr_Ru_add_27 q12h
      cases h
      exact (x_fr.trans (x_fr.trans (x_fr.trans (x_fr.trans x_fr.rf (x_fr.su q1f rfl)) (x_fr.su q10f rfl)) (x_fr.su q11f rfl)) (x_fr.su q12f rfl))
set_option maxHeartbeats 4000000 in
set_option maxRecDepth 100000 in
theorem fr_Re_readProduct_2_27_J58 {rec : Int32 → Int32 → xS → Option (Int32 × xS)}  {v2 : Int32} {v3 : Int32} {v4 : Int32} {y0 : Int32} {σ : xS} {o : ((Int32 × xS) ⊕ (Int32 × xS)) ⊕ (Int32 × xS)} (hr : ∀ (v2 v3 : Int32) (σ : xS) (r : Int32 × xS), rec v2 v3 σ = some r → x_fr [(2, 4), (2, 6), (2, 7), (27, 1), (28, 99999)] σ r.2) (h : f_Re_readProduct_2_27_J58 rec v2 v3 v4 y0 σ = some o) : x_frO [(2, 4), (2, 6), (2, 7), (27, 1), (28, 99999)] (fun a => a.2) (fun b => match b with | .inl q => q.2 | .inr e => e.2) σ o := by
  unfold f_Re_readProduct_2_27_J58 at h
  try dsimp only at h
  obtain ⟨q1, q1h, h⟩ := x_bind h
  try dsimp only at h
  have q1f := fr_Re_advance_2 q1h
  obtain ⟨q2, q2h, h⟩ := x_bind h
  try dsimp only at h
  have q2f := fr_Re_readPart_2_27 hr q2h
  refine x_iteC h (fun h => ?_) (fun h => ?_)
  · skip
    cases h
    exact x_frO.b (x_fr.trans (x_fr.trans x_fr.rf (x_fr.su q1f rfl)) (x_fr.su q2f rfl))
  · skip
    obtain ⟨q3, q3h, h⟩ := x_bind h
    try dsimp only at h
    have q3f := fr_Ru_add_27 q3h
    cases h
    exact x_frO.a1 (x_fr.trans (x_fr.trans (x_fr.trans x_fr.rf (x_fr.su q1f rfl)) (x_fr.su q2f rfl)) (x_fr.su q3f rfl))
set_option maxHeartbeats 4000000 in
set_option maxRecDepth 100000 in
theorem fr_Re_readProduct_2_27_J42 {rec : Int32 → Int32 → xS → Option (Int32 × xS)}  {v2 : Int32} {v3 : Int32} {v4 : Int32} {σ : xS} {o : ((Int32 × xS) ⊕ (Int32 × xS)) ⊕ (Int32 × xS)} (hr : ∀ (v2 v3 : Int32) (σ : xS) (r : Int32 × xS), rec v2 v3 σ = some r → x_fr [(2, 4), (2, 6), (2, 7), (27, 1), (28, 99999)] σ r.2) (h : f_Re_readProduct_2_27_J42 rec v2 v3 v4 σ = some o) : x_frO [(2, 4), (2, 6), (2, 7), (27, 1), (28, 99999)] (fun a => a.2) (fun b => match b with | .inl q => q.2 | .inr e => e.2) σ o := by
  unfold f_Re_readProduct_2_27_J42 at h
  try dsimp only at h
  obtain ⟨q5, q5h, h⟩ := x_bind h
  try dsimp only at h
  have q5f := fr_Re_isSign_2 q5h
  refine x_iteC h (fun h => ?_) (fun h => ?_)
  · skip
    exact x_frO.tr (x_fr.trans x_fr.rf (x_fr.su q5f rfl)) (x_frO.su (fr_Re_readProduct_2_27_J58 hr h) rfl)
  · skip
    exact x_frO.tr (x_fr.trans x_fr.rf (x_fr.su q5f rfl)) (x_frO.su (fr_Re_readProduct_2_27_J58 hr h) rfl)
set_option maxHeartbeats 4000000 in
set_option maxRecDepth 100000 in
theorem fr_Re_readProduct_2_27_L15 {rec : Int32 → Int32 → xS → Option (Int32 × xS)}  {v2 : Int32} {v3 : Int32} {a : Int32 × xS} {o : ((Int32 × xS) ⊕ (Int32 × xS)) ⊕ (Int32 × xS)} (hr : ∀ (v2 v3 : Int32) (σ : xS) (r : Int32 × xS), rec v2 v3 σ = some r → x_fr [(2, 4), (2, 6), (2, 7), (27, 1), (28, 99999)] σ r.2) (h : f_Re_readProduct_2_27_L15 rec v2 v3 a = some o) : x_frO [(2, 4), (2, 6), (2, 7), (27, 1), (28, 99999)] (fun a => a.2) (fun b => match b with | .inl q => q.2 | .inr e => e.2) a.2 o := by
  unfold f_Re_readProduct_2_27_L15 at h
  try dsimp only at h
  refine x_iteC h (fun h => ?_) (fun h => ?_)
  · skip
    cases h
    exact x_frO.b x_fr.rf
  · skip
    obtain ⟨q6, q6h, h⟩ := x_bind h
    try dsimp only at h
    have q6f := fr_Re_isSign_2 q6h
    refine x_iteC h (fun h => ?_) (fun h => ?_)
    · skip
      obtain ⟨q7, q7h, h⟩ := x_bind h
      try dsimp only at h
      have q7f := fr_Re_isSign_2 q7h
      refine x_iteC h (fun h => ?_) (fun h => ?_)
      · skip
        cases h
        exact x_frO.b (x_fr.trans (x_fr.trans x_fr.rf (x_fr.su q6f rfl)) (x_fr.su q7f rfl))
      · skip
        exact x_frO.tr (x_fr.trans (x_fr.trans x_fr.rf (x_fr.su q6f rfl)) (x_fr.su q7f rfl)) (x_frO.su (fr_Re_readProduct_2_27_J42 hr h) rfl)
    · skip
      exact x_frO.tr (x_fr.trans x_fr.rf (x_fr.su q6f rfl)) (x_frO.su (fr_Re_readProduct_2_27_J42 hr h) rfl)
set_option maxHeartbeats 4000000 in
set_option maxRecDepth 100000 in
theorem fr_Re_readProduct_2_27 {rec : Int32 → Int32 → xS → Option (Int32 × xS)}  {v2 : Int32} {v3 : Int32} {σ : xS} {r : Int32 × xS} (hr : ∀ (v2 v3 : Int32) (σ : xS) (r : Int32 × xS), rec v2 v3 σ = some r → x_fr [(2, 4), (2, 6), (2, 7), (27, 1), (28, 99999)] σ r.2) (h : f_Re_readProduct_2_27 rec v2 v3 σ = some r) : x_fr [(2, 4), (2, 6), (2, 7), (27, 1), (28, 99999)] σ r.2 := by
  unfold f_Re_readProduct_2_27 at h
  try dsimp only at h
  obtain ⟨q8, q8h, h⟩ := x_bind h
  try dsimp only at h
  have q8f := fr_Re_readPart_2_27 hr q8h
  refine x_iteC h (fun h => ?_) (fun h => ?_)
  · skip
    cases h
    exact (x_fr.trans x_fr.rf (x_fr.su q8f rfl))
  · skip
    obtain ⟨b9, b9h, h⟩ := x_bind h
    try dsimp only at h
    have b9f := x_itF (sA := (fun a => a.2)) (sB := (fun b => match b with | .inl q => q.2 | .inr e => e.2)) (fun a o h => fr_Re_readProduct_2_27_L15 hr h) _ _ _ b9h
    cases b9 with
    | inl b9r =>
      try dsimp only at h
      cases h
      exact (x_fr.trans (x_fr.trans x_fr.rf (x_fr.su q8f rfl)) (x_fr.su b9f rfl))
    | inr b9e =>
      try dsimp only at h
      cases h
      exact (x_fr.trans (x_fr.trans x_fr.rf (x_fr.su q8f rfl)) (x_fr.su b9f rfl))
set_option maxHeartbeats 4000000 in
set_option maxRecDepth 100000 in
theorem fr_Re_readSum_2_27_J57 {rec : Int32 → Int32 → xS → Option (Int32 × xS)}  {v2 : Int32} {v3 : Int32} {v4 : Int32} {y0 : Int32} {σ : xS} {o : ((Int32 × xS) ⊕ (Int32 × xS)) ⊕ (Int32 × xS)} (hr : ∀ (v2 v3 : Int32) (σ : xS) (r : Int32 × xS), rec v2 v3 σ = some r → x_fr [(2, 4), (2, 6), (2, 7), (27, 1), (28, 99999)] σ r.2) (h : f_Re_readSum_2_27_J57 rec v2 v3 v4 y0 σ = some o) : x_frO [(2, 4), (2, 6), (2, 7), (27, 1), (28, 99999)] (fun a => a.2) (fun b => match b with | .inl q => q.2 | .inr e => e.2) σ o := by
  unfold f_Re_readSum_2_27_J57 at h
  try dsimp only at h
  obtain ⟨q1, q1h, h⟩ := x_bind h
  try dsimp only at h
  have q1f := fr_Re_advance_2 q1h
  obtain ⟨q2, q2h, h⟩ := x_bind h
  try dsimp only at h
  have q2f := fr_Re_readProduct_2_27 hr q2h
  refine x_iteC h (fun h => ?_) (fun h => ?_)
  · skip
    cases h
    exact x_frO.b (x_fr.trans (x_fr.trans x_fr.rf (x_fr.su q1f rfl)) (x_fr.su q2f rfl))
  · skip
    obtain ⟨q3, q3h, h⟩ := x_bind h
    try dsimp only at h
    have q3f := fr_Ru_add_27 q3h
    cases h
    exact x_frO.a1 (x_fr.trans (x_fr.trans (x_fr.trans x_fr.rf (x_fr.su q1f rfl)) (x_fr.su q2f rfl)) (x_fr.su q3f rfl))
set_option maxHeartbeats 4000000 in
set_option maxRecDepth 100000 in
theorem fr_Re_readSum_2_27_J42 {rec : Int32 → Int32 → xS → Option (Int32 × xS)}  {v2 : Int32} {v3 : Int32} {v4 : Int32} {σ : xS} {o : ((Int32 × xS) ⊕ (Int32 × xS)) ⊕ (Int32 × xS)} (hr : ∀ (v2 v3 : Int32) (σ : xS) (r : Int32 × xS), rec v2 v3 σ = some r → x_fr [(2, 4), (2, 6), (2, 7), (27, 1), (28, 99999)] σ r.2) (h : f_Re_readSum_2_27_J42 rec v2 v3 v4 σ = some o) : x_frO [(2, 4), (2, 6), (2, 7), (27, 1), (28, 99999)] (fun a => a.2) (fun b => match b with | .inl q => q.2 | .inr e => e.2) σ o := by
  unfold f_Re_readSum_2_27_J42 at h
  try dsimp only at h
  obtain ⟨q5, q5h, h⟩ := x_bind h
  try dsimp only at h
  have q5f := fr_Re_isSign_2 q5h
  refine x_iteC h (fun h => ?_) (fun h => ?_)
  · skip
    exact x_frO.tr (x_fr.trans x_fr.rf (x_fr.su q5f rfl)) (x_frO.su (fr_Re_readSum_2_27_J57 hr h) rfl)
  · skip
    exact x_frO.tr (x_fr.trans x_fr.rf (x_fr.su q5f rfl)) (x_frO.su (fr_Re_readSum_2_27_J57 hr h) rfl)
set_option maxHeartbeats 4000000 in
set_option maxRecDepth 100000 in
theorem fr_Re_readSum_2_27_L15 {rec : Int32 → Int32 → xS → Option (Int32 × xS)}  {v2 : Int32} {v3 : Int32} {a : Int32 × xS} {o : ((Int32 × xS) ⊕ (Int32 × xS)) ⊕ (Int32 × xS)} (hr : ∀ (v2 v3 : Int32) (σ : xS) (r : Int32 × xS), rec v2 v3 σ = some r → x_fr [(2, 4), (2, 6), (2, 7), (27, 1), (28, 99999)] σ r.2) (h : f_Re_readSum_2_27_L15 rec v2 v3 a = some o) : x_frO [(2, 4), (2, 6), (2, 7), (27, 1), (28, 99999)] (fun a => a.2) (fun b => match b with | .inl q => q.2 | .inr e => e.2) a.2 o := by
  unfold f_Re_readSum_2_27_L15 at h
  try dsimp only at h
  refine x_iteC h (fun h => ?_) (fun h => ?_)
  · skip
    cases h
    exact x_frO.b x_fr.rf
  · skip
    obtain ⟨q6, q6h, h⟩ := x_bind h
    try dsimp only at h
    have q6f := fr_Re_isSign_2 q6h
    refine x_iteC h (fun h => ?_) (fun h => ?_)
    · skip
      obtain ⟨q7, q7h, h⟩ := x_bind h
      try dsimp only at h
      have q7f := fr_Re_isSign_2 q7h
      refine x_iteC h (fun h => ?_) (fun h => ?_)
      · skip
        cases h
        exact x_frO.b (x_fr.trans (x_fr.trans x_fr.rf (x_fr.su q6f rfl)) (x_fr.su q7f rfl))
      · skip
        exact x_frO.tr (x_fr.trans (x_fr.trans x_fr.rf (x_fr.su q6f rfl)) (x_fr.su q7f rfl)) (x_frO.su (fr_Re_readSum_2_27_J42 hr h) rfl)
    · skip
      exact x_frO.tr (x_fr.trans x_fr.rf (x_fr.su q6f rfl)) (x_frO.su (fr_Re_readSum_2_27_J42 hr h) rfl)
set_option maxHeartbeats 4000000 in
set_option maxRecDepth 100000 in
theorem fr_Re_readSum_2_27 {rec : Int32 → Int32 → xS → Option (Int32 × xS)}  {v2 : Int32} {v3 : Int32} {σ : xS} {r : Int32 × xS} (hr : ∀ (v2 v3 : Int32) (σ : xS) (r : Int32 × xS), rec v2 v3 σ = some r → x_fr [(2, 4), (2, 6), (2, 7), (27, 1), (28, 99999)] σ r.2) (h : f_Re_readSum_2_27 rec v2 v3 σ = some r) : x_fr [(2, 4), (2, 6), (2, 7), (27, 1), (28, 99999)] σ r.2 := by
  unfold f_Re_readSum_2_27 at h
  try dsimp only at h
  obtain ⟨q8, q8h, h⟩ := x_bind h
  try dsimp only at h
  have q8f := fr_Re_readProduct_2_27 hr q8h
  refine x_iteC h (fun h => ?_) (fun h => ?_)
  · skip
    cases h
    exact (x_fr.trans x_fr.rf (x_fr.su q8f rfl))
  · skip
    obtain ⟨b9, b9h, h⟩ := x_bind h
    try dsimp only at h
    have b9f := x_itF (sA := (fun a => a.2)) (sB := (fun b => match b with | .inl q => q.2 | .inr e => e.2)) (fun a o h => fr_Re_readSum_2_27_L15 hr h) _ _ _ b9h
    cases b9 with
    | inl b9r =>
      try dsimp only at h
      cases h
      exact (x_fr.trans (x_fr.trans x_fr.rf (x_fr.su q8f rfl)) (x_fr.su b9f rfl))
    | inr b9e =>
      try dsimp only at h
      cases h
      exact (x_fr.trans (x_fr.trans x_fr.rf (x_fr.su q8f rfl)) (x_fr.su b9f rfl))
set_option maxHeartbeats 4000000 in
set_option maxRecDepth 100000 in
theorem fr_Re_readTest_2_27_J48 {rec : Int32 → Int32 → xS → Option (Int32 × xS)}  {v2 : Int32} {v3 : Int32} {y0 : Int32} {σ : xS} {r : Int32 × xS} (hr : ∀ (v2 v3 : Int32) (σ : xS) (r : Int32 × xS), rec v2 v3 σ = some r → x_fr [(2, 4), (2, 6), (2, 7), (27, 1), (28, 99999)] σ r.2) (h : f_Re_readTest_2_27_J48 rec v2 v3 y0 σ = some r) : x_fr [(2, 4), (2, 6), (2, 7), (27, 1), (28, 99999)] σ r.2 := by
  unfold f_Re_readTest_2_27_J48 at h
  try dsimp only at h
  obtain ⟨q1, q1h, h⟩ := x_bind h
  try dsimp only at h
  have q1f := fr_Re_advance_2 q1h
  obtain ⟨q2, q2h, h⟩ := x_bind h
  try dsimp only at h
  have q2f := fr_Re_readSum_2_27 hr q2h
  refine x_iteC h (fun h => ?_) (fun h => ?_)
  · skip
    cases h
    exact (x_fr.trans (x_fr.trans x_fr.rf (x_fr.su q1f rfl)) (x_fr.su q2f rfl))
  · skip
    obtain ⟨q3, q3h, h⟩ := x_bind h
    try dsimp only at h
    have q3f := fr_Ru_add_27 q3h
    cases h
    exact (x_fr.trans (x_fr.trans (x_fr.trans x_fr.rf (x_fr.su q1f rfl)) (x_fr.su q2f rfl)) (x_fr.su q3f rfl))
set_option maxHeartbeats 4000000 in
set_option maxRecDepth 100000 in
theorem fr_Re_readTest_2_27_J32 {rec : Int32 → Int32 → xS → Option (Int32 × xS)}  {v2 : Int32} {v3 : Int32} {σ : xS} {r : Int32 × xS} (hr : ∀ (v2 v3 : Int32) (σ : xS) (r : Int32 × xS), rec v2 v3 σ = some r → x_fr [(2, 4), (2, 6), (2, 7), (27, 1), (28, 99999)] σ r.2) (h : f_Re_readTest_2_27_J32 rec v2 v3 σ = some r) : x_fr [(2, 4), (2, 6), (2, 7), (27, 1), (28, 99999)] σ r.2 := by
  unfold f_Re_readTest_2_27_J32 at h
  try dsimp only at h
  obtain ⟨q4, q4h, h⟩ := x_bind h
  try dsimp only at h
  have q4f := fr_Re_isSign_2 q4h
  refine x_iteC h (fun h => ?_) (fun h => ?_)
  · skip
    exact x_fr.trans (x_fr.trans x_fr.rf (x_fr.su q4f rfl)) (x_fr.su (fr_Re_readTest_2_27_J48 hr h) rfl)
  · skip
    exact x_fr.trans (x_fr.trans x_fr.rf (x_fr.su q4f rfl)) (x_fr.su (fr_Re_readTest_2_27_J48 hr h) rfl)
set_option maxHeartbeats 4000000 in
set_option maxRecDepth 100000 in
theorem fr_Re_readTest_2_27 {rec : Int32 → Int32 → xS → Option (Int32 × xS)}  {v2 : Int32} {v3 : Int32} {σ : xS} {r : Int32 × xS} (hr : ∀ (v2 v3 : Int32) (σ : xS) (r : Int32 × xS), rec v2 v3 σ = some r → x_fr [(2, 4), (2, 6), (2, 7), (27, 1), (28, 99999)] σ r.2) (h : f_Re_readTest_2_27 rec v2 v3 σ = some r) : x_fr [(2, 4), (2, 6), (2, 7), (27, 1), (28, 99999)] σ r.2 := by
  unfold f_Re_readTest_2_27 at h
  try dsimp only at h
  obtain ⟨q5, q5h, h⟩ := x_bind h
  try dsimp only at h
  have q5f := fr_Re_readSum_2_27 hr q5h
  refine x_iteC h (fun h => ?_) (fun h => ?_)
  · skip
    cases h
    exact (x_fr.trans x_fr.rf (x_fr.su q5f rfl))
  · skip
    obtain ⟨q6, q6h, h⟩ := x_bind h
    try dsimp only at h
    have q6f := fr_Re_isSign_2 q6h
    refine x_iteC h (fun h => ?_) (fun h => ?_)
    · skip
      obtain ⟨q7, q7h, h⟩ := x_bind h
      try dsimp only at h
      have q7f := fr_Re_isSign_2 q7h
      refine x_iteC h (fun h => ?_) (fun h => ?_)
      · skip
        cases h
        exact (x_fr.trans (x_fr.trans (x_fr.trans x_fr.rf (x_fr.su q5f rfl)) (x_fr.su q6f rfl)) (x_fr.su q7f rfl))
      · skip
        exact x_fr.trans (x_fr.trans (x_fr.trans (x_fr.trans x_fr.rf (x_fr.su q5f rfl)) (x_fr.su q6f rfl)) (x_fr.su q7f rfl)) (x_fr.su (fr_Re_readTest_2_27_J32 hr h) rfl)
    · skip
      exact x_fr.trans (x_fr.trans (x_fr.trans x_fr.rf (x_fr.su q5f rfl)) (x_fr.su q6f rfl)) (x_fr.su (fr_Re_readTest_2_27_J32 hr h) rfl)
set_option maxHeartbeats 4000000 in
set_option maxRecDepth 100000 in
theorem fr_Re_readNot_2_27_L66 {rec : Int32 → Int32 → xS → Option (Int32 × xS)}  {v4 : Int32} {a : Int32 × xS} {o : (Int32 × xS) ⊕ (Int32 × xS)} (hr : ∀ (v2 v3 : Int32) (σ : xS) (r : Int32 × xS), rec v2 v3 σ = some r → x_fr [(2, 4), (2, 6), (2, 7), (27, 1), (28, 99999)] σ r.2) (h : f_Re_readNot_2_27_L66 rec v4 a = some o) : x_frO [(27, 1), (28, 99999)] (fun a => a.2) (fun b => b.2) a.2 o := by
  unfold f_Re_readNot_2_27_L66 at h
  try dsimp only at h
  refine x_iteC h (fun h => ?_) (fun h => ?_)
  · skip
    cases h
    exact x_frO.b x_fr.rf
  · skip
    obtain ⟨q1, q1h, h⟩ := x_bind h
    try dsimp only at h
    have q1f := fr_Ru_add_27 q1h
    cases h
    exact x_frO.a1 (x_fr.trans x_fr.rf (x_fr.su q1f rfl))
set_option maxHeartbeats 4000000 in
set_option maxRecDepth 100000 in
theorem fr_Re_readNot_2_27_L6 {rec : Int32 → Int32 → xS → Option (Int32 × xS)}  {v2 : Int32} {v3 : Int32} {a : Int32 × Int32 × xS} {o : ((Int32 × xS) ⊕ (Int32 × Int32 × xS)) ⊕ (Int32 × Int32 × xS)} (hr : ∀ (v2 v3 : Int32) (σ : xS) (r : Int32 × xS), rec v2 v3 σ = some r → x_fr [(2, 4), (2, 6), (2, 7), (27, 1), (28, 99999)] σ r.2) (h : f_Re_readNot_2_27_L6 rec v2 v3 a = some o) : x_frO [(2, 4), (2, 6), (2, 7)] (fun a => a.2.2) (fun b => match b with | .inl q => q.2 | .inr e => e.2.2) a.2.2 o := by
  unfold f_Re_readNot_2_27_L6 at h
  try dsimp only at h
  refine x_iteC h (fun h => ?_) (fun h => ?_)
  · skip
    cases h
    exact x_frO.b x_fr.rf
  · skip
    obtain ⟨q3, q3h, h⟩ := x_bind h
    try dsimp only at h
    have q3f := fr_Re_isWord_2 q3h
    refine x_iteC h (fun h => ?_) (fun h => ?_)
    · skip
      cases h
      exact x_frO.b (x_fr.trans x_fr.rf (x_fr.su q3f rfl))
    · skip
      refine x_iteC h (fun h => ?_) (fun h => ?_)
      · skip
        obtain ⟨q5, q5h, h⟩ := x_bind h
        try dsimp only at h
        have q5f := fr_Re_advance_2 q5h
        cases h
        exact x_frO.a2 (x_fr.trans (x_fr.trans x_fr.rf (x_fr.su q3f rfl)) (x_fr.su q5f rfl))
      · skip
        obtain ⟨q7, q7h, h⟩ := x_bind h
        try dsimp only at h
        have q7f := fr_Re_refuse_2 q7h
        obtain ⟨-, h⟩ := x_ift h
        cases h
        exact x_frO.b (x_fr.trans (x_fr.trans x_fr.rf (x_fr.su q3f rfl)) (x_fr.su q7f rfl))
set_option maxHeartbeats 4000000 in
set_option maxRecDepth 100000 in
theorem fr_Re_readNot_2_27_J51 {rec : Int32 → Int32 → xS → Option (Int32 × xS)}  {v2 : Int32} {v3 : Int32} {v4 : Int32} {σ : xS} {r : Int32 × xS} (hr : ∀ (v2 v3 : Int32) (σ : xS) (r : Int32 × xS), rec v2 v3 σ = some r → x_fr [(2, 4), (2, 6), (2, 7), (27, 1), (28, 99999)] σ r.2) (h : f_Re_readNot_2_27_J51 rec v2 v3 v4 σ = some r) : x_fr [(2, 4), (2, 6), (2, 7), (27, 1), (28, 99999)] σ r.2 := by
  unfold f_Re_readNot_2_27_J51 at h
  try dsimp only at h
  obtain ⟨q8, q8h, h⟩ := x_bind h
  try dsimp only at h
  have q8f := fr_Re_readTest_2_27 hr q8h
  refine x_iteC h (fun h => ?_) (fun h => ?_)
  · skip
    cases h
    exact (x_fr.trans x_fr.rf (x_fr.su q8f rfl))
  · skip
    obtain ⟨b9, b9h, h⟩ := x_bind h
    try dsimp only at h
    have b9f := x_itF (sA := (fun a => a.2)) (sB := (fun b => b.2)) (fun a o h => fr_Re_readNot_2_27_L66 hr h) _ _ _ b9h
    cases h
    exact (x_fr.trans (x_fr.trans x_fr.rf (x_fr.su q8f rfl)) (x_fr.su b9f rfl))
set_option maxHeartbeats 4000000 in
set_option maxRecDepth 100000 in
theorem fr_Re_readNot_2_27 {rec : Int32 → Int32 → xS → Option (Int32 × xS)}  {v2 : Int32} {v3 : Int32} {σ : xS} {r : Int32 × xS} (hr : ∀ (v2 v3 : Int32) (σ : xS) (r : Int32 × xS), rec v2 v3 σ = some r → x_fr [(2, 4), (2, 6), (2, 7), (27, 1), (28, 99999)] σ r.2) (h : f_Re_readNot_2_27 rec v2 v3 σ = some r) : x_fr [(2, 4), (2, 6), (2, 7), (27, 1), (28, 99999)] σ r.2 := by
  unfold f_Re_readNot_2_27 at h
  try dsimp only at h
  obtain ⟨b10, b10h, h⟩ := x_bind h
  try dsimp only at h
  have b10f := x_itF (sA := (fun a => a.2.2)) (sB := (fun b => match b with | .inl q => q.2 | .inr e => e.2.2)) (fun a o h => fr_Re_readNot_2_27_L6 hr h) _ _ _ b10h
  cases b10 with
  | inl b10r =>
    try dsimp only at h
    cases h
    exact (x_fr.trans x_fr.rf (x_fr.su b10f rfl))
  | inr b10e =>
    try dsimp only at h
    exact x_fr.trans (x_fr.trans x_fr.rf (x_fr.su b10f rfl)) (x_fr.su (fr_Re_readNot_2_27_J51 hr h) rfl)
set_option maxHeartbeats 4000000 in
set_option maxRecDepth 100000 in
theorem fr_Re_readAnd_2_27_L15 {rec : Int32 → Int32 → xS → Option (Int32 × xS)}  {v2 : Int32} {v3 : Int32} {a : Int32 × xS} {o : ((Int32 × xS) ⊕ (Int32 × xS)) ⊕ (Int32 × xS)} (hr : ∀ (v2 v3 : Int32) (σ : xS) (r : Int32 × xS), rec v2 v3 σ = some r → x_fr [(2, 4), (2, 6), (2, 7), (27, 1), (28, 99999)] σ r.2) (h : f_Re_readAnd_2_27_L15 rec v2 v3 a = some o) : x_frO [(2, 4), (2, 6), (2, 7), (27, 1), (28, 99999)] (fun a => a.2) (fun b => match b with | .inl q => q.2 | .inr e => e.2) a.2 o := by
  unfold f_Re_readAnd_2_27_L15 at h
  try dsimp only at h
  refine x_iteC h (fun h => ?_) (fun h => ?_)
  · skip
    cases h
    exact x_frO.b x_fr.rf
  · skip
    obtain ⟨q1, q1h, h⟩ := x_bind h
    try dsimp only at h
    have q1f := fr_Re_isWord_2 q1h
    refine x_iteC h (fun h => ?_) (fun h => ?_)
    · skip
      cases h
      exact x_frO.b (x_fr.trans x_fr.rf (x_fr.su q1f rfl))
    · skip
      obtain ⟨q2, q2h, h⟩ := x_bind h
      try dsimp only at h
      have q2f := fr_Re_advance_2 q2h
      obtain ⟨q3, q3h, h⟩ := x_bind h
      try dsimp only at h
      have q3f := fr_Re_readNot_2_27 hr q3h
      refine x_iteC h (fun h => ?_) (fun h => ?_)
      · skip
        cases h
        exact x_frO.b (x_fr.trans (x_fr.trans (x_fr.trans x_fr.rf (x_fr.su q1f rfl)) (x_fr.su q2f rfl)) (x_fr.su q3f rfl))
      · skip
        obtain ⟨q4, q4h, h⟩ := x_bind h
        try dsimp only at h
        have q4f := fr_Ru_add_27 q4h
        cases h
        exact x_frO.a1 (x_fr.trans (x_fr.trans (x_fr.trans (x_fr.trans x_fr.rf (x_fr.su q1f rfl)) (x_fr.su q2f rfl)) (x_fr.su q3f rfl)) (x_fr.su q4f rfl))
set_option maxHeartbeats 4000000 in
set_option maxRecDepth 100000 in
theorem fr_Re_readAnd_2_27 {rec : Int32 → Int32 → xS → Option (Int32 × xS)}  {v2 : Int32} {v3 : Int32} {σ : xS} {r : Int32 × xS} (hr : ∀ (v2 v3 : Int32) (σ : xS) (r : Int32 × xS), rec v2 v3 σ = some r → x_fr [(2, 4), (2, 6), (2, 7), (27, 1), (28, 99999)] σ r.2) (h : f_Re_readAnd_2_27 rec v2 v3 σ = some r) : x_fr [(2, 4), (2, 6), (2, 7), (27, 1), (28, 99999)] σ r.2 := by
  unfold f_Re_readAnd_2_27 at h
  try dsimp only at h
  obtain ⟨q6, q6h, h⟩ := x_bind h
  try dsimp only at h
  have q6f := fr_Re_readNot_2_27 hr q6h
  refine x_iteC h (fun h => ?_) (fun h => ?_)
  · skip
    cases h
    exact (x_fr.trans x_fr.rf (x_fr.su q6f rfl))
  · skip
    obtain ⟨b7, b7h, h⟩ := x_bind h
    try dsimp only at h
    have b7f := x_itF (sA := (fun a => a.2)) (sB := (fun b => match b with | .inl q => q.2 | .inr e => e.2)) (fun a o h => fr_Re_readAnd_2_27_L15 hr h) _ _ _ b7h
    cases b7 with
    | inl b7r =>
      try dsimp only at h
      cases h
      exact (x_fr.trans (x_fr.trans x_fr.rf (x_fr.su q6f rfl)) (x_fr.su b7f rfl))
    | inr b7e =>
      try dsimp only at h
      cases h
      exact (x_fr.trans (x_fr.trans x_fr.rf (x_fr.su q6f rfl)) (x_fr.su b7f rfl))
set_option maxHeartbeats 4000000 in
set_option maxRecDepth 100000 in
theorem fr_Re_readExprB_2_27_L67 {rec : Int32 → Int32 → xS → Option (Int32 × xS)}  {v2 : Int32} {v3 : Int32} {a : Int32 × xS} {o : ((Int32 × xS) ⊕ (Int32 × xS)) ⊕ (Int32 × xS)} (hr : ∀ (v2 v3 : Int32) (σ : xS) (r : Int32 × xS), rec v2 v3 σ = some r → x_fr [(2, 4), (2, 6), (2, 7), (27, 1), (28, 99999)] σ r.2) (h : f_Re_readExprB_2_27_L67 rec v2 v3 a = some o) : x_frO [(2, 4), (2, 6), (2, 7), (27, 1), (28, 99999)] (fun a => a.2) (fun b => match b with | .inl q => q.2 | .inr e => e.2) a.2 o := by
  unfold f_Re_readExprB_2_27_L67 at h
  try dsimp only at h
  refine x_iteC h (fun h => ?_) (fun h => ?_)
  · skip
    cases h
    exact x_frO.b x_fr.rf
  · skip
    obtain ⟨q1, q1h, h⟩ := x_bind h
    try dsimp only at h
    have q1f := fr_Re_isWord_2 q1h
    refine x_iteC h (fun h => ?_) (fun h => ?_)
    · skip
      cases h
      exact x_frO.b (x_fr.trans x_fr.rf (x_fr.su q1f rfl))
    · skip
      obtain ⟨q2, q2h, h⟩ := x_bind h
      try dsimp only at h
      have q2f := fr_Re_advance_2 q2h
      obtain ⟨q3, q3h, h⟩ := x_bind h
      try dsimp only at h
      have q3f := fr_Re_readAnd_2_27 hr q3h
      refine x_iteC h (fun h => ?_) (fun h => ?_)
      · skip
        cases h
        exact x_frO.b (x_fr.trans (x_fr.trans (x_fr.trans x_fr.rf (x_fr.su q1f rfl)) (x_fr.su q2f rfl)) (x_fr.su q3f rfl))
      · skip
        obtain ⟨q4, q4h, h⟩ := x_bind h
        try dsimp only at h
        have q4f := fr_Ru_add_27 q4h
        cases h
        exact x_frO.a1 (x_fr.trans (x_fr.trans (x_fr.trans (x_fr.trans x_fr.rf (x_fr.su q1f rfl)) (x_fr.su q2f rfl)) (x_fr.su q3f rfl)) (x_fr.su q4f rfl))
set_option maxHeartbeats 4000000 in
set_option maxRecDepth 100000 in
theorem fr_Re_readExprB_2_27_J35 {rec : Int32 → Int32 → xS → Option (Int32 × xS)}  {y0 : Int32} {σ : xS} {r : Int32 × xS} (hr : ∀ (v2 v3 : Int32) (σ : xS) (r : Int32 × xS), rec v2 v3 σ = some r → x_fr [(2, 4), (2, 6), (2, 7), (27, 1), (28, 99999)] σ r.2) (h : f_Re_readExprB_2_27_J35 rec y0 σ = some r) : x_fr [(2, 6), (2, 7)] σ r.2 := by
  unfold f_Re_readExprB_2_27_J35 at h
  try dsimp only at h
  refine x_iteC h (fun h => ?_) (fun h => ?_)
  · skip
    obtain ⟨q6, q6h, h⟩ := x_bind h
    try dsimp only at h
    have q6f := fr_Re_refuse_2 q6h
    obtain ⟨-, h⟩ := x_ift h
    cases h
    exact (x_fr.trans x_fr.rf (x_fr.su q6f rfl))
  · skip
    obtain ⟨q7, q7h, h⟩ := x_bind h
    try dsimp only at h
    have q7f := fr_Re_refuse_2 q7h
    obtain ⟨-, h⟩ := x_ift h
    cases h
    exact (x_fr.trans x_fr.rf (x_fr.su q7f rfl))
set_option maxHeartbeats 4000000 in
set_option maxRecDepth 100000 in
theorem fr_Re_readExprB_2_27_J30 {rec : Int32 → Int32 → xS → Option (Int32 × xS)}   {σ : xS} {r : Int32 × xS} (hr : ∀ (v2 v3 : Int32) (σ : xS) (r : Int32 × xS), rec v2 v3 σ = some r → x_fr [(2, 4), (2, 6), (2, 7), (27, 1), (28, 99999)] σ r.2) (h : f_Re_readExprB_2_27_J30 rec σ = some r) : x_fr [(2, 6), (2, 7)] σ r.2 := by
  unfold f_Re_readExprB_2_27_J30 at h
  try dsimp only at h
  exact x_fr.trans x_fr.rf (x_fr.su (fr_Re_readExprB_2_27_J35 hr h) rfl)
set_option maxHeartbeats 4000000 in
set_option maxRecDepth 100000 in
theorem fr_Re_readExprB_2_27 {rec : Int32 → Int32 → xS → Option (Int32 × xS)}  {v2 : Int32} {v3 : Int32} {σ : xS} {r : Int32 × xS} (hr : ∀ (v2 v3 : Int32) (σ : xS) (r : Int32 × xS), rec v2 v3 σ = some r → x_fr [(2, 4), (2, 6), (2, 7), (27, 1), (28, 99999)] σ r.2) (h : f_Re_readExprB_2_27 rec v2 v3 σ = some r) : x_fr [(2, 4), (2, 6), (2, 7), (27, 1), (28, 99999)] σ r.2 := by
  unfold f_Re_readExprB_2_27 at h
  try dsimp only at h
  refine x_iteC h (fun h => ?_) (fun h => ?_)
  · skip
    obtain ⟨q8, q8h, h⟩ := x_bind h
    try dsimp only at h
    have q8f := fr_Re_readAnd_2_27 hr q8h
    refine x_iteC h (fun h => ?_) (fun h => ?_)
    · skip
      cases h
      exact (x_fr.trans x_fr.rf (x_fr.su q8f rfl))
    · skip
      obtain ⟨b9, b9h, h⟩ := x_bind h
      try dsimp only at h
      have b9f := x_itF (sA := (fun a => a.2)) (sB := (fun b => match b with | .inl q => q.2 | .inr e => e.2)) (fun a o h => fr_Re_readExprB_2_27_L67 hr h) _ _ _ b9h
      cases b9 with
      | inl b9r =>
        try dsimp only at h
        cases h
        exact (x_fr.trans (x_fr.trans x_fr.rf (x_fr.su q8f rfl)) (x_fr.su b9f rfl))
      | inr b9e =>
        try dsimp only at h
        cases h
        exact (x_fr.trans (x_fr.trans x_fr.rf (x_fr.su q8f rfl)) (x_fr.su b9f rfl))
  · skip
    obtain ⟨q10, q10h, h⟩ := x_bind h
    try dsimp only at h
    have q10f := fr_Re_isKind_2 q10h
    refine x_iteC h (fun h => ?_) (fun h => ?_)
    · skip
      obtain ⟨q11, q11h, h⟩ := x_bind h
      try dsimp only at h
      have q11f := fr_Re_isKind_2 q11h
      refine x_iteC h (fun h => ?_) (fun h => ?_)
      · skip
        obtain ⟨q12, q12h, h⟩ := x_bind h
        try dsimp only at h
        have q12f := fr_Re_isSign_2 q12h
        refine x_iteC h (fun h => ?_) (fun h => ?_)
        · skip
          exact x_fr.trans (x_fr.trans (x_fr.trans (x_fr.trans x_fr.rf (x_fr.su q10f rfl)) (x_fr.su q11f rfl)) (x_fr.su q12f rfl)) (x_fr.su (fr_Re_readExprB_2_27_J35 hr h) rfl)
        · skip
          exact x_fr.trans (x_fr.trans (x_fr.trans (x_fr.trans x_fr.rf (x_fr.su q10f rfl)) (x_fr.su q11f rfl)) (x_fr.su q12f rfl)) (x_fr.su (fr_Re_readExprB_2_27_J30 hr h) rfl)
      · skip
        exact x_fr.trans (x_fr.trans (x_fr.trans x_fr.rf (x_fr.su q10f rfl)) (x_fr.su q11f rfl)) (x_fr.su (fr_Re_readExprB_2_27_J30 hr h) rfl)
    · skip
      exact x_fr.trans (x_fr.trans x_fr.rf (x_fr.su q10f rfl)) (x_fr.su (fr_Re_readExprB_2_27_J30 hr h) rfl)
set_option maxHeartbeats 4000000 in
set_option maxRecDepth 100000 in
theorem fr_g_Re_readExpr_2_27 : ∀ (n : Nat) (v2 v3 : Int32) (σ : xS) (r : Int32 × xS), g_Re_readExpr_2_27 n v2 v3 σ = some r → x_fr [(2, 4), (2, 6), (2, 7), (27, 1), (28, 99999)] σ r.2
  | 0, _, _, _, _, h => by cases h
  | n + 1, v2, v3, σ, r, h => fr_Re_readExprB_2_27 (rec := g_Re_readExpr_2_27 n) (fr_g_Re_readExpr_2_27 n) h
theorem fr_Re_readExpr_2_27 {v2 v3 : Int32} {σ : xS} {r : Int32 × xS} (h : f_Re_readExpr_2_27 v2 v3 σ = some r) : x_fr [(2, 4), (2, 6), (2, 7), (27, 1), (28, 99999)] σ r.2 := fr_g_Re_readExpr_2_27 8 v2 v3 σ r h
set_option maxHeartbeats 4000000 in
set_option maxRecDepth 100000 in
theorem fr_Ru_close_27 {v1 : Int32} {σ : xS} {r : Unit × xS} (h : f_Ru_close_27 v1 σ = some r) : x_fr [(30, 99999)] σ r.2 := by
  unfold f_Ru_close_27 at h
  try dsimp only at h
  refine x_iteC h (fun h => ?_) (fun h => ?_)
  · skip
    cases h
    exact x_fr.rf
  · skip
    refine x_iteC h (fun h => ?_) (fun h => ?_)
    · skip
      cases h
      exact x_fr.rf
    · skip
      obtain ⟨-, h⟩ := x_ifn h
      cases h
      exact (x_frI (p := 30) rfl x_fr.rf)
set_option maxHeartbeats 4000000 in
set_option maxRecDepth 100000 in
theorem fr_Re_readRule_2_21 {v2 : Int32} {σ : xS} {r : Int32 × xS} (h : f_Re_readRule_2_21 v2 σ = some r) : x_fr [(2, 4), (2, 6), (2, 7), (21, 9), (27, 1), (28, 99999), (29, 99999), (30, 99999)] σ r.2 := by
  unfold f_Re_readRule_2_21 at h
  try dsimp only at h
  refine x_iteC h (fun h => ?_) (fun h => ?_)
  · skip
    obtain ⟨q1, q1h, h⟩ := x_bind h
    try dsimp only at h
    have q1f := fr_Ru_has_27 q1h
    refine x_iteC h (fun h => ?_) (fun h => ?_)
    · skip
      obtain ⟨q2, q2h, h⟩ := x_bind h
      try dsimp only at h
      have q2f := fr_Re_advance_2 q2h
      obtain ⟨q3, q3h, h⟩ := x_bind h
      try dsimp only at h
      have q3f := fr_Ru_open_27 q3h
      obtain ⟨q4, q4h, h⟩ := x_bind h
      try dsimp only at h
      have q4f := fr_Re_readExpr_2_27 q4h
      refine x_iteC h (fun h => ?_) (fun h => ?_)
      · skip
        cases h
        exact (x_fr.trans (x_fr.trans (x_fr.trans (x_fr.trans x_fr.rf (x_fr.su q1f rfl)) (x_fr.su q2f rfl)) (x_fr.su q3f rfl)) (x_fr.su q4f rfl))
      · skip
        obtain ⟨q5, q5h, h⟩ := x_bind h
        try dsimp only at h
        have q5f := fr_Ru_close_27 q5h
        refine x_iteC h (fun h => ?_) (fun h => ?_)
        · skip
          obtain ⟨q7, q7h, h⟩ := x_bind h
          try dsimp only at h
          have q7f := fr_Re_readEnd_2 q7h
          obtain ⟨-, h⟩ := x_ift h
          cases h
          exact (x_fr.trans (x_frI (p := 21) (k := 9) rfl (x_fr.trans (x_fr.trans (x_fr.trans (x_fr.trans (x_fr.trans x_fr.rf (x_fr.su q1f rfl)) (x_fr.su q2f rfl)) (x_fr.su q3f rfl)) (x_fr.su q4f rfl)) (x_fr.su q5f rfl))) (x_fr.su q7f rfl))
        · skip
          obtain ⟨q9, q9h, h⟩ := x_bind h
          try dsimp only at h
          have q9f := fr_Re_readEnd_2 q9h
          obtain ⟨-, h⟩ := x_ift h
          cases h
          exact (x_fr.trans (x_frI (p := 21) (k := 9) rfl (x_fr.trans (x_fr.trans (x_fr.trans (x_fr.trans (x_fr.trans x_fr.rf (x_fr.su q1f rfl)) (x_fr.su q2f rfl)) (x_fr.su q3f rfl)) (x_fr.su q4f rfl)) (x_fr.su q5f rfl))) (x_fr.su q9f rfl))
    · skip
      obtain ⟨q10, q10h, h⟩ := x_bind h
      try dsimp only at h
      have q10f := fr_Re_refuse_2 q10h
      obtain ⟨-, h⟩ := x_ift h
      cases h
      exact (x_fr.trans (x_fr.trans x_fr.rf (x_fr.su q1f rfl)) (x_fr.su q10f rfl))
  · skip
    obtain ⟨q11, q11h, h⟩ := x_bind h
    try dsimp only at h
    have q11f := fr_Re_refuse_2 q11h
    obtain ⟨-, h⟩ := x_ift h
    cases h
    exact (x_fr.trans x_fr.rf (x_fr.su q11f rfl))
set_option maxHeartbeats 4000000 in
set_option maxRecDepth 100000 in
theorem fr_Re_readLine_2_21 {σ : xS} {r : Int32 × xS} (h : f_Re_readLine_2_21 σ = some r) : x_fr [(2, 4), (2, 6), (2, 7), (6, 99999), (21, 1), (21, 4), (21, 5), (21, 8), (21, 9), (22, 99999), (23, 99999), (24, 99999), (25, 99999), (26, 99999), (27, 1), (28, 99999), (29, 99999), (30, 99999)] σ r.2 := by
  unfold f_Re_readLine_2_21 at h
  try dsimp only at h
  obtain ⟨q1, q1h, h⟩ := x_bind h
  try dsimp only at h
  have q1f := fr_Re_word_2 q1h
  obtain ⟨-, h⟩ := x_ift h
  obtain ⟨-, h⟩ := x_ifn h
  refine x_iteC h (fun h => ?_) (fun h => ?_)
  · skip
    obtain ⟨q2, q2h, h⟩ := x_bind h
    try dsimp only at h
    have q2f := fr_Re_readGo_2_21 q2h
    obtain ⟨-, h⟩ := x_ift h
    cases h
    exact (x_fr.trans (x_fr.trans x_fr.rf (x_fr.su q1f rfl)) (x_fr.su q2f rfl))
  · skip
    refine x_iteC h (fun h => ?_) (fun h => ?_)
    · skip
      obtain ⟨q3, q3h, h⟩ := x_bind h
      try dsimp only at h
      have q3f := fr_Re_readStay_2_21 q3h
      obtain ⟨-, h⟩ := x_ift h
      cases h
      exact (x_fr.trans (x_fr.trans x_fr.rf (x_fr.su q1f rfl)) (x_fr.su q3f rfl))
    · skip
      refine x_iteC h (fun h => ?_) (fun h => ?_)
      · skip
        obtain ⟨q4, q4h, h⟩ := x_bind h
        try dsimp only at h
        have q4f := fr_Re_readChange_2_21 q4h
        obtain ⟨-, h⟩ := x_ift h
        cases h
        exact (x_fr.trans (x_fr.trans x_fr.rf (x_fr.su q1f rfl)) (x_fr.su q4f rfl))
      · skip
        refine x_iteC h (fun h => ?_) (fun h => ?_)
        · skip
          obtain ⟨q5, q5h, h⟩ := x_bind h
          try dsimp only at h
          have q5f := fr_Re_readChange_2_21 q5h
          obtain ⟨-, h⟩ := x_ift h
          cases h
          exact (x_fr.trans (x_fr.trans x_fr.rf (x_fr.su q1f rfl)) (x_fr.su q5f rfl))
        · skip
          refine x_iteC h (fun h => ?_) (fun h => ?_)
          · skip
            obtain ⟨q6, q6h, h⟩ := x_bind h
            try dsimp only at h
            have q6f := fr_Re_readMark_2_21 q6h
            obtain ⟨-, h⟩ := x_ift h
            cases h
            exact (x_fr.trans (x_fr.trans x_fr.rf (x_fr.su q1f rfl)) (x_fr.su q6f rfl))
          · skip
            refine x_iteC h (fun h => ?_) (fun h => ?_)
            · skip
              obtain ⟨q7, q7h, h⟩ := x_bind h
              try dsimp only at h
              have q7f := fr_Re_readSetting_2_21 q7h
              obtain ⟨-, h⟩ := x_ift h
              cases h
              exact (x_fr.trans (x_fr.trans x_fr.rf (x_fr.su q1f rfl)) (x_fr.su q7f rfl))
            · skip
              refine x_iteC h (fun h => ?_) (fun h => ?_)
              · skip
                obtain ⟨q8, q8h, h⟩ := x_bind h
                try dsimp only at h
                have q8f := fr_Re_readSetting_2_21 q8h
                obtain ⟨-, h⟩ := x_ift h
                cases h
                exact (x_fr.trans (x_fr.trans x_fr.rf (x_fr.su q1f rfl)) (x_fr.su q8f rfl))
              · skip
                refine x_iteC h (fun h => ?_) (fun h => ?_)
                · skip
                  obtain ⟨q9, q9h, h⟩ := x_bind h
                  try dsimp only at h
                  have q9f := fr_Re_readSetting_2_21 q9h
                  obtain ⟨-, h⟩ := x_ift h
                  cases h
                  exact (x_fr.trans (x_fr.trans x_fr.rf (x_fr.su q1f rfl)) (x_fr.su q9f rfl))
                · skip
                  refine x_iteC h (fun h => ?_) (fun h => ?_)
                  · skip
                    obtain ⟨q10, q10h, h⟩ := x_bind h
                    try dsimp only at h
                    have q10f := fr_Re_readSetting_2_21 q10h
                    obtain ⟨-, h⟩ := x_ift h
                    cases h
                    exact (x_fr.trans (x_fr.trans x_fr.rf (x_fr.su q1f rfl)) (x_fr.su q10f rfl))
                  · skip
                    refine x_iteC h (fun h => ?_) (fun h => ?_)
                    · skip
                      obtain ⟨q11, q11h, h⟩ := x_bind h
                      try dsimp only at h
                      have q11f := fr_Re_readEye_2_21 q11h
                      obtain ⟨-, h⟩ := x_ift h
                      cases h
                      exact (x_fr.trans (x_fr.trans x_fr.rf (x_fr.su q1f rfl)) (x_fr.su q11f rfl))
                    · skip
                      refine x_iteC h (fun h => ?_) (fun h => ?_)
                      · skip
                        obtain ⟨q12, q12h, h⟩ := x_bind h
                        try dsimp only at h
                        have q12f := fr_Re_readRule_2_21 q12h
                        obtain ⟨-, h⟩ := x_ift h
                        cases h
                        exact (x_fr.trans (x_fr.trans x_fr.rf (x_fr.su q1f rfl)) (x_fr.su q12f rfl))
                      · skip
                        refine x_iteC h (fun h => ?_) (fun h => ?_)
                        · skip
                          obtain ⟨q13, q13h, h⟩ := x_bind h
                          try dsimp only at h
                          have q13f := fr_Re_readRule_2_21 q13h
                          obtain ⟨-, h⟩ := x_ift h
                          cases h
                          exact (x_fr.trans (x_fr.trans x_fr.rf (x_fr.su q1f rfl)) (x_fr.su q13f rfl))
                        · skip
                          refine x_iteC h (fun h => ?_) (fun h => ?_)
                          · skip
                            obtain ⟨q14, q14h, h⟩ := x_bind h
                            try dsimp only at h
                            have q14f := fr_Re_readRule_2_21 q14h
                            obtain ⟨-, h⟩ := x_ift h
                            cases h
                            exact (x_fr.trans (x_fr.trans x_fr.rf (x_fr.su q1f rfl)) (x_fr.su q14f rfl))
                          · skip
                            obtain ⟨q15, q15h, h⟩ := x_bind h
                            try dsimp only at h
                            have q15f := fr_Re_refuse_2 q15h
                            obtain ⟨-, h⟩ := x_ift h
                            cases h
                            exact (x_fr.trans (x_fr.trans x_fr.rf (x_fr.su q1f rfl)) (x_fr.su q15f rfl))
set_option maxHeartbeats 4000000 in
set_option maxRecDepth 100000 in
theorem fr_Re_isLetter {v0 : Int32} {σ : xS} {r : Int32 × xS} (h : f_Re_isLetter v0 σ = some r) : x_fr [] σ r.2 := by
  unfold f_Re_isLetter at h
  try dsimp only at h
  refine x_iteC h (fun h => ?_) (fun h => ?_)
  · skip
    cases h
    exact x_fr.rf
  · skip
    refine x_iteC h (fun h => ?_) (fun h => ?_)
    · skip
      cases h
      exact x_fr.rf
    · skip
      cases h
      exact x_fr.rf
set_option maxHeartbeats 4000000 in
set_option maxRecDepth 100000 in
theorem fr_Re_isDigit {v0 : Int32} {σ : xS} {r : Int32 × xS} (h : f_Re_isDigit v0 σ = some r) : x_fr [] σ r.2 := by
  unfold f_Re_isDigit at h
  try dsimp only at h
  refine x_iteC h (fun h => ?_) (fun h => ?_)
  · skip
    cases h
    exact x_fr.rf
  · skip
    refine x_iteC h (fun h => ?_) (fun h => ?_)
    · skip
      cases h
      exact x_fr.rf
    · skip
      cases h
      exact x_fr.rf
set_option maxHeartbeats 4000000 in
set_option maxRecDepth 100000 in
theorem fr_Re_isSignByte {v0 : Int32} {σ : xS} {r : Int32 × xS} (h : f_Re_isSignByte v0 σ = some r) : x_fr [] σ r.2 := by
  unfold f_Re_isSignByte at h
  try dsimp only at h
  refine x_iteC h (fun h => ?_) (fun h => ?_)
  · skip
    cases h
    exact x_fr.rf
  · skip
    refine x_iteC h (fun h => ?_) (fun h => ?_)
    · skip
      cases h
      exact x_fr.rf
    · skip
      refine x_iteC h (fun h => ?_) (fun h => ?_)
      · skip
        cases h
        exact x_fr.rf
      · skip
        refine x_iteC h (fun h => ?_) (fun h => ?_)
        · skip
          cases h
          exact x_fr.rf
        · skip
          refine x_iteC h (fun h => ?_) (fun h => ?_)
          · skip
            cases h
            exact x_fr.rf
          · skip
            refine x_iteC h (fun h => ?_) (fun h => ?_)
            · skip
              cases h
              exact x_fr.rf
            · skip
              refine x_iteC h (fun h => ?_) (fun h => ?_)
              · skip
                cases h
                exact x_fr.rf
              · skip
                refine x_iteC h (fun h => ?_) (fun h => ?_)
                · skip
                  cases h
                  exact x_fr.rf
                · skip
                  refine x_iteC h (fun h => ?_) (fun h => ?_)
                  · skip
                    cases h
                    exact x_fr.rf
                  · skip
                    refine x_iteC h (fun h => ?_) (fun h => ?_)
                    · skip
                      cases h
                      exact x_fr.rf
                    · skip
                      refine x_iteC h (fun h => ?_) (fun h => ?_)
                      · skip
                        cases h
                        exact x_fr.rf
                      · skip
                        refine x_iteC h (fun h => ?_) (fun h => ?_)
                        · skip
                          cases h
                          exact x_fr.rf
                        · skip
                          refine x_iteC h (fun h => ?_) (fun h => ?_)
                          · skip
                            cases h
                            exact x_fr.rf
                          · skip
                            refine x_iteC h (fun h => ?_) (fun h => ?_)
                            · skip
                              cases h
                              exact x_fr.rf
                            · skip
                              refine x_iteC h (fun h => ?_) (fun h => ?_)
                              · skip
                                cases h
                                exact x_fr.rf
                              · skip
                                refine x_iteC h (fun h => ?_) (fun h => ?_)
                                · skip
                                  cases h
                                  exact x_fr.rf
                                · skip
                                  refine x_iteC h (fun h => ?_) (fun h => ?_)
                                  · skip
                                    cases h
                                    exact x_fr.rf
                                  · skip
                                    refine x_iteC h (fun h => ?_) (fun h => ?_)
                                    · skip
                                      cases h
                                      exact x_fr.rf
                                    · skip
                                      refine x_iteC h (fun h => ?_) (fun h => ?_)
                                      · skip
                                        cases h
                                        exact x_fr.rf
                                      · skip
                                        refine x_iteC h (fun h => ?_) (fun h => ?_)
                                        · skip
                                          cases h
                                          exact x_fr.rf
                                        · skip
                                          refine x_iteC h (fun h => ?_) (fun h => ?_)
                                          · skip
                                            cases h
                                            exact x_fr.rf
                                          · skip
                                            refine x_iteC h (fun h => ?_) (fun h => ?_)
                                            · skip
                                              cases h
                                              exact x_fr.rf
                                            · skip
                                              cases h
                                              exact x_fr.rf
set_option maxHeartbeats 4000000 in
set_option maxRecDepth 100000 in
theorem fr_Re_addToken_2 {v1 : Int32} {v2 : Int32} {v3 : Int32} {σ : xS} {r : Unit × xS} (h : f_Re_addToken_2 v1 v2 v3 σ = some r) : x_fr [(2, 3), (3, 99999), (4, 99999), (5, 99999)] σ r.2 := by
  unfold f_Re_addToken_2 at h
  try dsimp only at h
  refine x_iteC h (fun h => ?_) (fun h => ?_)
  · skip
    cases h
    exact x_fr.rf
  · skip
    obtain ⟨-, h⟩ := x_ifn h
    obtain ⟨-, h⟩ := x_ifn h
    obtain ⟨-, h⟩ := x_ifn h
    cases h
    exact (x_frI (p := 2) (k := 3) rfl (x_frI (p := 5) rfl (x_frI (p := 4) rfl (x_frI (p := 3) rfl x_fr.rf))))
set_option maxHeartbeats 4000000 in
set_option maxRecDepth 100000 in
theorem fr_Re_endOfDigits_1_L2 {v2 : Int32} {a : Int32 × xS} {o : ((Int32 × xS) ⊕ (Int32 × xS)) ⊕ (Int32 × xS)} (h : f_Re_endOfDigits_1_L2 v2 a = some o) : x_frO [] (fun a => a.2) (fun b => match b with | .inl q => q.2 | .inr e => e.2) a.2 o := by
  unfold f_Re_endOfDigits_1_L2 at h
  try dsimp only at h
  refine x_iteC h (fun h => ?_) (fun h => ?_)
  · skip
    cases h
    exact x_frO.b x_fr.rf
  · skip
    refine x_iteC h (fun h => ?_) (fun h => ?_)
    · skip
      cases h
      exact x_frO.b x_fr.rf
    · skip
      obtain ⟨-, h⟩ := x_ifn h
      obtain ⟨q1, q1h, h⟩ := x_bind h
      try dsimp only at h
      have q1f := fr_Re_isDigit q1h
      refine x_iteC h (fun h => ?_) (fun h => ?_)
      · skip
        cases h
        exact x_frO.b (x_fr.trans x_fr.rf (x_fr.su q1f rfl))
      · skip
        cases h
        exact x_frO.a1 (x_fr.trans x_fr.rf (x_fr.su q1f rfl))
set_option maxHeartbeats 4000000 in
set_option maxRecDepth 100000 in
theorem fr_Re_endOfDigits_1 {v1 : Int32} {v2 : Int32} {σ : xS} {r : Int32 × xS} (h : f_Re_endOfDigits_1 v1 v2 σ = some r) : x_fr [] σ r.2 := by
  unfold f_Re_endOfDigits_1 at h
  try dsimp only at h
  obtain ⟨b3, b3h, h⟩ := x_bind h
  try dsimp only at h
  have b3f := x_itF (sA := (fun a => a.2)) (sB := (fun b => match b with | .inl q => q.2 | .inr e => e.2)) (fun a o h => fr_Re_endOfDigits_1_L2 h) _ _ _ b3h
  cases b3 with
  | inl b3r =>
    try dsimp only at h
    cases h
    exact (x_fr.trans x_fr.rf (x_fr.su b3f rfl))
  | inr b3e =>
    try dsimp only at h
    cases h
    exact (x_fr.trans x_fr.rf (x_fr.su b3f rfl))
set_option maxHeartbeats 4000000 in
set_option maxRecDepth 100000 in
theorem fr_Re_numberOn_1_L14 {v2 : Int32} {a : Int32 × Int32 × xS} {o : (Int32 × Int32 × xS) ⊕ (Int32 × Int32 × xS)} (h : f_Re_numberOn_1_L14 v2 a = some o) : x_frO [] (fun a => a.2.2) (fun b => b.2.2) a.2.2 o := by
  unfold f_Re_numberOn_1_L14 at h
  try dsimp only at h
  refine x_iteC h (fun h => ?_) (fun h => ?_)
  · skip
    cases h
    exact x_frO.b x_fr.rf
  · skip
    refine x_iteC h (fun h => ?_) (fun h => ?_)
    · skip
      cases h
      exact x_frO.b x_fr.rf
    · skip
      obtain ⟨-, h⟩ := x_ifn h
      cases h
      exact x_frO.a2 x_fr.rf
set_option maxHeartbeats 4000000 in
set_option maxRecDepth 100000 in
theorem fr_Re_numberOn_1 {v1 : Int32} {v2 : Int32} {σ : xS} {r : Int32 × xS} (h : f_Re_numberOn_1 v1 v2 σ = some r) : x_fr [] σ r.2 := by
  unfold f_Re_numberOn_1 at h
  try dsimp only at h
  refine x_iteC h (fun h => ?_) (fun h => ?_)
  · skip
    obtain ⟨b3, b3h, h⟩ := x_bind h
    try dsimp only at h
    have b3f := x_itF (sA := (fun a => a.2.2)) (sB := (fun b => b.2.2)) (fun a o h => fr_Re_numberOn_1_L14 h) _ _ _ b3h
    cases h
    exact (x_fr.trans x_fr.rf (x_fr.su b3f rfl))
  · skip
    cases h
    exact x_fr.rf
set_option maxHeartbeats 4000000 in
set_option maxRecDepth 100000 in
theorem fr_Re_endOfLetters_1_L2 {v2 : Int32} {a : Int32 × xS} {o : ((Int32 × xS) ⊕ (Int32 × xS)) ⊕ (Int32 × xS)} (h : f_Re_endOfLetters_1_L2 v2 a = some o) : x_frO [] (fun a => a.2) (fun b => match b with | .inl q => q.2 | .inr e => e.2) a.2 o := by
  unfold f_Re_endOfLetters_1_L2 at h
  try dsimp only at h
  refine x_iteC h (fun h => ?_) (fun h => ?_)
  · skip
    cases h
    exact x_frO.b x_fr.rf
  · skip
    refine x_iteC h (fun h => ?_) (fun h => ?_)
    · skip
      cases h
      exact x_frO.b x_fr.rf
    · skip
      obtain ⟨-, h⟩ := x_ifn h
      obtain ⟨q1, q1h, h⟩ := x_bind h
      try dsimp only at h
      have q1f := fr_Re_isLetter q1h
      refine x_iteC h (fun h => ?_) (fun h => ?_)
      · skip
        cases h
        exact x_frO.b (x_fr.trans x_fr.rf (x_fr.su q1f rfl))
      · skip
        cases h
        exact x_frO.a1 (x_fr.trans x_fr.rf (x_fr.su q1f rfl))
set_option maxHeartbeats 4000000 in
set_option maxRecDepth 100000 in
theorem fr_Re_endOfLetters_1 {v1 : Int32} {v2 : Int32} {σ : xS} {r : Int32 × xS} (h : f_Re_endOfLetters_1 v1 v2 σ = some r) : x_fr [] σ r.2 := by
  unfold f_Re_endOfLetters_1 at h
  try dsimp only at h
  obtain ⟨b3, b3h, h⟩ := x_bind h
  try dsimp only at h
  have b3f := x_itF (sA := (fun a => a.2)) (sB := (fun b => match b with | .inl q => q.2 | .inr e => e.2)) (fun a o h => fr_Re_endOfLetters_1_L2 h) _ _ _ b3h
  cases b3 with
  | inl b3r =>
    try dsimp only at h
    cases h
    exact (x_fr.trans x_fr.rf (x_fr.su b3f rfl))
  | inr b3e =>
    try dsimp only at h
    cases h
    exact (x_fr.trans x_fr.rf (x_fr.su b3f rfl))
set_option maxHeartbeats 4000000 in
set_option maxRecDepth 100000 in
theorem fr_Wo_isOn_1_L28 {v0 : Nat} {v2 : Int32} {a : Int32 × xS} {o : ((Int32 × xS) ⊕ (Int32 × xS)) ⊕ (Int32 × xS)} (h : f_Wo_isOn_1_L28 v0 v2 a = some o) : x_frO [] (fun a => a.2) (fun b => match b with | .inl q => q.2 | .inr e => e.2) a.2 o := by
  unfold f_Wo_isOn_1_L28 at h
  try dsimp only at h
  obtain ⟨-, h⟩ := x_ift h
  obtain ⟨-, h⟩ := x_ift h
  refine x_iteC h (fun h => ?_) (fun h => ?_)
  · skip
    cases h
    exact x_frO.b x_fr.rf
  · skip
    obtain ⟨-, h⟩ := x_ifn h
    obtain ⟨-, h⟩ := x_ift h
    obtain ⟨-, h⟩ := x_ift h
    obtain ⟨-, h⟩ := x_ift h
    refine x_iteC h (fun h => ?_) (fun h => ?_)
    · skip
      cases h
      exact x_frO.a1 x_fr.rf
    · skip
      cases h
      exact x_frO.b x_fr.rf
set_option maxHeartbeats 4000000 in
set_option maxRecDepth 100000 in
theorem fr_Wo_isOn_1 {v0 : Nat} {v2 : Int32} {v3 : Int32} {σ : xS} {r : Int32 × xS} (h : f_Wo_isOn_1 v0 v2 v3 σ = some r) : x_fr [] σ r.2 := by
  unfold f_Wo_isOn_1 at h
  try dsimp only at h
  obtain ⟨-, h⟩ := x_ift h
  obtain ⟨-, h⟩ := x_ift h
  refine x_iteC h (fun h => ?_) (fun h => ?_)
  · skip
    refine x_iteC h (fun h => ?_) (fun h => ?_)
    · skip
      cases h
      exact x_fr.rf
    · skip
      refine x_iteC h (fun h => ?_) (fun h => ?_)
      · skip
        obtain ⟨b2, b2h, h⟩ := x_bind h
        try dsimp only at h
        have b2f := x_itF (sA := (fun a => a.2)) (sB := (fun b => match b with | .inl q => q.2 | .inr e => e.2)) (fun a o h => fr_Wo_isOn_1_L28 h) _ _ _ b2h
        cases b2 with
        | inl b2r =>
          try dsimp only at h
          cases h
          exact (x_fr.trans x_fr.rf (x_fr.su b2f rfl))
        | inr b2e =>
          try dsimp only at h
          cases h
          exact (x_fr.trans x_fr.rf (x_fr.su b2f rfl))
      · skip
        cases h
        exact x_fr.rf
  · skip
    cases h
    exact x_fr.rf
set_option maxHeartbeats 4000000 in
set_option maxRecDepth 100000 in
theorem fr_Re_wordOn_1_L2 {v1 : Int32} {v2 : Int32} {a : Int32 × xS} {o : ((Int32 × xS) ⊕ (Int32 × xS)) ⊕ (Int32 × xS)} (h : f_Re_wordOn_1_L2 v1 v2 a = some o) : x_frO [] (fun a => a.2) (fun b => match b with | .inl q => q.2 | .inr e => e.2) a.2 o := by
  unfold f_Re_wordOn_1_L2 at h
  try dsimp only at h
  refine x_iteC h (fun h => ?_) (fun h => ?_)
  · skip
    cases h
    exact x_frO.b x_fr.rf
  · skip
    obtain ⟨-, h⟩ := x_ifn h
    obtain ⟨-, h⟩ := x_ift h
    obtain ⟨q1, q1h, h⟩ := x_bind h
    try dsimp only at h
    have q1f := fr_Wo_isOn_1 q1h
    refine x_iteC h (fun h => ?_) (fun h => ?_)
    · skip
      cases h
      exact x_frO.a1 (x_fr.trans x_fr.rf (x_fr.su q1f rfl))
    · skip
      cases h
      exact x_frO.b (x_fr.trans x_fr.rf (x_fr.su q1f rfl))
set_option maxHeartbeats 4000000 in
set_option maxRecDepth 100000 in
theorem fr_Re_wordOn_1 {v1 : Int32} {v2 : Int32} {σ : xS} {r : Int32 × xS} (h : f_Re_wordOn_1 v1 v2 σ = some r) : x_fr [] σ r.2 := by
  unfold f_Re_wordOn_1 at h
  try dsimp only at h
  obtain ⟨b3, b3h, h⟩ := x_bind h
  try dsimp only at h
  have b3f := x_itF (sA := (fun a => a.2)) (sB := (fun b => match b with | .inl q => q.2 | .inr e => e.2)) (fun a o h => fr_Re_wordOn_1_L2 h) _ _ _ b3h
  cases b3 with
  | inl b3r =>
    try dsimp only at h
    cases h
    exact (x_fr.trans x_fr.rf (x_fr.su b3f rfl))
  | inr b3e =>
    try dsimp only at h
    cases h
    exact (x_fr.trans x_fr.rf (x_fr.su b3f rfl))
set_option maxHeartbeats 4000000 in
set_option maxRecDepth 100000 in
theorem fr_Re_split_2_1_L18 {v3 : Int32} {a : Int32 × Int32 × xS} {o : (Int32 × Int32 × xS) ⊕ (Int32 × Int32 × xS)} (h : f_Re_split_2_1_L18 v3 a = some o) : x_frO [(2, 3), (3, 99999), (4, 99999), (5, 99999)] (fun a => a.2.2) (fun b => b.2.2) a.2.2 o := by
  unfold f_Re_split_2_1_L18 at h
  try dsimp only at h
  refine x_iteC h (fun h => ?_) (fun h => ?_)
  · skip
    cases h
    exact x_frO.b x_fr.rf
  · skip
    refine x_iteC h (fun h => ?_) (fun h => ?_)
    · skip
      cases h
      exact x_frO.b x_fr.rf
    · skip
      obtain ⟨-, h⟩ := x_ifn h
      obtain ⟨q2, q2h, h⟩ := x_bind h
      try dsimp only at h
      have q2f := fr_Re_isLetter q2h
      refine x_iteC h (fun h => ?_) (fun h => ?_)
      · skip
        obtain ⟨q3, q3h, h⟩ := x_bind h
        try dsimp only at h
        have q3f := fr_Re_isDigit q3h
        refine x_iteC h (fun h => ?_) (fun h => ?_)
        · skip
          refine x_iteC h (fun h => ?_) (fun h => ?_)
          · skip
            cases h
            exact x_frO.a2 (x_fr.trans (x_fr.trans x_fr.rf (x_fr.su q2f rfl)) (x_fr.su q3f rfl))
          · skip
            refine x_iteC h (fun h => ?_) (fun h => ?_)
            · skip
              cases h
              exact x_frO.a2 (x_fr.trans (x_fr.trans x_fr.rf (x_fr.su q2f rfl)) (x_fr.su q3f rfl))
            · skip
              obtain ⟨q7, q7h, h⟩ := x_bind h
              try dsimp only at h
              have q7f := fr_Re_isSignByte q7h
              refine x_iteC h (fun h => ?_) (fun h => ?_)
              · skip
                obtain ⟨q8, q8h, h⟩ := x_bind h
                try dsimp only at h
                have q8f := fr_Re_addToken_2 q8h
                cases h
                exact x_frO.a2 (x_fr.trans (x_fr.trans (x_fr.trans (x_fr.trans x_fr.rf (x_fr.su q2f rfl)) (x_fr.su q3f rfl)) (x_fr.su q7f rfl)) (x_fr.su q8f rfl))
              · skip
                obtain ⟨q10, q10h, h⟩ := x_bind h
                try dsimp only at h
                have q10f := fr_Re_addToken_2 q10h
                cases h
                exact x_frO.a2 (x_fr.trans (x_fr.trans (x_fr.trans (x_fr.trans x_fr.rf (x_fr.su q2f rfl)) (x_fr.su q3f rfl)) (x_fr.su q7f rfl)) (x_fr.su q10f rfl))
        · skip
          obtain ⟨q12, q12h, h⟩ := x_bind h
          try dsimp only at h
          have q12f := fr_Re_endOfDigits_1 q12h
          obtain ⟨q14, q14h, h⟩ := x_bind h
          try dsimp only at h
          have q14f := fr_Re_numberOn_1 q14h
          obtain ⟨q15, q15h, h⟩ := x_bind h
          try dsimp only at h
          have q15f := fr_Re_addToken_2 q15h
          cases h
          exact x_frO.a2 (x_fr.trans (x_fr.trans (x_fr.trans (x_fr.trans (x_fr.trans x_fr.rf (x_fr.su q2f rfl)) (x_fr.su q3f rfl)) (x_fr.su q12f rfl)) (x_fr.su q14f rfl)) (x_fr.su q15f rfl))
      · skip
        obtain ⟨q17, q17h, h⟩ := x_bind h
        try dsimp only at h
        have q17f := fr_Re_endOfLetters_1 q17h
        obtain ⟨q19, q19h, h⟩ := x_bind h
        try dsimp only at h
        have q19f := fr_Re_wordOn_1 q19h
        obtain ⟨q20, q20h, h⟩ := x_bind h
        try dsimp only at h
        have q20f := fr_Re_addToken_2 q20h
        cases h
        exact x_frO.a2 (x_fr.trans (x_fr.trans (x_fr.trans (x_fr.trans x_fr.rf (x_fr.su q2f rfl)) (x_fr.su q17f rfl)) (x_fr.su q19f rfl)) (x_fr.su q20f rfl))
set_option maxHeartbeats 4000000 in
set_option maxRecDepth 100000 in
theorem fr_Re_split_2_1 {v2 : Int32} {σ : xS} {r : Unit × xS} (h : f_Re_split_2_1 v2 σ = some r) : x_fr [(2, 3), (3, 99999), (4, 99999), (5, 99999)] σ r.2 := by
  unfold f_Re_split_2_1 at h
  try dsimp only at h
  obtain ⟨b24, b24h, h⟩ := x_bind h
  try dsimp only at h
  have b24f := x_itF (sA := (fun a => a.2.2)) (sB := (fun b => b.2.2)) (fun a o h => fr_Re_split_2_1_L18 h) _ _ _ b24h
  obtain ⟨q25, q25h, h⟩ := x_bind h
  try dsimp only at h
  have q25f := fr_Re_addToken_2 q25h
  cases h
  exact (x_fr.trans (x_fr.trans (x_frI (p := 2) (k := 3) rfl x_fr.rf) (x_fr.su b24f rfl)) (x_fr.su q25f rfl))
set_option maxHeartbeats 4000000 in
set_option maxRecDepth 100000 in
theorem fr_Ru_clear_27_L7 {a : Int32 × xS} {o : (Int32 × xS) ⊕ (Int32 × xS)} (h : f_Ru_clear_27_L7 a = some o) : x_frO [(29, 99999), (30, 99999)] (fun a => a.2) (fun b => b.2) a.2 o := by
  unfold f_Ru_clear_27_L7 at h
  try dsimp only at h
  refine x_iteC h (fun h => ?_) (fun h => ?_)
  · skip
    cases h
    exact x_frO.b x_fr.rf
  · skip
    obtain ⟨-, h⟩ := x_ifn h
    obtain ⟨-, h⟩ := x_ifn h
    cases h
    exact x_frO.a1 (x_frI (p := 30) rfl (x_frI (p := 29) rfl x_fr.rf))
set_option maxHeartbeats 4000000 in
set_option maxRecDepth 100000 in
theorem fr_Ru_clear_27 {σ : xS} {r : Unit × xS} (h : f_Ru_clear_27 σ = some r) : x_fr [(27, 1), (29, 99999), (30, 99999)] σ r.2 := by
  unfold f_Ru_clear_27 at h
  try dsimp only at h
  obtain ⟨b5, b5h, h⟩ := x_bind h
  try dsimp only at h
  have b5f := x_itF (sA := (fun a => a.2)) (sB := (fun b => b.2)) (fun a o h => fr_Ru_clear_27_L7 h) _ _ _ b5h
  cases h
  exact (x_fr.trans (x_frI (p := 27) (k := 1) rfl x_fr.rf) (x_fr.su b5f rfl))
set_option maxHeartbeats 4000000 in
set_option maxRecDepth 100000 in
theorem fr_Sc_clear_21_L33 {a : Int32 × xS} {o : (Int32 × xS) ⊕ (Int32 × xS)} (h : f_Sc_clear_21_L33 a = some o) : x_frO [(26, 99999)] (fun a => a.2) (fun b => b.2) a.2 o := by
  unfold f_Sc_clear_21_L33 at h
  try dsimp only at h
  refine x_iteC h (fun h => ?_) (fun h => ?_)
  · skip
    cases h
    exact x_frO.b x_fr.rf
  · skip
    obtain ⟨-, h⟩ := x_ifn h
    cases h
    exact x_frO.a1 (x_frI (p := 26) rfl x_fr.rf)
set_option maxHeartbeats 4000000 in
set_option maxRecDepth 100000 in
theorem fr_Sc_clear_21 {σ : xS} {r : Unit × xS} (h : f_Sc_clear_21 σ = some r) : x_fr [(21, 0), (21, 1), (21, 4), (21, 5), (21, 8), (21, 9), (26, 99999), (27, 1), (29, 99999), (30, 99999)] σ r.2 := by
  unfold f_Sc_clear_21 at h
  try dsimp only at h
  obtain ⟨b9, b9h, h⟩ := x_bind h
  try dsimp only at h
  have b9f := x_itF (sA := (fun a => a.2)) (sB := (fun b => b.2)) (fun a o h => fr_Sc_clear_21_L33 h) _ _ _ b9h
  obtain ⟨q14, q14h, h⟩ := x_bind h
  try dsimp only at h
  have q14f := fr_Ru_clear_27 q14h
  cases h
  exact (x_fr.trans (x_frI (p := 26) (k := 4) rfl (x_frI (p := 26) (k := 2) rfl (x_frI (p := 26) (k := 1) rfl (x_frI (p := 26) (k := 0) rfl (x_fr.trans (x_frI (p := 21) (k := 9) rfl (x_frI (p := 21) (k := 8) rfl (x_frI (p := 21) (k := 5) rfl (x_frI (p := 21) (k := 4) rfl (x_frI (p := 21) (k := 1) rfl (x_frI (p := 21) (k := 0) rfl x_fr.rf)))))) (x_fr.su b9f rfl)))))) (x_fr.su q14f rfl))
set_option maxHeartbeats 4000000 in
set_option maxRecDepth 100000 in
theorem fr_Re_readFrom_2_21 {σ : xS} {r : Int32 × xS} (h : f_Re_readFrom_2_21 σ = some r) : x_fr [(2, 4), (2, 6), (2, 7), (21, 0)] σ r.2 := by
  unfold f_Re_readFrom_2_21 at h
  try dsimp only at h
  obtain ⟨q1, q1h, h⟩ := x_bind h
  try dsimp only at h
  have q1f := fr_Re_advance_2 q1h
  obtain ⟨q2, q2h, h⟩ := x_bind h
  try dsimp only at h
  have q2f := fr_Re_isNumber_2 q2h
  refine x_iteC h (fun h => ?_) (fun h => ?_)
  · skip
    cases h
    exact (x_fr.trans (x_fr.trans x_fr.rf (x_fr.su q1f rfl)) (x_fr.su q2f rfl))
  · skip
    obtain ⟨q3, q3h, h⟩ := x_bind h
    try dsimp only at h
    have q3f := fr_Re_takeNumber_2 q3h
    obtain ⟨q5, q5h, h⟩ := x_bind h
    try dsimp only at h
    have q5f := fr_Re_readEnd_2 q5h
    obtain ⟨-, h⟩ := x_ift h
    cases h
    exact (x_fr.trans (x_frI (p := 21) (k := 0) rfl (x_fr.trans (x_fr.trans (x_fr.trans x_fr.rf (x_fr.su q1f rfl)) (x_fr.su q2f rfl)) (x_fr.su q3f rfl))) (x_fr.su q5f rfl))
set_option maxHeartbeats 4000000 in
set_option maxRecDepth 100000 in
theorem fr_Re_read_2_1_21_L24 {a : Int32 × xS} {o : (Int32 × xS) ⊕ (Int32 × xS)} (h : f_Re_read_2_1_21_L24 a = some o) : x_frO [(6, 99999)] (fun a => a.2) (fun b => b.2) a.2 o := by
  unfold f_Re_read_2_1_21_L24 at h
  try dsimp only at h
  refine x_iteC h (fun h => ?_) (fun h => ?_)
  · skip
    cases h
    exact x_frO.b x_fr.rf
  · skip
    obtain ⟨-, h⟩ := x_ifn h
    cases h
    exact x_frO.a1 (x_frI (p := 6) rfl x_fr.rf)
set_option maxHeartbeats 4000000 in
set_option maxRecDepth 100000 in
theorem fr_Re_read_2_1_21_L72 {a : Int32 × xS} {o : ((Int32 × xS) ⊕ (Int32 × xS)) ⊕ (Int32 × xS)} (h : f_Re_read_2_1_21_L72 a = some o) : x_frO [(2, 4), (2, 6), (2, 7), (6, 99999), (21, 1), (21, 4), (21, 5), (21, 8), (21, 9), (22, 99999), (23, 99999), (24, 99999), (25, 99999), (26, 99999), (27, 1), (28, 99999), (29, 99999), (30, 99999)] (fun a => a.2) (fun b => match b with | .inl q => q.2 | .inr e => e.2) a.2 o := by
  unfold f_Re_read_2_1_21_L72 at h
  try dsimp only at h
  refine x_iteC h (fun h => ?_) (fun h => ?_)
  · skip
    cases h
    exact x_frO.b x_fr.rf
  · skip
    obtain ⟨q3, q3h, h⟩ := x_bind h
    try dsimp only at h
    have q3f := fr_Re_isKind_2 q3h
    refine x_iteC h (fun h => ?_) (fun h => ?_)
    · skip
      obtain ⟨q4, q4h, h⟩ := x_bind h
      try dsimp only at h
      have q4f := fr_Re_readLine_2_21 q4h
      refine x_iteC h (fun h => ?_) (fun h => ?_)
      · skip
        cases h
        exact x_frO.b (x_fr.trans (x_fr.trans x_fr.rf (x_fr.su q3f rfl)) (x_fr.su q4f rfl))
      · skip
        cases h
        exact x_frO.a1 (x_fr.trans (x_fr.trans x_fr.rf (x_fr.su q3f rfl)) (x_fr.su q4f rfl))
    · skip
      cases h
      exact x_frO.b (x_fr.trans x_fr.rf (x_fr.su q3f rfl))
set_option maxHeartbeats 4000000 in
set_option maxRecDepth 100000 in
theorem fr_Re_read_2_1_21_J69 {σ : xS} {r : Int32 × xS} (h : f_Re_read_2_1_21_J69 σ = some r) : x_fr [(2, 4), (2, 6), (2, 7), (6, 99999), (21, 1), (21, 4), (21, 5), (21, 8), (21, 9), (22, 99999), (23, 99999), (24, 99999), (25, 99999), (26, 99999), (27, 1), (28, 99999), (29, 99999), (30, 99999)] σ r.2 := by
  unfold f_Re_read_2_1_21_J69 at h
  try dsimp only at h
  obtain ⟨b6, b6h, h⟩ := x_bind h
  try dsimp only at h
  have b6f := x_itF (sA := (fun a => a.2)) (sB := (fun b => match b with | .inl q => q.2 | .inr e => e.2)) (fun a o h => fr_Re_read_2_1_21_L72 h) _ _ _ b6h
  cases b6 with
  | inl b6r =>
    try dsimp only at h
    cases h
    exact (x_fr.trans x_fr.rf (x_fr.su b6f rfl))
  | inr b6e =>
    try dsimp only at h
    cases h
    exact (x_fr.trans x_fr.rf (x_fr.su b6f rfl))
set_option maxHeartbeats 4000000 in
set_option maxRecDepth 100000 in
theorem fr_Re_read_2_1_21 {v2 : Int32} {σ : xS} {r : Int32 × xS} (h : f_Re_read_2_1_21 v2 σ = some r) : x_fr [(2, 3), (2, 4), (2, 6), (2, 7), (3, 99999), (4, 99999), (5, 99999), (6, 99999), (21, 0), (21, 1), (21, 4), (21, 5), (21, 8), (21, 9), (22, 99999), (23, 99999), (24, 99999), (25, 99999), (26, 99999), (27, 1), (28, 99999), (29, 99999), (30, 99999)] σ r.2 := by
  unfold f_Re_read_2_1_21 at h
  try dsimp only at h
  obtain ⟨q7, q7h, h⟩ := x_bind h
  try dsimp only at h
  have q7f := fr_Re_split_2_1 q7h
  obtain ⟨b11, b11h, h⟩ := x_bind h
  try dsimp only at h
  have b11f := x_itF (sA := (fun a => a.2)) (sB := (fun b => b.2)) (fun a o h => fr_Re_read_2_1_21_L24 h) _ _ _ b11h
  obtain ⟨q12, q12h, h⟩ := x_bind h
  try dsimp only at h
  have q12f := fr_Sc_clear_21 q12h
  obtain ⟨q13, q13h, h⟩ := x_bind h
  try dsimp only at h
  have q13f := fr_Re_isWord_2 q13h
  refine x_iteC h (fun h => ?_) (fun h => ?_)
  · skip
    exact x_fr.trans (x_fr.trans (x_fr.trans (x_fr.trans (x_frI (p := 2) (k := 7) rfl (x_frI (p := 2) (k := 6) rfl (x_frI (p := 2) (k := 4) rfl (x_fr.trans x_fr.rf (x_fr.su q7f rfl))))) (x_fr.su b11f rfl)) (x_fr.su q12f rfl)) (x_fr.su q13f rfl)) (x_fr.su (fr_Re_read_2_1_21_J69 h) rfl)
  · skip
    obtain ⟨q14, q14h, h⟩ := x_bind h
    try dsimp only at h
    have q14f := fr_Re_readFrom_2_21 q14h
    refine x_iteC h (fun h => ?_) (fun h => ?_)
    · skip
      cases h
      exact (x_fr.trans (x_fr.trans (x_fr.trans (x_fr.trans (x_frI (p := 2) (k := 7) rfl (x_frI (p := 2) (k := 6) rfl (x_frI (p := 2) (k := 4) rfl (x_fr.trans x_fr.rf (x_fr.su q7f rfl))))) (x_fr.su b11f rfl)) (x_fr.su q12f rfl)) (x_fr.su q13f rfl)) (x_fr.su q14f rfl))
    · skip
      exact x_fr.trans (x_fr.trans (x_fr.trans (x_fr.trans (x_fr.trans (x_frI (p := 2) (k := 7) rfl (x_frI (p := 2) (k := 6) rfl (x_frI (p := 2) (k := 4) rfl (x_fr.trans x_fr.rf (x_fr.su q7f rfl))))) (x_fr.su b11f rfl)) (x_fr.su q12f rfl)) (x_fr.su q13f rfl)) (x_fr.su q14f rfl)) (x_fr.su (fr_Re_read_2_1_21_J69 h) rfl)
set_option maxHeartbeats 4000000 in
set_option maxRecDepth 100000 in
theorem fr_Sc_ruledTurn_7 {v1 : Int32} {σ : xS} {r : Int32 × xS} (h : f_Sc_ruledTurn_7 v1 σ = some r) : x_fr [(17, 99999), (18, 99999)] σ r.2 := by
  unfold f_Sc_ruledTurn_7 at h
  try dsimp only at h
  obtain ⟨q1, q1h, h⟩ := x_bind h
  try dsimp only at h
  have q1f := fr_Ru_has_13 q1h
  refine x_iteC h (fun h => ?_) (fun h => ?_)
  · skip
    refine x_iteC h (fun h => ?_) (fun h => ?_)
    · skip
      obtain ⟨-, h⟩ := x_ifn h
      cases h
      exact (x_fr.trans x_fr.rf (x_fr.su q1f rfl))
    · skip
      cases h
      exact (x_fr.trans x_fr.rf (x_fr.su q1f rfl))
  · skip
    obtain ⟨q3, q3h, h⟩ := x_bind h
    try dsimp only at h
    have q3f := fr_Ru_worth_13 q3h
    obtain ⟨q4, q4h, h⟩ := x_bind h
    try dsimp only at h
    have q4f := fr_RH_within q4h
    cases h
    exact (x_fr.trans (x_fr.trans (x_frI (p := 18) (k := 0) rfl (x_fr.trans x_fr.rf (x_fr.su q1f rfl))) (x_fr.su q3f rfl)) (x_fr.su q4f rfl))
set_option maxHeartbeats 4000000 in
set_option maxRecDepth 100000 in
theorem fr_Sc_finish_7_L123 {a : Int32 × xS} {o : (Int32 × xS) ⊕ (Int32 × xS)} (h : f_Sc_finish_7_L123 a = some o) : x_frO [(17, 99999), (18, 99999), (20, 99999)] (fun a => a.2) (fun b => b.2) a.2 o := by
  unfold f_Sc_finish_7_L123 at h
  try dsimp only at h
  refine x_iteC h (fun h => ?_) (fun h => ?_)
  · skip
    cases h
    exact x_frO.b x_fr.rf
  · skip
    obtain ⟨q1, q1h, h⟩ := x_bind h
    try dsimp only at h
    have q1f := fr_Sc_ruledTurn_7 q1h
    obtain ⟨-, h⟩ := x_ifn h
    cases h
    exact x_frO.a1 (x_frI (p := 20) rfl (x_fr.trans x_fr.rf (x_fr.su q1f rfl)))
set_option maxHeartbeats 4000000 in
set_option maxRecDepth 100000 in
theorem fr_Sc_finish_7_L62 {v1 : Int32} {v3 : Int32} {v4 : Int32} {a : Int32 × Int32 × xS} {o : (Int32 × Int32 × xS) ⊕ (Int32 × Int32 × xS)} (h : f_Sc_finish_7_L62 v1 v3 v4 a = some o) : x_frO [(19, 99999)] (fun a => a.2.2) (fun b => b.2.2) a.2.2 o := by
  unfold f_Sc_finish_7_L62 at h
  try dsimp only at h
  refine x_iteC h (fun h => ?_) (fun h => ?_)
  · skip
    cases h
    exact x_frO.b x_fr.rf
  · skip
    refine x_iteC h (fun h => ?_) (fun h => ?_)
    · skip
      cases h
      exact x_frO.b x_fr.rf
    · skip
      obtain ⟨-, h⟩ := x_ifn h
      obtain ⟨-, h⟩ := x_ifn h
      obtain ⟨-, h⟩ := x_ifn h
      cases h
      exact x_frO.a2 (x_frI (p := 19) rfl x_fr.rf)
set_option maxHeartbeats 4000000 in
set_option maxRecDepth 100000 in
theorem fr_Sc_finish_7_L37 {a : Int32 × Int32 × Int32 × xS} {o : (Int32 × Int32 × Int32 × xS) ⊕ (Int32 × Int32 × Int32 × xS)} (h : f_Sc_finish_7_L37 a = some o) : x_frO [(19, 99999)] (fun a => a.2.2.2) (fun b => b.2.2.2) a.2.2.2 o := by
  unfold f_Sc_finish_7_L37 at h
  try dsimp only at h
  refine x_iteC h (fun h => ?_) (fun h => ?_)
  · skip
    cases h
    exact x_frO.b x_fr.rf
  · skip
    refine x_iteC h (fun h => ?_) (fun h => ?_)
    · skip
      cases h
      exact x_frO.b x_fr.rf
    · skip
      obtain ⟨-, h⟩ := x_ifn h
      obtain ⟨b8, b8h, h⟩ := x_bind h
      try dsimp only at h
      have b8f := x_itF (sA := (fun a => a.2.2)) (sB := (fun b => b.2.2)) (fun a o h => fr_Sc_finish_7_L62 h) _ _ _ b8h
      obtain ⟨-, h⟩ := x_ifn h
      cases h
      exact x_frO.a3 (x_fr.trans x_fr.rf (x_fr.su b8f rfl))
set_option maxHeartbeats 4000000 in
set_option maxRecDepth 100000 in
theorem fr_Sc_finish_7_J120 {σ : xS} {r : Unit × xS} (h : f_Sc_finish_7_J120 σ = some r) : x_fr [(17, 99999), (18, 99999), (20, 99999)] σ r.2 := by
  unfold f_Sc_finish_7_J120 at h
  try dsimp only at h
  obtain ⟨b11, b11h, h⟩ := x_bind h
  try dsimp only at h
  have b11f := x_itF (sA := (fun a => a.2)) (sB := (fun b => b.2)) (fun a o h => fr_Sc_finish_7_L123 h) _ _ _ b11h
  cases h
  exact (x_fr.trans x_fr.rf (x_fr.su b11f rfl))
set_option maxHeartbeats 4000000 in
set_option maxRecDepth 100000 in
theorem fr_Sc_finish_7_J17 {y1 : Int32} {y2 : Int32} {σ : xS} {r : Unit × xS} (h : f_Sc_finish_7_J17 y1 y2 σ = some r) : x_fr [(12, 99999), (17, 99999), (18, 99999), (19, 99999), (20, 99999)] σ r.2 := by
  unfold f_Sc_finish_7_J17 at h
  try dsimp only at h
  obtain ⟨-, h⟩ := x_ifn h
  obtain ⟨b15, b15h, h⟩ := x_bind h
  try dsimp only at h
  have b15f := x_itF (sA := (fun a => a.2.2.2)) (sB := (fun b => b.2.2.2)) (fun a o h => fr_Sc_finish_7_L37 h) _ _ _ b15h
  exact x_fr.trans (x_fr.trans (x_frI (p := 19) (k := 0) rfl (x_frI (p := 12) rfl x_fr.rf)) (x_fr.su b15f rfl)) (x_fr.su (fr_Sc_finish_7_J120 h) rfl)
set_option maxHeartbeats 4000000 in
set_option maxRecDepth 100000 in
theorem fr_Sc_finish_7 {σ : xS} {r : Unit × xS} (h : f_Sc_finish_7 σ = some r) : x_fr [(12, 99999), (17, 99999), (18, 99999), (19, 99999), (20, 99999)] σ r.2 := by
  unfold f_Sc_finish_7 at h
  try dsimp only at h
  refine x_iteC h (fun h => ?_) (fun h => ?_)
  · skip
    exact x_fr.trans x_fr.rf (x_fr.su (fr_Sc_finish_7_J17 h) rfl)
  · skip
    exact x_fr.trans x_fr.rf (x_fr.su (fr_Sc_finish_7_J17 h) rfl)
set_option maxHeartbeats 4000000 in
set_option maxRecDepth 100000 in
theorem fr_Se_begin_35_7 {σ : xS} {r : Unit × xS} (h : f_Se_begin_35_7 σ = some r) : x_fr [(35, 3), (35, 6), (35, 8), (36, 99999)] σ r.2 := by
  unfold f_Se_begin_35_7 at h
  try dsimp only at h
  cases h
  exact (x_frI (p := 35) (k := 8) rfl (x_frI (p := 35) (k := 6) rfl (x_frI (p := 35) (k := 3) rfl (x_frC (fun _ => rfl) x_fr.rf))))
set_option maxHeartbeats 4000000 in
set_option maxRecDepth 100000 in
theorem fr_Ch_drop_55 {σ : xS} {r : Unit × xS} (h : f_Ch_drop_55 σ = some r) : x_fr [(55, 4)] σ r.2 := by
  unfold f_Ch_drop_55 at h
  try dsimp only at h
  cases h
  exact (x_frI (p := 55) (k := 4) rfl x_fr.rf)
set_option maxHeartbeats 4000000 in
set_option maxRecDepth 100000 in
theorem fr_Ru_clear_13_L7 {a : Int32 × xS} {o : (Int32 × xS) ⊕ (Int32 × xS)} (h : f_Ru_clear_13_L7 a = some o) : x_frO [(15, 99999), (16, 99999)] (fun a => a.2) (fun b => b.2) a.2 o := by
  unfold f_Ru_clear_13_L7 at h
  try dsimp only at h
  refine x_iteC h (fun h => ?_) (fun h => ?_)
  · skip
    cases h
    exact x_frO.b x_fr.rf
  · skip
    obtain ⟨-, h⟩ := x_ifn h
    obtain ⟨-, h⟩ := x_ifn h
    cases h
    exact x_frO.a1 (x_frI (p := 16) rfl (x_frI (p := 15) rfl x_fr.rf))
set_option maxHeartbeats 4000000 in
set_option maxRecDepth 100000 in
theorem fr_Ru_clear_13 {σ : xS} {r : Unit × xS} (h : f_Ru_clear_13 σ = some r) : x_fr [(13, 1), (15, 99999), (16, 99999)] σ r.2 := by
  unfold f_Ru_clear_13 at h
  try dsimp only at h
  obtain ⟨b5, b5h, h⟩ := x_bind h
  try dsimp only at h
  have b5f := x_itF (sA := (fun a => a.2)) (sB := (fun b => b.2)) (fun a o h => fr_Ru_clear_13_L7 h) _ _ _ b5h
  cases h
  exact (x_fr.trans (x_frI (p := 13) (k := 1) rfl x_fr.rf) (x_fr.su b5f rfl))
set_option maxHeartbeats 4000000 in
set_option maxRecDepth 100000 in
theorem fr_Sc_clear_7_L33 {a : Int32 × xS} {o : (Int32 × xS) ⊕ (Int32 × xS)} (h : f_Sc_clear_7_L33 a = some o) : x_frO [(12, 99999)] (fun a => a.2) (fun b => b.2) a.2 o := by
  unfold f_Sc_clear_7_L33 at h
  try dsimp only at h
  refine x_iteC h (fun h => ?_) (fun h => ?_)
  · skip
    cases h
    exact x_frO.b x_fr.rf
  · skip
    obtain ⟨-, h⟩ := x_ifn h
    cases h
    exact x_frO.a1 (x_frI (p := 12) rfl x_fr.rf)
set_option maxHeartbeats 4000000 in
set_option maxRecDepth 100000 in
theorem fr_Sc_clear_7 {σ : xS} {r : Unit × xS} (h : f_Sc_clear_7 σ = some r) : x_fr [(7, 0), (7, 1), (7, 4), (7, 5), (7, 8), (7, 9), (12, 99999), (13, 1), (15, 99999), (16, 99999)] σ r.2 := by
  unfold f_Sc_clear_7 at h
  try dsimp only at h
  obtain ⟨b9, b9h, h⟩ := x_bind h
  try dsimp only at h
  have b9f := x_itF (sA := (fun a => a.2)) (sB := (fun b => b.2)) (fun a o h => fr_Sc_clear_7_L33 h) _ _ _ b9h
  obtain ⟨q14, q14h, h⟩ := x_bind h
  try dsimp only at h
  have q14f := fr_Ru_clear_13 q14h
  cases h
  exact (x_fr.trans (x_frI (p := 12) (k := 4) rfl (x_frI (p := 12) (k := 2) rfl (x_frI (p := 12) (k := 1) rfl (x_frI (p := 12) (k := 0) rfl (x_fr.trans (x_frI (p := 7) (k := 9) rfl (x_frI (p := 7) (k := 8) rfl (x_frI (p := 7) (k := 5) rfl (x_frI (p := 7) (k := 4) rfl (x_frI (p := 7) (k := 1) rfl (x_frI (p := 7) (k := 0) rfl x_fr.rf)))))) (x_fr.su b9f rfl)))))) (x_fr.su q14f rfl))
