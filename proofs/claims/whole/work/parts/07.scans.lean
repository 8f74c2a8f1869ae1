/-! the questions that look at every cell: farthest, reach, at -/
def js_B (a f : Nat → Int32) : Prop := ∀ c, c < 144 → ((a c).toInt < 1000000 ∧ 0 ≤ (a c).toInt ∧ f c = a c) ∨ ((a c).toInt = 1000000 ∧ (f c).toInt = -1)
theorem js_nf {x : Int32} (h : x.toInt < 1000000) : ¬ (1000000 : Int32) ≤ x := by
  rw [Int32.le_iff_toInt_le, jb_far]
  omega
theorem js_f {x : Int32} (h : x.toInt = 1000000) : (1000000 : Int32) ≤ x := by
  rw [Int32.le_iff_toInt_le, jb_far, h]
  omega
theorem js_n0 {x : Int32} (h : 0 ≤ x.toInt) : ¬ x < 0 := by
  rw [Int32.lt_iff_toInt_lt, jb_i0]
  omega
theorem js_0 {x : Int32} (h : x.toInt = -1) : x < 0 := by
  rw [Int32.lt_iff_toInt_lt, jb_i0, h]
  omega
theorem js_1 {a f : Nat → Int32} (B : js_B a f) {i : Nat} (hi : i < 144) (h : (a i).toInt < 1000000) : f i = a i := by
  rcases B i hi with ⟨_, _, b⟩ | ⟨b, _⟩
  · exact b
  · omega
theorem js_2 {a f : Nat → Int32} (B : js_B a f) {i : Nat} (hi : i < 144) (h : (a i).toInt = 1000000) : (f i).toInt = -1 := by
  rcases B i hi with ⟨b, _, _⟩ | ⟨_, b⟩
  · omega
  · exact b
def js_A (a : Nat → Int32) : Prop := ∀ c, c < 144 → ((a c).toInt < 1000000 ∧ 0 ≤ (a c).toInt) ∨ (a c).toInt = 1000000
theorem js_AF {b : Nat → Int32} {s : Nat} {a : Nat → Int32} (h : jd_F b s a) : js_A a := by
  intro c hc
  obtain ⟨h0, h1, _, _⟩ := h c hc
  omega
theorem js_far {w a cl : Nat → Int32} (A : js_A a) : ∀ (e i : Nat), i + e = 144 → ∀ x : Int32, 0 ≤ x.toInt → ∃ r : Int32,
    (∀ post : Int32 → SX → Prop, post r (w, a, cl) → wX_farthest_20 post w a cl (e + 1) x (nI i)) ∧ (∀ f, js_B a f → ∀ post : Int32 → SY → Prop, post r (w, f) → wY_farthest_19 post w f (e + 1) x (nI i)) := by
  intro e
  induction e with
  | zero =>
    intro i hi x hx
    have h : (144 : Int32) ≤ nI i := nI_le (a := 144) (by omega) (by omega)
    exact ⟨x, fun _ hp => br_t h hp, fun _ _ _ hp => br_t h hp⟩
  | succ e ih =>
    intro i hi x hx
    have hc : i < 144 := by omega
    have hn : ¬ (144 : Int32) ≤ nI i := nI_ge (b := 144) hc (by omega)
    have hin := jq_in hc
    have ec := jq_cl hc
    rcases A i hc with ⟨b1, b2⟩ | b1
    · by_cases hle : a i ≤ x
      · obtain ⟨r, hX, hY⟩ := ih (i + 1) (by omega) x hx
        refine ⟨r, fun post hp => br_f hn ⟨hin, ?_⟩, fun f B post hp => br_f hn ⟨hin, ?_⟩⟩
        · rw [ec]
          exact br_f (js_nf b1) ⟨hin, br_t hle (nm_r (nI_1 i) (hX post hp))⟩
        · rw [ec, js_1 B hc b1]
          exact br_t hle (nm_r (nI_1 i) (hY f B post hp))
      · obtain ⟨r, hX, hY⟩ := ih (i + 1) (by omega) (a i) b2
        refine ⟨r, fun post hp => br_f hn ⟨hin, ?_⟩, fun f B post hp => br_f hn ⟨hin, ?_⟩⟩
        · rw [ec]
          exact br_f (js_nf b1) ⟨hin, br_f hle ⟨hin, nm_e (nm_r (nI_1 i) (hX post hp))⟩⟩
        · rw [ec, js_1 B hc b1]
          exact br_f hle ⟨hin, nm_e (nm_r (nI_1 i) (hY f B post hp))⟩
    · obtain ⟨r, hX, hY⟩ := ih (i + 1) (by omega) x hx
      refine ⟨r, fun post hp => br_f hn ⟨hin, ?_⟩, fun f B post hp => br_f hn ⟨hin, ?_⟩⟩
      · rw [ec]
        exact br_t (js_f b1) (nm_r (nI_1 i) (hX post hp))
      · rw [ec]
        refine br_t ?_ (nm_r (nI_1 i) (hY f B post hp))
        rw [Int32.le_iff_toInt_le, js_2 B hc b1]
        omega
theorem js_reach {w a cl : Nat → Int32} (A : js_A a) : ∀ (e i : Nat), i + e = 144 → ∀ x : Int32, ∃ r : Int32,
    (∀ post : Int32 → SX → Prop, post r (w, a, cl) → wX_reach_20 post w a cl (e + 1) x (nI i)) ∧ (∀ f, js_B a f → ∀ post : Int32 → SY → Prop, post r (w, f) → wY_reach_19 post w f (e + 1) x (nI i)) := by
  intro e
  induction e with
  | zero =>
    intro i hi x
    have h : (144 : Int32) ≤ nI i := nI_le (a := 144) (by omega) (by omega)
    exact ⟨x, fun _ hp => br_t h hp, fun _ _ _ hp => br_t h hp⟩
  | succ e ih =>
    intro i hi x
    have hc : i < 144 := by omega
    have hn : ¬ (144 : Int32) ≤ nI i := nI_ge (b := 144) hc (by omega)
    have hin := jq_in hc
    have ec := jq_cl hc
    rcases A i hc with ⟨b1, b2⟩ | b1
    · obtain ⟨r, hX, hY⟩ := ih (i + 1) (by omega) (x + 1)
      refine ⟨r, fun post hp => br_f hn ⟨hin, ?_⟩, fun f B post hp => br_f hn ⟨hin, ?_⟩⟩
      · rw [ec]
        exact br_f (js_nf b1) (nm_e (nm_r (nI_1 i) (hX post hp)))
      · rw [ec, js_1 B hc b1]
        exact br_f (js_n0 b2) (nm_e (nm_r (nI_1 i) (hY f B post hp)))
    · obtain ⟨r, hX, hY⟩ := ih (i + 1) (by omega) x
      refine ⟨r, fun post hp => br_f hn ⟨hin, ?_⟩, fun f B post hp => br_f hn ⟨hin, ?_⟩⟩
      · rw [ec]
        exact br_t (js_f b1) (nm_r (nI_1 i) (hX post hp))
      · rw [ec]
        exact br_t (js_0 (js_2 B hc b1)) (nm_r (nI_1 i) (hY f B post hp))
theorem js_at {w a cl : Nat → Int32} (y : Int32) (A : js_A a) : ∀ (e i : Nat), i + e = 144 → ∃ r : Int32,
    (∀ post : Int32 → SX → Prop, post r (w, a, cl) → wX_at_18 post y w a cl (e + 1) (nI i)) ∧ (∀ f, js_B a f → ∀ post : Int32 → SY → Prop, post r (w, f) → wY_at_17 post y w f (e + 1) (nI i)) := by
  intro e
  induction e with
  | zero =>
    intro i hi
    have h : (144 : Int32) ≤ nI i := nI_le (a := 144) (by omega) (by omega)
    exact ⟨-2, fun _ hp => br_t h hp, fun _ _ _ hp => br_t h hp⟩
  | succ e ih =>
    intro i hi
    have hc : i < 144 := by omega
    have hn : ¬ (144 : Int32) ≤ nI i := nI_ge (b := 144) hc (by omega)
    have hin := jq_in hc
    have ec := jq_cl hc
    obtain ⟨r, hX, hY⟩ := ih (i + 1) (by omega)
    rcases A i hc with ⟨b1, b2⟩ | b1
    · by_cases z : a i = y
      · refine ⟨nI i, fun post hp => br_f hn ⟨hin, ?_⟩, fun f B post hp => br_f hn ⟨hin, ?_⟩⟩
        · rw [ec]
          exact br_f (js_nf b1) ⟨hin, br_t z hp⟩
        · rw [ec, js_1 B hc b1]
          exact br_f (js_n0 b2) ⟨hin, br_t z hp⟩
      · refine ⟨r, fun post hp => br_f hn ⟨hin, ?_⟩, fun f B post hp => br_f hn ⟨hin, ?_⟩⟩
        · rw [ec]
          exact br_f (js_nf b1) ⟨hin, br_f z (nm_r (nI_1 i) (hX post hp))⟩
        · rw [ec, js_1 B hc b1]
          exact br_f (js_n0 b2) ⟨hin, br_f z (nm_r (nI_1 i) (hY f B post hp))⟩
    · refine ⟨r, fun post hp => br_f hn ⟨hin, ?_⟩, fun f B post hp => br_f hn ⟨hin, ?_⟩⟩
      · rw [ec]
        exact br_t (js_f b1) (nm_r (nI_1 i) (hX post hp))
      · rw [ec]
        exact br_t (js_0 (js_2 B hc b1)) (nm_r (nI_1 i) (hY f B post hp))
theorem i_vc_farthest {k : Nat} {u : SX} {v : SY} (I : i_Rel k u v) (hk : k + 4 ≤ 2048) (v1 : Int32) : wpX_farthest (fun r u' => wpY_farthest (fun r' v' => r' = r ∧ i_Rel (k + 4) u' v') v v1) u v1 := by
  obtain ⟨w, a, cl⟩ := u
  obtain ⟨w', f⟩ := v
  have e : w = w' := I
  subst e
  unfold wpX_farthest wpY_farthest
  dsimp only
  rcases jz_free w v1 with ⟨s, hs, rfl, hws, X1, Y1⟩ | ⟨X1, Y1⟩
  · refine X1 _ a cl (br_f jz_10 ?_)
    refine jx_measure hs hws _ w a cl (-1) (jq_no w) (fun a' cl' hA => ?_)
    dsimp only
    obtain ⟨r, hX, hY⟩ := js_far (w := w) (cl := cl') (js_AF hA) 144 0 rfl 0 (by rw [jb_i0]; omega)
    refine ⟨_, hX _ (Y1 _ f (br_f jz_10 ?_))⟩
    refine jy_search hs hws _ f (fun f' hF => ?_)
    exact ⟨_, hY f' (jz_both hA hF) _ ⟨rfl, rfl⟩⟩
  · exact X1 _ a cl (br_t rfl (Y1 _ f (br_t rfl ⟨rfl, rfl⟩)))
theorem i_vc_reach {k : Nat} {u : SX} {v : SY} (I : i_Rel k u v) (hk : k + 4 ≤ 2048) (v1 : Int32) : wpX_reach (fun r u' => wpY_reach (fun r' v' => r' = r ∧ i_Rel (k + 4) u' v') v v1) u v1 := by
  obtain ⟨w, a, cl⟩ := u
  obtain ⟨w', f⟩ := v
  have e : w = w' := I
  subst e
  unfold wpX_reach wpY_reach
  dsimp only
  rcases jz_free w v1 with ⟨s, hs, rfl, hws, X1, Y1⟩ | ⟨X1, Y1⟩
  · refine X1 _ a cl (br_f jz_10 ?_)
    refine jx_measure hs hws _ w a cl (-1) (jq_no w) (fun a' cl' hA => ?_)
    dsimp only
    obtain ⟨r, hX, hY⟩ := js_reach (w := w) (cl := cl') (js_AF hA) 144 0 rfl 0
    refine ⟨_, hX _ (Y1 _ f (br_f jz_10 ?_))⟩
    refine jy_search hs hws _ f (fun f' hF => ?_)
    exact ⟨_, hY f' (jz_both hA hF) _ ⟨rfl, rfl⟩⟩
  · exact X1 _ a cl (br_t rfl (Y1 _ f (br_t rfl ⟨rfl, rfl⟩)))
theorem i_vc_at {k : Nat} {u : SX} {v : SY} (I : i_Rel k u v) (hk : k + 4 ≤ 2048) (v1 : Int32) (v2 : Int32) : wpX_at (fun r u' => wpY_at (fun r' v' => r' = r ∧ i_Rel (k + 4) u' v') v v1 v2) u v1 v2 := by
  obtain ⟨w, a, cl⟩ := u
  obtain ⟨w', f⟩ := v
  have e : w = w' := I
  subst e
  unfold wpX_at wpY_at
  dsimp only
  rcases jz_free w v1 with ⟨s, hs, rfl, hws, X1, Y1⟩ | ⟨X1, Y1⟩
  · refine X1 _ a cl (br_f jz_10 ?_)
    refine jx_measure hs hws _ w a cl (-1) (jq_no w) (fun a' cl' hA => ?_)
    dsimp only
    obtain ⟨r, hX, hY⟩ := js_at (w := w) (cl := cl') v2 (js_AF hA) 144 0 rfl
    refine ⟨_, hX _ (Y1 _ f (br_f jz_10 ?_))⟩
    refine jy_search hs hws _ f (fun f' hF => ?_)
    exact ⟨_, hY f' (jz_both hA hF) _ ⟨rfl, rfl⟩⟩
  · exact X1 _ a cl (br_t rfl (Y1 _ f (br_t rfl ⟨rfl, rfl⟩)))
