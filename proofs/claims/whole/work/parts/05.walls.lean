/-! both sides together: cells, walls, block -/
theorem jz_10 : ¬ (1 : Int32) = 0 := by decide
theorem jz_both {b : Nat → Int32} {s : Nat} {a f : Nat → Int32} (hA : jd_F b s a) (hF : jy_F b s f) : ∀ c, c < 144 → ((a c).toInt < 1000000 ∧ 0 ≤ (a c).toInt ∧ f c = a c) ∨ ((a c).toInt = 1000000 ∧ (f c).toInt = -1) := by
  intro c hc
  obtain ⟨A0, A1, A2, A3⟩ := hA c hc
  obtain ⟨F0, F1, F2⟩ := hF c hc
  by_cases h : (a c).toInt < 1000000
  · left
    obtain ⟨n, hn, hw⟩ := A2 h
    have h1 := F2 n _ (by omega) hw
    obtain ⟨m, hm⟩ := F1 h1.1
    have h2 := A3 m _ hm
    exact ⟨h, A0, Int32.toInt_inj.mp (by omega)⟩
  · right
    refine ⟨by omega, ?_⟩
    by_cases z : 0 ≤ (f c).toInt
    · obtain ⟨m, hm⟩ := F1 z
      have h2 := A3 m _ hm
      omega
    · omega
/-- a number is a cell on both sides, or on neither -/
theorem jz_cell (p : Int32) : (∃ c, c < 144 ∧ p = nI c ∧ (∀ post : Int32 → Prop, post 1 → wpX_isCell post p) ∧ (∀ (post : Int32 → Prop) (w f : Nat → Int32), post 1 → wpY_isCell post (w, f) p)) ∨
    ((∀ post : Int32 → Prop, post 0 → wpX_isCell post p) ∧ (∀ (post : Int32 → Prop) (w f : Nat → Int32), post 0 → wpY_isCell post (w, f) p)) := by
  rcases pk_ix p (n := 144) (by omega) with h | h | ⟨c, hc, rfl⟩
  · exact Or.inr ⟨fun _ hp => br_t h hp, fun _ _ _ hp => br_t h hp⟩
  · have h0 : ¬ p < 0 := fun z => by
      rw [Int32.lt_iff_toInt_lt, jb_i0] at z
      rw [Int32.le_iff_toInt_le, nI_toInt (by omega)] at h
      omega
    have h1 : (143 : Int32) < p := by
      rw [Int32.lt_iff_toInt_lt, show (143 : Int32).toInt = 143 from by decide]
      rw [Int32.le_iff_toInt_le, nI_toInt (by omega)] at h
      omega
    exact Or.inr ⟨fun _ hp => br_f h0 (br_t h hp), fun _ _ _ hp => br_f h0 (br_t h1 hp)⟩
  · have h0 : ¬ nI c < 0 := nI_pos (by omega)
    have h1 : ¬ (144 : Int32) ≤ nI c := nI_ge (b := 144) hc (by omega)
    have h2 : ¬ (143 : Int32) < nI c := nI_nlt (a := 143) (b := c) (by omega) (by omega)
    exact Or.inl ⟨c, hc, rfl, fun _ hp => br_f h0 (br_f h1 hp), fun _ _ _ hp => br_f h0 (br_f h2 hp)⟩
theorem jz_free (w : Nat → Int32) (p : Int32) : (∃ c, c < 144 ∧ p = nI c ∧ w c = 0 ∧ (∀ (post : Int32 → Prop) (l cl : Nat → Int32), post 1 → wpX_isFree post (w, l, cl) p) ∧ (∀ (post : Int32 → Prop) (f : Nat → Int32), post 1 → wpY_isFree post (w, f) p)) ∨
    ((∀ (post : Int32 → Prop) (l cl : Nat → Int32), post 0 → wpX_isFree post (w, l, cl) p) ∧ (∀ (post : Int32 → Prop) (f : Nat → Int32), post 0 → wpY_isFree post (w, f) p)) := by
  rcases jz_cell p with ⟨c, hc, rfl, hX, hY⟩ | ⟨hX, hY⟩
  · have hin : vp_in (nI c) 144 := vp_in_nI hc (by omega)
    have ec : (nI c).toNatClampNeg = c := nI_clamp (by omega)
    by_cases z : w c = 0
    · refine Or.inl ⟨c, hc, rfl, z, fun post l cl hp => ?_, fun post f hp => ?_⟩
      · unfold wpX_isFree
        dsimp only
        refine hX _ (br_f jz_10 ⟨hin, ?_⟩)
        rw [ec]
        exact br_t z hp
      · unfold wpY_isFree
        dsimp only
        refine hY _ w f (br_f jz_10 ⟨hin, ?_⟩)
        rw [ec]
        exact br_t z hp
    · refine Or.inr ⟨fun post l cl hp => ?_, fun post f hp => ?_⟩
      · unfold wpX_isFree
        dsimp only
        refine hX _ (br_f jz_10 ⟨hin, ?_⟩)
        rw [ec]
        exact br_f z hp
      · unfold wpY_isFree
        dsimp only
        refine hY _ w f (br_f jz_10 ⟨hin, ?_⟩)
        rw [ec]
        exact br_f z hp
  · refine Or.inr ⟨fun post l cl hp => ?_, fun post f hp => ?_⟩
    · unfold wpX_isFree
      dsimp only
      exact hX _ (br_t rfl hp)
    · unfold wpY_isFree
      dsimp only
      exact hY _ w f (br_t rfl hp)
theorem jz_freeY {w : Nat → Int32} {c : Nat} (hc : c < 144) (z : w c = 0) (post : Int32 → Prop) (f : Nat → Int32) (hp : post 1) : wpY_isFree post (w, f) (nI c) := by
  have h0 : ¬ nI c < 0 := nI_pos (by omega)
  have h2 : ¬ (143 : Int32) < nI c := nI_nlt (a := 143) (b := c) (by omega) (by omega)
  have ec : (nI c).toNatClampNeg = c := nI_clamp (by omega)
  refine br_f h0 (br_f h2 (br_f jz_10 ⟨vp_in_nI hc (by omega), ?_⟩))
  rw [ec]
  exact br_t z hp
theorem i_vc_wall {k : Nat} {u : SX} {v : SY} (I : i_Rel k u v) (hk : k + 4 ≤ 2048) (v1 : Int32) (v2 : Int32) : wpX_wall (fun r u' => wpY_wall (fun r' v' => r' = r ∧ i_Rel (k + 4) u' v') v v1 (lw_bz v2)) u v1 (lw_bz v2) := by
  obtain ⟨w, a, cl⟩ := u
  obtain ⟨w', f⟩ := v
  have e : w = w' := I
  subst e
  rcases jz_cell v1 with ⟨c, hc, rfl, hX, hY⟩ | ⟨hX, hY⟩
  · have hin : vp_in (nI c) 144 := vp_in_nI hc (by omega)
    unfold wpX_wall wpY_wall
    dsimp only
    exact hX _ (br_f jz_10 ⟨hin, nm_e (hY _ w f (br_f jz_10 ⟨hin, nm_e ⟨rfl, rfl⟩⟩))⟩)
  · unfold wpX_wall wpY_wall
    dsimp only
    exact hX _ (br_t rfl (hY _ w f (br_t rfl ⟨rfl, rfl⟩)))
theorem i_vc_isWall {k : Nat} {u : SX} {v : SY} (I : i_Rel k u v) (hk : k + 4 ≤ 2048) (v1 : Int32) : wpX_isWall (fun r => wpY_isWall (fun r' => r' = r ∧ i_Rel (k + 4) u v) v v1) u v1 := by
  obtain ⟨w, a, cl⟩ := u
  obtain ⟨w', f⟩ := v
  have e : w = w' := I
  subst e
  rcases jz_cell v1 with ⟨c, hc, rfl, hX, hY⟩ | ⟨hX, hY⟩
  · have hin : vp_in (nI c) 144 := vp_in_nI hc (by omega)
    unfold wpX_isWall wpY_isWall
    dsimp only
    exact hX _ (br_f jz_10 ⟨hin, br_c (fun z => hY _ w f (br_f jz_10 ⟨hin, br_t z ⟨rfl, rfl⟩⟩)) (fun z => hY _ w f (br_f jz_10 ⟨hin, br_f z ⟨rfl, rfl⟩⟩))⟩)
  · unfold wpX_isWall wpY_isWall
    dsimp only
    exact hX _ (br_t rfl (hY _ w f (br_t rfl ⟨rfl, rfl⟩)))
theorem jz_row (on : Int32) (hon : vp_nar .boolean on = on) (L R H Y : Nat) (hR : R < 12) (hY : Y < 12) : ∀ (e x : Nat), x + e = R + 1 → ∀ (n : Int32) (w : Nat → Int32), ∃ (n' : Int32) (w' : Nat → Int32),
    (∀ (post : Int32 → SX → Prop) (J : Int32 → Int32 → (Nat → Int32) → (Nat → Int32) → (Nat → Int32) → Prop) (l cl : Nat → Int32), J n' (nI (Y + 1)) w' l cl → wX_block_72 post J on (nI L) (nI R) (nI H) (nI Y) (e + 1) n (nI x) w l cl) ∧
    (∀ (post : Int32 → SY → Prop) (J : Int32 → Int32 → (Nat → Int32) → (Nat → Int32) → Prop) (f : Nat → Int32), J n' (nI (Y + 1)) w' f → wY_block_81 post J on (nI L) (nI R) (nI H) (nI Y) (e + 1) n (nI x) w f) := by
  intro e
  induction e with
  | zero =>
    intro x hx n w
    have hlt : nI R < nI x := nI_lt (by omega) (by omega)
    exact ⟨n, w, fun post J l cl h => br_t hlt (nm_r (nI_1 Y) h), fun post J f h => br_t hlt (nm_r (nI_1 Y) h)⟩
  | succ e ih =>
    intro x hx n w
    have hnl : ¬ nI R < nI x := nI_nlt (by omega) (by omega)
    have ev : (12 : Int32) * nI Y + nI x = nI (12 * Y + x) := by
      rw [show (12 : Int32) = nI 12 from rfl, pk_mul, nI_add]
    have hin : vp_in (nI (12 * Y + x)) 144 := vp_in_nI (by omega) (by omega)
    have ec : (nI (12 * Y + x)).toNatClampNeg = 12 * Y + x := nI_clamp (by omega)
    by_cases z : w (12 * Y + x) = on
    · obtain ⟨n', w', hX, hY⟩ := ih (x + 1) (by omega) n w
      refine ⟨n', w', fun post J l cl h => br_f hnl (nm_r ev ⟨hin, ?_⟩), fun post J f h => br_f hnl ?_⟩
      · rw [ec]
        exact br_t z (nm_r (nI_1 x) (hX post J l cl h))
      · unfold wY_block_108
        rw [ev, ec, hon, jb_updS z]
        exact ⟨hin, br_t z ⟨hin, nm_e (nm_r (nI_1 x) (hY post J f h))⟩⟩
    · obtain ⟨n', w', hX, hY⟩ := ih (x + 1) (by omega) (n + 1) (upd w (12 * Y + x) on)
      refine ⟨n', w', fun post J l cl h => br_f hnl (nm_r ev ⟨hin, ?_⟩), fun post J f h => br_f hnl ?_⟩
      · rw [ec, hon]
        exact br_f z ⟨hin, nm_e (nm_e (nm_r (nI_1 x) (hX post J l cl h)))⟩
      · unfold wY_block_108
        rw [ev, ec, hon]
        exact ⟨hin, br_f z (nm_e ⟨hin, nm_e (nm_r (nI_1 x) (hY post J f h))⟩)⟩
theorem jz_rows (on : Int32) (hon : vp_nar .boolean on = on) (L R H : Nat) (hL : L ≤ R) (hR : R < 12) (hH : H < 12) : ∀ (e y : Nat), y + e = H + 1 → ∀ (n : Int32) (w : Nat → Int32), ∃ (n' : Int32) (w' : Nat → Int32),
    (∀ (post : Int32 → SX → Prop) (l cl : Nat → Int32), post n' (w', l, cl) → wX_block_62 post on (nI L) (nI R) (nI H) (e + 1) n (nI y) w l cl) ∧
    (∀ (post : Int32 → SY → Prop) (f : Nat → Int32), post n' (w', f) → wY_block_71 post on (nI L) (nI R) (nI H) (e + 1) n (nI y) w f) := by
  intro e
  induction e with
  | zero =>
    intro y hy n w
    have hlt : nI H < nI y := nI_lt (by omega) (by omega)
    exact ⟨n, w, fun post l cl h => br_t hlt h, fun post f h => br_t hlt h⟩
  | succ e ih =>
    intro y hy n w
    have hnl : ¬ nI H < nI y := nI_nlt (by omega) (by omega)
    obtain ⟨n1, w1, hX1, hY1⟩ := jz_row on hon L R H y hR (by omega) (R + 1 - L) L (by omega) n w
    obtain ⟨n', w', hX, hY⟩ := ih (y + 1) (by omega) n1 w1
    exact ⟨n', w', fun post l cl h => br_f hnl ⟨_, hX1 post _ l cl (hX post l cl h)⟩, fun post f h => br_f hnl ⟨_, hY1 post _ f (hY post f h)⟩⟩
theorem jz_span (post : Int32 → Prop) {a b : Nat} (ha : a < 2 ^ 31) (hb : b < 2 ^ 31) (h1 : a ≤ b → b < 12 → post 1) (h0 : ¬ (a ≤ b ∧ b < 12) → post 0) : wpX_isSpan post (nI a) (nI b) := by
  refine br_f (nI_pos ha) (pk_lt b a (fun h => h0 (by omega)) (fun h => pk_le 12 b (fun h2 => h0 (by omega)) (fun h2 => h1 h h2)))
theorem jz_xb {post : Int32 → SX → Prop} {w l cl : Nat → Int32} {m : Nat} {p1 : Int32} (hm : m < 2 ^ 31)
    (h0 : ¬ (m / 4096 ≤ m / 256 % 16 ∧ m / 256 % 16 < 12 ∧ m / 16 % 16 ≤ m % 16 ∧ m % 16 < 12) → post (-1) (w, l, cl))
    (h1 : m / 4096 ≤ m / 256 % 16 → m / 256 % 16 < 12 → m / 16 % 16 ≤ m % 16 → m % 16 < 12 → ∃ n, wX_block_62 post p1 (nI (m / 4096)) (nI (m / 256 % 16)) (nI (m % 16)) n 0 (nI (m / 16 % 16)) w l cl) :
    wpX_block post (w, l, cl) (nI m) p1 := by
  have e1 : nI m >>> ((12 : Int32) &&& 31) = nI (m / 4096) := pk_shrN hm _ 12 (by decide)
  have e2 : (nI m >>> ((8 : Int32) &&& 31)) &&& 15 = nI (m / 256 % 16) := by
    rw [pk_shrN hm _ 8 (by decide), pk_andN (by omega) 4 (by decide)]
  have e3 : (nI m >>> ((4 : Int32) &&& 31)) &&& 15 = nI (m / 16 % 16) := by
    rw [pk_shrN hm _ 4 (by decide), pk_andN (by omega) 4 (by decide)]
  have e4 : nI m &&& 15 = nI (m % 16) := by
    rw [pk_andN (by omega) 4 (by decide)]
  refine br_t (nI_pos' hm) (nm_r e1 (nm_r e2 (nm_r e3 (nm_r e4 ?_))))
  refine jz_span _ (by omega) (by omega) (fun q1 q2 => br_f jz_10 ?_) (fun q => br_t rfl (h0 (by omega)))
  exact jz_span _ (by omega) (by omega) (fun q3 q4 => br_f jz_10 (h1 q1 q2 q3 q4)) (fun q => br_t rfl (h0 (by omega)))
theorem jz_yb {post : Int32 → SY → Prop} {w f : Nat → Int32} {m : Nat} {p1 : Int32} (hm : m < 2 ^ 31)
    (h0 : ¬ (m / 4096 ≤ m / 256 % 16 ∧ m / 256 % 16 < 12 ∧ m / 16 % 16 ≤ m % 16 ∧ m % 16 < 12) → post (-1) (w, f))
    (h1 : m / 4096 ≤ m / 256 % 16 → m / 256 % 16 < 12 → m / 16 % 16 ≤ m % 16 → m % 16 < 12 → ∃ n, wY_block_71 post p1 (nI (m / 4096)) (nI (m / 256 % 16)) (nI (m % 16)) n 0 (nI (m / 16 % 16)) w f) :
    wpY_block post (w, f) (nI m) p1 := by
  have e1 : nI m / 4096 = nI (m / 4096) := pk_div (d := 4096) hm (by omega) (by omega)
  have e2 : nI m / 256 - nI m / 256 / 16 * 16 = nI (m / 256 % 16) := by
    rw [show nI m / 256 = nI (m / 256) from pk_div (d := 256) hm (by omega) (by omega)]
    exact pk_rem (d := 16) (by omega) (by omega) (by omega)
  have e3 : nI m / 16 - nI m / 16 / 16 * 16 = nI (m / 16 % 16) := by
    rw [show nI m / 16 = nI (m / 16) from pk_div (d := 16) hm (by omega) (by omega)]
    exact pk_rem (d := 16) (by omega) (by omega) (by omega)
  have e4 : nI m - nI m / 16 * 16 = nI (m % 16) := pk_rem (d := 16) hm (by omega) (by omega)
  refine ⟨by decide, nm_r e1 ⟨by decide, by decide, nm_r e2 ⟨by decide, by decide, nm_r e3 ⟨by decide, nm_r e4 ?_⟩⟩⟩⟩
  refine br_f (nI_pos hm) ?_
  refine pk_lt (m / 256 % 16) (m / 4096) (fun q => h0 (by omega)) (fun q1 => ?_)
  refine pk_lt 11 (m / 256 % 16) (fun q => h0 (by omega)) (fun q2 => ?_)
  refine pk_lt (m % 16) (m / 16 % 16) (fun q => h0 (by omega)) (fun q3 => ?_)
  exact pk_le (m % 16) 11 (fun q4 => h1 q1 (by omega) q3 (by omega)) (fun q => h0 (by omega))
theorem i_vc_block {k : Nat} {u : SX} {v : SY} (I : i_Rel k u v) (hk : k + 4 ≤ 2048) (v1 : Int32) (v2 : Int32) : wpX_block (fun r u' => wpY_block (fun r' v' => r' = r ∧ i_Rel (k + 4) u' v') v v1 (lw_bz v2)) u v1 (lw_bz v2) := by
  obtain ⟨w, a, cl⟩ := u
  obtain ⟨w', f⟩ := v
  have e : w = w' := I
  subst e
  by_cases h : v1 < 0
  · refine br_f (fun z => Int32.not_lt.mpr z h) ?_
    exact ⟨by decide, nm_e ⟨by decide, by decide, nm_e ⟨by decide, by decide, nm_e ⟨by decide, nm_e (br_t h ⟨rfl, rfl⟩)⟩⟩⟩⟩
  · obtain ⟨m, hm, rfl⟩ := nI_of h
    refine jz_xb hm (fun h0 => jz_yb hm (fun _ => ⟨rfl, rfl⟩) (fun q1 q2 q3 q4 => absurd ⟨q1, q2, q3, q4⟩ h0)) (fun q1 q2 q3 q4 => ?_)
    obtain ⟨n', w', hX, hY⟩ := jz_rows (lw_bz v2) (jb_bz v2) (m / 4096) (m / 256 % 16) (m % 16) q1 q2 q4 (m % 16 + 1 - m / 16 % 16) (m / 16 % 16) (by omega) 0 w
    exact ⟨_, hX _ a cl (jz_yb hm (fun h0 => absurd ⟨q1, q2, q3, q4⟩ h0) (fun _ _ _ _ => ⟨_, hY _ f ⟨rfl, rfl⟩⟩))⟩
