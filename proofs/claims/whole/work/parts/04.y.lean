/-! the reference: lower, search -/
/-- at most as far as q, where q is a way -/
def jy_le (p q : Int) : Prop := 0 ≤ q → 0 ≤ p ∧ p ≤ q
/-- what lower does to cell c, the first m of the nine around it seen -/
def jy_L (w : Nat → Int32) (c m : Nat) (g g' : Nat → Int32) (r : Int32) : Prop :=
  (∀ i, i ≠ c → g' i = g i) ∧ jy_le (g' c).toInt (g c).toInt ∧
  (w c = 0 → ∀ (u : Nat) (d : Int), jp_E u c d → jp_k c u < m → 0 ≤ (g u).toInt → 0 ≤ (g' c).toInt ∧ (g' c).toInt ≤ (g u).toInt + d) ∧
  (g' c = g c ∨ (w c = 0 ∧ ∃ (u : Nat) (d : Int), jp_E u c d ∧ 0 ≤ (g u).toInt ∧ (g' c).toInt = (g u).toInt + d)) ∧
  (r = 0 → g' c = g c)
theorem jy_lloop {w g : Nat → Int32} {c : Nat} (hc : c < 144) (hw : w c = 0) (hg : ∀ i, i < 144 → -1 ≤ (g i).toInt ∧ (g i).toInt ≤ 1000000)
    (post : Int32 → SY → Prop) (h : ∀ r g', jy_L w c 9 g g' r → post r (w, g')) :
    ∀ (e k : Nat), k + e = 9 → ∀ (x2 : Int32) (g' : Nat → Int32), (x2 = 0 ∨ x2 = 1) → jy_L w c k g g' x2 → wY_lower_15 post (nI c) (e + 1) x2 (nI k) w g' := by
  intro e
  induction e with
  | zero =>
    intro k hk x2 g' h01 L
    have e : k = 9 := by omega
    subst e
    refine br_t (by decide) ⟨?_, h x2 g' L⟩
    rcases h01 with e | e <;> subst e <;> rfl
  | succ e ih =>
    intro k hk x2 g' h01 L
    obtain ⟨L1, L2, L3, L4, L5⟩ := L
    -- a place that is no cell, or c itself
    have skip : (∀ (u : Nat) (d : Int), jp_E u c d → jp_k c u = k → False) → wY_lower_15 post (nI c) (e + 1) x2 (nI (k + 1)) w g' := by
      intro hno
      refine ih (k + 1) (by omega) x2 g' h01 ⟨L1, L2, fun hw u d he hk2 => ?_, L4, L5⟩
      have hne : ¬ jp_k c u = k := hno u d he
      exact L3 hw u d he (by omega)
    refine br_f (nI_ge (b := 9) (by omega) (by omega)) ?_
    refine ⟨by decide, by decide, ?_⟩
    have e1 : nI c - nI c / 12 * 12 = nI (c % 12) := pk_rem (d := 12) (by omega) (by omega) (by omega)
    have e2 : nI k - nI k / 3 * 3 = nI (k % 3) := pk_rem (d := 3) (by omega) (by omega) (by omega)
    have e3 : nI c / 12 = nI (c / 12) := pk_div (d := 12) (by omega) (by omega) (by omega)
    have e4 : nI k / 3 = nI (k / 3) := pk_div (d := 3) (by omega) (by omega) (by omega)
    have e5 : nI k - nI k / 2 * 2 = nI (k % 2) := pk_rem (d := 2) (by omega) (by omega) (by omega)
    rw [e1, e2, e3, e4, e5]
    refine nm_e ⟨by decide, by decide, nm_e ?_⟩
    refine pk_eq k 4 (fun e => nm_r (nI_1 k) (skip ?_)) (fun hk4 => ?_)
    · intro u d he hku
      obtain ⟨_, _, hne, a1, a2, a3, a4, _, _⟩ := he
      unfold jp_k at hku
      have q1 : u / 12 + 1 = c / 12 + 1 := by omega
      have q2 : u % 12 + 1 = c % 12 + 1 := by omega
      omega
    have hpos : ∀ (u : Nat) (d : Int), jp_E u c d → jp_k c u = k → u / 12 + 1 = c / 12 + k / 3 ∧ u % 12 + 1 = c % 12 + k % 3 ∧ u < 144 := by
      intro u d he hku
      obtain ⟨_, _, hne, a1, a2, a3, a4, _, _⟩ := he
      unfold jp_k at hku
      omega
    by_cases hx : 1 ≤ c % 12 + k % 3
    rotate_left
    · refine br_t ?_ (nm_r (nI_1 k) (skip ?_))
      · have t1 : c % 12 = 0 := by omega
        have t2 : k % 3 = 0 := by omega
        rw [t1, t2]
        decide
      · intro u d he hku
        have := hpos u d he hku
        omega
    rw [jb_offY _ _ hx]
    refine br_f (nI_pos (by omega)) ?_
    refine pk_lt 11 (c % 12 + k % 3 - 1) (fun hb => nm_r (nI_1 k) (skip ?_)) (fun hxb => ?_)
    · intro u d he hku
      have := hpos u d he hku
      omega
    by_cases hy : 1 ≤ c / 12 + k / 3
    rotate_left
    · refine br_t ?_ (nm_r (nI_1 k) (skip ?_))
      · have t1 : c / 12 = 0 := by omega
        have t2 : k / 3 = 0 := by omega
        rw [t1, t2]
        decide
      · intro u d he hku
        have := hpos u d he hku
        omega
    rw [jb_offY _ _ hy]
    refine br_f (nI_pos (by omega)) ?_
    refine pk_lt 11 (c / 12 + k / 3 - 1) (fun hb => nm_r (nI_1 k) (skip ?_)) (fun hyb => ?_)
    · intro u d he hku
      have := hpos u d he hku
      omega
    obtain ⟨X, hX⟩ : ∃ X, X = c % 12 + k % 3 - 1 := ⟨_, rfl⟩
    obtain ⟨Y, hY⟩ : ∃ Y, Y = c / 12 + k / 3 - 1 := ⟨_, rfl⟩
    rw [← hX, ← hY]
    have ev : (12 : Int32) * nI Y + nI X = nI (12 * Y + X) := by
      rw [show (12 : Int32) = nI 12 from rfl, pk_mul, nI_add]
    rw [ev, nI_clamp (show 12 * Y + X < 2 ^ 31 by omega)]
    refine ⟨vp_in_nI (by omega) (by omega), ?_⟩
    obtain ⟨u, hu⟩ : ∃ u, u = 12 * Y + X := ⟨_, rfl⟩
    have hu1 : u < 144 := by omega
    have hu2 : u / 12 + 1 = c / 12 + k / 3 := by omega
    have hu3 : u % 12 + 1 = c % 12 + k % 3 := by omega
    have huc : u ≠ c := by
      intro t
      rw [t] at hu2 hu3
      omega
    rw [← hu]
    have hgu : g' u = g u := L1 u huc
    have hku : jp_k c u = k := by
      unfold jp_k
      omega
    have honly : ∀ (v : Nat) (d : Int), jp_E v c d → jp_k c v = k → v = u := by
      intro v d he hkv
      have := hpos v d he hkv
      omega
    have hcl : (nI c).toNatClampNeg = c := nI_clamp (by omega)
    have hin : vp_in (nI c) 144 := vp_in_nI hc (by omega)
    have hbu := hg u hu1
    refine nm_e ⟨by decide, ?_⟩
    -- one step from u, of length z
    have go : ∀ z : Int32, jp_E u c z.toInt → wY_lower_104 post (wY_lower_15 post (nI c) (e + 1)) (nI c) x2 (nI k) (g' u) z (g' u) w g' := by
      intro z hE
      have hz := jp_E_d hE
      have hd : ∀ d : Int, jp_E u c d → d = z.toInt := by
        intro d he
        obtain ⟨_, _, _, _, _, _, _, t1, t2⟩ := he
        obtain ⟨_, _, _, _, _, _, _, t3, t4⟩ := hE
        by_cases t : (u % 12 = c % 12 ∨ u / 12 = c / 12)
        · rw [t1 t, t3 t]
        · rw [t2 t, t4 t]
      have hway : (g' u + z).toInt = (g u).toInt + z.toInt := by
        rw [hgu]
        exact jb_add hbu.1 hbu.2 (by omega) (by omega)
      -- the value goes down
      have low : 0 ≤ (g u).toInt → ((g' c).toInt < 0 ∨ (g u).toInt + z.toInt < (g' c).toInt) → wY_lower_132 post (wY_lower_15 post (nI c) (e + 1)) (nI c) (nI k) (g' u + z) w g' := by
        intro h0 hlt
        refine ⟨hin, ?_⟩
        rw [hcl]
        refine nm_e (nm_r (nI_1 k) (ih (k + 1) (by omega) 1 _ (Or.inr rfl) ⟨fun i hi => ?_, ?_, fun hw v d he hkv hv0 => ?_, Or.inr ⟨hw, u, z.toInt, hE, h0, ?_⟩, fun t => absurd t (by decide)⟩))
        · rw [pk_un hi]
          exact L1 i hi
        · rw [pk_us, hway]
          intro t
          have := L2 t
          omega
        · rw [pk_us, hway]
          by_cases t : jp_k c v = k
          · have t2 := honly v d he t
            subst t2
            have := hd d he
            omega
          · have := L3 hw v d he (by omega) hv0
            omega
        · rw [pk_us, hway]
      refine nm_e (br_c (fun hneg => nm_r (nI_1 k) (ih (k + 1) (by omega) x2 g' h01 ⟨L1, L2, fun hw v d he hkv hv0 => ?_, L4, L5⟩)) (fun hnn => ⟨hin, ?_⟩))
      · rw [Int32.lt_iff_toInt_lt, hgu, jb_i0] at hneg
        by_cases t : jp_k c v = k
        · have t2 := honly v d he t
          subst t2
          omega
        · exact L3 hw v d he (by omega) hv0
      · rw [Int32.lt_iff_toInt_lt, hgu, jb_i0] at hnn
        rw [hcl]
        refine br_c (fun hcn => low (by omega) (Or.inl ?_)) (fun hcn => ⟨hin, br_c (fun hle => nm_r (nI_1 k) (ih (k + 1) (by omega) x2 g' h01 ⟨L1, L2, fun hw v d he hkv hv0 => ?_, L4, L5⟩)) (fun hgt => low (by omega) (Or.inr ?_))⟩)
        · rw [Int32.lt_iff_toInt_lt, jb_i0] at hcn
          exact hcn
        · rw [Int32.lt_iff_toInt_lt, jb_i0] at hcn
          rw [Int32.le_iff_toInt_le, hway] at hle
          by_cases t : jp_k c v = k
          · have t2 := honly v d he t
            subst t2
            have := hd d he
            omega
          · exact L3 hw v d he (by omega) hv0
        · rw [Int32.le_iff_toInt_le, hway] at hgt
          omega
    refine pk_eq (k % 2) 0 (fun hev => go 14 ?_) (fun hod => go 10 ?_)
    · rw [jb_i14]
      refine ⟨hu1, hc, huc, by omega, by omega, by omega, by omega, fun t => ?_, fun t => rfl⟩
      exfalso
      omega
    · rw [jb_i10]
      refine ⟨hu1, hc, huc, by omega, by omega, by omega, by omega, fun t => rfl, fun t => ?_⟩
      exfalso
      omega
theorem jy_lower {w g : Nat → Int32} {c : Nat} (hc : c < 144) (hg : ∀ i, i < 144 → -1 ≤ (g i).toInt ∧ (g i).toInt ≤ 1000000)
    (post : Int32 → SY → Prop) (h : ∀ r g', jy_L w c 9 g g' r → post r (w, g')) : wpY_lower post (w, g) (nI c) := by
  refine ⟨vp_in_nI hc (by omega), ?_⟩
  rw [nI_clamp (show c < 2 ^ 31 by omega)]
  refine br_c (fun hw => ⟨10, ?_⟩) (fun hw => ?_)
  · exact jy_lloop hc hw hg post h 9 0 rfl 0 g (Or.inl rfl) ⟨fun i _ => rfl, fun t => ⟨t, Int.le_refl _⟩, fun _ u d _ hk => absurd hk (by omega), Or.inl rfl, fun _ => rfl⟩
  · exact h 0 g ⟨fun i _ => rfl, fun t => ⟨t, Int.le_refl _⟩, fun t => absurd t hw, Or.inl rfl, fun _ => rfl⟩
/-- every value is a walk of at most t steps -/
def jy_V (w : Nat → Int32) (s t : Nat) (g : Nat → Int32) : Prop := ∀ c, c < 144 → -1 ≤ (g c).toInt ∧ (0 ≤ (g c).toInt → ∃ n, n ≤ t ∧ jp_W w s n c (g c).toInt)
theorem jy_Vb {w : Nat → Int32} {s t : Nat} {g : Nat → Int32} (V : jy_V w s t g) (ht : t ≤ 41760) : ∀ i, i < 144 → -1 ≤ (g i).toInt ∧ (g i).toInt ≤ 1000000 := by
  intro i hi
  have h := V i hi
  refine ⟨h.1, ?_⟩
  by_cases z : 0 ≤ (g i).toInt
  · obtain ⟨n, hn, hw⟩ := h.2 z
    have := jp_W_len n i _ hw
    omega
  · omega
theorem jy_Vs {w : Nat → Int32} {s t c : Nat} {g g' : Nat → Int32} {r : Int32} (hc : c < 144) (V : jy_V w s t g) (L : jy_L w c 9 g g' r) : jy_V w s (t + 1) g' := by
  obtain ⟨L1, L2, L3, L4, L5⟩ := L
  intro i hi
  have h := V i hi
  have same : g' i = g i → -1 ≤ (g' i).toInt ∧ (0 ≤ (g' i).toInt → ∃ n, n ≤ t + 1 ∧ jp_W w s n i (g' i).toInt) := by
    intro e
    rw [e]
    refine ⟨h.1, fun z => ?_⟩
    obtain ⟨n, hn, hw⟩ := h.2 z
    exact ⟨n, by omega, hw⟩
  by_cases e : i = c
  · subst e
    cases L4 with
    | inl q => exact same q
    | inr q =>
      obtain ⟨hw, u, d, he, h0, hd⟩ := q
      obtain ⟨n, hn, hwk⟩ := (V u he.1).2 h0
      have := jp_E_d he
      rw [hd]
      exact ⟨by omega, fun _ => ⟨n + 1, by omega, jp_W_step hwk he hw⟩⟩
  · exact same (L1 i e)
/-- a round so far: f the values before it, the cells below m lowered once -/
def jy_R (w : Nat → Int32) (s t m : Nat) (f g : Nat → Int32) (x : Int32) : Prop :=
  jy_V w s t g ∧ (∀ c, c < 144 → jy_le (g c).toInt (f c).toInt) ∧
  (∀ (u c : Nat) (d : Int), c < m → jp_E u c d → w c = 0 → 0 ≤ (f u).toInt → 0 ≤ (g c).toInt ∧ (g c).toInt ≤ (f u).toInt + d) ∧
  (x = 0 → ∀ c, g c = f c)
theorem jy_Rs {w : Nat → Int32} {s t m m' c : Nat} {f g g' : Nat → Int32} {x r : Int32} (hc : c < 144) (R : jy_R w s t m f g x) (L : jy_L w c 9 g g' r) (hm : ∀ i, i < m' → i < m ∨ i = c) :
    jy_R w s (t + 1) m' f g' (if r = 0 then x else 1) := by
  obtain ⟨V, M, P, Z⟩ := R
  have V' := jy_Vs hc V L
  obtain ⟨L1, L2, L3, L4, L5⟩ := L
  refine ⟨V', fun i hi => ?_, fun u i d hi he hw h0 => ?_, fun hx => ?_⟩
  · by_cases e : i = c
    · subst e
      intro h0
      have h1 := M i hi h0
      have h2 := L2 h1.1
      omega
    · rw [L1 i e]
      exact M i hi
  · by_cases e : i = c
    · subst e
      have h1 := M u he.1 h0
      have h2 := L3 hw u d he (jp_k9' he) h1.1
      omega
    · rw [L1 i e]
      cases hm i hi with
      | inl q => exact P u i d q he hw h0
      | inr q => exact absurd q e
  · by_cases z : r = 0
    · rw [if_pos z] at hx
      intro i
      by_cases e : i = c
      · subst e
        rw [L5 z, Z hx i]
      · rw [L1 i e, Z hx i]
    · rw [if_neg z] at hx
      exact absurd hx (by decide)
theorem jy_back {w f : Nat → Int32} {s t : Nat} (post : SY → Prop) (J33 : Int32 → Int32 → (Nat → Int32) → (Nat → Int32) → Prop) (x3 : Int32) (ht : t + 288 ≤ 41760)
    (h : ∀ x g, jy_R w s (t + 288) 144 f g x → J33 x (x3 + 1) w g) :
    ∀ (j : Nat), j ≤ 144 → ∀ (x : Int32) (g : Nat → Int32), jy_R w s (t + 288 - j) 144 f g x → wY_search_79 post J33 x3 (j + 1) x (nI j + (-1)) w g := by
  intro j
  induction j with
  | zero =>
    intro _ x g R
    exact br_t (by decide) (nm_e (h x g R))
  | succ j ih =>
    intro hj x g R
    rw [pk_m1]
    refine br_f (nI_pos (by omega)) ?_
    refine jy_lower (by omega) (jy_Vb R.1 (by omega)) _ (fun r g' L => ?_)
    have R' := jy_Rs (m' := 144) (by omega) R L (fun i hi => Or.inl hi)
    rw [show t + 288 - (j + 1) + 1 = t + 288 - j by omega] at R'
    refine br_c (fun z => nm_e ?_) (fun z => nm_e ?_)
    · rw [if_pos z] at R'
      exact ih (by omega) x g' R'
    · rw [if_neg z] at R'
      exact ih (by omega) 1 g' R'
theorem jy_forth {w f : Nat → Int32} {s t : Nat} (post : SY → Prop) (J33 : Int32 → Int32 → (Nat → Int32) → (Nat → Int32) → Prop) (x3 : Int32) (ht : t + 288 ≤ 41760)
    (h : ∀ x g, jy_R w s (t + 288) 144 f g x → J33 x (x3 + 1) w g) :
    ∀ (e i : Nat), i + e = 144 → ∀ (x : Int32) (g : Nat → Int32), jy_R w s (t + i) i f g x → wY_search_49 post J33 x3 (e + 1) x (nI i) w g := by
  intro e
  induction e with
  | zero =>
    intro i hi x g R
    have e : i = 144 := by omega
    subst e
    refine br_t (by decide) ⟨145, ?_⟩
    exact jy_back post J33 x3 ht h 144 (by omega) x g R
  | succ e ih =>
    intro i hi x g R
    refine pk_le 144 i (fun t => absurd t (by omega)) (fun _ => ?_)
    refine jy_lower (by omega) (jy_Vb R.1 (by omega)) _ (fun r g' L => ?_)
    have R' := jy_Rs (m' := i + 1) (by omega) R L (fun q hq => by omega)
    rw [Nat.add_assoc] at R'
    refine br_c (fun z => nm_r (nI_1 i) ?_) (fun z => nm_r (nI_1 i) ?_)
    · rw [if_pos z] at R'
      exact ih (i + 1) (by omega) x g' R'
    · rw [if_neg z] at R'
      exact ih (i + 1) (by omega) 1 g' R'
/-- what a search answers -/
def jy_F (w : Nat → Int32) (s : Nat) (f : Nat → Int32) : Prop :=
  ∀ c, c < 144 → -1 ≤ (f c).toInt ∧ (0 ≤ (f c).toInt → ∃ n, jp_W w s n c (f c).toInt) ∧ (∀ (n : Nat) (L : Int), n ≤ 145 → jp_W w s n c L → 0 ≤ (f c).toInt ∧ (f c).toInt ≤ L)
/-- r rounds done -/
def jy_J (w : Nat → Int32) (s r : Nat) (f : Nat → Int32) (x : Int32) : Prop :=
  jy_V w s (288 * r) f ∧ (∀ (n c : Nat) (L : Int), n ≤ r → jp_W w s n c L → 0 ≤ (f c).toInt ∧ (f c).toInt ≤ L) ∧
  (x = 0 → ∀ (u c : Nat) (d : Int), jp_E u c d → w c = 0 → 0 ≤ (f u).toInt → 0 ≤ (f c).toInt ∧ (f c).toInt ≤ (f u).toInt + d)
theorem jy_Js {w : Nat → Int32} {s r : Nat} {f g : Nat → Int32} {x0 x : Int32} (hs : s < 144) (h0 : w s = 0) (J : jy_J w s r f x0) (R : jy_R w s (288 * r + 288) 144 f g x) : jy_J w s (r + 1) g x := by
  obtain ⟨_, J1, _⟩ := J
  obtain ⟨V, M, P, Z⟩ := R
  refine ⟨by rw [Nat.mul_succ]; exact V, fun n c L hn hw => ?_, fun hx u c d he hw hu => ?_⟩
  · cases n with
    | zero =>
      have h1 := J1 0 c L (by omega) hw
      have h2 := M c (jp_W_cell hs h0 0 c L hw).1 h1.1
      omega
    | succ n =>
      obtain ⟨u, d, hwu, he, hb⟩ := hw
      have h1 := J1 n u _ (by omega) hwu
      have h2 := P u c d he.2.1 he hb h1.1
      omega
  · rw [Z hx u] at hu ⊢
    exact P u c d he.2.1 he hw hu
theorem jy_fix {w : Nat → Int32} {s r : Nat} {f : Nat → Int32} (J : jy_J w s r f 0) : ∀ (n c : Nat) (L : Int), jp_W w s n c L → 0 ≤ (f c).toInt ∧ (f c).toInt ≤ L := by
  obtain ⟨_, J1, J2⟩ := J
  intro n
  induction n with
  | zero =>
    intro c L h
    exact J1 0 c L (by omega) h
  | succ n ih =>
    intro c L h
    obtain ⟨u, d, hw, he, hb⟩ := h
    have h1 := ih u _ hw
    have h2 := J2 rfl u c d he hb h1.1
    omega
theorem jy_main {w : Nat → Int32} {s : Nat} (hs : s < 144) (h0 : w s = 0) (post : SY → Prop) (h : ∀ f, jy_F w s f → post (w, f)) :
    ∀ (e r : Nat), r + e = 145 → ∀ (x : Int32) (f : Nat → Int32), jy_J w s r f x → wY_search_33 post (e + 1) x (nI r) w f := by
  intro e
  induction e with
  | zero =>
    intro r hr x f J
    refine pk_le 145 r (fun _ => h f (fun c hc => ?_)) (fun t => absurd t (by omega))
    refine ⟨(J.1 c hc).1, fun z => ?_, fun n L hn hw => J.2.1 n c L (by omega) hw⟩
    obtain ⟨n, _, hw⟩ := (J.1 c hc).2 z
    exact ⟨n, hw⟩
  | succ e ih =>
    intro r hr x f J
    refine pk_le 145 r (fun t => absurd t (by omega)) (fun _ => br_c (fun z => h f (fun c hc => ?_)) (fun z => ⟨145, ?_⟩))
    · subst z
      refine ⟨(J.1 c hc).1, fun z => ?_, fun n L hn hw => jy_fix J n c L hw⟩
      obtain ⟨n, _, hw⟩ := (J.1 c hc).2 z
      exact ⟨n, hw⟩
    · refine jy_forth (t := 288 * r) post _ (nI r) (by omega) (fun x' g R => ?_) 144 0 rfl 0 f ⟨J.1, fun c _ t => ⟨t, Int.le_refl _⟩, fun u c d hc => absurd hc (by omega), fun _ c => rfl⟩
      rw [nI_1]
      exact ih (r + 1) (by omega) x' g (jy_Js hs h0 J R)
theorem jy_init {w : Nat → Int32} {s : Nat} (hs : s < 144) (h0 : w s = 0) (post : SY → Prop) (h : ∀ f, jy_F w s f → post (w, f)) :
    ∀ (e i : Nat), i + e = 144 → ∀ f : Nat → Int32, (∀ j, j < i → f j = -1) → wY_search_2 post (nI s) (e + 1) (nI i) w f := by
  intro e
  induction e with
  | zero =>
    intro i hi f hf
    have e : i = 144 := by omega
    subst e
    refine br_t (by decide) ⟨vp_in_nI hs (by omega), ?_⟩
    rw [nI_clamp (show s < 2 ^ 31 by omega)]
    refine nm_e ⟨146, jy_main hs h0 post h 145 0 rfl 1 _ ⟨fun c hc => ?_, fun n c L hn hw => ?_, fun t => absurd t (by decide)⟩⟩
    · rw [jb_updT]
      split
      · rename_i e
        rw [jb_i0]
        exact ⟨by omega, fun _ => ⟨0, by omega, e, rfl⟩⟩
      · rw [hf c hc, jb_im1]
        exact ⟨by omega, fun t => absurd t (by omega)⟩
    · have e : n = 0 := by omega
      subst e
      rw [hw.1, hw.2, pk_us, jb_i0]
      omega
  | succ e ih =>
    intro i hi f hf
    refine pk_le 144 i (fun t => absurd t (by omega)) (fun _ => ⟨vp_in_nI (by omega) (by omega), ?_⟩)
    rw [nI_clamp (show i < 2 ^ 31 by omega)]
    refine nm_e (nm_r (nI_1 i) (ih (i + 1) (by omega) _ (fun j hj => ?_)))
    by_cases e : j = i
    · rw [e, pk_us]
    · rw [pk_un e]
      exact hf j (by omega)
theorem jy_search {w : Nat → Int32} {s : Nat} (hs : s < 144) (h0 : w s = 0) (post : SY → Prop) (f : Nat → Int32) (h : ∀ f', jy_F w s f' → post (w, f')) : wpY_search post (w, f) (nI s) :=
  ⟨145, jy_init hs h0 post h 144 0 rfl f (fun j hj => absurd hj (by omega))⟩
