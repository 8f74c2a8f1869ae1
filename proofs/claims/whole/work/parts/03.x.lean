/-! the component: nearestOpen, stepTo, stepAround, measure -/
def jx_N (a cl : Nat → Int32) (i : Nat) (x1 x2 : Int32) : Prop :=
  (x1 = -1 ∧ x2 = 1000000 ∧ ∀ v, v < i → cl v = 0 → 1000000 ≤ (a v).toInt) ∨
  (∃ c, c < i ∧ x1 = nI c ∧ x2 = a c ∧ cl c = 0 ∧ (a c).toInt < 1000000 ∧ ∀ v, v < i → cl v = 0 → (a c).toInt ≤ (a v).toInt)
theorem jx_nloop (post : Int32 → Prop) (w a cl : Nat → Int32)
    (h1 : ∀ c, c < 144 → cl c = 0 → (a c).toInt < 1000000 → (∀ v, v < 144 → cl v = 0 → (a c).toInt ≤ (a v).toInt) → post (nI c))
    (h2 : (∀ v, v < 144 → cl v = 0 → 1000000 ≤ (a v).toInt) → post (-1)) :
    ∀ (d i : Nat), i + d = 144 → ∀ x1 x2 : Int32, jx_N a cl i x1 x2 → wX_nearestOpen_7 post w a cl (d + 1) x1 x2 (nI i) := by
  intro d
  induction d with
  | zero =>
    intro i hi x1 x2 I
    refine pk_le 144 i (fun _ => ?_) (fun h => absurd h (by omega))
    have e : i = 144 := by omega
    subst e
    rcases I with ⟨rfl, rfl, h⟩ | ⟨c, hc, rfl, rfl, ho, hf, hm⟩
    · exact h2 h
    · exact h1 c hc ho hf hm
  | succ d ih =>
    intro i hi x1 x2 I
    refine pk_le 144 i (fun h => absurd h (by omega)) (fun _ => ?_)
    have hin : vp_in (nI i) 144 := vp_in_nI (by omega) (by omega)
    have ec : (nI i).toNatClampNeg = i := nI_clamp (by omega)
    refine ⟨hin, ?_⟩
    rw [ec]
    refine br_c (fun z => ⟨hin, br_c (fun hle => nm_r (nI_1 i) (ih (i + 1) (by omega) x1 x2 ?_)) (fun hgt => ⟨hin, nm_e (nm_r (nI_1 i) (ih (i + 1) (by omega) (nI i) (a i) ?_))⟩)⟩)
      (fun z => nm_r (nI_1 i) (ih (i + 1) (by omega) x1 x2 ?_))
    · rw [Int32.le_iff_toInt_le] at hle
      rcases I with ⟨e1, e2, h⟩ | ⟨c, hc, e1, e2, ho, hf, hm⟩
      · refine Or.inl ⟨e1, e2, fun v hv hz => ?_⟩
        by_cases e : v = i
        · rw [e2, jb_far] at hle
          rw [e]
          exact hle
        · exact h v (by omega) hz
      · refine Or.inr ⟨c, by omega, e1, e2, ho, hf, fun v hv hz => ?_⟩
        by_cases e : v = i
        · rw [e2] at hle
          rw [e]
          exact hle
        · exact hm v (by omega) hz
    · have hlt : (a i).toInt < x2.toInt := by
        rw [Int32.le_iff_toInt_le] at hgt
        omega
      refine Or.inr ⟨i, by omega, rfl, rfl, z, ?_, fun v hv hz => ?_⟩
      · rcases I with ⟨e1, e2, h⟩ | ⟨c, hc, e1, e2, ho, hf, hm⟩
        · rw [e2, jb_far] at hlt
          exact hlt
        · rw [e2] at hlt
          omega
      · by_cases e : v = i
        · rw [e]
          exact Int.le_refl _
        · rcases I with ⟨e1, e2, h⟩ | ⟨c, hc, e1, e2, ho, hf, hm⟩
          · rw [e2, jb_far] at hlt
            have := h v (by omega) hz
            omega
          · rw [e2] at hlt
            have := hm v (by omega) hz
            omega
    · rcases I with ⟨e1, e2, h⟩ | ⟨c, hc, e1, e2, ho, hf, hm⟩
      · refine Or.inl ⟨e1, e2, fun v hv hz => ?_⟩
        by_cases e : v = i
        · exact absurd (e ▸ hz) z
        · exact h v (by omega) hz
      · refine Or.inr ⟨c, by omega, e1, e2, ho, hf, fun v hv hz => ?_⟩
        by_cases e : v = i
        · exact absurd (e ▸ hz) z
        · exact hm v (by omega) hz
theorem jx_near (post : Int32 → Prop) (w a cl : Nat → Int32)
    (h1 : ∀ c, c < 144 → cl c = 0 → (a c).toInt < 1000000 → (∀ v, v < 144 → cl v = 0 → (a c).toInt ≤ (a v).toInt) → post (nI c))
    (h2 : (∀ v, v < 144 → cl v = 0 → 1000000 ≤ (a v).toInt) → post (-1)) : wpX_nearestOpen post (w, a, cl) :=
  ⟨145, jx_nloop post w a cl h1 h2 144 0 rfl (-1) 1000000 (Or.inl ⟨rfl, rfl, fun v hv => absurd hv (by omega)⟩)⟩
theorem jx_to (post : SX → Prop) (w a cl : Nat → Int32) (x y len : Int32)
    (ho : (x < 0 ∨ 12 ≤ x ∨ y < 0 ∨ 12 ≤ y) → post (w, a, cl))
    (hi : ∀ X Y : Nat, X < 12 → Y < 12 → x = nI X → y = nI Y →
      (¬ cl (12 * Y + X) = 0 → post (w, a, cl)) ∧ (cl (12 * Y + X) = 0 → (a (12 * Y + X)).toInt ≤ len.toInt → post (w, a, cl)) ∧ (cl (12 * Y + X) = 0 → len.toInt < (a (12 * Y + X)).toInt → post (w, upd a (12 * Y + X) len, cl))) :
    wpX_stepTo post (w, a, cl) x y len := by
  refine br_c (fun h => ho (Or.inl h)) (fun hx0 => br_c (fun h => ho (Or.inr (Or.inl h))) (fun hx1 => br_c (fun h => ho (Or.inr (Or.inr (Or.inl h)))) (fun hy0 => br_c (fun hy1 => ?_) (fun h => ho (Or.inr (Or.inr (Or.inr (Int32.not_lt.mp h))))))))
  obtain ⟨X, hX, rfl⟩ := nI_of hx0
  obtain ⟨Y, hY, rfl⟩ := nI_of hy0
  have hX2 : X < 12 := by
    have := mt (nI_leI (a := 12) (b := X) (by omega) hX).mpr hx1
    omega
  have hY2 : Y < 12 := (nI_ltI (a := Y) (b := 12) hY (by omega)).mp hy1
  obtain ⟨p1, p2, p3⟩ := hi X Y hX2 hY2 rfl rfl
  have e : (12 : Int32) * nI Y + nI X = nI (12 * Y + X) := by
    rw [show (12 : Int32) = nI 12 from rfl, pk_mul, nI_add]
  refine nm_r e ?_
  have hin : vp_in (nI (12 * Y + X)) 144 := vp_in_nI (by omega) (by omega)
  refine ⟨hin, ?_⟩
  rw [nI_clamp (show 12 * Y + X < 2 ^ 31 by omega)]
  refine br_c (fun z => ⟨hin, br_c (fun h => p2 z (Int32.le_iff_toInt_le.mp h)) (fun h => ⟨hin, nm_e (p3 z ?_)⟩)⟩) p1
  rw [Int32.le_iff_toInt_le] at h
  omega
/-- one of the nine steps -/
theorem jx_step {c q p : Nat} (hc : c < 144) (hq : q < 3) (hp : p < 3) {a0 cl a : Nat → Int32} (hcl : ¬ cl c = 0) (hr : 0 ≤ (a0 c).toInt ∧ (a0 c).toInt < 1000000)
    (S : jd_S c (3 * q + p) a0 cl a) (z : Int32) (hz : z.toInt = if q = 1 ∨ p = 1 then 10 else 14) (post : SX → Prop) (w : Nat → Int32)
    (h : ∀ a', jd_S c (3 * q + p + 1) a0 cl a' → post (w, a', cl)) :
    wpX_stepTo post (w, a, cl) (nI (c % 12) + (nI p + (-1))) (nI (c / 12) + (nI q + (-1))) (a c + z) := by
  obtain ⟨S1, S2, S3⟩ := S
  have hac : a c = a0 c := by
    cases S3 c hc with
    | inl h => exact h
    | inr h => exact absurd h.1 hcl
  have hz2 : 0 ≤ z.toInt ∧ z.toInt ≤ 14 := by
    rw [hz]
    split <;> omega
  have hlen : (a c + z).toInt = (a0 c).toInt + z.toInt := by
    rw [hac]
    exact jb_add (by omega) (by omega) hz2.1 hz2.2
  apply jx_to
  · intro ho
    refine h a ⟨S1, fun v d he hk hv => ?_, S3⟩
    apply S2 v d he _ hv
    obtain ⟨_, hv2, _, e1, e2, e3, e4, _, _⟩ := he
    unfold jp_k at hk ⊢
    by_cases e : 3 * (v / 12 + 1 - c / 12) + (v % 12 + 1 - c % 12) = 3 * q + p
    · exfalso
      have eq1 : v / 12 + 1 = c / 12 + q := by omega
      have eq2 : v % 12 + 1 = c % 12 + p := by omega
      rw [jb_offX (c % 12) p (by omega), jb_offX (c / 12) q (by omega)] at ho
      have n1 := nI_pos (n := c % 12 + p - 1) (by omega)
      have n2 := nI_pos (n := c / 12 + q - 1) (by omega)
      have n3 := nI_ge (a := c % 12 + p - 1) (b := 12) (by omega) (by omega)
      have n4 := nI_ge (a := c / 12 + q - 1) (b := 12) (by omega) (by omega)
      rcases ho with ho | ho | ho | ho
      · exact n1 ho
      · exact n3 ho
      · exact n2 ho
      · exact n4 ho
    · omega
  · intro X Y hX hY ex ey
    have hX1 : 1 ≤ c % 12 + p := by
      by_cases t : 1 ≤ c % 12 + p
      · exact t
      · exfalso
        have t1 : c % 12 = 0 := by omega
        have t2 : p = 0 := by omega
        rw [t1, t2] at ex
        have := nI_pos (n := X) (by omega)
        rw [← ex] at this
        exact this (by decide)
    have hY1 : 1 ≤ c / 12 + q := by
      by_cases t : 1 ≤ c / 12 + q
      · exact t
      · exfalso
        have t1 : c / 12 = 0 := by omega
        have t2 : q = 0 := by omega
        rw [t1, t2] at ey
        have := nI_pos (n := Y) (by omega)
        rw [← ey] at this
        exact this (by decide)
    rw [jb_offX _ _ hX1, nI_eq (by omega) (by omega)] at ex
    rw [jb_offX _ _ hY1, nI_eq (by omega) (by omega)] at ey
    have hv : 12 * Y + X < 144 := by omega
    have d1 : (12 * Y + X) / 12 = Y := by omega
    have d2 : (12 * Y + X) % 12 = X := by omega
    -- the one cell of this place
    have hone : ∀ (v : Nat) (d : Int), jp_E c v d → jp_k c v < 3 * q + p + 1 → ¬ v = 12 * Y + X → jp_k c v < 3 * q + p := by
      intro v d he hk hne
      obtain ⟨_, hv2, _, e1, e2, e3, e4, _, _⟩ := he
      unfold jp_k at hk ⊢
      by_cases e : 3 * (v / 12 + 1 - c / 12) + (v % 12 + 1 - c % 12) = 3 * q + p
      · exfalso
        have eq1 : v / 12 + 1 = c / 12 + q := by omega
        have eq2 : v % 12 + 1 = c % 12 + p := by omega
        omega
      · omega
    have hd : ∀ d : Int, jp_E c (12 * Y + X) d → d = z.toInt := by
      intro d he
      obtain ⟨_, _, _, e1, e2, e3, e4, t1, t2⟩ := he
      rw [d1, d2] at t1 t2
      rw [hz]
      by_cases g : q = 1 ∨ p = 1
      · rw [if_pos g]
        exact t1 (by omega)
      · rw [if_neg g]
        exact t2 (by omega)
    refine ⟨fun hz1 => h a ⟨S1, fun v d he hk hv0 => ?_, S3⟩, fun hz0 hle => h a ⟨S1, fun v d he hk hv0 => ?_, S3⟩, fun hz0 hlt => h _ ⟨fun i hi => ?_, fun v d he hk hv0 => ?_, fun i hi => ?_⟩⟩
    · apply S2 v d he _ hv0
      apply hone v d he hk
      intro e
      rw [e] at hv0
      exact hz1 hv0
    · by_cases e : v = 12 * Y + X
      · subst e
        have := hd d he
        omega
      · exact S2 v d he (hone v d he hk e) hv0
    · rw [jb_updT]
      split
      · rename_i e
        have := S1 i hi
        subst e
        omega
      · exact S1 i hi
    · rw [jb_updT]
      split
      · rename_i e
        subst e
        have := hd d he
        omega
      · rename_i e
        exact S2 v d he (hone v d he hk e) hv0
    · by_cases e : i = 12 * Y + X
      · subst e
        right
        refine ⟨hz0, z.toInt, ?_, ?_⟩
        · have hne : c ≠ 12 * Y + X := fun t => hcl (t ▸ hz0)
          refine ⟨hc, hv, hne, by omega, by omega, by omega, by omega, fun g => ?_, fun g => ?_⟩
          · rw [hz, if_pos (by omega)]
          · rw [hz, if_neg (by omega)]
        · rw [pk_us]
          exact hlen
      · rw [pk_un e]
        exact S3 i hi
theorem jx_inner {c q : Nat} (hc : c < 144) (hq : q < 3) {a0 cl : Nat → Int32} (hcl : ¬ cl c = 0) (hr : 0 ≤ (a0 c).toInt ∧ (a0 c).toInt < 1000000)
    (post : SX → Prop) (J13 : Int32 → (Nat → Int32) → (Nat → Int32) → (Nat → Int32) → Prop) (w : Nat → Int32)
    (h : ∀ a', jd_S c (3 * (q + 1)) a0 cl a' → J13 (nI (q + 1) + (-1)) w a' cl) :
    ∀ (e p : Nat), p + e = 3 → ∀ a, jd_S c (3 * q + p) a0 cl a → wX_stepAround_22 post J13 (nI c) (nI (c % 12)) (nI (c / 12)) (nI q + (-1)) (e + 1) (nI p + (-1)) w a cl := by
  intro e
  induction e with
  | zero =>
    intro p hp a S
    have e : p = 3 := by omega
    subst e
    exact br_t (by decide) (nm_r (jb_up q) (h a S))
  | succ e ih =>
    intro p hp a S
    have hp3 : p < 3 := by omega
    have hin : vp_in (nI c) 144 := vp_in_nI hc (by omega)
    have ec : (nI c).toNatClampNeg = c := nI_clamp (by omega)
    have step : ∀ z : Int32, z.toInt = (if q = 1 ∨ p = 1 then 10 else 14) → wX_stepAround_45 post J13 (wX_stepAround_22 post J13 (nI c) (nI (c % 12)) (nI (c / 12)) (nI q + (-1)) (e + 1)) (nI c) (nI (c % 12)) (nI (c / 12)) (nI q + (-1)) (nI p + (-1)) z w a cl := by
      intro z hz
      refine ⟨hin, ?_⟩
      rw [ec]
      refine jx_step hc hq hp3 hcl hr S z hz _ w (fun a' S' => ?_)
      exact nm_r (jb_up p) (ih (p + 1) (by omega) a' S')
    have hnl : ¬ (1 : Int32) < nI p + (-1) := by
      rcases (show p = 0 ∨ p = 1 ∨ p = 2 by omega) with e | e | e <;> subst e <;> decide
    have hq1 : nI q + (-1) = 0 ↔ q = 1 := by
      rcases (show q = 0 ∨ q = 1 ∨ q = 2 by omega) with e | e | e <;> subst e <;> decide
    have hp1 : nI p + (-1) = 0 ↔ p = 1 := by
      rcases (show p = 0 ∨ p = 1 ∨ p = 2 by omega) with e | e | e <;> subst e <;> decide
    refine br_f hnl (br_c (fun z => ?_) (fun z => br_c (fun z2 => ?_) (fun z2 => ?_)))
    · exact step 10 (by rw [if_pos (Or.inl (hq1.mp z))]; exact jb_i10)
    · exact step 10 (by rw [if_pos (Or.inr (hp1.mp z2))]; exact jb_i10)
    · refine step 14 ?_
      rw [if_neg]
      · exact jb_i14
      · rintro (g | g)
        · exact z (hq1.mpr g)
        · exact z2 (hp1.mpr g)
theorem jx_outer {c : Nat} (hc : c < 144) {a0 cl : Nat → Int32} (hcl : ¬ cl c = 0) (hr : 0 ≤ (a0 c).toInt ∧ (a0 c).toInt < 1000000)
    (post : SX → Prop) (w : Nat → Int32) (h : ∀ a', jd_S c 9 a0 cl a' → post (w, a', cl)) :
    ∀ (e q : Nat), q + e = 3 → ∀ a, jd_S c (3 * q) a0 cl a → wX_stepAround_13 post (nI c) (nI (c % 12)) (nI (c / 12)) (e + 1) (nI q + (-1)) w a cl := by
  intro e
  induction e with
  | zero =>
    intro q hq a S
    have e : q = 3 := by omega
    subst e
    exact br_t (by decide) (h a S)
  | succ e ih =>
    intro q hq a S
    have hnl : ¬ (1 : Int32) < nI q + (-1) := by
      rcases (show q = 0 ∨ q = 1 ∨ q = 2 by omega) with e | e | e <;> subst e <;> decide
    refine br_f hnl ⟨4, ?_⟩
    exact jx_inner hc (by omega) hcl hr post _ w (fun a' S' => ih (q + 1) (by omega) a' S') 3 0 rfl a S
theorem jx_around {c : Nat} (hc : c < 144) {a cl : Nat → Int32} (hcl : ¬ cl c = 0) (hr : 0 ≤ (a c).toInt ∧ (a c).toInt < 1000000)
    (post : SX → Prop) (w : Nat → Int32) (h : ∀ a', jd_S c 9 a cl a' → post (w, a', cl)) : wpX_stepAround post (w, a, cl) (nI c) := by
  refine ⟨by decide, nm_r (e' := nI (c % 12)) (pk_rem (d := 12) (by omega) (by omega) (by omega)) ⟨by decide, nm_r (e' := nI (c / 12)) (pk_div (d := 12) (by omega) (by omega) (by omega)) ⟨4, ?_⟩⟩⟩
  exact jx_outer hc hcl hr post w h 3 0 rfl a ⟨fun i _ => Int.le_refl _, fun v d _ hk => absurd hk (by omega), fun i _ => Or.inl rfl⟩
theorem jx_main {b : Nat → Int32} {s : Nat} (hs : s < 144) (h0 : b s = 0) (post : SX → Prop) (w : Nat → Int32) (h : ∀ a' cl', jd_F b s a' → post (w, a', cl')) :
    ∀ (d k : Nat), k + d = 144 → ∀ a cl, jd_I b s k a cl → wX_measure_57 post (d + 1) (nI k) w a cl := by
  intro d
  induction d with
  | zero =>
    intro k hk a cl I
    exact pk_le 144 k (fun _ => h a cl (jd_end hs h0 I (by omega) (jd_full I (by omega)))) (fun t => absurd t (by omega))
  | succ d ih =>
    intro k hk a cl I
    refine pk_le 144 k (fun t => absurd t (by omega)) (fun _ => ?_)
    refine jx_near _ w a cl (fun c hc ho hf hm => ?_) (fun hall => br_t rfl (h a cl (jd_end hs h0 I (by omega) hall)))
    have hne : ¬ nI c = -1 := by
      intro e
      have := nI_pos (n := c) (by omega)
      rw [e] at this
      exact this (by decide)
    refine br_f hne ⟨vp_in_nI hc (by omega), ?_⟩
    rw [nI_clamp (show c < 2 ^ 31 by omega), jb_n1]
    refine nm_e ?_
    refine jx_around hc (by rw [pk_us]; decide) ⟨(I.2.1 c hc).1, hf⟩ _ w (fun a' S => ?_)
    exact nm_r (nI_1 k) (ih (k + 1) (by omega) a' _ (jd_next hs I hc ho hf hm S))
theorem jx_init {b : Nat → Int32} {s : Nat} (hs : s < 144) (h0 : b s = 0) (post : SX → Prop) (w : Nat → Int32) (sh : Int32) (hb : ∀ i, i < 144 → (b i = 0 ↔ (w i = 0 ∧ ¬ nI i = sh))) (h : ∀ a' cl', jd_F b s a' → post (w, a', cl')) :
    ∀ (d i : Nat), i + d = 144 → ∀ a cl : Nat → Int32, (∀ j, j < i → a j = 1000000) → (∀ j, j < i → (cl j = 0 ↔ b j = 0)) → wX_measure_2 post (nI s) sh (d + 1) (nI i) w a cl := by
  intro d
  induction d with
  | zero =>
    intro i hi a cl ha hcl
    have e : i = 144 := by omega
    subst e
    refine br_t (by decide) ⟨vp_in_nI hs (by omega), ?_⟩
    rw [nI_clamp (show s < 2 ^ 31 by omega)]
    exact nm_e ⟨145, jx_main hs h0 post w h 144 0 rfl _ cl (jd_start hs h0 ha hcl)⟩
  | succ d ih =>
    intro i hi a cl ha hcl
    refine pk_le 144 i (fun t => absurd t (by omega)) (fun _ => ?_)
    have hin : vp_in (nI i) 144 := vp_in_nI (by omega) (by omega)
    have hA : ∀ j, j < i + 1 → upd a i 1000000 j = 1000000 := by
      intro j hj
      by_cases e : j = i
      · rw [e, pk_us]
      · rw [pk_un e]
        exact ha j (by omega)
    have hC : ∀ x : Int32, (x = 0 ↔ b i = 0) → ∀ j, j < i + 1 → (upd cl i x j = 0 ↔ b j = 0) := by
      intro x hx j hj
      by_cases e : j = i
      · rw [e, pk_us]
        exact hx
      · rw [pk_un e]
        exact hcl j (by omega)
    have hbi := hb i (by omega)
    have h10 : ¬ (1 : Int32) = 0 := by decide
    refine ⟨hin, ?_⟩
    rw [nI_clamp (show i < 2 ^ 31 by omega), jb_n0, jb_n1]
    refine nm_e ⟨hin, br_c (fun z => br_c (fun e => ⟨hin, nm_e (nm_r (nI_1 i) (ih (i + 1) (by omega) _ _ hA (hC 1 ?_)))⟩) (fun e => ⟨hin, nm_e (nm_r (nI_1 i) (ih (i + 1) (by omega) _ _ hA (hC 0 ?_)))⟩)) (fun z => ⟨hin, nm_e (nm_r (nI_1 i) (ih (i + 1) (by omega) _ _ hA (hC 1 ?_)))⟩)⟩
    · exact ⟨fun t => absurd t h10, fun t => absurd e (hbi.mp t).2⟩
    · exact ⟨fun _ => hbi.mpr ⟨z, e⟩, fun _ => rfl⟩
    · exact ⟨fun t => absurd t h10, fun t => absurd (hbi.mp t).1 z⟩
theorem jx_measure {b : Nat → Int32} {s : Nat} (hs : s < 144) (h0 : b s = 0) (post : SX → Prop) (w a cl : Nat → Int32) (sh : Int32) (hb : ∀ i, i < 144 → (b i = 0 ↔ (w i = 0 ∧ ¬ nI i = sh))) (h : ∀ a' cl', jd_F b s a' → post (w, a', cl')) : wpX_measure post (w, a, cl) (nI s) sh :=
  ⟨145, jx_init hs h0 post w sh hb h 144 0 rfl a cl (fun j hj => absurd hj (by omega)) (fun j hj => absurd hj (by omega))⟩
