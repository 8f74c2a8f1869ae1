/-! steps and walks over the grid; what a measure by nearest cells keeps; what sweeps keep -/
def jp_E (u v : Nat) (d : Int) : Prop := u < 144 ∧ v < 144 ∧ u ≠ v ∧ v % 12 ≤ u % 12 + 1 ∧ u % 12 ≤ v % 12 + 1 ∧ v / 12 ≤ u / 12 + 1 ∧ u / 12 ≤ v / 12 + 1 ∧ ((u % 12 = v % 12 ∨ u / 12 = v / 12) → d = 10) ∧ (¬ (u % 12 = v % 12 ∨ u / 12 = v / 12) → d = 14)
/-- a walk of n steps and length L from s to c -/
def jp_W (b : Nat → Int32) (s : Nat) : Nat → Nat → Int → Prop
  | 0 => fun c L => c = s ∧ L = 0
  | n + 1 => fun c L => ∃ (u : Nat) (d : Int), jp_W b s n u (L - d) ∧ jp_E u c d ∧ b c = 0
/-- the place of v among the nine around c -/
def jp_k (c v : Nat) : Nat := 3 * (v / 12 + 1 - c / 12) + (v % 12 + 1 - c % 12)
theorem jp_E_d {u v : Nat} {d : Int} (h : jp_E u v d) : 10 ≤ d ∧ d ≤ 14 := by
  obtain ⟨_, _, _, _, _, _, _, h1, h2⟩ := h
  by_cases z : (u % 12 = v % 12 ∨ u / 12 = v / 12)
  · have := h1 z
    omega
  · have := h2 z
    omega
theorem jp_k9 {u v : Nat} {d : Int} (h : jp_E u v d) : jp_k u v < 9 := by
  obtain ⟨_, _, _, h1, h2, h3, h4, _, _⟩ := h
  unfold jp_k
  omega
theorem jp_k9' {u v : Nat} {d : Int} (h : jp_E u v d) : jp_k v u < 9 := by
  obtain ⟨_, _, _, h1, h2, h3, h4, _, _⟩ := h
  unfold jp_k
  omega
theorem jp_W_len {b : Nat → Int32} {s : Nat} : ∀ (n c : Nat) (L : Int), jp_W b s n c L → 0 ≤ L ∧ L ≤ 14 * n := by
  intro n
  induction n with
  | zero =>
    intro c L h
    have := h.2
    omega
  | succ n ih =>
    intro c L h
    obtain ⟨u, d, hw, he, _⟩ := h
    have h1 := ih u _ hw
    have h2 := jp_E_d he
    omega
theorem jp_W_cell {b : Nat → Int32} {s : Nat} (hs : s < 144) (h0 : b s = 0) : ∀ (n c : Nat) (L : Int), jp_W b s n c L → c < 144 ∧ b c = 0 := by
  intro n c L h
  cases n with
  | zero =>
    rw [h.1]
    exact ⟨hs, h0⟩
  | succ n =>
    obtain ⟨u, d, _, he, hb⟩ := h
    exact ⟨he.2.1, hb⟩
theorem jp_W_step {b : Nat → Int32} {s n u c : Nat} {L d : Int} (h : jp_W b s n u L) (e : jp_E u c d) (hb : b c = 0) : jp_W b s (n + 1) c (L + d) := ⟨u, d, by rw [Int.add_sub_cancel]; exact h, e, hb⟩
/-- how many of the first n are open -/
def jp_cnt (cl : Nat → Int32) : Nat → Nat
  | 0 => 0
  | n + 1 => jp_cnt cl n + (if cl n = 0 then 1 else 0)
theorem jp_cnt_le (cl : Nat → Int32) : ∀ n, jp_cnt cl n ≤ n := by
  intro n
  induction n with
  | zero => exact Nat.le_refl 0
  | succ n ih =>
    unfold jp_cnt
    split <;> omega
theorem jp_cnt_0 (cl : Nat → Int32) : ∀ n, jp_cnt cl n = 0 → ∀ i, i < n → ¬ cl i = 0 := by
  intro n
  induction n with
  | zero => intro _ i hi; omega
  | succ n ih =>
    intro h i hi
    unfold jp_cnt at h
    by_cases e : i = n
    · subst e
      intro z
      rw [if_pos z] at h
      omega
    · exact ih (by omega) i (by omega)
theorem jp_cnt_far (cl : Nat → Int32) (c : Nat) (x : Int32) : ∀ n, n ≤ c → jp_cnt (upd cl c x) n = jp_cnt cl n := by
  intro n
  induction n with
  | zero => intro _; rfl
  | succ n ih =>
    intro h
    unfold jp_cnt
    rw [ih (by omega), pk_un (show n ≠ c by omega)]
theorem jp_cnt_upd (cl : Nat → Int32) (c : Nat) (hc : cl c = 0) : ∀ n, c < n → jp_cnt (upd cl c 1) n + 1 = jp_cnt cl n := by
  intro n
  induction n with
  | zero => intro h; omega
  | succ n ih =>
    intro h
    unfold jp_cnt
    by_cases e : n = c
    · subst e
      rw [jp_cnt_far cl n 1 n (Nat.le_refl n), pk_us, if_pos hc, if_neg (by decide)]
    · have := ih (by omega)
      rw [pk_un e]
      omega
/-- what the measure by nearest cells keeps: k rounds done, b the cells that are shut from the start -/
def jd_I (b : Nat → Int32) (s k : Nat) (a cl : Nat → Int32) : Prop :=
  (∀ i, i < 144 → ¬ b i = 0 → ¬ cl i = 0) ∧
  (∀ i, i < 144 → 0 ≤ (a i).toInt ∧ (a i).toInt ≤ 1000000) ∧
  (∀ i, i < 144 → (a i).toInt < 1000000 → ∃ n, n ≤ k ∧ jp_W b s n i (a i).toInt) ∧
  (∀ (u v : Nat) (d : Int), jp_E u v d → b u = 0 → ¬ cl u = 0 → b v = 0 → (a v).toInt ≤ (a u).toInt + d) ∧
  (∀ u v : Nat, u < 144 → b u = 0 → ¬ cl u = 0 → v < 144 → cl v = 0 → (a u).toInt ≤ (a v).toInt) ∧
  (a s).toInt = 0 ∧
  (∀ u, u < 144 → b u = 0 → ¬ cl u = 0 → (a u).toInt < 1000000) ∧
  k + jp_cnt cl 144 ≤ 144
/-- what steps to the first m of the nine around c do -/
def jd_S (c m : Nat) (a cl a' : Nat → Int32) : Prop :=
  (∀ i, i < 144 → (a' i).toInt ≤ (a i).toInt) ∧
  (∀ (v : Nat) (d : Int), jp_E c v d → jp_k c v < m → cl v = 0 → (a' v).toInt ≤ (a c).toInt + d) ∧
  (∀ i, i < 144 → a' i = a i ∨ (cl i = 0 ∧ ∃ d : Int, jp_E c i d ∧ (a' i).toInt = (a c).toInt + d))
/-- what a measure answers -/
def jd_F (b : Nat → Int32) (s : Nat) (a : Nat → Int32) : Prop :=
  ∀ c, c < 144 → 0 ≤ (a c).toInt ∧ (a c).toInt ≤ 1000000 ∧ ((a c).toInt < 1000000 → ∃ n, n ≤ 144 ∧ jp_W b s n c (a c).toInt) ∧ (∀ (n : Nat) (L : Int), jp_W b s n c L → (a c).toInt ≤ L ∧ (a c).toInt < 1000000)
theorem jd_next {b : Nat → Int32} {s k c : Nat} {a cl a' : Nat → Int32} (hs : s < 144) (I : jd_I b s k a cl) (hc : c < 144) (ho : cl c = 0) (hf : (a c).toInt < 1000000)
    (hm : ∀ v, v < 144 → cl v = 0 → (a c).toInt ≤ (a v).toInt) (S : jd_S c 9 a (upd cl c 1) a') : jd_I b s (k + 1) a' (upd cl c 1) := by
  obtain ⟨I0, IV, I1, I2, I3, I4, I5, I6⟩ := I
  obtain ⟨S1, S2, S3⟩ := S
  have hbc : b c = 0 := Classical.byContradiction fun z => I0 c hc z ho
  have huc : ¬ upd cl c 1 c = 0 := by rw [pk_us]; decide
  have hnc : ∀ i, i ≠ c → upd cl c 1 i = cl i := fun i h => pk_un h
  have hcl : ∀ i, ¬ cl i = 0 → ¬ upd cl c 1 i = 0 := by
    intro i hi
    by_cases e : i = c
    · rw [e]; exact huc
    · rw [hnc i e]; exact hi
  -- a closed cell keeps its value
  have hk : ∀ i, i < 144 → ¬ upd cl c 1 i = 0 → a' i = a i := by
    intro i hi z
    cases S3 i hi with
    | inl h => exact h
    | inr h => exact absurd h.1 z
  have hac : a' c = a c := hk c hc huc
  refine ⟨fun i hi z => hcl i (I0 i hi z), ?_, ?_, ?_, ?_, ?_, ?_, ?_⟩
  · intro i hi
    have h1 := S1 i hi
    have h2 := IV i hi
    have h3 := IV c hc
    refine ⟨?_, by omega⟩
    cases S3 i hi with
    | inl h => rw [h]; exact h2.1
    | inr h =>
      obtain ⟨_, d, he, hd⟩ := h
      have := jp_E_d he
      omega
  · intro i hi hlt
    cases S3 i hi with
    | inl h =>
      rw [h] at hlt ⊢
      obtain ⟨n, hn, hw⟩ := I1 i hi hlt
      exact ⟨n, by omega, hw⟩
    | inr h =>
      obtain ⟨hoi, d, he, hd⟩ := h
      obtain ⟨n, hn, hw⟩ := I1 c hc hf
      have hbi : b i = 0 := Classical.byContradiction fun z => hcl i (I0 i hi z) hoi
      rw [hd]
      exact ⟨n + 1, by omega, jp_W_step hw he hbi⟩
  · intro u v d he hbu hcu hbv
    have hu := he.1
    have hv := he.2.1
    have hd := jp_E_d he
    rw [hk u hu hcu]
    by_cases e : u = c
    · subst e
      by_cases z : upd cl u 1 v = 0
      · exact S2 v d he (jp_k9 he) z
      · rw [hk v hv z]
        have hne : v ≠ u := fun q => he.2.2.1 q.symm
        rw [hnc v hne] at z
        have := I3 v u hv hbv z hu ho
        omega
    · rw [hnc u e] at hcu
      have h1 := I2 u v d he hbu hcu hbv
      have h2 := S1 v hv
      omega
  · intro u v hu hbu hcu hv hov
    rw [hk u hu hcu]
    have hvc : v ≠ c := fun q => huc (q ▸ hov)
    have hov' : cl v = 0 := by rw [← hnc v hvc]; exact hov
    have h0 : (a u).toInt ≤ (a c).toInt := by
      by_cases e : u = c
      · rw [e]; exact Int.le_refl _
      · rw [hnc u e] at hcu
        exact I3 u c hu hbu hcu hc ho
    cases S3 v hv with
    | inl h =>
      rw [h]
      have := hm v hv hov'
      omega
    | inr h =>
      obtain ⟨_, d, he, hd⟩ := h
      have := jp_E_d he
      omega
  · have h1 := S1 s hs
    cases S3 s hs with
    | inl h => rw [h]; exact I4
    | inr h =>
      obtain ⟨_, d, he, hd⟩ := h
      have := jp_E_d he
      have := IV c hc
      omega
  · intro u hu hbu hcu
    rw [hk u hu hcu]
    by_cases e : u = c
    · rw [e]; exact hf
    · rw [hnc u e] at hcu
      exact I5 u hu hbu hcu
  · have := jp_cnt_upd cl c ho 144 hc
    omega
theorem jd_end {b : Nat → Int32} {s k : Nat} {a cl : Nat → Int32} (hs : s < 144) (h0 : b s = 0) (I : jd_I b s k a cl) (hk : k ≤ 144) (hf : ∀ i, i < 144 → cl i = 0 → 1000000 ≤ (a i).toInt) : jd_F b s a := by
  obtain ⟨I0, IV, I1, I2, I3, I4, I5, I6⟩ := I
  have hC : ∀ (n c : Nat) (L : Int), jp_W b s n c L → (a c).toInt ≤ L ∧ (a c).toInt < 1000000 := by
    intro n
    induction n with
    | zero =>
      intro c L h
      rw [h.1, h.2, I4]
      omega
    | succ n ih =>
      intro c L h
      obtain ⟨u, d, hw, he, hb⟩ := h
      have h1 := ih u _ hw
      have hu := he.1
      have hbu := (jp_W_cell hs h0 n u _ hw).2
      have hcu : ¬ cl u = 0 := fun z => by
        have := hf u hu z
        omega
      have h2 := I2 u c d he hbu hcu hb
      obtain ⟨m, hm, hwm⟩ := I1 u hu h1.2
      have h3 := jp_W_len m u _ hwm
      have h4 := jp_E_d he
      omega
  intro c hc
  refine ⟨(IV c hc).1, (IV c hc).2, fun h => ?_, fun n L h => hC n c L h⟩
  obtain ⟨n, hn, hw⟩ := I1 c hc h
  exact ⟨n, by omega, hw⟩
theorem jd_start {b : Nat → Int32} {s : Nat} {a cl : Nat → Int32} (hs : s < 144) (h0 : b s = 0) (ha : ∀ i, i < 144 → a i = 1000000) (hcl : ∀ i, i < 144 → (cl i = 0 ↔ b i = 0)) : jd_I b s 0 (upd a s 0) cl := by
  have hv : ∀ i, i < 144 → i ≠ s → (upd a s 0 i).toInt = 1000000 := by
    intro i hi e
    rw [pk_un e, ha i hi, jb_far]
  have h00 : (upd a s 0 s).toInt = 0 := by rw [pk_us, jb_i0]
  have hall : ∀ i, i < 144 → b i = 0 → ¬ cl i = 0 → False := fun i hi h1 h2 => h2 ((hcl i hi).mpr h1)
  refine ⟨fun i hi z q => z ((hcl i hi).mp q), ?_, ?_, fun u v d he h1 h2 _ => (hall u he.1 h1 h2).elim, fun u v hu h1 h2 _ _ => (hall u hu h1 h2).elim, h00, fun u hu h1 h2 => (hall u hu h1 h2).elim, ?_⟩
  · intro i hi
    by_cases e : i = s
    · rw [e, h00]
      omega
    · rw [hv i hi e]
      omega
  · intro i hi hlt
    by_cases e : i = s
    · rw [e, h00]
      exact ⟨0, Nat.le_refl 0, rfl, rfl⟩
    · rw [hv i hi e] at hlt
      omega
  · have := jp_cnt_le cl 144
    omega
theorem jd_full {b : Nat → Int32} {s k : Nat} {a cl : Nat → Int32} (I : jd_I b s k a cl) (hk : 144 ≤ k) : ∀ i, i < 144 → cl i = 0 → 1000000 ≤ (a i).toInt := by
  intro i hi z
  have h := I.2.2.2.2.2.2.2
  exact absurd z (jp_cnt_0 cl 144 (by omega) i hi)
