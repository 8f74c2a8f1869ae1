section
/-! rows pasted from the kit's rows (pk_*), then numbers -/
theorem pk_us {f : Nat → Int32} {k : Nat} {x : Int32} : upd f k x k = x := if_pos rfl
theorem pk_un {f : Nat → Int32} {k j : Nat} {x : Int32} (h : j ≠ k) : upd f k x j = f j := if_neg h
theorem pk_sub {a b : Nat} (h : b ≤ a) : nI a - nI b = nI (a - b) := by
  obtain ⟨c, rfl⟩ : ∃ c, a = c + b := ⟨a - b, by omega⟩
  rw [← nI_add, Int32.add_sub_cancel, Nat.add_sub_cancel]
theorem pk_m1 (n : Nat) : nI (n + 1) + (-1) = nI n := by
  rw [← nI_1, Int32.add_assoc, show (1 : Int32) + (-1) = 0 from rfl, Int32.add_zero]
theorem pk_mul (a b : Nat) : nI a * nI b = nI (a * b) := (Int32.ofNat_mul a b).symm
theorem pk_div {a d : Nat} (ha : a < 2 ^ 31) (h0 : 0 < d) (hd : d < 2 ^ 31) : nI a / nI d = nI (a / d) := by
  apply Int32.toInt_inj.mp
  rw [lg_idiv_nonneg (by rw [nI_toInt ha]; omega) (by rw [nI_toInt hd]; omega), nI_toInt ha, nI_toInt hd, nI_toInt (Nat.lt_of_le_of_lt (Nat.div_le_self a d) ha)]
  first | rfl | exact (Int.natCast_ediv _ _).symm
theorem pk_rem {a d : Nat} (ha : a < 2 ^ 31) (h0 : 0 < d) (hd : d < 2 ^ 31) : nI a - nI a / nI d * nI d = nI (a % d) := by
  rw [pk_div ha h0 hd, pk_mul, pk_sub (Nat.div_mul_le_self a d)]
  exact congrArg nI (by have := Nat.div_add_mod' a d; omega)
theorem pk_ix (x : Int32) {n : Nat} (hn : n < 2 ^ 31) : x < 0 ∨ nI n ≤ x ∨ ∃ j : Nat, j < n ∧ x = nI j := by
  by_cases h : x < 0
  · exact Or.inl h
  · obtain ⟨j, hj, rfl⟩ := nI_of h
    by_cases h2 : j < n
    · exact Or.inr (Or.inr ⟨j, h2, rfl⟩)
    · exact Or.inr (Or.inl (nI_le (by omega) hj))
theorem pk_le {x y : Int32} {A B : Prop} (a b : Nat) (f : a ≤ b → A) (g : b < a → B) (hx : x = nI a := by rfl) (hy : y = nI b := by rfl) (ha : a < 2 ^ 31 := by omega) (hb : b < 2 ^ 31 := by omega) : (x ≤ y → A) ∧ (¬ x ≤ y → B) := by
  subst hx hy
  rw [nI_leI ha hb]
  exact ⟨f, fun z => g (by omega)⟩
theorem pk_lt {x y : Int32} {A B : Prop} (a b : Nat) (f : a < b → A) (g : b ≤ a → B) (hx : x = nI a := by rfl) (hy : y = nI b := by rfl) (ha : a < 2 ^ 31 := by omega) (hb : b < 2 ^ 31 := by omega) : (x < y → A) ∧ (¬ x < y → B) := by
  subst hx hy
  rw [nI_ltI ha hb]
  exact ⟨f, fun z => g (by omega)⟩
theorem pk_eq {x y : Int32} {A B : Prop} (a b : Nat) (f : a = b → A) (g : a ≠ b → B) (hx : x = nI a := by rfl) (hy : y = nI b := by rfl) (ha : a < 2 ^ 31 := by omega) (hb : b < 2 ^ 31 := by omega) : (x = y → A) ∧ (¬ x = y → B) := by
  subst hx hy
  rw [nI_eq ha hb]
  exact ⟨f, g⟩
theorem pk_in {x : Int32} (n N : Nat) (h : n < N) (hx : x = nI n := by rfl) (hN : N < 2 ^ 31 := by omega) : vp_in x N := by
  subst hx
  exact vp_in_nI h hN
theorem pk_cl {x : Int32} (n : Nat) (hx : x = nI n := by rfl) (h : n < 2 ^ 31 := by omega) : x.toNatClampNeg = n := by
  subst hx
  exact nI_clamp h
theorem pk_tn {n : Nat} (h : n < 2 ^ 32) : (nI n).toBitVec.toNat = n := Nat.mod_eq_of_lt h
theorem pk_and (x : Int32) {m : Int32} (k : Nat) (hm : m.toBitVec.toNat = 2 ^ k - 1) : x &&& m = nI (x.toBitVec.toNat % 2 ^ k) := by
  apply Int32.toBitVec_inj.mp
  apply BitVec.eq_of_toNat_eq
  rw [Int32.toBitVec_and, BitVec.toNat_and, hm, Nat.and_two_pow_sub_one_eq_mod]
  show _ = (BitVec.ofNat 32 _).toNat
  rw [BitVec.toNat_ofNat]
  exact (Nat.mod_eq_of_lt (Nat.lt_of_le_of_lt (Nat.mod_le _ _) x.toBitVec.isLt)).symm
theorem pk_andN {n : Nat} (h : n < 2 ^ 32) {m : Int32} (k : Nat) (hm : m.toBitVec.toNat = 2 ^ k - 1) : nI n &&& m = nI (n % 2 ^ k) := by
  rw [pk_and _ k hm, pk_tn h]
theorem pk_shr (a s : Int32) (k : Nat) (hs : (s.toBitVec.smod 32).toNat = k) : (a >>> s).toInt = a.toInt >>> k := by
  show (a.toBitVec.sshiftRight (s.toBitVec.smod 32).toNat).toInt = _
  rw [hs, BitVec.toInt_sshiftRight]
  rfl
theorem pk_shrN {n : Nat} (h : n < 2 ^ 31) (s : Int32) (k : Nat) (hs : (s.toBitVec.smod 32).toNat = k) : nI n >>> s = nI (n / 2 ^ k) := by
  apply Int32.toInt_inj.mp
  have h2 : n / 2 ^ k ≤ n := Nat.div_le_self _ _
  rw [pk_shr _ _ k hs, nI_toInt h, nI_toInt (by omega), Int.shiftRight_eq_div_pow]
  rfl
theorem jb_n0 : vp_nar .boolean 0 = 0 := by decide
theorem jb_n1 : vp_nar .boolean 1 = 1 := by decide
theorem jb_bz (v : Int32) : vp_nar .boolean (lw_bz v) = lw_bz v := by
  unfold vp_nar
  rw [lw_bz_n]
theorem jb_i0 : (0 : Int32).toInt = 0 := by decide
theorem jb_im1 : (-1 : Int32).toInt = -1 := by decide
theorem jb_i10 : (10 : Int32).toInt = 10 := by decide
theorem jb_i14 : (14 : Int32).toInt = 14 := by decide
theorem jb_far : (1000000 : Int32).toInt = 1000000 := by decide
theorem jb_add {x z : Int32} (h1 : -1 ≤ x.toInt) (h2 : x.toInt ≤ 1000000) (h3 : 0 ≤ z.toInt) (h4 : z.toInt ≤ 14) : (x + z).toInt = x.toInt + z.toInt := by
  rw [Int32.toInt_add]
  exact Int.bmod_eq_of_le (by omega) (by omega)
theorem jb_up (p : Nat) : nI p + (-1) + 1 = nI (p + 1) + (-1) := by
  rw [pk_m1, Int32.add_assoc, show (-1 : Int32) + 1 = 0 from rfl, Int32.add_zero]
/-- a place off by one: either minus one, or the natural number -/
theorem jb_offY (m j : Nat) (h : 1 ≤ m + j) : nI m + nI j - 1 = nI (m + j - 1) := by
  obtain ⟨t, e⟩ : ∃ t, m + j = t + 1 := ⟨m + j - 1, by omega⟩
  rw [nI_add, e, nI_pred]
  rfl
theorem jb_offX (m j : Nat) (h : 1 ≤ m + j) : nI m + (nI j + (-1)) = nI (m + j - 1) := by
  obtain ⟨t, e⟩ : ∃ t, m + j = t + 1 := ⟨m + j - 1, by omega⟩
  rw [← Int32.add_assoc, nI_add, e, pk_m1]
  rfl
theorem jb_updT (a : Nat → Int32) (c i : Nat) (v : Int32) : (upd a c v i).toInt = if i = c then v.toInt else (a i).toInt := by
  unfold upd
  split <;> rfl
theorem jb_updS {a : Nat → Int32} {c : Nat} {v : Int32} (h : a c = v) : upd a c v = a := by
  funext j
  unfold upd
  split
  · rename_i e
    rw [e, h]
  · rfl
/-- both sides hold the same walls -/
def i_Rel (_ : Nat) (u : SX) (v : SY) : Prop := u.1 = v.1
theorem i_up {k : Nat} {u : SX} {v : SY} (h : i_Rel k u v) : i_Rel (k + 4) u v := h
theorem i_vc0 : wpX_init (fun u => wpY_init (fun v => i_Rel 0 u v)) := rfl
end
section
/-! steps and walks over the grid; what a measure by nearest cells keeps; what sweeps keep -/
def jp_E (u v : Nat) (d : Int) : Prop := u < 144 ∧ v < 144 ∧ u ≠ v ∧ v % 12 ≤ u % 12 + 1 ∧ u % 12 ≤ v % 12 + 1 ∧ v / 12 ≤ u / 12 + 1 ∧ u / 12 ≤ v / 12 + 1 ∧ ((u % 12 = v % 12 ∨ u / 12 = v / 12) → d = 10) ∧ (¬ (u % 12 = v % 12 ∨ u / 12 = v / 12) → d = 14)
/-- a walk of n steps and length L from s to c -/
def jp_W (b : Nat → Int32) (s : Nat) : Nat → Nat → Int → Prop
  | 0 => fun c L => c = s ∧ L = 0
  | n + 1 => fun c L => ∃ (u : Nat) (d : Int), jp_W b s n u (L - d) ∧ jp_E u c d ∧ b c = 0
/-- the place of v among the nine around c -/
def jp_k (c v : Nat) : Nat := 3 * (v / 12 + 1 - c / 12) + (v % 12 + 1 - c % 12)
theorem jp_E_d {u v : Nat} {d : Int} (h : jp_E u v d) : 10 ≤ d ∧ d ≤ 14 := by
  obtain ⟨_, _, _, _, _, _, _, h1, h2⟩ := h
  by_cases z : (u % 12 = v % 12 ∨ u / 12 = v / 12)
  · have := h1 z
    omega
  · have := h2 z
    omega
theorem jp_k9 {u v : Nat} {d : Int} (h : jp_E u v d) : jp_k u v < 9 := by
  obtain ⟨_, _, _, h1, h2, h3, h4, _, _⟩ := h
  unfold jp_k
  omega
theorem jp_k9' {u v : Nat} {d : Int} (h : jp_E u v d) : jp_k v u < 9 := by
  obtain ⟨_, _, _, h1, h2, h3, h4, _, _⟩ := h
  unfold jp_k
  omega
theorem jp_W_len {b : Nat → Int32} {s : Nat} : ∀ (n c : Nat) (L : Int), jp_W b s n c L → 0 ≤ L ∧ L ≤ 14 * n := by
  intro n
  induction n with
  | zero =>
    intro c L h
    have := h.2
    omega
  | succ n ih =>
    intro c L h
    obtain ⟨u, d, hw, he, _⟩ := h
    have h1 := ih u _ hw
    have h2 := jp_E_d he
    omega
theorem jp_W_cell {b : Nat → Int32} {s : Nat} (hs : s < 144) (h0 : b s = 0) : ∀ (n c : Nat) (L : Int), jp_W b s n c L → c < 144 ∧ b c = 0 := by
  intro n c L h
  cases n with
  | zero =>
    rw [h.1]
    exact ⟨hs, h0⟩
  | succ n =>
    obtain ⟨u, d, _, he, hb⟩ := h
    exact ⟨he.2.1, hb⟩
theorem jp_W_step {b : Nat → Int32} {s n u c : Nat} {L d : Int} (h : jp_W b s n u L) (e : jp_E u c d) (hb : b c = 0) : jp_W b s (n + 1) c (L + d) := ⟨u, d, by rw [Int.add_sub_cancel]; exact h, e, hb⟩
/-- how many of the first n are open -/
def jp_cnt (cl : Nat → Int32) : Nat → Nat
  | 0 => 0
  | n + 1 => jp_cnt cl n + (if cl n = 0 then 1 else 0)
theorem jp_cnt_le (cl : Nat → Int32) : ∀ n, jp_cnt cl n ≤ n := by
  intro n
  induction n with
  | zero => exact Nat.le_refl 0
  | succ n ih =>
    unfold jp_cnt
    split <;> omega
theorem jp_cnt_0 (cl : Nat → Int32) : ∀ n, jp_cnt cl n = 0 → ∀ i, i < n → ¬ cl i = 0 := by
  intro n
  induction n with
  | zero => intro _ i hi; omega
  | succ n ih =>
    intro h i hi
    unfold jp_cnt at h
    by_cases e : i = n
    · subst e
      intro z
      rw [if_pos z] at h
      omega
    · exact ih (by omega) i (by omega)
theorem jp_cnt_far (cl : Nat → Int32) (c : Nat) (x : Int32) : ∀ n, n ≤ c → jp_cnt (upd cl c x) n = jp_cnt cl n := by
  intro n
  induction n with
  | zero => intro _; rfl
  | succ n ih =>
    intro h
    unfold jp_cnt
    rw [ih (by omega), pk_un (show n ≠ c by omega)]
theorem jp_cnt_upd (cl : Nat → Int32) (c : Nat) (hc : cl c = 0) : ∀ n, c < n → jp_cnt (upd cl c 1) n + 1 = jp_cnt cl n := by
  intro n
  induction n with
  | zero => intro h; omega
  | succ n ih =>
    intro h
    unfold jp_cnt
    by_cases e : n = c
    · subst e
      rw [jp_cnt_far cl n 1 n (Nat.le_refl n), pk_us, if_pos hc, if_neg (by decide)]
    · have := ih (by omega)
      rw [pk_un e]
      omega
/-- what the measure by nearest cells keeps: k rounds done, b the cells that are shut from the start -/
def jd_I (b : Nat → Int32) (s k : Nat) (a cl : Nat → Int32) : Prop :=
  (∀ i, i < 144 → ¬ b i = 0 → ¬ cl i = 0) ∧
  (∀ i, i < 144 → 0 ≤ (a i).toInt ∧ (a i).toInt ≤ 1000000) ∧
  (∀ i, i < 144 → (a i).toInt < 1000000 → ∃ n, n ≤ k ∧ jp_W b s n i (a i).toInt) ∧
  (∀ (u v : Nat) (d : Int), jp_E u v d → b u = 0 → ¬ cl u = 0 → b v = 0 → (a v).toInt ≤ (a u).toInt + d) ∧
  (∀ u v : Nat, u < 144 → b u = 0 → ¬ cl u = 0 → v < 144 → cl v = 0 → (a u).toInt ≤ (a v).toInt) ∧
  (a s).toInt = 0 ∧
  (∀ u, u < 144 → b u = 0 → ¬ cl u = 0 → (a u).toInt < 1000000) ∧
  k + jp_cnt cl 144 ≤ 144
/-- what steps to the first m of the nine around c do -/
def jd_S (c m : Nat) (a cl a' : Nat → Int32) : Prop :=
  (∀ i, i < 144 → (a' i).toInt ≤ (a i).toInt) ∧
  (∀ (v : Nat) (d : Int), jp_E c v d → jp_k c v < m → cl v = 0 → (a' v).toInt ≤ (a c).toInt + d) ∧
  (∀ i, i < 144 → a' i = a i ∨ (cl i = 0 ∧ ∃ d : Int, jp_E c i d ∧ (a' i).toInt = (a c).toInt + d))
/-- what a measure answers -/
def jd_F (b : Nat → Int32) (s : Nat) (a : Nat → Int32) : Prop :=
  ∀ c, c < 144 → 0 ≤ (a c).toInt ∧ (a c).toInt ≤ 1000000 ∧ ((a c).toInt < 1000000 → ∃ n, n ≤ 144 ∧ jp_W b s n c (a c).toInt) ∧ (∀ (n : Nat) (L : Int), jp_W b s n c L → (a c).toInt ≤ L ∧ (a c).toInt < 1000000)
theorem jd_next {b : Nat → Int32} {s k c : Nat} {a cl a' : Nat → Int32} (hs : s < 144) (I : jd_I b s k a cl) (hc : c < 144) (ho : cl c = 0) (hf : (a c).toInt < 1000000)
    (hm : ∀ v, v < 144 → cl v = 0 → (a c).toInt ≤ (a v).toInt) (S : jd_S c 9 a (upd cl c 1) a') : jd_I b s (k + 1) a' (upd cl c 1) := by
  obtain ⟨I0, IV, I1, I2, I3, I4, I5, I6⟩ := I
  obtain ⟨S1, S2, S3⟩ := S
  have hbc : b c = 0 := Classical.byContradiction fun z => I0 c hc z ho
  have huc : ¬ upd cl c 1 c = 0 := by rw [pk_us]; decide
  have hnc : ∀ i, i ≠ c → upd cl c 1 i = cl i := fun i h => pk_un h
  have hcl : ∀ i, ¬ cl i = 0 → ¬ upd cl c 1 i = 0 := by
    intro i hi
    by_cases e : i = c
    · rw [e]; exact huc
    · rw [hnc i e]; exact hi
  -- a closed cell keeps its value
  have hk : ∀ i, i < 144 → ¬ upd cl c 1 i = 0 → a' i = a i := by
    intro i hi z
    cases S3 i hi with
    | inl h => exact h
    | inr h => exact absurd h.1 z
  have hac : a' c = a c := hk c hc huc
  refine ⟨fun i hi z => hcl i (I0 i hi z), ?_, ?_, ?_, ?_, ?_, ?_, ?_⟩
  · intro i hi
    have h1 := S1 i hi
    have h2 := IV i hi
    have h3 := IV c hc
    refine ⟨?_, by omega⟩
    cases S3 i hi with
    | inl h => rw [h]; exact h2.1
    | inr h =>
      obtain ⟨_, d, he, hd⟩ := h
      have := jp_E_d he
      omega
  · intro i hi hlt
    cases S3 i hi with
    | inl h =>
      rw [h] at hlt ⊢
      obtain ⟨n, hn, hw⟩ := I1 i hi hlt
      exact ⟨n, by omega, hw⟩
    | inr h =>
      obtain ⟨hoi, d, he, hd⟩ := h
      obtain ⟨n, hn, hw⟩ := I1 c hc hf
      have hbi : b i = 0 := Classical.byContradiction fun z => hcl i (I0 i hi z) hoi
      rw [hd]
      exact ⟨n + 1, by omega, jp_W_step hw he hbi⟩
  · intro u v d he hbu hcu hbv
    have hu := he.1
    have hv := he.2.1
    have hd := jp_E_d he
    rw [hk u hu hcu]
    by_cases e : u = c
    · subst e
      by_cases z : upd cl u 1 v = 0
      · exact S2 v d he (jp_k9 he) z
      · rw [hk v hv z]
        have hne : v ≠ u := fun q => he.2.2.1 q.symm
        rw [hnc v hne] at z
        have := I3 v u hv hbv z hu ho
        omega
    · rw [hnc u e] at hcu
      have h1 := I2 u v d he hbu hcu hbv
      have h2 := S1 v hv
      omega
  · intro u v hu hbu hcu hv hov
    rw [hk u hu hcu]
    have hvc : v ≠ c := fun q => huc (q ▸ hov)
    have hov' : cl v = 0 := by rw [← hnc v hvc]; exact hov
    have h0 : (a u).toInt ≤ (a c).toInt := by
      by_cases e : u = c
      · rw [e]; exact Int.le_refl _
      · rw [hnc u e] at hcu
        exact I3 u c hu hbu hcu hc ho
    cases S3 v hv with
    | inl h =>
      rw [h]
      have := hm v hv hov'
      omega
    | inr h =>
      obtain ⟨_, d, he, hd⟩ := h
      have := jp_E_d he
      omega
  · have h1 := S1 s hs
    cases S3 s hs with
    | inl h => rw [h]; exact I4
    | inr h =>
      obtain ⟨_, d, he, hd⟩ := h
      have := jp_E_d he
      have := IV c hc
      omega
  · intro u hu hbu hcu
    rw [hk u hu hcu]
    by_cases e : u = c
    · rw [e]; exact hf
    · rw [hnc u e] at hcu
      exact I5 u hu hbu hcu
  · have := jp_cnt_upd cl c ho 144 hc
    omega
theorem jd_end {b : Nat → Int32} {s k : Nat} {a cl : Nat → Int32} (hs : s < 144) (h0 : b s = 0) (I : jd_I b s k a cl) (hk : k ≤ 144) (hf : ∀ i, i < 144 → cl i = 0 → 1000000 ≤ (a i).toInt) : jd_F b s a := by
  obtain ⟨I0, IV, I1, I2, I3, I4, I5, I6⟩ := I
  have hC : ∀ (n c : Nat) (L : Int), jp_W b s n c L → (a c).toInt ≤ L ∧ (a c).toInt < 1000000 := by
    intro n
    induction n with
    | zero =>
      intro c L h
      rw [h.1, h.2, I4]
      omega
    | succ n ih =>
      intro c L h
      obtain ⟨u, d, hw, he, hb⟩ := h
      have h1 := ih u _ hw
      have hu := he.1
      have hbu := (jp_W_cell hs h0 n u _ hw).2
      have hcu : ¬ cl u = 0 := fun z => by
        have := hf u hu z
        omega
      have h2 := I2 u c d he hbu hcu hb
      obtain ⟨m, hm, hwm⟩ := I1 u hu h1.2
      have h3 := jp_W_len m u _ hwm
      have h4 := jp_E_d he
      omega
  intro c hc
  refine ⟨(IV c hc).1, (IV c hc).2, fun h => ?_, fun n L h => hC n c L h⟩
  obtain ⟨n, hn, hw⟩ := I1 c hc h
  exact ⟨n, by omega, hw⟩
theorem jd_start {b : Nat → Int32} {s : Nat} {a cl : Nat → Int32} (hs : s < 144) (h0 : b s = 0) (ha : ∀ i, i < 144 → a i = 1000000) (hcl : ∀ i, i < 144 → (cl i = 0 ↔ b i = 0)) : jd_I b s 0 (upd a s 0) cl := by
  have hv : ∀ i, i < 144 → i ≠ s → (upd a s 0 i).toInt = 1000000 := by
    intro i hi e
    rw [pk_un e, ha i hi, jb_far]
  have h00 : (upd a s 0 s).toInt = 0 := by rw [pk_us, jb_i0]
  have hall : ∀ i, i < 144 → b i = 0 → ¬ cl i = 0 → False := fun i hi h1 h2 => h2 ((hcl i hi).mpr h1)
  refine ⟨fun i hi z q => z ((hcl i hi).mp q), ?_, ?_, fun u v d he h1 h2 _ => (hall u he.1 h1 h2).elim, fun u v hu h1 h2 _ _ => (hall u hu h1 h2).elim, h00, fun u hu h1 h2 => (hall u hu h1 h2).elim, ?_⟩
  · intro i hi
    by_cases e : i = s
    · rw [e, h00]
      omega
    · rw [hv i hi e]
      omega
  · intro i hi hlt
    by_cases e : i = s
    · rw [e, h00]
      exact ⟨0, Nat.le_refl 0, rfl, rfl⟩
    · rw [hv i hi e] at hlt
      omega
  · have := jp_cnt_le cl 144
    omega
theorem jd_full {b : Nat → Int32} {s k : Nat} {a cl : Nat → Int32} (I : jd_I b s k a cl) (hk : 144 ≤ k) : ∀ i, i < 144 → cl i = 0 → 1000000 ≤ (a i).toInt := by
  intro i hi z
  have h := I.2.2.2.2.2.2.2
  exact absurd z (jp_cnt_0 cl 144 (by omega) i hi)
end
section
/-! the component: nearestOpen, stepTo, stepAround, measure -/
def jx_N (a cl : Nat → Int32) (i : Nat) (x1 x2 : Int32) : Prop :=
  (x1 = -1 ∧ x2 = 1000000 ∧ ∀ v, v < i → cl v = 0 → 1000000 ≤ (a v).toInt) ∨
  (∃ c, c < i ∧ x1 = nI c ∧ x2 = a c ∧ cl c = 0 ∧ (a c).toInt < 1000000 ∧ ∀ v, v < i → cl v = 0 → (a c).toInt ≤ (a v).toInt)
theorem jx_nloop (post : Int32 → Prop) (w a cl : Nat → Int32)
    (h1 : ∀ c, c < 144 → cl c = 0 → (a c).toInt < 1000000 → (∀ v, v < 144 → cl v = 0 → (a c).toInt ≤ (a v).toInt) → post (nI c))
    (h2 : (∀ v, v < 144 → cl v = 0 → 1000000 ≤ (a v).toInt) → post (-1)) :
    ∀ (d i : Nat), i + d = 144 → ∀ x1 x2 : Int32, jx_N a cl i x1 x2 → wX_nearestOpen_7 post w a cl (d + 1) x1 x2 (nI i) := by
  intro d
  induction d with
  | zero =>
    intro i hi x1 x2 I
    refine pk_le 144 i (fun _ => ?_) (fun h => absurd h (by omega))
    have e : i = 144 := by omega
    subst e
    rcases I with ⟨rfl, rfl, h⟩ | ⟨c, hc, rfl, rfl, ho, hf, hm⟩
    · exact h2 h
    · exact h1 c hc ho hf hm
  | succ d ih =>
    intro i hi x1 x2 I
    refine pk_le 144 i (fun h => absurd h (by omega)) (fun _ => ?_)
    have hin : vp_in (nI i) 144 := vp_in_nI (by omega) (by omega)
    have ec : (nI i).toNatClampNeg = i := nI_clamp (by omega)
    refine ⟨hin, ?_⟩
    rw [ec]
    refine br_c (fun z => ⟨hin, br_c (fun hle => nm_r (nI_1 i) (ih (i + 1) (by omega) x1 x2 ?_)) (fun hgt => ⟨hin, nm_e (nm_r (nI_1 i) (ih (i + 1) (by omega) (nI i) (a i) ?_))⟩)⟩)
      (fun z => nm_r (nI_1 i) (ih (i + 1) (by omega) x1 x2 ?_))
    · rw [Int32.le_iff_toInt_le] at hle
      rcases I with ⟨e1, e2, h⟩ | ⟨c, hc, e1, e2, ho, hf, hm⟩
      · refine Or.inl ⟨e1, e2, fun v hv hz => ?_⟩
        by_cases e : v = i
        · rw [e2, jb_far] at hle
          rw [e]
          exact hle
        · exact h v (by omega) hz
      · refine Or.inr ⟨c, by omega, e1, e2, ho, hf, fun v hv hz => ?_⟩
        by_cases e : v = i
        · rw [e2] at hle
          rw [e]
          exact hle
        · exact hm v (by omega) hz
    · have hlt : (a i).toInt < x2.toInt := by
        rw [Int32.le_iff_toInt_le] at hgt
        omega
      refine Or.inr ⟨i, by omega, rfl, rfl, z, ?_, fun v hv hz => ?_⟩
      · rcases I with ⟨e1, e2, h⟩ | ⟨c, hc, e1, e2, ho, hf, hm⟩
        · rw [e2, jb_far] at hlt
          exact hlt
        · rw [e2] at hlt
          omega
      · by_cases e : v = i
        · rw [e]
          exact Int.le_refl _
        · rcases I with ⟨e1, e2, h⟩ | ⟨c, hc, e1, e2, ho, hf, hm⟩
          · rw [e2, jb_far] at hlt
            have := h v (by omega) hz
            omega
          · rw [e2] at hlt
            have := hm v (by omega) hz
            omega
    · rcases I with ⟨e1, e2, h⟩ | ⟨c, hc, e1, e2, ho, hf, hm⟩
      · refine Or.inl ⟨e1, e2, fun v hv hz => ?_⟩
        by_cases e : v = i
        · exact absurd (e ▸ hz) z
        · exact h v (by omega) hz
      · refine Or.inr ⟨c, by omega, e1, e2, ho, hf, fun v hv hz => ?_⟩
        by_cases e : v = i
        · exact absurd (e ▸ hz) z
        · exact hm v (by omega) hz
theorem jx_near (post : Int32 → Prop) (w a cl : Nat → Int32)
    (h1 : ∀ c, c < 144 → cl c = 0 → (a c).toInt < 1000000 → (∀ v, v < 144 → cl v = 0 → (a c).toInt ≤ (a v).toInt) → post (nI c))
    (h2 : (∀ v, v < 144 → cl v = 0 → 1000000 ≤ (a v).toInt) → post (-1)) : wpX_nearestOpen post (w, a, cl) :=
  ⟨145, jx_nloop post w a cl h1 h2 144 0 rfl (-1) 1000000 (Or.inl ⟨rfl, rfl, fun v hv => absurd hv (by omega)⟩)⟩
theorem jx_to (post : SX → Prop) (w a cl : Nat → Int32) (x y len : Int32)
    (ho : (x < 0 ∨ 12 ≤ x ∨ y < 0 ∨ 12 ≤ y) → post (w, a, cl))
    (hi : ∀ X Y : Nat, X < 12 → Y < 12 → x = nI X → y = nI Y →
      (¬ cl (12 * Y + X) = 0 → post (w, a, cl)) ∧ (cl (12 * Y + X) = 0 → (a (12 * Y + X)).toInt ≤ len.toInt → post (w, a, cl)) ∧ (cl (12 * Y + X) = 0 → len.toInt < (a (12 * Y + X)).toInt → post (w, upd a (12 * Y + X) len, cl))) :
    wpX_stepTo post (w, a, cl) x y len := by
  refine br_c (fun h => ho (Or.inl h)) (fun hx0 => br_c (fun h => ho (Or.inr (Or.inl h))) (fun hx1 => br_c (fun h => ho (Or.inr (Or.inr (Or.inl h)))) (fun hy0 => br_c (fun hy1 => ?_) (fun h => ho (Or.inr (Or.inr (Or.inr (Int32.not_lt.mp h))))))))
  obtain ⟨X, hX, rfl⟩ := nI_of hx0
  obtain ⟨Y, hY, rfl⟩ := nI_of hy0
  have hX2 : X < 12 := by
    have := mt (nI_leI (a := 12) (b := X) (by omega) hX).mpr hx1
    omega
  have hY2 : Y < 12 := (nI_ltI (a := Y) (b := 12) hY (by omega)).mp hy1
  obtain ⟨p1, p2, p3⟩ := hi X Y hX2 hY2 rfl rfl
  have e : (12 : Int32) * nI Y + nI X = nI (12 * Y + X) := by
    rw [show (12 : Int32) = nI 12 from rfl, pk_mul, nI_add]
  refine nm_r e ?_
  have hin : vp_in (nI (12 * Y + X)) 144 := vp_in_nI (by omega) (by omega)
  refine ⟨hin, ?_⟩
  rw [nI_clamp (show 12 * Y + X < 2 ^ 31 by omega)]
  refine br_c (fun z => ⟨hin, br_c (fun h => p2 z (Int32.le_iff_toInt_le.mp h)) (fun h => ⟨hin, nm_e (p3 z ?_)⟩)⟩) p1
  rw [Int32.le_iff_toInt_le] at h
  omega
/-- one of the nine steps -/
theorem jx_step {c q p : Nat} (hc : c < 144) (hq : q < 3) (hp : p < 3) {a0 cl a : Nat → Int32} (hcl : ¬ cl c = 0) (hr : 0 ≤ (a0 c).toInt ∧ (a0 c).toInt < 1000000)
    (S : jd_S c (3 * q + p) a0 cl a) (z : Int32) (hz : z.toInt = if q = 1 ∨ p = 1 then 10 else 14) (post : SX → Prop) (w : Nat → Int32)
    (h : ∀ a', jd_S c (3 * q + p + 1) a0 cl a' → post (w, a', cl)) :
    wpX_stepTo post (w, a, cl) (nI (c % 12) + (nI p + (-1))) (nI (c / 12) + (nI q + (-1))) (a c + z) := by
  obtain ⟨S1, S2, S3⟩ := S
  have hac : a c = a0 c := by
    cases S3 c hc with
    | inl h => exact h
    | inr h => exact absurd h.1 hcl
  have hz2 : 0 ≤ z.toInt ∧ z.toInt ≤ 14 := by
    rw [hz]
    split <;> omega
  have hlen : (a c + z).toInt = (a0 c).toInt + z.toInt := by
    rw [hac]
    exact jb_add (by omega) (by omega) hz2.1 hz2.2
  apply jx_to
  · intro ho
    refine h a ⟨S1, fun v d he hk hv => ?_, S3⟩
    apply S2 v d he _ hv
    obtain ⟨_, hv2, _, e1, e2, e3, e4, _, _⟩ := he
    unfold jp_k at hk ⊢
    by_cases e : 3 * (v / 12 + 1 - c / 12) + (v % 12 + 1 - c % 12) = 3 * q + p
    · exfalso
      have eq1 : v / 12 + 1 = c / 12 + q := by omega
      have eq2 : v % 12 + 1 = c % 12 + p := by omega
      rw [jb_offX (c % 12) p (by omega), jb_offX (c / 12) q (by omega)] at ho
      have n1 := nI_pos (n := c % 12 + p - 1) (by omega)
      have n2 := nI_pos (n := c / 12 + q - 1) (by omega)
      have n3 := nI_ge (a := c % 12 + p - 1) (b := 12) (by omega) (by omega)
      have n4 := nI_ge (a := c / 12 + q - 1) (b := 12) (by omega) (by omega)
      rcases ho with ho | ho | ho | ho
      · exact n1 ho
      · exact n3 ho
      · exact n2 ho
      · exact n4 ho
    · omega
  · intro X Y hX hY ex ey
    have hX1 : 1 ≤ c % 12 + p := by
      by_cases t : 1 ≤ c % 12 + p
      · exact t
      · exfalso
        have t1 : c % 12 = 0 := by omega
        have t2 : p = 0 := by omega
        rw [t1, t2] at ex
        have := nI_pos (n := X) (by omega)
        rw [← ex] at this
        exact this (by decide)
    have hY1 : 1 ≤ c / 12 + q := by
      by_cases t : 1 ≤ c / 12 + q
      · exact t
      · exfalso
        have t1 : c / 12 = 0 := by omega
        have t2 : q = 0 := by omega
        rw [t1, t2] at ey
        have := nI_pos (n := Y) (by omega)
        rw [← ey] at this
        exact this (by decide)
    rw [jb_offX _ _ hX1, nI_eq (by omega) (by omega)] at ex
    rw [jb_offX _ _ hY1, nI_eq (by omega) (by omega)] at ey
    have hv : 12 * Y + X < 144 := by omega
    have d1 : (12 * Y + X) / 12 = Y := by omega
    have d2 : (12 * Y + X) % 12 = X := by omega
    -- the one cell of this place
    have hone : ∀ (v : Nat) (d : Int), jp_E c v d → jp_k c v < 3 * q + p + 1 → ¬ v = 12 * Y + X → jp_k c v < 3 * q + p := by
      intro v d he hk hne
      obtain ⟨_, hv2, _, e1, e2, e3, e4, _, _⟩ := he
      unfold jp_k at hk ⊢
      by_cases e : 3 * (v / 12 + 1 - c / 12) + (v % 12 + 1 - c % 12) = 3 * q + p
      · exfalso
        have eq1 : v / 12 + 1 = c / 12 + q := by omega
        have eq2 : v % 12 + 1 = c % 12 + p := by omega
        omega
      · omega
    have hd : ∀ d : Int, jp_E c (12 * Y + X) d → d = z.toInt := by
      intro d he
      obtain ⟨_, _, _, e1, e2, e3, e4, t1, t2⟩ := he
      rw [d1, d2] at t1 t2
      rw [hz]
      by_cases g : q = 1 ∨ p = 1
      · rw [if_pos g]
        exact t1 (by omega)
      · rw [if_neg g]
        exact t2 (by omega)
    refine ⟨fun hz1 => h a ⟨S1, fun v d he hk hv0 => ?_, S3⟩, fun hz0 hle => h a ⟨S1, fun v d he hk hv0 => ?_, S3⟩, fun hz0 hlt => h _ ⟨fun i hi => ?_, fun v d he hk hv0 => ?_, fun i hi => ?_⟩⟩
    · apply S2 v d he _ hv0
      apply hone v d he hk
      intro e
      rw [e] at hv0
      exact hz1 hv0
    · by_cases e : v = 12 * Y + X
      · subst e
        have := hd d he
        omega
      · exact S2 v d he (hone v d he hk e) hv0
    · rw [jb_updT]
      split
      · rename_i e
        have := S1 i hi
        subst e
        omega
      · exact S1 i hi
    · rw [jb_updT]
      split
      · rename_i e
        subst e
        have := hd d he
        omega
      · rename_i e
        exact S2 v d he (hone v d he hk e) hv0
    · by_cases e : i = 12 * Y + X
      · subst e
        right
        refine ⟨hz0, z.toInt, ?_, ?_⟩
        · have hne : c ≠ 12 * Y + X := fun t => hcl (t ▸ hz0)
          refine ⟨hc, hv, hne, by omega, by omega, by omega, by omega, fun g => ?_, fun g => ?_⟩
          · rw [hz, if_pos (by omega)]
          · rw [hz, if_neg (by omega)]
        · rw [pk_us]
          exact hlen
      · rw [pk_un e]
        exact S3 i hi
theorem jx_inner {c q : Nat} (hc : c < 144) (hq : q < 3) {a0 cl : Nat → Int32} (hcl : ¬ cl c = 0) (hr : 0 ≤ (a0 c).toInt ∧ (a0 c).toInt < 1000000)
    (post : SX → Prop) (J13 : Int32 → (Nat → Int32) → (Nat → Int32) → (Nat → Int32) → Prop) (w : Nat → Int32)
    (h : ∀ a', jd_S c (3 * (q + 1)) a0 cl a' → J13 (nI (q + 1) + (-1)) w a' cl) :
    ∀ (e p : Nat), p + e = 3 → ∀ a, jd_S c (3 * q + p) a0 cl a → wX_stepAround_22 post J13 (nI c) (nI (c % 12)) (nI (c / 12)) (nI q + (-1)) (e + 1) (nI p + (-1)) w a cl := by
  intro e
  induction e with
  | zero =>
    intro p hp a S
    have e : p = 3 := by omega
    subst e
    exact br_t (by decide) (nm_r (jb_up q) (h a S))
  | succ e ih =>
    intro p hp a S
    have hp3 : p < 3 := by omega
    have hin : vp_in (nI c) 144 := vp_in_nI hc (by omega)
    have ec : (nI c).toNatClampNeg = c := nI_clamp (by omega)
    have step : ∀ z : Int32, z.toInt = (if q = 1 ∨ p = 1 then 10 else 14) → wX_stepAround_45 post J13 (wX_stepAround_22 post J13 (nI c) (nI (c % 12)) (nI (c / 12)) (nI q + (-1)) (e + 1)) (nI c) (nI (c % 12)) (nI (c / 12)) (nI q + (-1)) (nI p + (-1)) z w a cl := by
      intro z hz
      refine ⟨hin, ?_⟩
      rw [ec]
      refine jx_step hc hq hp3 hcl hr S z hz _ w (fun a' S' => ?_)
      exact nm_r (jb_up p) (ih (p + 1) (by omega) a' S')
    have hnl : ¬ (1 : Int32) < nI p + (-1) := by
      rcases (show p = 0 ∨ p = 1 ∨ p = 2 by omega) with e | e | e <;> subst e <;> decide
    have hq1 : nI q + (-1) = 0 ↔ q = 1 := by
      rcases (show q = 0 ∨ q = 1 ∨ q = 2 by omega) with e | e | e <;> subst e <;> decide
    have hp1 : nI p + (-1) = 0 ↔ p = 1 := by
      rcases (show p = 0 ∨ p = 1 ∨ p = 2 by omega) with e | e | e <;> subst e <;> decide
    refine br_f hnl (br_c (fun z => ?_) (fun z => br_c (fun z2 => ?_) (fun z2 => ?_)))
    · exact step 10 (by rw [if_pos (Or.inl (hq1.mp z))]; exact jb_i10)
    · exact step 10 (by rw [if_pos (Or.inr (hp1.mp z2))]; exact jb_i10)
    · refine step 14 ?_
      rw [if_neg]
      · exact jb_i14
      · rintro (g | g)
        · exact z (hq1.mpr g)
        · exact z2 (hp1.mpr g)
theorem jx_outer {c : Nat} (hc : c < 144) {a0 cl : Nat → Int32} (hcl : ¬ cl c = 0) (hr : 0 ≤ (a0 c).toInt ∧ (a0 c).toInt < 1000000)
    (post : SX → Prop) (w : Nat → Int32) (h : ∀ a', jd_S c 9 a0 cl a' → post (w, a', cl)) :
    ∀ (e q : Nat), q + e = 3 → ∀ a, jd_S c (3 * q) a0 cl a → wX_stepAround_13 post (nI c) (nI (c % 12)) (nI (c / 12)) (e + 1) (nI q + (-1)) w a cl := by
  intro e
  induction e with
  | zero =>
    intro q hq a S
    have e : q = 3 := by omega
    subst e
    exact br_t (by decide) (h a S)
  | succ e ih =>
    intro q hq a S
    have hnl : ¬ (1 : Int32) < nI q + (-1) := by
      rcases (show q = 0 ∨ q = 1 ∨ q = 2 by omega) with e | e | e <;> subst e <;> decide
    refine br_f hnl ⟨4, ?_⟩
    exact jx_inner hc (by omega) hcl hr post _ w (fun a' S' => ih (q + 1) (by omega) a' S') 3 0 rfl a S
theorem jx_around {c : Nat} (hc : c < 144) {a cl : Nat → Int32} (hcl : ¬ cl c = 0) (hr : 0 ≤ (a c).toInt ∧ (a c).toInt < 1000000)
    (post : SX → Prop) (w : Nat → Int32) (h : ∀ a', jd_S c 9 a cl a' → post (w, a', cl)) : wpX_stepAround post (w, a, cl) (nI c) := by
  refine ⟨by decide, nm_r (e' := nI (c % 12)) (pk_rem (d := 12) (by omega) (by omega) (by omega)) ⟨by decide, nm_r (e' := nI (c / 12)) (pk_div (d := 12) (by omega) (by omega) (by omega)) ⟨4, ?_⟩⟩⟩
  exact jx_outer hc hcl hr post w h 3 0 rfl a ⟨fun i _ => Int.le_refl _, fun v d _ hk => absurd hk (by omega), fun i _ => Or.inl rfl⟩
theorem jx_main {b : Nat → Int32} {s : Nat} (hs : s < 144) (h0 : b s = 0) (post : SX → Prop) (w : Nat → Int32) (h : ∀ a' cl', jd_F b s a' → post (w, a', cl')) :
    ∀ (d k : Nat), k + d = 144 → ∀ a cl, jd_I b s k a cl → wX_measure_57 post (d + 1) (nI k) w a cl := by
  intro d
  induction d with
  | zero =>
    intro k hk a cl I
    exact pk_le 144 k (fun _ => h a cl (jd_end hs h0 I (by omega) (jd_full I (by omega)))) (fun t => absurd t (by omega))
  | succ d ih =>
    intro k hk a cl I
    refine pk_le 144 k (fun t => absurd t (by omega)) (fun _ => ?_)
    refine jx_near _ w a cl (fun c hc ho hf hm => ?_) (fun hall => br_t rfl (h a cl (jd_end hs h0 I (by omega) hall)))
    have hne : ¬ nI c = -1 := by
      intro e
      have := nI_pos (n := c) (by omega)
      rw [e] at this
      exact this (by decide)
    refine br_f hne ⟨vp_in_nI hc (by omega), ?_⟩
    rw [nI_clamp (show c < 2 ^ 31 by omega), jb_n1]
    refine nm_e ?_
    refine jx_around hc (by rw [pk_us]; decide) ⟨(I.2.1 c hc).1, hf⟩ _ w (fun a' S => ?_)
    exact nm_r (nI_1 k) (ih (k + 1) (by omega) a' _ (jd_next hs I hc ho hf hm S))
theorem jx_init {b : Nat → Int32} {s : Nat} (hs : s < 144) (h0 : b s = 0) (post : SX → Prop) (w : Nat → Int32) (sh : Int32) (hb : ∀ i, i < 144 → (b i = 0 ↔ (w i = 0 ∧ ¬ nI i = sh))) (h : ∀ a' cl', jd_F b s a' → post (w, a', cl')) :
    ∀ (d i : Nat), i + d = 144 → ∀ a cl : Nat → Int32, (∀ j, j < i → a j = 1000000) → (∀ j, j < i → (cl j = 0 ↔ b j = 0)) → wX_measure_2 post (nI s) sh (d + 1) (nI i) w a cl := by
  intro d
  induction d with
  | zero =>
    intro i hi a cl ha hcl
    have e : i = 144 := by omega
    subst e
    refine br_t (by decide) ⟨vp_in_nI hs (by omega), ?_⟩
    rw [nI_clamp (show s < 2 ^ 31 by omega)]
    exact nm_e ⟨145, jx_main hs h0 post w h 144 0 rfl _ cl (jd_start hs h0 ha hcl)⟩
  | succ d ih =>
    intro i hi a cl ha hcl
    refine pk_le 144 i (fun t => absurd t (by omega)) (fun _ => ?_)
    have hin : vp_in (nI i) 144 := vp_in_nI (by omega) (by omega)
    have hA : ∀ j, j < i + 1 → upd a i 1000000 j = 1000000 := by
      intro j hj
      by_cases e : j = i
      · rw [e, pk_us]
      · rw [pk_un e]
        exact ha j (by omega)
    have hC : ∀ x : Int32, (x = 0 ↔ b i = 0) → ∀ j, j < i + 1 → (upd cl i x j = 0 ↔ b j = 0) := by
      intro x hx j hj
      by_cases e : j = i
      · rw [e, pk_us]
        exact hx
      · rw [pk_un e]
        exact hcl j (by omega)
    have hbi := hb i (by omega)
    have h10 : ¬ (1 : Int32) = 0 := by decide
    refine ⟨hin, ?_⟩
    rw [nI_clamp (show i < 2 ^ 31 by omega), jb_n0, jb_n1]
    refine nm_e ⟨hin, br_c (fun z => br_c (fun e => ⟨hin, nm_e (nm_r (nI_1 i) (ih (i + 1) (by omega) _ _ hA (hC 1 ?_)))⟩) (fun e => ⟨hin, nm_e (nm_r (nI_1 i) (ih (i + 1) (by omega) _ _ hA (hC 0 ?_)))⟩)) (fun z => ⟨hin, nm_e (nm_r (nI_1 i) (ih (i + 1) (by omega) _ _ hA (hC 1 ?_)))⟩)⟩
    · exact ⟨fun t => absurd t h10, fun t => absurd e (hbi.mp t).2⟩
    · exact ⟨fun _ => hbi.mpr ⟨z, e⟩, fun _ => rfl⟩
    · exact ⟨fun t => absurd t h10, fun t => absurd (hbi.mp t).1 z⟩
theorem jx_measure {b : Nat → Int32} {s : Nat} (hs : s < 144) (h0 : b s = 0) (post : SX → Prop) (w a cl : Nat → Int32) (sh : Int32) (hb : ∀ i, i < 144 → (b i = 0 ↔ (w i = 0 ∧ ¬ nI i = sh))) (h : ∀ a' cl', jd_F b s a' → post (w, a', cl')) : wpX_measure post (w, a, cl) (nI s) sh :=
  ⟨145, jx_init hs h0 post w sh hb h 144 0 rfl a cl (fun j hj => absurd hj (by omega)) (fun j hj => absurd hj (by omega))⟩
end
section
/-! the reference: lower, search -/
/-- at most as far as q, where q is a way -/
def jy_le (p q : Int) : Prop := 0 ≤ q → 0 ≤ p ∧ p ≤ q
/-- what lower does to cell c, the first m of the nine around it seen -/
def jy_L (w : Nat → Int32) (c m : Nat) (g g' : Nat → Int32) (r : Int32) : Prop :=
  (∀ i, i ≠ c → g' i = g i) ∧ jy_le (g' c).toInt (g c).toInt ∧
  (w c = 0 → ∀ (u : Nat) (d : Int), jp_E u c d → jp_k c u < m → 0 ≤ (g u).toInt → 0 ≤ (g' c).toInt ∧ (g' c).toInt ≤ (g u).toInt + d) ∧
  (g' c = g c ∨ (w c = 0 ∧ ∃ (u : Nat) (d : Int), jp_E u c d ∧ 0 ≤ (g u).toInt ∧ (g' c).toInt = (g u).toInt + d)) ∧
  (r = 0 → g' c = g c)
theorem jy_lloop {w g : Nat → Int32} {c : Nat} (hc : c < 144) (hw : w c = 0) (hg : ∀ i, i < 144 → -1 ≤ (g i).toInt ∧ (g i).toInt ≤ 1000000)
    (post : Int32 → SY → Prop) (h : ∀ r g', jy_L w c 9 g g' r → post r (w, g')) :
    ∀ (e k : Nat), k + e = 9 → ∀ (x2 : Int32) (g' : Nat → Int32), (x2 = 0 ∨ x2 = 1) → jy_L w c k g g' x2 → wY_lower_15 post (nI c) (e + 1) x2 (nI k) w g' := by
  intro e
  induction e with
  | zero =>
    intro k hk x2 g' h01 L
    have e : k = 9 := by omega
    subst e
    refine br_t (by decide) ⟨?_, h x2 g' L⟩
    rcases h01 with e | e <;> subst e <;> rfl
  | succ e ih =>
    intro k hk x2 g' h01 L
    obtain ⟨L1, L2, L3, L4, L5⟩ := L
    -- a place that is no cell, or c itself
    have skip : (∀ (u : Nat) (d : Int), jp_E u c d → jp_k c u = k → False) → wY_lower_15 post (nI c) (e + 1) x2 (nI (k + 1)) w g' := by
      intro hno
      refine ih (k + 1) (by omega) x2 g' h01 ⟨L1, L2, fun hw u d he hk2 => ?_, L4, L5⟩
      have hne : ¬ jp_k c u = k := hno u d he
      exact L3 hw u d he (by omega)
    refine br_f (nI_ge (b := 9) (by omega) (by omega)) ?_
    refine ⟨by decide, by decide, ?_⟩
    have e1 : nI c - nI c / 12 * 12 = nI (c % 12) := pk_rem (d := 12) (by omega) (by omega) (by omega)
    have e2 : nI k - nI k / 3 * 3 = nI (k % 3) := pk_rem (d := 3) (by omega) (by omega) (by omega)
    have e3 : nI c / 12 = nI (c / 12) := pk_div (d := 12) (by omega) (by omega) (by omega)
    have e4 : nI k / 3 = nI (k / 3) := pk_div (d := 3) (by omega) (by omega) (by omega)
    have e5 : nI k - nI k / 2 * 2 = nI (k % 2) := pk_rem (d := 2) (by omega) (by omega) (by omega)
    rw [e1, e2, e3, e4, e5]
    refine nm_e ⟨by decide, by decide, nm_e ?_⟩
    refine pk_eq k 4 (fun e => nm_r (nI_1 k) (skip ?_)) (fun hk4 => ?_)
    · intro u d he hku
      obtain ⟨_, _, hne, a1, a2, a3, a4, _, _⟩ := he
      unfold jp_k at hku
      have q1 : u / 12 + 1 = c / 12 + 1 := by omega
      have q2 : u % 12 + 1 = c % 12 + 1 := by omega
      omega
    have hpos : ∀ (u : Nat) (d : Int), jp_E u c d → jp_k c u = k → u / 12 + 1 = c / 12 + k / 3 ∧ u % 12 + 1 = c % 12 + k % 3 ∧ u < 144 := by
      intro u d he hku
      obtain ⟨_, _, hne, a1, a2, a3, a4, _, _⟩ := he
      unfold jp_k at hku
      omega
    by_cases hx : 1 ≤ c % 12 + k % 3
    rotate_left
    · refine br_t ?_ (nm_r (nI_1 k) (skip ?_))
      · have t1 : c % 12 = 0 := by omega
        have t2 : k % 3 = 0 := by omega
        rw [t1, t2]
        decide
      · intro u d he hku
        have := hpos u d he hku
        omega
    rw [jb_offY _ _ hx]
    refine br_f (nI_pos (by omega)) ?_
    refine pk_lt 11 (c % 12 + k % 3 - 1) (fun hb => nm_r (nI_1 k) (skip ?_)) (fun hxb => ?_)
    · intro u d he hku
      have := hpos u d he hku
      omega
    by_cases hy : 1 ≤ c / 12 + k / 3
    rotate_left
    · refine br_t ?_ (nm_r (nI_1 k) (skip ?_))
      · have t1 : c / 12 = 0 := by omega
        have t2 : k / 3 = 0 := by omega
        rw [t1, t2]
        decide
      · intro u d he hku
        have := hpos u d he hku
        omega
    rw [jb_offY _ _ hy]
    refine br_f (nI_pos (by omega)) ?_
    refine pk_lt 11 (c / 12 + k / 3 - 1) (fun hb => nm_r (nI_1 k) (skip ?_)) (fun hyb => ?_)
    · intro u d he hku
      have := hpos u d he hku
      omega
    obtain ⟨X, hX⟩ : ∃ X, X = c % 12 + k % 3 - 1 := ⟨_, rfl⟩
    obtain ⟨Y, hY⟩ : ∃ Y, Y = c / 12 + k / 3 - 1 := ⟨_, rfl⟩
    rw [← hX, ← hY]
    have ev : (12 : Int32) * nI Y + nI X = nI (12 * Y + X) := by
      rw [show (12 : Int32) = nI 12 from rfl, pk_mul, nI_add]
    rw [ev, nI_clamp (show 12 * Y + X < 2 ^ 31 by omega)]
    refine ⟨vp_in_nI (by omega) (by omega), ?_⟩
    obtain ⟨u, hu⟩ : ∃ u, u = 12 * Y + X := ⟨_, rfl⟩
    have hu1 : u < 144 := by omega
    have hu2 : u / 12 + 1 = c / 12 + k / 3 := by omega
    have hu3 : u % 12 + 1 = c % 12 + k % 3 := by omega
    have huc : u ≠ c := by
      intro t
      rw [t] at hu2 hu3
      omega
    rw [← hu]
    have hgu : g' u = g u := L1 u huc
    have hku : jp_k c u = k := by
      unfold jp_k
      omega
    have honly : ∀ (v : Nat) (d : Int), jp_E v c d → jp_k c v = k → v = u := by
      intro v d he hkv
      have := hpos v d he hkv
      omega
    have hcl : (nI c).toNatClampNeg = c := nI_clamp (by omega)
    have hin : vp_in (nI c) 144 := vp_in_nI hc (by omega)
    have hbu := hg u hu1
    refine nm_e ⟨by decide, ?_⟩
    -- one step from u, of length z
    have go : ∀ z : Int32, jp_E u c z.toInt → wY_lower_104 post (wY_lower_15 post (nI c) (e + 1)) (nI c) x2 (nI k) (g' u) z (g' u) w g' := by
      intro z hE
      have hz := jp_E_d hE
      have hd : ∀ d : Int, jp_E u c d → d = z.toInt := by
        intro d he
        obtain ⟨_, _, _, _, _, _, _, t1, t2⟩ := he
        obtain ⟨_, _, _, _, _, _, _, t3, t4⟩ := hE
        by_cases t : (u % 12 = c % 12 ∨ u / 12 = c / 12)
        · rw [t1 t, t3 t]
        · rw [t2 t, t4 t]
      have hway : (g' u + z).toInt = (g u).toInt + z.toInt := by
        rw [hgu]
        exact jb_add hbu.1 hbu.2 (by omega) (by omega)
      -- the value goes down
      have low : 0 ≤ (g u).toInt → ((g' c).toInt < 0 ∨ (g u).toInt + z.toInt < (g' c).toInt) → wY_lower_132 post (wY_lower_15 post (nI c) (e + 1)) (nI c) (nI k) (g' u + z) w g' := by
        intro h0 hlt
        refine ⟨hin, ?_⟩
        rw [hcl]
        refine nm_e (nm_r (nI_1 k) (ih (k + 1) (by omega) 1 _ (Or.inr rfl) ⟨fun i hi => ?_, ?_, fun hw v d he hkv hv0 => ?_, Or.inr ⟨hw, u, z.toInt, hE, h0, ?_⟩, fun t => absurd t (by decide)⟩))
        · rw [pk_un hi]
          exact L1 i hi
        · rw [pk_us, hway]
          intro t
          have := L2 t
          omega
        · rw [pk_us, hway]
          by_cases t : jp_k c v = k
          · have t2 := honly v d he t
            subst t2
            have := hd d he
            omega
          · have := L3 hw v d he (by omega) hv0
            omega
        · rw [pk_us, hway]
      refine nm_e (br_c (fun hneg => nm_r (nI_1 k) (ih (k + 1) (by omega) x2 g' h01 ⟨L1, L2, fun hw v d he hkv hv0 => ?_, L4, L5⟩)) (fun hnn => ⟨hin, ?_⟩))
      · rw [Int32.lt_iff_toInt_lt, hgu, jb_i0] at hneg
        by_cases t : jp_k c v = k
        · have t2 := honly v d he t
          subst t2
          omega
        · exact L3 hw v d he (by omega) hv0
      · rw [Int32.lt_iff_toInt_lt, hgu, jb_i0] at hnn
        rw [hcl]
        refine br_c (fun hcn => low (by omega) (Or.inl ?_)) (fun hcn => ⟨hin, br_c (fun hle => nm_r (nI_1 k) (ih (k + 1) (by omega) x2 g' h01 ⟨L1, L2, fun hw v d he hkv hv0 => ?_, L4, L5⟩)) (fun hgt => low (by omega) (Or.inr ?_))⟩)
        · rw [Int32.lt_iff_toInt_lt, jb_i0] at hcn
          exact hcn
        · rw [Int32.lt_iff_toInt_lt, jb_i0] at hcn
          rw [Int32.le_iff_toInt_le, hway] at hle
          by_cases t : jp_k c v = k
          · have t2 := honly v d he t
            subst t2
            have := hd d he
            omega
          · exact L3 hw v d he (by omega) hv0
        · rw [Int32.le_iff_toInt_le, hway] at hgt
          omega
    refine pk_eq (k % 2) 0 (fun hev => go 14 ?_) (fun hod => go 10 ?_)
    · rw [jb_i14]
      refine ⟨hu1, hc, huc, by omega, by omega, by omega, by omega, fun t => ?_, fun t => rfl⟩
      exfalso
      omega
    · rw [jb_i10]
      refine ⟨hu1, hc, huc, by omega, by omega, by omega, by omega, fun t => rfl, fun t => ?_⟩
      exfalso
      omega
theorem jy_lower {w g : Nat → Int32} {c : Nat} (hc : c < 144) (hg : ∀ i, i < 144 → -1 ≤ (g i).toInt ∧ (g i).toInt ≤ 1000000)
    (post : Int32 → SY → Prop) (h : ∀ r g', jy_L w c 9 g g' r → post r (w, g')) : wpY_lower post (w, g) (nI c) := by
  refine ⟨vp_in_nI hc (by omega), ?_⟩
  rw [nI_clamp (show c < 2 ^ 31 by omega)]
  refine br_c (fun hw => ⟨10, ?_⟩) (fun hw => ?_)
  · exact jy_lloop hc hw hg post h 9 0 rfl 0 g (Or.inl rfl) ⟨fun i _ => rfl, fun t => ⟨t, Int.le_refl _⟩, fun _ u d _ hk => absurd hk (by omega), Or.inl rfl, fun _ => rfl⟩
  · exact h 0 g ⟨fun i _ => rfl, fun t => ⟨t, Int.le_refl _⟩, fun t => absurd t hw, Or.inl rfl, fun _ => rfl⟩
/-- every value is a walk of at most t steps -/
def jy_V (w : Nat → Int32) (s t : Nat) (g : Nat → Int32) : Prop := ∀ c, c < 144 → -1 ≤ (g c).toInt ∧ (0 ≤ (g c).toInt → ∃ n, n ≤ t ∧ jp_W w s n c (g c).toInt)
theorem jy_Vb {w : Nat → Int32} {s t : Nat} {g : Nat → Int32} (V : jy_V w s t g) (ht : t ≤ 41760) : ∀ i, i < 144 → -1 ≤ (g i).toInt ∧ (g i).toInt ≤ 1000000 := by
  intro i hi
  have h := V i hi
  refine ⟨h.1, ?_⟩
  by_cases z : 0 ≤ (g i).toInt
  · obtain ⟨n, hn, hw⟩ := h.2 z
    have := jp_W_len n i _ hw
    omega
  · omega
theorem jy_Vs {w : Nat → Int32} {s t c : Nat} {g g' : Nat → Int32} {r : Int32} (hc : c < 144) (V : jy_V w s t g) (L : jy_L w c 9 g g' r) : jy_V w s (t + 1) g' := by
  obtain ⟨L1, L2, L3, L4, L5⟩ := L
  intro i hi
  have h := V i hi
  have same : g' i = g i → -1 ≤ (g' i).toInt ∧ (0 ≤ (g' i).toInt → ∃ n, n ≤ t + 1 ∧ jp_W w s n i (g' i).toInt) := by
    intro e
    rw [e]
    refine ⟨h.1, fun z => ?_⟩
    obtain ⟨n, hn, hw⟩ := h.2 z
    exact ⟨n, by omega, hw⟩
  by_cases e : i = c
  · subst e
    cases L4 with
    | inl q => exact same q
    | inr q =>
      obtain ⟨hw, u, d, he, h0, hd⟩ := q
      obtain ⟨n, hn, hwk⟩ := (V u he.1).2 h0
      have := jp_E_d he
      rw [hd]
      exact ⟨by omega, fun _ => ⟨n + 1, by omega, jp_W_step hwk he hw⟩⟩
  · exact same (L1 i e)
/-- a round so far: f the values before it, the cells below m lowered once -/
def jy_R (w : Nat → Int32) (s t m : Nat) (f g : Nat → Int32) (x : Int32) : Prop :=
  jy_V w s t g ∧ (∀ c, c < 144 → jy_le (g c).toInt (f c).toInt) ∧
  (∀ (u c : Nat) (d : Int), c < m → jp_E u c d → w c = 0 → 0 ≤ (f u).toInt → 0 ≤ (g c).toInt ∧ (g c).toInt ≤ (f u).toInt + d) ∧
  (x = 0 → ∀ c, g c = f c)
theorem jy_Rs {w : Nat → Int32} {s t m m' c : Nat} {f g g' : Nat → Int32} {x r : Int32} (hc : c < 144) (R : jy_R w s t m f g x) (L : jy_L w c 9 g g' r) (hm : ∀ i, i < m' → i < m ∨ i = c) :
    jy_R w s (t + 1) m' f g' (if r = 0 then x else 1) := by
  obtain ⟨V, M, P, Z⟩ := R
  have V' := jy_Vs hc V L
  obtain ⟨L1, L2, L3, L4, L5⟩ := L
  refine ⟨V', fun i hi => ?_, fun u i d hi he hw h0 => ?_, fun hx => ?_⟩
  · by_cases e : i = c
    · subst e
      intro h0
      have h1 := M i hi h0
      have h2 := L2 h1.1
      omega
    · rw [L1 i e]
      exact M i hi
  · by_cases e : i = c
    · subst e
      have h1 := M u he.1 h0
      have h2 := L3 hw u d he (jp_k9' he) h1.1
      omega
    · rw [L1 i e]
      cases hm i hi with
      | inl q => exact P u i d q he hw h0
      | inr q => exact absurd q e
  · by_cases z : r = 0
    · rw [if_pos z] at hx
      intro i
      by_cases e : i = c
      · subst e
        rw [L5 z, Z hx i]
      · rw [L1 i e, Z hx i]
    · rw [if_neg z] at hx
      exact absurd hx (by decide)
theorem jy_back {w f : Nat → Int32} {s t : Nat} (post : SY → Prop) (J33 : Int32 → Int32 → (Nat → Int32) → (Nat → Int32) → Prop) (x3 : Int32) (ht : t + 288 ≤ 41760)
    (h : ∀ x g, jy_R w s (t + 288) 144 f g x → J33 x (x3 + 1) w g) :
    ∀ (j : Nat), j ≤ 144 → ∀ (x : Int32) (g : Nat → Int32), jy_R w s (t + 288 - j) 144 f g x → wY_search_79 post J33 x3 (j + 1) x (nI j + (-1)) w g := by
  intro j
  induction j with
  | zero =>
    intro _ x g R
    exact br_t (by decide) (nm_e (h x g R))
  | succ j ih =>
    intro hj x g R
    rw [pk_m1]
    refine br_f (nI_pos (by omega)) ?_
    refine jy_lower (by omega) (jy_Vb R.1 (by omega)) _ (fun r g' L => ?_)
    have R' := jy_Rs (m' := 144) (by omega) R L (fun i hi => Or.inl hi)
    rw [show t + 288 - (j + 1) + 1 = t + 288 - j by omega] at R'
    refine br_c (fun z => nm_e ?_) (fun z => nm_e ?_)
    · rw [if_pos z] at R'
      exact ih (by omega) x g' R'
    · rw [if_neg z] at R'
      exact ih (by omega) 1 g' R'
theorem jy_forth {w f : Nat → Int32} {s t : Nat} (post : SY → Prop) (J33 : Int32 → Int32 → (Nat → Int32) → (Nat → Int32) → Prop) (x3 : Int32) (ht : t + 288 ≤ 41760)
    (h : ∀ x g, jy_R w s (t + 288) 144 f g x → J33 x (x3 + 1) w g) :
    ∀ (e i : Nat), i + e = 144 → ∀ (x : Int32) (g : Nat → Int32), jy_R w s (t + i) i f g x → wY_search_49 post J33 x3 (e + 1) x (nI i) w g := by
  intro e
  induction e with
  | zero =>
    intro i hi x g R
    have e : i = 144 := by omega
    subst e
    refine br_t (by decide) ⟨145, ?_⟩
    exact jy_back post J33 x3 ht h 144 (by omega) x g R
  | succ e ih =>
    intro i hi x g R
    refine pk_le 144 i (fun t => absurd t (by omega)) (fun _ => ?_)
    refine jy_lower (by omega) (jy_Vb R.1 (by omega)) _ (fun r g' L => ?_)
    have R' := jy_Rs (m' := i + 1) (by omega) R L (fun q hq => by omega)
    rw [Nat.add_assoc] at R'
    refine br_c (fun z => nm_r (nI_1 i) ?_) (fun z => nm_r (nI_1 i) ?_)
    · rw [if_pos z] at R'
      exact ih (i + 1) (by omega) x g' R'
    · rw [if_neg z] at R'
      exact ih (i + 1) (by omega) 1 g' R'
/-- what a search answers -/
def jy_F (w : Nat → Int32) (s : Nat) (f : Nat → Int32) : Prop :=
  ∀ c, c < 144 → -1 ≤ (f c).toInt ∧ (0 ≤ (f c).toInt → ∃ n, jp_W w s n c (f c).toInt) ∧ (∀ (n : Nat) (L : Int), n ≤ 145 → jp_W w s n c L → 0 ≤ (f c).toInt ∧ (f c).toInt ≤ L)
/-- r rounds done -/
def jy_J (w : Nat → Int32) (s r : Nat) (f : Nat → Int32) (x : Int32) : Prop :=
  jy_V w s (288 * r) f ∧ (∀ (n c : Nat) (L : Int), n ≤ r → jp_W w s n c L → 0 ≤ (f c).toInt ∧ (f c).toInt ≤ L) ∧
  (x = 0 → ∀ (u c : Nat) (d : Int), jp_E u c d → w c = 0 → 0 ≤ (f u).toInt → 0 ≤ (f c).toInt ∧ (f c).toInt ≤ (f u).toInt + d)
theorem jy_Js {w : Nat → Int32} {s r : Nat} {f g : Nat → Int32} {x0 x : Int32} (hs : s < 144) (h0 : w s = 0) (J : jy_J w s r f x0) (R : jy_R w s (288 * r + 288) 144 f g x) : jy_J w s (r + 1) g x := by
  obtain ⟨_, J1, _⟩ := J
  obtain ⟨V, M, P, Z⟩ := R
  refine ⟨by rw [Nat.mul_succ]; exact V, fun n c L hn hw => ?_, fun hx u c d he hw hu => ?_⟩
  · cases n with
    | zero =>
      have h1 := J1 0 c L (by omega) hw
      have h2 := M c (jp_W_cell hs h0 0 c L hw).1 h1.1
      omega
    | succ n =>
      obtain ⟨u, d, hwu, he, hb⟩ := hw
      have h1 := J1 n u _ (by omega) hwu
      have h2 := P u c d he.2.1 he hb h1.1
      omega
  · rw [Z hx u] at hu ⊢
    exact P u c d he.2.1 he hw hu
theorem jy_fix {w : Nat → Int32} {s r : Nat} {f : Nat → Int32} (J : jy_J w s r f 0) : ∀ (n c : Nat) (L : Int), jp_W w s n c L → 0 ≤ (f c).toInt ∧ (f c).toInt ≤ L := by
  obtain ⟨_, J1, J2⟩ := J
  intro n
  induction n with
  | zero =>
    intro c L h
    exact J1 0 c L (by omega) h
  | succ n ih =>
    intro c L h
    obtain ⟨u, d, hw, he, hb⟩ := h
    have h1 := ih u _ hw
    have h2 := J2 rfl u c d he hb h1.1
    omega
theorem jy_main {w : Nat → Int32} {s : Nat} (hs : s < 144) (h0 : w s = 0) (post : SY → Prop) (h : ∀ f, jy_F w s f → post (w, f)) :
    ∀ (e r : Nat), r + e = 145 → ∀ (x : Int32) (f : Nat → Int32), jy_J w s r f x → wY_search_33 post (e + 1) x (nI r) w f := by
  intro e
  induction e with
  | zero =>
    intro r hr x f J
    refine pk_le 145 r (fun _ => h f (fun c hc => ?_)) (fun t => absurd t (by omega))
    refine ⟨(J.1 c hc).1, fun z => ?_, fun n L hn hw => J.2.1 n c L (by omega) hw⟩
    obtain ⟨n, _, hw⟩ := (J.1 c hc).2 z
    exact ⟨n, hw⟩
  | succ e ih =>
    intro r hr x f J
    refine pk_le 145 r (fun t => absurd t (by omega)) (fun _ => br_c (fun z => h f (fun c hc => ?_)) (fun z => ⟨145, ?_⟩))
    · subst z
      refine ⟨(J.1 c hc).1, fun z => ?_, fun n L hn hw => jy_fix J n c L hw⟩
      obtain ⟨n, _, hw⟩ := (J.1 c hc).2 z
      exact ⟨n, hw⟩
    · refine jy_forth (t := 288 * r) post _ (nI r) (by omega) (fun x' g R => ?_) 144 0 rfl 0 f ⟨J.1, fun c _ t => ⟨t, Int.le_refl _⟩, fun u c d hc => absurd hc (by omega), fun _ c => rfl⟩
      rw [nI_1]
      exact ih (r + 1) (by omega) x' g (jy_Js hs h0 J R)
theorem jy_init {w : Nat → Int32} {s : Nat} (hs : s < 144) (h0 : w s = 0) (post : SY → Prop) (h : ∀ f, jy_F w s f → post (w, f)) :
    ∀ (e i : Nat), i + e = 144 → ∀ f : Nat → Int32, (∀ j, j < i → f j = -1) → wY_search_2 post (nI s) (e + 1) (nI i) w f := by
  intro e
  induction e with
  | zero =>
    intro i hi f hf
    have e : i = 144 := by omega
    subst e
    refine br_t (by decide) ⟨vp_in_nI hs (by omega), ?_⟩
    rw [nI_clamp (show s < 2 ^ 31 by omega)]
    refine nm_e ⟨146, jy_main hs h0 post h 145 0 rfl 1 _ ⟨fun c hc => ?_, fun n c L hn hw => ?_, fun t => absurd t (by decide)⟩⟩
    · rw [jb_updT]
      split
      · rename_i e
        rw [jb_i0]
        exact ⟨by omega, fun _ => ⟨0, by omega, e, rfl⟩⟩
      · rw [hf c hc, jb_im1]
        exact ⟨by omega, fun t => absurd t (by omega)⟩
    · have e : n = 0 := by omega
      subst e
      rw [hw.1, hw.2, pk_us, jb_i0]
      omega
  | succ e ih =>
    intro i hi f hf
    refine pk_le 144 i (fun t => absurd t (by omega)) (fun _ => ⟨vp_in_nI (by omega) (by omega), ?_⟩)
    rw [nI_clamp (show i < 2 ^ 31 by omega)]
    refine nm_e (nm_r (nI_1 i) (ih (i + 1) (by omega) _ (fun j hj => ?_)))
    by_cases e : j = i
    · rw [e, pk_us]
    · rw [pk_un e]
      exact hf j (by omega)
theorem jy_search {w : Nat → Int32} {s : Nat} (hs : s < 144) (h0 : w s = 0) (post : SY → Prop) (f : Nat → Int32) (h : ∀ f', jy_F w s f' → post (w, f')) : wpY_search post (w, f) (nI s) :=
  ⟨145, jy_init hs h0 post h 144 0 rfl f (fun j hj => absurd hj (by omega))⟩
end
section
/-! both sides together: cells, walls, block -/
theorem jz_10 : ¬ (1 : Int32) = 0 := by decide
theorem jz_both {b : Nat → Int32} {s : Nat} {a f : Nat → Int32} (hA : jd_F b s a) (hF : jy_F b s f) : ∀ c, c < 144 → ((a c).toInt < 1000000 ∧ 0 ≤ (a c).toInt ∧ f c = a c) ∨ ((a c).toInt = 1000000 ∧ (f c).toInt = -1) := by
  intro c hc
  obtain ⟨A0, A1, A2, A3⟩ := hA c hc
  obtain ⟨F0, F1, F2⟩ := hF c hc
  by_cases h : (a c).toInt < 1000000
  · left
    obtain ⟨n, hn, hw⟩ := A2 h
    have h1 := F2 n _ (by omega) hw
    obtain ⟨m, hm⟩ := F1 h1.1
    have h2 := A3 m _ hm
    exact ⟨h, A0, Int32.toInt_inj.mp (by omega)⟩
  · right
    refine ⟨by omega, ?_⟩
    by_cases z : 0 ≤ (f c).toInt
    · obtain ⟨m, hm⟩ := F1 z
      have h2 := A3 m _ hm
      omega
    · omega
/-- a number is a cell on both sides, or on neither -/
theorem jz_cell (p : Int32) : (∃ c, c < 144 ∧ p = nI c ∧ (∀ post : Int32 → Prop, post 1 → wpX_isCell post p) ∧ (∀ (post : Int32 → Prop) (w f : Nat → Int32), post 1 → wpY_isCell post (w, f) p)) ∨
    ((∀ post : Int32 → Prop, post 0 → wpX_isCell post p) ∧ (∀ (post : Int32 → Prop) (w f : Nat → Int32), post 0 → wpY_isCell post (w, f) p)) := by
  rcases pk_ix p (n := 144) (by omega) with h | h | ⟨c, hc, rfl⟩
  · exact Or.inr ⟨fun _ hp => br_t h hp, fun _ _ _ hp => br_t h hp⟩
  · have h0 : ¬ p < 0 := fun z => by
      rw [Int32.lt_iff_toInt_lt, jb_i0] at z
      rw [Int32.le_iff_toInt_le, nI_toInt (by omega)] at h
      omega
    have h1 : (143 : Int32) < p := by
      rw [Int32.lt_iff_toInt_lt, show (143 : Int32).toInt = 143 from by decide]
      rw [Int32.le_iff_toInt_le, nI_toInt (by omega)] at h
      omega
    exact Or.inr ⟨fun _ hp => br_f h0 (br_t h hp), fun _ _ _ hp => br_f h0 (br_t h1 hp)⟩
  · have h0 : ¬ nI c < 0 := nI_pos (by omega)
    have h1 : ¬ (144 : Int32) ≤ nI c := nI_ge (b := 144) hc (by omega)
    have h2 : ¬ (143 : Int32) < nI c := nI_nlt (a := 143) (b := c) (by omega) (by omega)
    exact Or.inl ⟨c, hc, rfl, fun _ hp => br_f h0 (br_f h1 hp), fun _ _ _ hp => br_f h0 (br_f h2 hp)⟩
theorem jz_free (w : Nat → Int32) (p : Int32) : (∃ c, c < 144 ∧ p = nI c ∧ w c = 0 ∧ (∀ (post : Int32 → Prop) (l cl : Nat → Int32), post 1 → wpX_isFree post (w, l, cl) p) ∧ (∀ (post : Int32 → Prop) (f : Nat → Int32), post 1 → wpY_isFree post (w, f) p)) ∨
    ((∀ (post : Int32 → Prop) (l cl : Nat → Int32), post 0 → wpX_isFree post (w, l, cl) p) ∧ (∀ (post : Int32 → Prop) (f : Nat → Int32), post 0 → wpY_isFree post (w, f) p)) := by
  rcases jz_cell p with ⟨c, hc, rfl, hX, hY⟩ | ⟨hX, hY⟩
  · have hin : vp_in (nI c) 144 := vp_in_nI hc (by omega)
    have ec : (nI c).toNatClampNeg = c := nI_clamp (by omega)
    by_cases z : w c = 0
    · refine Or.inl ⟨c, hc, rfl, z, fun post l cl hp => ?_, fun post f hp => ?_⟩
      · unfold wpX_isFree
        dsimp only
        refine hX _ (br_f jz_10 ⟨hin, ?_⟩)
        rw [ec]
        exact br_t z hp
      · unfold wpY_isFree
        dsimp only
        refine hY _ w f (br_f jz_10 ⟨hin, ?_⟩)
        rw [ec]
        exact br_t z hp
    · refine Or.inr ⟨fun post l cl hp => ?_, fun post f hp => ?_⟩
      · unfold wpX_isFree
        dsimp only
        refine hX _ (br_f jz_10 ⟨hin, ?_⟩)
        rw [ec]
        exact br_f z hp
      · unfold wpY_isFree
        dsimp only
        refine hY _ w f (br_f jz_10 ⟨hin, ?_⟩)
        rw [ec]
        exact br_f z hp
  · refine Or.inr ⟨fun post l cl hp => ?_, fun post f hp => ?_⟩
    · unfold wpX_isFree
      dsimp only
      exact hX _ (br_t rfl hp)
    · unfold wpY_isFree
      dsimp only
      exact hY _ w f (br_t rfl hp)
theorem jz_freeY {w : Nat → Int32} {c : Nat} (hc : c < 144) (z : w c = 0) (post : Int32 → Prop) (f : Nat → Int32) (hp : post 1) : wpY_isFree post (w, f) (nI c) := by
  have h0 : ¬ nI c < 0 := nI_pos (by omega)
  have h2 : ¬ (143 : Int32) < nI c := nI_nlt (a := 143) (b := c) (by omega) (by omega)
  have ec : (nI c).toNatClampNeg = c := nI_clamp (by omega)
  refine br_f h0 (br_f h2 (br_f jz_10 ⟨vp_in_nI hc (by omega), ?_⟩))
  rw [ec]
  exact br_t z hp
theorem i_vc_wall {k : Nat} {u : SX} {v : SY} (I : i_Rel k u v) (hk : k + 4 ≤ 2048) (v1 : Int32) (v2 : Int32) : wpX_wall (fun r u' => wpY_wall (fun r' v' => r' = r ∧ i_Rel (k + 4) u' v') v v1 (lw_bz v2)) u v1 (lw_bz v2) := by
  obtain ⟨w, a, cl⟩ := u
  obtain ⟨w', f⟩ := v
  have e : w = w' := I
  subst e
  rcases jz_cell v1 with ⟨c, hc, rfl, hX, hY⟩ | ⟨hX, hY⟩
  · have hin : vp_in (nI c) 144 := vp_in_nI hc (by omega)
    unfold wpX_wall wpY_wall
    dsimp only
    exact hX _ (br_f jz_10 ⟨hin, nm_e (hY _ w f (br_f jz_10 ⟨hin, nm_e ⟨rfl, rfl⟩⟩))⟩)
  · unfold wpX_wall wpY_wall
    dsimp only
    exact hX _ (br_t rfl (hY _ w f (br_t rfl ⟨rfl, rfl⟩)))
theorem i_vc_isWall {k : Nat} {u : SX} {v : SY} (I : i_Rel k u v) (hk : k + 4 ≤ 2048) (v1 : Int32) : wpX_isWall (fun r => wpY_isWall (fun r' => r' = r ∧ i_Rel (k + 4) u v) v v1) u v1 := by
  obtain ⟨w, a, cl⟩ := u
  obtain ⟨w', f⟩ := v
  have e : w = w' := I
  subst e
  rcases jz_cell v1 with ⟨c, hc, rfl, hX, hY⟩ | ⟨hX, hY⟩
  · have hin : vp_in (nI c) 144 := vp_in_nI hc (by omega)
    unfold wpX_isWall wpY_isWall
    dsimp only
    exact hX _ (br_f jz_10 ⟨hin, br_c (fun z => hY _ w f (br_f jz_10 ⟨hin, br_t z ⟨rfl, rfl⟩⟩)) (fun z => hY _ w f (br_f jz_10 ⟨hin, br_f z ⟨rfl, rfl⟩⟩))⟩)
  · unfold wpX_isWall wpY_isWall
    dsimp only
    exact hX _ (br_t rfl (hY _ w f (br_t rfl ⟨rfl, rfl⟩)))
theorem jz_row (on : Int32) (hon : vp_nar .boolean on = on) (L R H Y : Nat) (hR : R < 12) (hY : Y < 12) : ∀ (e x : Nat), x + e = R + 1 → ∀ (n : Int32) (w : Nat → Int32), ∃ (n' : Int32) (w' : Nat → Int32),
    (∀ (post : Int32 → SX → Prop) (J : Int32 → Int32 → (Nat → Int32) → (Nat → Int32) → (Nat → Int32) → Prop) (l cl : Nat → Int32), J n' (nI (Y + 1)) w' l cl → wX_block_72 post J on (nI L) (nI R) (nI H) (nI Y) (e + 1) n (nI x) w l cl) ∧
    (∀ (post : Int32 → SY → Prop) (J : Int32 → Int32 → (Nat → Int32) → (Nat → Int32) → Prop) (f : Nat → Int32), J n' (nI (Y + 1)) w' f → wY_block_81 post J on (nI L) (nI R) (nI H) (nI Y) (e + 1) n (nI x) w f) := by
  intro e
  induction e with
  | zero =>
    intro x hx n w
    have hlt : nI R < nI x := nI_lt (by omega) (by omega)
    exact ⟨n, w, fun post J l cl h => br_t hlt (nm_r (nI_1 Y) h), fun post J f h => br_t hlt (nm_r (nI_1 Y) h)⟩
  | succ e ih =>
    intro x hx n w
    have hnl : ¬ nI R < nI x := nI_nlt (by omega) (by omega)
    have ev : (12 : Int32) * nI Y + nI x = nI (12 * Y + x) := by
      rw [show (12 : Int32) = nI 12 from rfl, pk_mul, nI_add]
    have hin : vp_in (nI (12 * Y + x)) 144 := vp_in_nI (by omega) (by omega)
    have ec : (nI (12 * Y + x)).toNatClampNeg = 12 * Y + x := nI_clamp (by omega)
    by_cases z : w (12 * Y + x) = on
    · obtain ⟨n', w', hX, hY⟩ := ih (x + 1) (by omega) n w
      refine ⟨n', w', fun post J l cl h => br_f hnl (nm_r ev ⟨hin, ?_⟩), fun post J f h => br_f hnl ?_⟩
      · rw [ec]
        exact br_t z (nm_r (nI_1 x) (hX post J l cl h))
      · unfold wY_block_108
        rw [ev, ec, hon, jb_updS z]
        exact ⟨hin, br_t z ⟨hin, nm_e (nm_r (nI_1 x) (hY post J f h))⟩⟩
    · obtain ⟨n', w', hX, hY⟩ := ih (x + 1) (by omega) (n + 1) (upd w (12 * Y + x) on)
      refine ⟨n', w', fun post J l cl h => br_f hnl (nm_r ev ⟨hin, ?_⟩), fun post J f h => br_f hnl ?_⟩
      · rw [ec, hon]
        exact br_f z ⟨hin, nm_e (nm_e (nm_r (nI_1 x) (hX post J l cl h)))⟩
      · unfold wY_block_108
        rw [ev, ec, hon]
        exact ⟨hin, br_f z (nm_e ⟨hin, nm_e (nm_r (nI_1 x) (hY post J f h))⟩)⟩
theorem jz_rows (on : Int32) (hon : vp_nar .boolean on = on) (L R H : Nat) (hL : L ≤ R) (hR : R < 12) (hH : H < 12) : ∀ (e y : Nat), y + e = H + 1 → ∀ (n : Int32) (w : Nat → Int32), ∃ (n' : Int32) (w' : Nat → Int32),
    (∀ (post : Int32 → SX → Prop) (l cl : Nat → Int32), post n' (w', l, cl) → wX_block_62 post on (nI L) (nI R) (nI H) (e + 1) n (nI y) w l cl) ∧
    (∀ (post : Int32 → SY → Prop) (f : Nat → Int32), post n' (w', f) → wY_block_71 post on (nI L) (nI R) (nI H) (e + 1) n (nI y) w f) := by
  intro e
  induction e with
  | zero =>
    intro y hy n w
    have hlt : nI H < nI y := nI_lt (by omega) (by omega)
    exact ⟨n, w, fun post l cl h => br_t hlt h, fun post f h => br_t hlt h⟩
  | succ e ih =>
    intro y hy n w
    have hnl : ¬ nI H < nI y := nI_nlt (by omega) (by omega)
    obtain ⟨n1, w1, hX1, hY1⟩ := jz_row on hon L R H y hR (by omega) (R + 1 - L) L (by omega) n w
    obtain ⟨n', w', hX, hY⟩ := ih (y + 1) (by omega) n1 w1
    exact ⟨n', w', fun post l cl h => br_f hnl ⟨_, hX1 post _ l cl (hX post l cl h)⟩, fun post f h => br_f hnl ⟨_, hY1 post _ f (hY post f h)⟩⟩
theorem jz_span (post : Int32 → Prop) {a b : Nat} (ha : a < 2 ^ 31) (hb : b < 2 ^ 31) (h1 : a ≤ b → b < 12 → post 1) (h0 : ¬ (a ≤ b ∧ b < 12) → post 0) : wpX_isSpan post (nI a) (nI b) := by
  refine br_f (nI_pos ha) (pk_lt b a (fun h => h0 (by omega)) (fun h => pk_le 12 b (fun h2 => h0 (by omega)) (fun h2 => h1 h h2)))
theorem jz_xb {post : Int32 → SX → Prop} {w l cl : Nat → Int32} {m : Nat} {p1 : Int32} (hm : m < 2 ^ 31)
    (h0 : ¬ (m / 4096 ≤ m / 256 % 16 ∧ m / 256 % 16 < 12 ∧ m / 16 % 16 ≤ m % 16 ∧ m % 16 < 12) → post (-1) (w, l, cl))
    (h1 : m / 4096 ≤ m / 256 % 16 → m / 256 % 16 < 12 → m / 16 % 16 ≤ m % 16 → m % 16 < 12 → ∃ n, wX_block_62 post p1 (nI (m / 4096)) (nI (m / 256 % 16)) (nI (m % 16)) n 0 (nI (m / 16 % 16)) w l cl) :
    wpX_block post (w, l, cl) (nI m) p1 := by
  have e1 : nI m >>> ((12 : Int32) &&& 31) = nI (m / 4096) := pk_shrN hm _ 12 (by decide)
  have e2 : (nI m >>> ((8 : Int32) &&& 31)) &&& 15 = nI (m / 256 % 16) := by
    rw [pk_shrN hm _ 8 (by decide), pk_andN (by omega) 4 (by decide)]
  have e3 : (nI m >>> ((4 : Int32) &&& 31)) &&& 15 = nI (m / 16 % 16) := by
    rw [pk_shrN hm _ 4 (by decide), pk_andN (by omega) 4 (by decide)]
  have e4 : nI m &&& 15 = nI (m % 16) := by
    rw [pk_andN (by omega) 4 (by decide)]
  refine br_t (nI_pos' hm) (nm_r e1 (nm_r e2 (nm_r e3 (nm_r e4 ?_))))
  refine jz_span _ (by omega) (by omega) (fun q1 q2 => br_f jz_10 ?_) (fun q => br_t rfl (h0 (by omega)))
  exact jz_span _ (by omega) (by omega) (fun q3 q4 => br_f jz_10 (h1 q1 q2 q3 q4)) (fun q => br_t rfl (h0 (by omega)))
theorem jz_yb {post : Int32 → SY → Prop} {w f : Nat → Int32} {m : Nat} {p1 : Int32} (hm : m < 2 ^ 31)
    (h0 : ¬ (m / 4096 ≤ m / 256 % 16 ∧ m / 256 % 16 < 12 ∧ m / 16 % 16 ≤ m % 16 ∧ m % 16 < 12) → post (-1) (w, f))
    (h1 : m / 4096 ≤ m / 256 % 16 → m / 256 % 16 < 12 → m / 16 % 16 ≤ m % 16 → m % 16 < 12 → ∃ n, wY_block_71 post p1 (nI (m / 4096)) (nI (m / 256 % 16)) (nI (m % 16)) n 0 (nI (m / 16 % 16)) w f) :
    wpY_block post (w, f) (nI m) p1 := by
  have e1 : nI m / 4096 = nI (m / 4096) := pk_div (d := 4096) hm (by omega) (by omega)
  have e2 : nI m / 256 - nI m / 256 / 16 * 16 = nI (m / 256 % 16) := by
    rw [show nI m / 256 = nI (m / 256) from pk_div (d := 256) hm (by omega) (by omega)]
    exact pk_rem (d := 16) (by omega) (by omega) (by omega)
  have e3 : nI m / 16 - nI m / 16 / 16 * 16 = nI (m / 16 % 16) := by
    rw [show nI m / 16 = nI (m / 16) from pk_div (d := 16) hm (by omega) (by omega)]
    exact pk_rem (d := 16) (by omega) (by omega) (by omega)
  have e4 : nI m - nI m / 16 * 16 = nI (m % 16) := pk_rem (d := 16) hm (by omega) (by omega)
  refine ⟨by decide, nm_r e1 ⟨by decide, by decide, nm_r e2 ⟨by decide, by decide, nm_r e3 ⟨by decide, nm_r e4 ?_⟩⟩⟩⟩
  refine br_f (nI_pos hm) ?_
  refine pk_lt (m / 256 % 16) (m / 4096) (fun q => h0 (by omega)) (fun q1 => ?_)
  refine pk_lt 11 (m / 256 % 16) (fun q => h0 (by omega)) (fun q2 => ?_)
  refine pk_lt (m % 16) (m / 16 % 16) (fun q => h0 (by omega)) (fun q3 => ?_)
  exact pk_le (m % 16) 11 (fun q4 => h1 q1 (by omega) q3 (by omega)) (fun q => h0 (by omega))
theorem i_vc_block {k : Nat} {u : SX} {v : SY} (I : i_Rel k u v) (hk : k + 4 ≤ 2048) (v1 : Int32) (v2 : Int32) : wpX_block (fun r u' => wpY_block (fun r' v' => r' = r ∧ i_Rel (k + 4) u' v') v v1 (lw_bz v2)) u v1 (lw_bz v2) := by
  obtain ⟨w, a, cl⟩ := u
  obtain ⟨w', f⟩ := v
  have e : w = w' := I
  subst e
  by_cases h : v1 < 0
  · refine br_f (fun z => Int32.not_lt.mpr z h) ?_
    exact ⟨by decide, nm_e ⟨by decide, by decide, nm_e ⟨by decide, by decide, nm_e ⟨by decide, nm_e (br_t h ⟨rfl, rfl⟩)⟩⟩⟩⟩
  · obtain ⟨m, hm, rfl⟩ := nI_of h
    refine jz_xb hm (fun h0 => jz_yb hm (fun _ => ⟨rfl, rfl⟩) (fun q1 q2 q3 q4 => absurd ⟨q1, q2, q3, q4⟩ h0)) (fun q1 q2 q3 q4 => ?_)
    obtain ⟨n', w', hX, hY⟩ := jz_rows (lw_bz v2) (jb_bz v2) (m / 4096) (m / 256 % 16) (m % 16) q1 q2 q4 (m % 16 + 1 - m / 16 % 16) (m / 16 % 16) (by omega) 0 w
    exact ⟨_, hX _ a cl (jz_yb hm (fun h0 => absurd ⟨q1, q2, q3, q4⟩ h0) (fun _ _ _ _ => ⟨_, hY _ f ⟨rfl, rfl⟩⟩))⟩
end
section
/-! the questions: distance, nearer, vital, farthest, reach, at -/
theorem jq_no (w : Nat → Int32) : ∀ i, i < 144 → (w i = 0 ↔ (w i = 0 ∧ ¬ nI i = -1)) := by
  intro i hi
  refine ⟨fun h => ⟨h, fun e => ?_⟩, fun h => h.1⟩
  have := nI_pos (n := i) (by omega)
  rw [e] at this
  exact this (by decide)
theorem jq_in {c : Nat} (hc : c < 144) : vp_in (nI c) 144 := vp_in_nI hc (by omega)
theorem jq_cl {c : Nat} (hc : c < 144) : (nI c).toNatClampNeg = c := nI_clamp (by omega)
theorem i_vc_distance {k : Nat} {u : SX} {v : SY} (I : i_Rel k u v) (hk : k + 4 ≤ 2048) (v1 : Int32) (v2 : Int32) : wpX_distance (fun r u' => wpY_distance (fun r' v' => r' = r ∧ i_Rel (k + 4) u' v') v v1 v2) u v1 v2 := by
  obtain ⟨w, a, cl⟩ := u
  obtain ⟨w', f⟩ := v
  have e : w = w' := I
  subst e
  unfold wpX_distance wpY_distance
  dsimp only
  rcases jz_free w v1 with ⟨s, hs, rfl, hws, X1, Y1⟩ | ⟨X1, Y1⟩
  · rcases jz_free w v2 with ⟨t, ht, rfl, hwt, X2, Y2⟩ | ⟨X2, Y2⟩
    · refine X1 _ a cl (br_f jz_10 (X2 _ a cl (br_f jz_10 ?_)))
      refine jx_measure hs hws _ w a cl (-1) (jq_no w) (fun a' cl' hA => ?_)
      dsimp only
      refine ⟨jq_in ht, ?_⟩
      rw [jq_cl ht]
      refine br_c (fun h1 => ?_) (fun h1 => ⟨jq_in ht, ?_⟩)
      · refine Y1 _ f (br_f jz_10 (Y2 _ f (br_f jz_10 ?_)))
        refine jy_search hs hws _ f (fun f' hF => ?_)
        dsimp only
        refine ⟨jq_in ht, ?_⟩
        rw [Int32.le_iff_toInt_le, jb_far] at h1
        rcases jz_both hA hF t ht with ⟨l1, l2, l3⟩ | ⟨l1, l2⟩
        · omega
        · refine br_f (fun z => ?_) ⟨rfl, rfl⟩
          rw [Int32.le_iff_toInt_le, jb_i0, l2] at z
          omega
      · refine Y1 _ f (br_f jz_10 (Y2 _ f (br_f jz_10 ?_)))
        refine jy_search hs hws _ f (fun f' hF => ?_)
        dsimp only
        refine ⟨jq_in ht, ?_⟩
        rw [Int32.le_iff_toInt_le, jb_far] at h1
        rcases jz_both hA hF t ht with ⟨l1, l2, l3⟩ | ⟨l1, l2⟩
        · rw [l3]
          refine br_t ?_ ⟨jq_in ht, rfl, rfl⟩
          rw [Int32.le_iff_toInt_le, jb_i0]
          exact l2
        · omega
    · exact X1 _ a cl (br_f jz_10 (X2 _ a cl (br_t rfl (Y1 _ f (br_f jz_10 (Y2 _ f (br_t rfl ⟨rfl, rfl⟩)))))))
  · exact X1 _ a cl (br_t rfl (Y1 _ f (br_t rfl ⟨rfl, rfl⟩)))
theorem i_vc_nearer {k : Nat} {u : SX} {v : SY} (I : i_Rel k u v) (hk : k + 4 ≤ 2048) (v1 : Int32) (v2 : Int32) (v3 : Int32) : wpX_nearer (fun r u' => wpY_nearer (fun r' v' => r' = r ∧ i_Rel (k + 4) u' v') v v1 v2 v3) u v1 v2 v3 := by
  obtain ⟨w, a, cl⟩ := u
  obtain ⟨w', f⟩ := v
  have e : w = w' := I
  subst e
  unfold wpX_nearer wpY_nearer
  dsimp only
  rcases jz_free w v1 with ⟨s, hs, rfl, hws, X1, Y1⟩ | ⟨X1, Y1⟩
  · rcases jz_free w v2 with ⟨p, hp, rfl, hwp, X2, Y2⟩ | ⟨X2, Y2⟩
    · rcases jz_free w v3 with ⟨q, hq, rfl, hwq, X3, Y3⟩ | ⟨X3, Y3⟩
      · refine X1 _ a cl (br_f jz_10 (X2 _ a cl (br_f jz_10 (X3 _ a cl (br_f jz_10 ?_)))))
        refine jx_measure hs hws _ w a cl (-1) (jq_no w) (fun a' cl' hA => ?_)
        dsimp only
        refine ⟨jq_in hq, jq_in hp, ?_⟩
        rw [jq_cl hp, jq_cl hq]
        refine br_c (fun h1 => ?_) (fun h1 => ?_)
        · refine Y1 _ f (br_f jz_10 (Y2 _ f (br_f jz_10 (Y3 _ f (br_f jz_10 ?_)))))
          refine jy_search hs hws _ f (fun f' hF => ?_)
          dsimp only
          refine ⟨jq_in hq, ?_⟩
          rw [Int32.le_iff_toInt_le] at h1
          rcases jz_both hA hF q hq with ⟨l1, l2, l3⟩ | ⟨l1, l2⟩
          · rcases jz_both hA hF p hp with ⟨m1, m2, m3⟩ | ⟨m1, m2⟩
            · refine br_f ?_ ⟨jq_in hp, br_f ?_ ⟨jq_in hq, jq_in hp, br_t ?_ ⟨rfl, rfl⟩⟩⟩
              · rw [Int32.lt_iff_toInt_lt, jb_i0, l3]
                omega
              · rw [Int32.lt_iff_toInt_lt, jb_i0, m3]
                omega
              · rw [Int32.le_iff_toInt_le, l3, m3]
                exact h1
            · omega
          · refine br_t ?_ ⟨rfl, rfl⟩
            rw [Int32.lt_iff_toInt_lt, jb_i0, l2]
            omega
        · refine Y1 _ f (br_f jz_10 (Y2 _ f (br_f jz_10 (Y3 _ f (br_f jz_10 ?_)))))
          refine jy_search hs hws _ f (fun f' hF => ?_)
          dsimp only
          refine ⟨jq_in hq, ?_⟩
          rw [Int32.le_iff_toInt_le] at h1
          rcases jz_both hA hF q hq with ⟨l1, l2, l3⟩ | ⟨l1, l2⟩
          · rcases jz_both hA hF p hp with ⟨m1, m2, m3⟩ | ⟨m1, m2⟩
            · refine br_f ?_ ⟨jq_in hp, br_f ?_ ⟨jq_in hq, jq_in hp, br_f ?_ ⟨rfl, rfl⟩⟩⟩
              · rw [Int32.lt_iff_toInt_lt, jb_i0, l3]
                omega
              · rw [Int32.lt_iff_toInt_lt, jb_i0, m3]
                omega
              · rw [Int32.le_iff_toInt_le, l3, m3]
                exact h1
            · refine br_f ?_ ⟨jq_in hp, br_t ?_ ⟨rfl, rfl⟩⟩
              · rw [Int32.lt_iff_toInt_lt, jb_i0, l3]
                omega
              · rw [Int32.lt_iff_toInt_lt, jb_i0, m2]
                omega
          · have := (hA p hp).2.1
            omega
      · exact X1 _ a cl (br_f jz_10 (X2 _ a cl (br_f jz_10 (X3 _ a cl (br_t rfl (Y1 _ f (br_f jz_10 (Y2 _ f (br_f jz_10 (Y3 _ f (br_t rfl ⟨rfl, rfl⟩)))))))))))
    · exact X1 _ a cl (br_f jz_10 (X2 _ a cl (br_t rfl (Y1 _ f (br_f jz_10 (Y2 _ f (br_t rfl ⟨rfl, rfl⟩)))))))
  · exact X1 _ a cl (br_t rfl (Y1 _ f (br_t rfl ⟨rfl, rfl⟩)))
theorem jq_dist {w : Nat → Int32} {s t : Nat} (hs : s < 144) (ht : t < 144) (hws : w s = 0) (hwt : w t = 0) (post : Int32 → SY → Prop) (f : Nat → Int32)
    (h : ∀ f', jy_F w s f' → (0 ≤ (f' t).toInt → post (f' t) (w, f')) ∧ ((f' t).toInt < 0 → post (-2) (w, f'))) : wpY_distance post (w, f) (nI s) (nI t) := by
  unfold wpY_distance
  dsimp only
  refine jz_freeY hs hws _ f (br_f jz_10 (jz_freeY ht hwt _ f (br_f jz_10 ?_)))
  refine jy_search hs hws _ f (fun f' hF => ⟨jq_in ht, ?_⟩)
  dsimp only
  rw [jq_cl ht]
  obtain ⟨p1, p2⟩ := h f' hF
  refine br_c (fun z => ⟨jq_in ht, p1 ?_⟩) (fun z => p2 ?_)
  · rw [Int32.le_iff_toInt_le, jb_i0] at z
    exact z
  · rw [Int32.le_iff_toInt_le, jb_i0] at z
    omega
theorem jq_shut {w : Nat → Int32} {c : Nat} (hc : c < 144) : ∀ i, i < 144 → (upd w c 1 i = 0 ↔ (w i = 0 ∧ ¬ nI i = nI c)) := by
  intro i hi
  rw [nI_eq (by omega) (by omega)]
  by_cases e : i = c
  · rw [e, pk_us]
    exact ⟨fun h => absurd h (by decide), fun h => absurd rfl h.2⟩
  · rw [pk_un e]
    exact ⟨fun h => ⟨h, e⟩, fun h => h.1⟩
theorem jq_undo {w : Nat → Int32} {c : Nat} (h : w c = 0) : upd (upd w c 1) c 0 = w := by
  funext j
  by_cases e : j = c
  · rw [e, pk_us, h]
  · rw [pk_un e, pk_un e]
theorem i_vc_vital {k : Nat} {u : SX} {v : SY} (I : i_Rel k u v) (hk : k + 4 ≤ 2048) (v1 : Int32) (v2 : Int32) (v3 : Int32) : wpX_vital (fun r u' => wpY_vital (fun r' v' => r' = r ∧ i_Rel (k + 4) u' v') v v1 v2 v3) u v1 v2 v3 := by
  obtain ⟨w, a, cl⟩ := u
  obtain ⟨w', f⟩ := v
  have e : w = w' := I
  subst e
  unfold wpX_vital wpY_vital
  dsimp only
  rcases jz_free w v1 with ⟨s, hs, rfl, hws, X1, Y1⟩ | ⟨X1, Y1⟩
  · rcases jz_free w v2 with ⟨t, ht, rfl, hwt, X2, Y2⟩ | ⟨X2, Y2⟩
    · rcases jz_free w v3 with ⟨c, hc, rfl, hwc, X3, Y3⟩ | ⟨X3, Y3⟩
      · by_cases g1 : nI c = nI s
        · exact X1 _ a cl (br_f jz_10 (X2 _ a cl (br_f jz_10 (X3 _ a cl (br_f jz_10 (br_t g1 (Y1 _ f (br_f jz_10 (Y2 _ f (br_f jz_10 (Y3 _ f (br_f jz_10 (br_t g1 ⟨rfl, rfl⟩)))))))))))))
        by_cases g2 : nI c = nI t
        · exact X1 _ a cl (br_f jz_10 (X2 _ a cl (br_f jz_10 (X3 _ a cl (br_f jz_10 (br_f g1 (br_t g2 (Y1 _ f (br_f jz_10 (Y2 _ f (br_f jz_10 (Y3 _ f (br_f jz_10 (br_f g1 (br_t g2 ⟨rfl, rfl⟩)))))))))))))))
        have hsc : s ≠ c := fun e => g1 (by rw [e])
        have htc : t ≠ c := fun e => g2 (by rw [e])
        have hs2 : upd w c 1 s = 0 := by rw [pk_un hsc]; exact hws
        have ht2 : upd w c 1 t = 0 := by rw [pk_un htc]; exact hwt
        refine X1 _ a cl (br_f jz_10 (X2 _ a cl (br_f jz_10 (X3 _ a cl (br_f jz_10 (br_f g1 (br_f g2 ?_)))))))
        refine jx_measure hs hws _ w a cl (-1) (jq_no w) (fun a1 cl1 hA1 => ?_)
        dsimp only
        refine ⟨jq_in ht, ?_⟩
        rw [jq_cl ht, jq_cl hc]
        refine nm_e ?_
        refine jx_measure (b := upd w c 1) hs hs2 _ w a1 cl1 (nI c) (jq_shut hc) (fun a2 cl2 hA2 => ?_)
        dsimp only
        refine ⟨jq_in ht, ?_⟩
        refine br_c (fun h1 => ?_) (fun h1 => ?_)
        · rw [Int32.le_iff_toInt_le] at h1
          refine Y1 _ f (br_f jz_10 (Y2 _ f (br_f jz_10 (Y3 _ f (br_f jz_10 (br_f g1 (br_f g2 ?_)))))))
          refine jq_dist hs ht hws hwt _ f (fun f1 hF1 => ⟨fun z1 => ?_, fun z1 => ?_⟩)
          · refine br_t (by rw [Int32.le_iff_toInt_le, jb_i0]; exact z1) ⟨jq_in hc, ?_⟩
            rw [jb_n1, jb_n0]
            refine nm_e ?_
            refine jq_dist hs ht hs2 ht2 _ f1 (fun f2 hF2 => ⟨fun z2 => ?_, fun z2 => ?_⟩)
            · refine ⟨jq_in hc, nm_r (jq_undo hwc) (br_f ?_ (br_t ?_ ⟨rfl, rfl⟩))⟩
              · rw [Int32.lt_iff_toInt_lt, jb_i0]
                omega
              · rw [Int32.le_iff_toInt_le]
                rcases jz_both hA1 hF1 t ht with ⟨l1, l2, l3⟩ | ⟨l1, l2⟩
                · rcases jz_both hA2 hF2 t ht with ⟨m1, m2, m3⟩ | ⟨m1, m2⟩
                  · rw [l3, m3]
                    exact h1
                  · omega
                · omega
            · exfalso
              rcases jz_both hA1 hF1 t ht with ⟨l1, l2, l3⟩ | ⟨l1, l2⟩
              · rcases jz_both hA2 hF2 t ht with ⟨m1, m2, m3⟩ | ⟨m1, m2⟩
                · rw [m3] at z2
                  omega
                · omega
              · omega
          · refine br_f (by decide) ⟨rfl, rfl⟩
        · rw [Int32.le_iff_toInt_le] at h1
          refine Y1 _ f (br_f jz_10 (Y2 _ f (br_f jz_10 (Y3 _ f (br_f jz_10 (br_f g1 (br_f g2 ?_)))))))
          refine jq_dist hs ht hws hwt _ f (fun f1 hF1 => ⟨fun z1 => ?_, fun z1 => ?_⟩)
          · refine br_t (by rw [Int32.le_iff_toInt_le, jb_i0]; exact z1) ⟨jq_in hc, ?_⟩
            rw [jb_n1, jb_n0]
            refine nm_e ?_
            refine jq_dist hs ht hs2 ht2 _ f1 (fun f2 hF2 => ⟨fun z2 => ?_, fun z2 => ?_⟩)
            · refine ⟨jq_in hc, nm_r (jq_undo hwc) (br_f ?_ (br_f ?_ ⟨rfl, rfl⟩))⟩
              · rw [Int32.lt_iff_toInt_lt, jb_i0]
                omega
              · rw [Int32.le_iff_toInt_le]
                rcases jz_both hA1 hF1 t ht with ⟨l1, l2, l3⟩ | ⟨l1, l2⟩
                · rcases jz_both hA2 hF2 t ht with ⟨m1, m2, m3⟩ | ⟨m1, m2⟩
                  · rw [l3, m3]
                    exact h1
                  · omega
                · omega
            · exact ⟨jq_in hc, nm_r (jq_undo hwc) (br_t (by decide) ⟨rfl, rfl⟩)⟩
          · exfalso
            have := (hA2 t ht).2.1
            rcases jz_both hA1 hF1 t ht with ⟨l1, l2, l3⟩ | ⟨l1, l2⟩
            · rw [l3] at z1
              omega
            · omega
      · exact X1 _ a cl (br_f jz_10 (X2 _ a cl (br_f jz_10 (X3 _ a cl (br_t rfl (Y1 _ f (br_f jz_10 (Y2 _ f (br_f jz_10 (Y3 _ f (br_t rfl ⟨rfl, rfl⟩)))))))))))
    · exact X1 _ a cl (br_f jz_10 (X2 _ a cl (br_t rfl (Y1 _ f (br_f jz_10 (Y2 _ f (br_t rfl ⟨rfl, rfl⟩)))))))
  · exact X1 _ a cl (br_t rfl (Y1 _ f (br_t rfl ⟨rfl, rfl⟩)))
end
section
/-! the questions that look at every cell: farthest, reach, at -/
def js_B (a f : Nat → Int32) : Prop := ∀ c, c < 144 → ((a c).toInt < 1000000 ∧ 0 ≤ (a c).toInt ∧ f c = a c) ∨ ((a c).toInt = 1000000 ∧ (f c).toInt = -1)
theorem js_nf {x : Int32} (h : x.toInt < 1000000) : ¬ (1000000 : Int32) ≤ x := by
  rw [Int32.le_iff_toInt_le, jb_far]
  omega
theorem js_f {x : Int32} (h : x.toInt = 1000000) : (1000000 : Int32) ≤ x := by
  rw [Int32.le_iff_toInt_le, jb_far, h]
  omega
theorem js_n0 {x : Int32} (h : 0 ≤ x.toInt) : ¬ x < 0 := by
  rw [Int32.lt_iff_toInt_lt, jb_i0]
  omega
theorem js_0 {x : Int32} (h : x.toInt = -1) : x < 0 := by
  rw [Int32.lt_iff_toInt_lt, jb_i0, h]
  omega
theorem js_1 {a f : Nat → Int32} (B : js_B a f) {i : Nat} (hi : i < 144) (h : (a i).toInt < 1000000) : f i = a i := by
  rcases B i hi with ⟨_, _, b⟩ | ⟨b, _⟩
  · exact b
  · omega
theorem js_2 {a f : Nat → Int32} (B : js_B a f) {i : Nat} (hi : i < 144) (h : (a i).toInt = 1000000) : (f i).toInt = -1 := by
  rcases B i hi with ⟨b, _, _⟩ | ⟨_, b⟩
  · omega
  · exact b
def js_A (a : Nat → Int32) : Prop := ∀ c, c < 144 → ((a c).toInt < 1000000 ∧ 0 ≤ (a c).toInt) ∨ (a c).toInt = 1000000
theorem js_AF {b : Nat → Int32} {s : Nat} {a : Nat → Int32} (h : jd_F b s a) : js_A a := by
  intro c hc
  obtain ⟨h0, h1, _, _⟩ := h c hc
  omega
theorem js_far {w a cl : Nat → Int32} (A : js_A a) : ∀ (e i : Nat), i + e = 144 → ∀ x : Int32, 0 ≤ x.toInt → ∃ r : Int32,
    (∀ post : Int32 → SX → Prop, post r (w, a, cl) → wX_farthest_20 post w a cl (e + 1) x (nI i)) ∧ (∀ f, js_B a f → ∀ post : Int32 → SY → Prop, post r (w, f) → wY_farthest_19 post w f (e + 1) x (nI i)) := by
  intro e
  induction e with
  | zero =>
    intro i hi x hx
    have h : (144 : Int32) ≤ nI i := nI_le (a := 144) (by omega) (by omega)
    exact ⟨x, fun _ hp => br_t h hp, fun _ _ _ hp => br_t h hp⟩
  | succ e ih =>
    intro i hi x hx
    have hc : i < 144 := by omega
    have hn : ¬ (144 : Int32) ≤ nI i := nI_ge (b := 144) hc (by omega)
    have hin := jq_in hc
    have ec := jq_cl hc
    rcases A i hc with ⟨b1, b2⟩ | b1
    · by_cases hle : a i ≤ x
      · obtain ⟨r, hX, hY⟩ := ih (i + 1) (by omega) x hx
        refine ⟨r, fun post hp => br_f hn ⟨hin, ?_⟩, fun f B post hp => br_f hn ⟨hin, ?_⟩⟩
        · rw [ec]
          exact br_f (js_nf b1) ⟨hin, br_t hle (nm_r (nI_1 i) (hX post hp))⟩
        · rw [ec, js_1 B hc b1]
          exact br_t hle (nm_r (nI_1 i) (hY f B post hp))
      · obtain ⟨r, hX, hY⟩ := ih (i + 1) (by omega) (a i) b2
        refine ⟨r, fun post hp => br_f hn ⟨hin, ?_⟩, fun f B post hp => br_f hn ⟨hin, ?_⟩⟩
        · rw [ec]
          exact br_f (js_nf b1) ⟨hin, br_f hle ⟨hin, nm_e (nm_r (nI_1 i) (hX post hp))⟩⟩
        · rw [ec, js_1 B hc b1]
          exact br_f hle ⟨hin, nm_e (nm_r (nI_1 i) (hY f B post hp))⟩
    · obtain ⟨r, hX, hY⟩ := ih (i + 1) (by omega) x hx
      refine ⟨r, fun post hp => br_f hn ⟨hin, ?_⟩, fun f B post hp => br_f hn ⟨hin, ?_⟩⟩
      · rw [ec]
        exact br_t (js_f b1) (nm_r (nI_1 i) (hX post hp))
      · rw [ec]
        refine br_t ?_ (nm_r (nI_1 i) (hY f B post hp))
        rw [Int32.le_iff_toInt_le, js_2 B hc b1]
        omega
theorem js_reach {w a cl : Nat → Int32} (A : js_A a) : ∀ (e i : Nat), i + e = 144 → ∀ x : Int32, ∃ r : Int32,
    (∀ post : Int32 → SX → Prop, post r (w, a, cl) → wX_reach_20 post w a cl (e + 1) x (nI i)) ∧ (∀ f, js_B a f → ∀ post : Int32 → SY → Prop, post r (w, f) → wY_reach_19 post w f (e + 1) x (nI i)) := by
  intro e
  induction e with
  | zero =>
    intro i hi x
    have h : (144 : Int32) ≤ nI i := nI_le (a := 144) (by omega) (by omega)
    exact ⟨x, fun _ hp => br_t h hp, fun _ _ _ hp => br_t h hp⟩
  | succ e ih =>
    intro i hi x
    have hc : i < 144 := by omega
    have hn : ¬ (144 : Int32) ≤ nI i := nI_ge (b := 144) hc (by omega)
    have hin := jq_in hc
    have ec := jq_cl hc
    rcases A i hc with ⟨b1, b2⟩ | b1
    · obtain ⟨r, hX, hY⟩ := ih (i + 1) (by omega) (x + 1)
      refine ⟨r, fun post hp => br_f hn ⟨hin, ?_⟩, fun f B post hp => br_f hn ⟨hin, ?_⟩⟩
      · rw [ec]
        exact br_f (js_nf b1) (nm_e (nm_r (nI_1 i) (hX post hp)))
      · rw [ec, js_1 B hc b1]
        exact br_f (js_n0 b2) (nm_e (nm_r (nI_1 i) (hY f B post hp)))
    · obtain ⟨r, hX, hY⟩ := ih (i + 1) (by omega) x
      refine ⟨r, fun post hp => br_f hn ⟨hin, ?_⟩, fun f B post hp => br_f hn ⟨hin, ?_⟩⟩
      · rw [ec]
        exact br_t (js_f b1) (nm_r (nI_1 i) (hX post hp))
      · rw [ec]
        exact br_t (js_0 (js_2 B hc b1)) (nm_r (nI_1 i) (hY f B post hp))
theorem js_at {w a cl : Nat → Int32} (y : Int32) (A : js_A a) : ∀ (e i : Nat), i + e = 144 → ∃ r : Int32,
    (∀ post : Int32 → SX → Prop, post r (w, a, cl) → wX_at_18 post y w a cl (e + 1) (nI i)) ∧ (∀ f, js_B a f → ∀ post : Int32 → SY → Prop, post r (w, f) → wY_at_17 post y w f (e + 1) (nI i)) := by
  intro e
  induction e with
  | zero =>
    intro i hi
    have h : (144 : Int32) ≤ nI i := nI_le (a := 144) (by omega) (by omega)
    exact ⟨-2, fun _ hp => br_t h hp, fun _ _ _ hp => br_t h hp⟩
  | succ e ih =>
    intro i hi
    have hc : i < 144 := by omega
    have hn : ¬ (144 : Int32) ≤ nI i := nI_ge (b := 144) hc (by omega)
    have hin := jq_in hc
    have ec := jq_cl hc
    obtain ⟨r, hX, hY⟩ := ih (i + 1) (by omega)
    rcases A i hc with ⟨b1, b2⟩ | b1
    · by_cases z : a i = y
      · refine ⟨nI i, fun post hp => br_f hn ⟨hin, ?_⟩, fun f B post hp => br_f hn ⟨hin, ?_⟩⟩
        · rw [ec]
          exact br_f (js_nf b1) ⟨hin, br_t z hp⟩
        · rw [ec, js_1 B hc b1]
          exact br_f (js_n0 b2) ⟨hin, br_t z hp⟩
      · refine ⟨r, fun post hp => br_f hn ⟨hin, ?_⟩, fun f B post hp => br_f hn ⟨hin, ?_⟩⟩
        · rw [ec]
          exact br_f (js_nf b1) ⟨hin, br_f z (nm_r (nI_1 i) (hX post hp))⟩
        · rw [ec, js_1 B hc b1]
          exact br_f (js_n0 b2) ⟨hin, br_f z (nm_r (nI_1 i) (hY f B post hp))⟩
    · refine ⟨r, fun post hp => br_f hn ⟨hin, ?_⟩, fun f B post hp => br_f hn ⟨hin, ?_⟩⟩
      · rw [ec]
        exact br_t (js_f b1) (nm_r (nI_1 i) (hX post hp))
      · rw [ec]
        exact br_t (js_0 (js_2 B hc b1)) (nm_r (nI_1 i) (hY f B post hp))
theorem i_vc_farthest {k : Nat} {u : SX} {v : SY} (I : i_Rel k u v) (hk : k + 4 ≤ 2048) (v1 : Int32) : wpX_farthest (fun r u' => wpY_farthest (fun r' v' => r' = r ∧ i_Rel (k + 4) u' v') v v1) u v1 := by
  obtain ⟨w, a, cl⟩ := u
  obtain ⟨w', f⟩ := v
  have e : w = w' := I
  subst e
  unfold wpX_farthest wpY_farthest
  dsimp only
  rcases jz_free w v1 with ⟨s, hs, rfl, hws, X1, Y1⟩ | ⟨X1, Y1⟩
  · refine X1 _ a cl (br_f jz_10 ?_)
    refine jx_measure hs hws _ w a cl (-1) (jq_no w) (fun a' cl' hA => ?_)
    dsimp only
    obtain ⟨r, hX, hY⟩ := js_far (w := w) (cl := cl') (js_AF hA) 144 0 rfl 0 (by rw [jb_i0]; omega)
    refine ⟨_, hX _ (Y1 _ f (br_f jz_10 ?_))⟩
    refine jy_search hs hws _ f (fun f' hF => ?_)
    exact ⟨_, hY f' (jz_both hA hF) _ ⟨rfl, rfl⟩⟩
  · exact X1 _ a cl (br_t rfl (Y1 _ f (br_t rfl ⟨rfl, rfl⟩)))
theorem i_vc_reach {k : Nat} {u : SX} {v : SY} (I : i_Rel k u v) (hk : k + 4 ≤ 2048) (v1 : Int32) : wpX_reach (fun r u' => wpY_reach (fun r' v' => r' = r ∧ i_Rel (k + 4) u' v') v v1) u v1 := by
  obtain ⟨w, a, cl⟩ := u
  obtain ⟨w', f⟩ := v
  have e : w = w' := I
  subst e
  unfold wpX_reach wpY_reach
  dsimp only
  rcases jz_free w v1 with ⟨s, hs, rfl, hws, X1, Y1⟩ | ⟨X1, Y1⟩
  · refine X1 _ a cl (br_f jz_10 ?_)
    refine jx_measure hs hws _ w a cl (-1) (jq_no w) (fun a' cl' hA => ?_)
    dsimp only
    obtain ⟨r, hX, hY⟩ := js_reach (w := w) (cl := cl') (js_AF hA) 144 0 rfl 0
    refine ⟨_, hX _ (Y1 _ f (br_f jz_10 ?_))⟩
    refine jy_search hs hws _ f (fun f' hF => ?_)
    exact ⟨_, hY f' (jz_both hA hF) _ ⟨rfl, rfl⟩⟩
  · exact X1 _ a cl (br_t rfl (Y1 _ f (br_t rfl ⟨rfl, rfl⟩)))
theorem i_vc_at {k : Nat} {u : SX} {v : SY} (I : i_Rel k u v) (hk : k + 4 ≤ 2048) (v1 : Int32) (v2 : Int32) : wpX_at (fun r u' => wpY_at (fun r' v' => r' = r ∧ i_Rel (k + 4) u' v') v v1 v2) u v1 v2 := by
  obtain ⟨w, a, cl⟩ := u
  obtain ⟨w', f⟩ := v
  have e : w = w' := I
  subst e
  unfold wpX_at wpY_at
  dsimp only
  rcases jz_free w v1 with ⟨s, hs, rfl, hws, X1, Y1⟩ | ⟨X1, Y1⟩
  · refine X1 _ a cl (br_f jz_10 ?_)
    refine jx_measure hs hws _ w a cl (-1) (jq_no w) (fun a' cl' hA => ?_)
    dsimp only
    obtain ⟨r, hX, hY⟩ := js_at (w := w) (cl := cl') v2 (js_AF hA) 144 0 rfl
    refine ⟨_, hX _ (Y1 _ f (br_f jz_10 ?_))⟩
    refine jy_search hs hws _ f (fun f' hF => ?_)
    exact ⟨_, hY f' (jz_both hA hF) _ ⟨rfl, rfl⟩⟩
  · exact X1 _ a cl (br_t rfl (Y1 _ f (br_t rfl ⟨rfl, rfl⟩)))
end
