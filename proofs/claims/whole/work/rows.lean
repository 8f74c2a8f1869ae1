section
/-! rows pasted from the kit's rows (pk_*), then numbers -/
theorem pk_us {f : Nat → Int32} {k : Nat} {x : Int32} : upd f k x k = x := if_pos rfl
theorem pk_un {f : Nat → Int32} {k j : Nat} {x : Int32} (h : j ≠ k) : upd f k x j = f j := if_neg h
theorem pk_sub {a b : Nat} (h : b ≤ a) : nI a - nI b = nI (a - b) := by
  obtain ⟨c, rfl⟩ : ∃ c, a = c + b := ⟨a - b, by omega⟩
  rw [← nI_add, Int32.add_sub_cancel, Nat.add_sub_cancel]
theorem pk_m1 (n : Nat) : nI (n + 1) + (-1) = nI n := by
  rw [← nI_1, Int32.add_assoc, show (1 : Int32) + (-1) = 0 from rfl, Int32.add_zero]
theorem pk_mul (a b : Nat) : nI a * nI b = nI (a * b) := (Int32.ofNat_mul a b).symm
theorem pk_div {a d : Nat} (ha : a < 2 ^ 31) (h0 : 0 < d) (hd : d < 2 ^ 31) : nI a / nI d = nI (a / d) := by
  apply Int32.toInt_inj.mp
  rw [lg_idiv_nonneg (by rw [nI_toInt ha]; omega) (by rw [nI_toInt hd]; omega), nI_toInt ha, nI_toInt hd, nI_toInt (Nat.lt_of_le_of_lt (Nat.div_le_self a d) ha)]
  first | rfl | exact (Int.natCast_ediv _ _).symm
theorem pk_rem {a d : Nat} (ha : a < 2 ^ 31) (h0 : 0 < d) (hd : d < 2 ^ 31) : nI a - nI a / nI d * nI d = nI (a % d) := by
  rw [pk_div ha h0 hd, pk_mul, pk_sub (Nat.div_mul_le_self a d)]
  exact congrArg nI (by have := Nat.div_add_mod' a d; omega)
theorem pk_ix (x : Int32) {n : Nat} (hn : n < 2 ^ 31) : x < 0 ∨ nI n ≤ x ∨ ∃ j : Nat, j < n ∧ x = nI j := by
  by_cases h : x < 0
  · exact Or.inl h
  · obtain ⟨j, hj, rfl⟩ := nI_of h
    by_cases h2 : j < n
    · exact Or.inr (Or.inr ⟨j, h2, rfl⟩)
    · exact Or.inr (Or.inl (nI_le (by omega) hj))
theorem pk_le {x y : Int32} {A B : Prop} (a b : Nat) (f : a ≤ b → A) (g : b < a → B) (hx : x = nI a := by rfl) (hy : y = nI b := by rfl) (ha : a < 2 ^ 31 := by omega) (hb : b < 2 ^ 31 := by omega) : (x ≤ y → A) ∧ (¬ x ≤ y → B) := by
  subst hx hy
  rw [nI_leI ha hb]
  exact ⟨f, fun z => g (by omega)⟩
theorem pk_lt {x y : Int32} {A B : Prop} (a b : Nat) (f : a < b → A) (g : b ≤ a → B) (hx : x = nI a := by rfl) (hy : y = nI b := by rfl) (ha : a < 2 ^ 31 := by omega) (hb : b < 2 ^ 31 := by omega) : (x < y → A) ∧ (¬ x < y → B) := by
  subst hx hy
  rw [nI_ltI ha hb]
  exact ⟨f, fun z => g (by omega)⟩
theorem pk_eq {x y : Int32} {A B : Prop} (a b : Nat) (f : a = b → A) (g : a ≠ b → B) (hx : x = nI a := by rfl) (hy : y = nI b := by rfl) (ha : a < 2 ^ 31 := by omega) (hb : b < 2 ^ 31 := by omega) : (x = y → A) ∧ (¬ x = y → B) := by
  subst hx hy
  rw [nI_eq ha hb]
  exact ⟨f, g⟩
theorem pk_in {x : Int32} (n N : Nat) (h : n < N) (hx : x = nI n := by rfl) (hN : N < 2 ^ 31 := by omega) : vp_in x N := by
  subst hx
  exact vp_in_nI h hN
theorem pk_cl {x : Int32} (n : Nat) (hx : x = nI n := by rfl) (h : n < 2 ^ 31 := by omega) : x.toNatClampNeg = n := by
  subst hx
  exact nI_clamp h
theorem pk_tn {n : Nat} (h : n < 2 ^ 32) : (nI n).toBitVec.toNat = n := Nat.mod_eq_of_lt h
theorem pk_and (x : Int32) {m : Int32} (k : Nat) (hm : m.toBitVec.toNat = 2 ^ k - 1) : x &&& m = nI (x.toBitVec.toNat % 2 ^ k) := by
  apply Int32.toBitVec_inj.mp
  apply BitVec.eq_of_toNat_eq
  rw [Int32.toBitVec_and, BitVec.toNat_and, hm, Nat.and_two_pow_sub_one_eq_mod]
  show _ = (BitVec.ofNat 32 _).toNat
  rw [BitVec.toNat_ofNat]
  exact (Nat.mod_eq_of_lt (Nat.lt_of_le_of_lt (Nat.mod_le _ _) x.toBitVec.isLt)).symm
theorem pk_andN {n : Nat} (h : n < 2 ^ 32) {m : Int32} (k : Nat) (hm : m.toBitVec.toNat = 2 ^ k - 1) : nI n &&& m = nI (n % 2 ^ k) := by
  rw [pk_and _ k hm, pk_tn h]
theorem pk_shr (a s : Int32) (k : Nat) (hs : (s.toBitVec.smod 32).toNat = k) : (a >>> s).toInt = a.toInt >>> k := by
  show (a.toBitVec.sshiftRight (s.toBitVec.smod 32).toNat).toInt = _
  rw [hs, BitVec.toInt_sshiftRight]
  rfl
theorem pk_shrN {n : Nat} (h : n < 2 ^ 31) (s : Int32) (k : Nat) (hs : (s.toBitVec.smod 32).toNat = k) : nI n >>> s = nI (n / 2 ^ k) := by
  apply Int32.toInt_inj.mp
  have h2 : n / 2 ^ k ≤ n := Nat.div_le_self _ _
  rw [pk_shr _ _ k hs, nI_toInt h, nI_toInt (by omega), Int.shiftRight_eq_div_pow]
  rfl
theorem jb_n0 : vp_nar .boolean 0 = 0 := by decide
theorem jb_n1 : vp_nar .boolean 1 = 1 := by decide
theorem jb_bz (v : Int32) : vp_nar .boolean (lw_bz v) = lw_bz v := by
  unfold vp_nar
  rw [lw_bz_n]
theorem jb_i0 : (0 : Int32).toInt = 0 := by decide
theorem jb_im1 : (-1 : Int32).toInt = -1 := by decide
theorem jb_i10 : (10 : Int32).toInt = 10 := by decide
theorem jb_i14 : (14 : Int32).toInt = 14 := by decide
theorem jb_far : (1000000 : Int32).toInt = 1000000 := by decide
theorem jb_add {x z : Int32} (h1 : -1 ≤ x.toInt) (h2 : x.toInt ≤ 1000000) (h3 : 0 ≤ z.toInt) (h4 : z.toInt ≤ 14) : (x + z).toInt = x.toInt + z.toInt := by
  rw [Int32.toInt_add]
  exact Int.bmod_eq_of_le (by omega) (by omega)
theorem jb_up (p : Nat) : nI p + (-1) + 1 = nI (p + 1) + (-1) := by
  rw [pk_m1, Int32.add_assoc, show (-1 : Int32) + 1 = 0 from rfl, Int32.add_zero]
/-- a place off by one: either minus one, or the natural number -/
theorem jb_offY (m j : Nat) (h : 1 ≤ m + j) : nI m + nI j - 1 = nI (m + j - 1) := by
  obtain ⟨t, e⟩ : ∃ t, m + j = t + 1 := ⟨m + j - 1, by omega⟩
  rw [nI_add, e, nI_pred]
  rfl
theorem jb_offX (m j : Nat) (h : 1 ≤ m + j) : nI m + (nI j + (-1)) = nI (m + j - 1) := by
  obtain ⟨t, e⟩ : ∃ t, m + j = t + 1 := ⟨m + j - 1, by omega⟩
  rw [← Int32.add_assoc, nI_add, e, pk_m1]
  rfl
theorem jb_updT (a : Nat → Int32) (c i : Nat) (v : Int32) : (upd a c v i).toInt = if i = c then v.toInt else (a i).toInt := by
  unfold upd
  split <;> rfl
theorem jb_updS {a : Nat → Int32} {c : Nat} {v : Int32} (h : a c = v) : upd a c v = a := by
  funext j
  unfold upd
  split
  · rename_i e
    rw [e, h]
  · rfl
/-- both sides hold the same walls -/
def i_Rel (_ : Nat) (u : SX) (v : SY) : Prop := u.1 = v.1
theorem i_up {k : Nat} {u : SX} {v : SY} (h : i_Rel k u v) : i_Rel (k + 4) u v := h
theorem i_vc0 : wpX_init (fun u => wpY_init (fun v => i_Rel 0 u v)) := rfl
end
section
/-! steps and walks over the grid; what a measure by nearest cells keeps; what sweeps keep -/
def jp_E (u v : Nat) (d : Int) : Prop := u < 144 ∧ v < 144 ∧ u ≠ v ∧ v % 12 ≤ u % 12 + 1 ∧ u % 12 ≤ v % 12 + 1 ∧ v / 12 ≤ u / 12 + 1 ∧ u / 12 ≤ v / 12 + 1 ∧ ((u % 12 = v % 12 ∨ u / 12 = v / 12) → d = 10) ∧ (¬ (u % 12 = v % 12 ∨ u / 12 = v / 12) → d = 14)
/-- a walk of n steps and length L from s to c -/
def jp_W (b : Nat → Int32) (s : Nat) : Nat → Nat → Int → Prop
  | 0 => fun c L => c = s ∧ L = 0
  | n + 1 => fun c L => ∃ (u : Nat) (d : Int), jp_W b s n u (L - d) ∧ jp_E u c d ∧ b c = 0
/-- the place of v among the nine around c -/
def jp_k (c v : Nat) : Nat := 3 * (v / 12 + 1 - c / 12) + (v % 12 + 1 - c % 12)
theorem jp_E_d {u v : Nat} {d : Int} (h : jp_E u v d) : 10 ≤ d ∧ d ≤ 14 := by
  obtain ⟨_, _, _, _, _, _, _, h1, h2⟩ := h
  by_cases z : (u % 12 = v % 12 ∨ u / 12 = v / 12)
  · have := h1 z
    omega
  · have := h2 z
    omega
theorem jp_k9 {u v : Nat} {d : Int} (h : jp_E u v d) : jp_k u v < 9 := by
  obtain ⟨_, _, _, h1, h2, h3, h4, _, _⟩ := h
  unfold jp_k
  omega
theorem jp_k9' {u v : Nat} {d : Int} (h : jp_E u v d) : jp_k v u < 9 := by
  obtain ⟨_, _, _, h1, h2, h3, h4, _, _⟩ := h
  unfold jp_k
  omega
theorem jp_W_len {b : Nat → Int32} {s : Nat} : ∀ (n c : Nat) (L : Int), jp_W b s n c L → 0 ≤ L ∧ L ≤ 14 * n := by
  intro n
  induction n with
  | zero =>
    intro c L h
    have := h.2
    omega
  | succ n ih =>
    intro c L h
    obtain ⟨u, d, hw, he, _⟩ := h
    have h1 := ih u _ hw
    have h2 := jp_E_d he
    omega
theorem jp_W_cell {b : Nat → Int32} {s : Nat} (hs : s < 144) (h0 : b s = 0) : ∀ (n c : Nat) (L : Int), jp_W b s n c L → c < 144 ∧ b c = 0 := by
  intro n c L h
  cases n with
  | zero =>
    rw [h.1]
    exact ⟨hs, h0⟩
  | succ n =>
    obtain ⟨u, d, _, he, hb⟩ := h
    exact ⟨he.2.1, hb⟩
theorem jp_W_step {b : Nat → Int32} {s n u c : Nat} {L d : Int} (h : jp_W b s n u L) (e : jp_E u c d) (hb : b c = 0) : jp_W b s (n + 1) c (L + d) := ⟨u, d, by rw [Int.add_sub_cancel]; exact h, e, hb⟩
/-- how many of the first n are open -/
def jp_cnt (cl : Nat → Int32) : Nat → Nat
  | 0 => 0
  | n + 1 => jp_cnt cl n + (if cl n = 0 then 1 else 0)
theorem jp_cnt_le (cl : Nat → Int32) : ∀ n, jp_cnt cl n ≤ n := by
  intro n
  induction n with
  | zero => exact Nat.le_refl 0
  | succ n ih =>
    unfold jp_cnt
    split <;> omega
theorem jp_cnt_0 (cl : Nat → Int32) : ∀ n, jp_cnt cl n = 0 → ∀ i, i < n → ¬ cl i = 0 := by
  intro n
  induction n with
  | zero => intro _ i hi; omega
  | succ n ih =>
    intro h i hi
    unfold jp_cnt at h
    by_cases e : i = n
    · subst e
      intro z
      rw [if_pos z] at h
      omega
    · exact ih (by omega) i (by omega)
theorem jp_cnt_far (cl : Nat → Int32) (c : Nat) (x : Int32) : ∀ n, n ≤ c → jp_cnt (upd cl c x) n = jp_cnt cl n := by
  intro n
  induction n with
  | zero => intro _; rfl
  | succ n ih =>
    intro h
    unfold jp_cnt
    rw [ih (by omega), pk_un (show n ≠ c by omega)]
theorem jp_cnt_upd (cl : Nat → Int32) (c : Nat) (hc : cl c = 0) : ∀ n, c < n → jp_cnt (upd cl c 1) n + 1 = jp_cnt cl n := by
  intro n
  induction n with
  | zero => intro h; omega
  | succ n ih =>
    intro h
    unfold jp_cnt
    by_cases e : n = c
    · subst e
      rw [jp_cnt_far cl n 1 n (Nat.le_refl n), pk_us, if_pos hc, if_neg (by decide)]
    · have := ih (by omega)
      rw [pk_un e]
      omega
/-- what the measure by nearest cells keeps: k rounds done, b the cells that are shut from the start -/
def jd_I (b : Nat → Int32) (s k : Nat) (a cl : Nat → Int32) : Prop :=
  (∀ i, i < 144 → ¬ b i = 0 → ¬ cl i = 0) ∧
  (∀ i, i < 144 → 0 ≤ (a i).toInt ∧ (a i).toInt ≤ 1000000) ∧
  (∀ i, i < 144 → (a i).toInt < 1000000 → ∃ n, n ≤ k ∧ jp_W b s n i (a i).toInt) ∧
  (∀ (u v : Nat) (d : Int), jp_E u v d → b u = 0 → ¬ cl u = 0 → b v = 0 → (a v).toInt ≤ (a u).toInt + d) ∧
  (∀ u v : Nat, u < 144 → b u = 0 → ¬ cl u = 0 → v < 144 → cl v = 0 → (a u).toInt ≤ (a v).toInt) ∧
  (a s).toInt = 0 ∧
  (∀ u, u < 144 → b u = 0 → ¬ cl u = 0 → (a u).toInt < 1000000) ∧
  k + jp_cnt cl 144 ≤ 144
/-- what steps to the first m of the nine around c do -/
def jd_S (c m : Nat) (a cl a' : Nat → Int32) : Prop :=
  (∀ i, i < 144 → (a' i).toInt ≤ (a i).toInt) ∧
  (∀ (v : Nat) (d : Int), jp_E c v d → jp_k c v < m → cl v = 0 → (a' v).toInt ≤ (a c).toInt + d) ∧
  (∀ i, i < 144 → a' i = a i ∨ (cl i = 0 ∧ ∃ d : Int, jp_E c i d ∧ (a' i).toInt = (a c).toInt + d))
/-- what a measure answers -/
def jd_F (b : Nat → Int32) (s : Nat) (a : Nat → Int32) : Prop :=
  ∀ c, c < 144 → 0 ≤ (a c).toInt ∧ (a c).toInt ≤ 1000000 ∧ ((a c).toInt < 1000000 → ∃ n, n ≤ 144 ∧ jp_W b s n c (a c).toInt) ∧ (∀ (n : Nat) (L : Int), jp_W b s n c L → (a c).toInt ≤ L ∧ (a c).toInt < 1000000)
theorem jd_next {b : Nat → Int32} {s k c : Nat} {a cl a' : Nat → Int32} (hs : s < 144) (I : jd_I b s k a cl) (hc : c < 144) (ho : cl c = 0) (hf : (a c).toInt < 1000000)
    (hm : ∀ v, v < 144 → cl v = 0 → (a c).toInt ≤ (a v).toInt) (S : jd_S c 9 a (upd cl c 1) a') : jd_I b s (k + 1) a' (upd cl c 1) := by
  obtain ⟨I0, IV, I1, I2, I3, I4, I5, I6⟩ := I
  obtain ⟨S1, S2, S3⟩ := S
  have hbc : b c = 0 := Classical.byContradiction fun z => I0 c hc z ho
  have huc : ¬ upd cl c 1 c = 0 := by rw [pk_us]; decide
  have hnc : ∀ i, i ≠ c → upd cl c 1 i = cl i := fun i h => pk_un h
  have hcl : ∀ i, ¬ cl i = 0 → ¬ upd cl c 1 i = 0 := by
    intro i hi
    by_cases e : i = c
    · rw [e]; exact huc
    · rw [hnc i e]; exact hi
  -- a closed cell keeps its value
  have hk : ∀ i, i < 144 → ¬ upd cl c 1 i = 0 → a' i = a i := by
    intro i hi z
    cases S3 i hi with
    | inl h => exact h
    | inr h => exact absurd h.1 z
  have hac : a' c = a c := hk c hc huc
  refine ⟨fun i hi z => hcl i (I0 i hi z), ?_, ?_, ?_, ?_, ?_, ?_, ?_⟩
  · intro i hi
    have h1 := S1 i hi
    have h2 := IV i hi
    have h3 := IV c hc
    refine ⟨?_, by omega⟩
    cases S3 i hi with
    | inl h => rw [h]; exact h2.1
    | inr h =>
      obtain ⟨_, d, he, hd⟩ := h
      have := jp_E_d he
      omega
  · intro i hi hlt
    cases S3 i hi with
    | inl h =>
      rw [h] at hlt ⊢
      obtain ⟨n, hn, hw⟩ := I1 i hi hlt
      exact ⟨n, by omega, hw⟩
    | inr h =>
      obtain ⟨hoi, d, he, hd⟩ := h
      obtain ⟨n, hn, hw⟩ := I1 c hc hf
      have hbi : b i = 0 := Classical.byContradiction fun z => hcl i (I0 i hi z) hoi
      rw [hd]
      exact ⟨n + 1, by omega, jp_W_step hw he hbi⟩
  · intro u v d he hbu hcu hbv
    have hu := he.1
    have hv := he.2.1
    have hd := jp_E_d he
    rw [hk u hu hcu]
    by_cases e : u = c
    · subst e
      by_cases z : upd cl u 1 v = 0
      · exact S2 v d he (jp_k9 he) z
      · rw [hk v hv z]
        have hne : v ≠ u := fun q => he.2.2.1 q.symm
        rw [hnc v hne] at z
        have := I3 v u hv hbv z hu ho
        omega
    · rw [hnc u e] at hcu
      have h1 := I2 u v d he hbu hcu hbv
      have h2 := S1 v hv
      omega
  · intro u v hu hbu hcu hv hov
    rw [hk u hu hcu]
    have hvc : v ≠ c := fun q => huc (q ▸ hov)
    have hov' : cl v = 0 := by rw [← hnc v hvc]; exact hov
    have h0 : (a u).toInt ≤ (a c).toInt := by
      by_cases e : u = c
      · rw [e]; exact Int.le_refl _
      · rw [hnc u e] at hcu
        exact I3 u c hu hbu hcu hc ho
    cases S3 v hv with
    | inl h =>
      rw [h]
      have := hm v hv hov'
      omega
    | inr h =>
      obtain ⟨_, d, he, hd⟩ := h
      have := jp_E_d he
      omega
  · have h1 := S1 s hs
    cases S3 s hs with
    | inl h => rw [h]; exact I4
    | inr h =>
      obtain ⟨_, d, he, hd⟩ := h
      have := jp_E_d he
      have := IV c hc
      omega
  · intro u hu hbu hcu
    rw [hk u hu hcu]
    by_cases e : u = c
    · rw [e]; exact hf
    · rw [hnc u e] at hcu
      exact I5 u hu hbu hcu
  · have := jp_cnt_upd cl c ho 144 hc
    omega
theorem jd_end {b : Nat → Int32} {s k : Nat} {a cl : Nat → Int32} (hs : s < 144) (h0 : b s = 0) (I : jd_I b s k a cl) (hk : k ≤ 144) (hf : ∀ i, i < 144 → cl i = 0 → 1000000 ≤ (a i).toInt) : jd_F b s a := by
  obtain ⟨I0, IV, I1, I2, I3, I4, I5, I6⟩ := I
  have hC : ∀ (n c : Nat) (L : Int), jp_W b s n c L → (a c).toInt ≤ L ∧ (a c).toInt < 1000000 := by
    intro n
    induction n with
    | zero =>
      intro c L h
      rw [h.1, h.2, I4]
      omega
    | succ n ih =>
      intro c L h
      obtain ⟨u, d, hw, he, hb⟩ := h
      have h1 := ih u _ hw
      have hu := he.1
      have hbu := (jp_W_cell hs h0 n u _ hw).2
      have hcu : ¬ cl u = 0 := fun z => by
        have := hf u hu z
        omega
      have h2 := I2 u c d he hbu hcu hb
      obtain ⟨m, hm, hwm⟩ := I1 u hu h1.2
      have h3 := jp_W_len m u _ hwm
      have h4 := jp_E_d he
      omega
  intro c hc
  refine ⟨(IV c hc).1, (IV c hc).2, fun h => ?_, fun n L h => hC n c L h⟩
  obtain ⟨n, hn, hw⟩ := I1 c hc h
  exact ⟨n, by omega, hw⟩
theorem jd_start {b : Nat → Int32} {s : Nat} {a cl : Nat → Int32} (hs : s < 144) (h0 : b s = 0) (ha : ∀ i, i < 144 → a i = 1000000) (hcl : ∀ i, i < 144 → (cl i = 0 ↔ b i = 0)) : jd_I b s 0 (upd a s 0) cl := by
  have hv : ∀ i, i < 144 → i ≠ s → (upd a s 0 i).toInt = 1000000 := by
    intro i hi e
    rw [pk_un e, ha i hi, jb_far]
  have h00 : (upd a s 0 s).toInt = 0 := by rw [pk_us, jb_i0]
  have hall : ∀ i, i < 144 → b i = 0 → ¬ cl i = 0 → False := fun i hi h1 h2 => h2 ((hcl i hi).mpr h1)
  refine ⟨fun i hi z q => z ((hcl i hi).mp q), ?_, ?_, fun u v d he h1 h2 _ => (hall u he.1 h1 h2).elim, fun u v hu h1 h2 _ _ => (hall u hu h1 h2).elim, h00, fun u hu h1 h2 => (hall u hu h1 h2).elim, ?_⟩
  · intro i hi
    by_cases e : i = s
    · rw [e, h00]
      omega
    · rw [hv i hi e]
      omega
  · intro i hi hlt
    by_cases e : i = s
    · rw [e, h00]
      exact ⟨0, Nat.le_refl 0, rfl, rfl⟩
    · rw [hv i hi e] at hlt
      omega
  · have := jp_cnt_le cl 144
    omega
theorem jd_full {b : Nat → Int32} {s k : Nat} {a cl : Nat → Int32} (I : jd_I b s k a cl) (hk : 144 ≤ k) : ∀ i, i < 144 → cl i = 0 → 1000000 ≤ (a i).toInt := by
  intro i hi z
  have h := I.2.2.2.2.2.2.2
  exact absurd z (jp_cnt_0 cl 144 (by omega) i hi)
end
