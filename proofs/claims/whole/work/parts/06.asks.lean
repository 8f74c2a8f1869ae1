/-! the questions: distance, nearer, vital, farthest, reach, at -/
theorem jq_no (w : Nat → Int32) : ∀ i, i < 144 → (w i = 0 ↔ (w i = 0 ∧ ¬ nI i = -1)) := by
  intro i hi
  refine ⟨fun h => ⟨h, fun e => ?_⟩, fun h => h.1⟩
  have := nI_pos (n := i) (by omega)
  rw [e] at this
  exact this (by decide)
theorem jq_in {c : Nat} (hc : c < 144) : vp_in (nI c) 144 := vp_in_nI hc (by omega)
theorem jq_cl {c : Nat} (hc : c < 144) : (nI c).toNatClampNeg = c := nI_clamp (by omega)
theorem i_vc_distance {k : Nat} {u : SX} {v : SY} (I : i_Rel k u v) (hk : k + 4 ≤ 2048) (v1 : Int32) (v2 : Int32) : wpX_distance (fun r u' => wpY_distance (fun r' v' => r' = r ∧ i_Rel (k + 4) u' v') v v1 v2) u v1 v2 := by
  obtain ⟨w, a, cl⟩ := u
  obtain ⟨w', f⟩ := v
  have e : w = w' := I
  subst e
  unfold wpX_distance wpY_distance
  dsimp only
  rcases jz_free w v1 with ⟨s, hs, rfl, hws, X1, Y1⟩ | ⟨X1, Y1⟩
  · rcases jz_free w v2 with ⟨t, ht, rfl, hwt, X2, Y2⟩ | ⟨X2, Y2⟩
    · refine X1 _ a cl (br_f jz_10 (X2 _ a cl (br_f jz_10 ?_)))
      refine jx_measure hs hws _ w a cl (-1) (jq_no w) (fun a' cl' hA => ?_)
      dsimp only
      refine ⟨jq_in ht, ?_⟩
      rw [jq_cl ht]
      refine br_c (fun h1 => ?_) (fun h1 => ⟨jq_in ht, ?_⟩)
      · refine Y1 _ f (br_f jz_10 (Y2 _ f (br_f jz_10 ?_)))
        refine jy_search hs hws _ f (fun f' hF => ?_)
        dsimp only
        refine ⟨jq_in ht, ?_⟩
        rw [Int32.le_iff_toInt_le, jb_far] at h1
        rcases jz_both hA hF t ht with ⟨l1, l2, l3⟩ | ⟨l1, l2⟩
        · omega
        · refine br_f (fun z => ?_) ⟨rfl, rfl⟩
          rw [Int32.le_iff_toInt_le, jb_i0, l2] at z
          omega
      · refine Y1 _ f (br_f jz_10 (Y2 _ f (br_f jz_10 ?_)))
        refine jy_search hs hws _ f (fun f' hF => ?_)
        dsimp only
        refine ⟨jq_in ht, ?_⟩
        rw [Int32.le_iff_toInt_le, jb_far] at h1
        rcases jz_both hA hF t ht with ⟨l1, l2, l3⟩ | ⟨l1, l2⟩
        · rw [l3]
          refine br_t ?_ ⟨jq_in ht, rfl, rfl⟩
          rw [Int32.le_iff_toInt_le, jb_i0]
          exact l2
        · omega
    · exact X1 _ a cl (br_f jz_10 (X2 _ a cl (br_t rfl (Y1 _ f (br_f jz_10 (Y2 _ f (br_t rfl ⟨rfl, rfl⟩)))))))
  · exact X1 _ a cl (br_t rfl (Y1 _ f (br_t rfl ⟨rfl, rfl⟩)))
theorem i_vc_nearer {k : Nat} {u : SX} {v : SY} (I : i_Rel k u v) (hk : k + 4 ≤ 2048) (v1 : Int32) (v2 : Int32) (v3 : Int32) : wpX_nearer (fun r u' => wpY_nearer (fun r' v' => r' = r ∧ i_Rel (k + 4) u' v') v v1 v2 v3) u v1 v2 v3 := by
  obtain ⟨w, a, cl⟩ := u
  obtain ⟨w', f⟩ := v
  have e : w = w' := I
  subst e
  unfold wpX_nearer wpY_nearer
  dsimp only
  rcases jz_free w v1 with ⟨s, hs, rfl, hws, X1, Y1⟩ | ⟨X1, Y1⟩
  · rcases jz_free w v2 with ⟨p, hp, rfl, hwp, X2, Y2⟩ | ⟨X2, Y2⟩
    · rcases jz_free w v3 with ⟨q, hq, rfl, hwq, X3, Y3⟩ | ⟨X3, Y3⟩
      · refine X1 _ a cl (br_f jz_10 (X2 _ a cl (br_f jz_10 (X3 _ a cl (br_f jz_10 ?_)))))
        refine jx_measure hs hws _ w a cl (-1) (jq_no w) (fun a' cl' hA => ?_)
        dsimp only
        refine ⟨jq_in hq, jq_in hp, ?_⟩
        rw [jq_cl hp, jq_cl hq]
        refine br_c (fun h1 => ?_) (fun h1 => ?_)
        · refine Y1 _ f (br_f jz_10 (Y2 _ f (br_f jz_10 (Y3 _ f (br_f jz_10 ?_)))))
          refine jy_search hs hws _ f (fun f' hF => ?_)
          dsimp only
          refine ⟨jq_in hq, ?_⟩
          rw [Int32.le_iff_toInt_le] at h1
          rcases jz_both hA hF q hq with ⟨l1, l2, l3⟩ | ⟨l1, l2⟩
          · rcases jz_both hA hF p hp with ⟨m1, m2, m3⟩ | ⟨m1, m2⟩
            · refine br_f ?_ ⟨jq_in hp, br_f ?_ ⟨jq_in hq, jq_in hp, br_t ?_ ⟨rfl, rfl⟩⟩⟩
              · rw [Int32.lt_iff_toInt_lt, jb_i0, l3]
                omega
              · rw [Int32.lt_iff_toInt_lt, jb_i0, m3]
                omega
              · rw [Int32.le_iff_toInt_le, l3, m3]
                exact h1
            · omega
          · refine br_t ?_ ⟨rfl, rfl⟩
            rw [Int32.lt_iff_toInt_lt, jb_i0, l2]
            omega
        · refine Y1 _ f (br_f jz_10 (Y2 _ f (br_f jz_10 (Y3 _ f (br_f jz_10 ?_)))))
          refine jy_search hs hws _ f (fun f' hF => ?_)
          dsimp only
          refine ⟨jq_in hq, ?_⟩
          rw [Int32.le_iff_toInt_le] at h1
          rcases jz_both hA hF q hq with ⟨l1, l2, l3⟩ | ⟨l1, l2⟩
          · rcases jz_both hA hF p hp with ⟨m1, m2, m3⟩ | ⟨m1, m2⟩
            · refine br_f ?_ ⟨jq_in hp, br_f ?_ ⟨jq_in hq, jq_in hp, br_f ?_ ⟨rfl, rfl⟩⟩⟩
              · rw [Int32.lt_iff_toInt_lt, jb_i0, l3]
                omega
              · rw [Int32.lt_iff_toInt_lt, jb_i0, m3]
                omega
              · rw [Int32.le_iff_toInt_le, l3, m3]
                exact h1
            · refine br_f ?_ ⟨jq_in hp, br_t ?_ ⟨rfl, rfl⟩⟩
              · rw [Int32.lt_iff_toInt_lt, jb_i0, l3]
                omega
              · rw [Int32.lt_iff_toInt_lt, jb_i0, m2]
                omega
          · have := (hA p hp).2.1
            omega
      · exact X1 _ a cl (br_f jz_10 (X2 _ a cl (br_f jz_10 (X3 _ a cl (br_t rfl (Y1 _ f (br_f jz_10 (Y2 _ f (br_f jz_10 (Y3 _ f (br_t rfl ⟨rfl, rfl⟩)))))))))))
    · exact X1 _ a cl (br_f jz_10 (X2 _ a cl (br_t rfl (Y1 _ f (br_f jz_10 (Y2 _ f (br_t rfl ⟨rfl, rfl⟩)))))))
  · exact X1 _ a cl (br_t rfl (Y1 _ f (br_t rfl ⟨rfl, rfl⟩)))
theorem jq_dist {w : Nat → Int32} {s t : Nat} (hs : s < 144) (ht : t < 144) (hws : w s = 0) (hwt : w t = 0) (post : Int32 → SY → Prop) (f : Nat → Int32)
    (h : ∀ f', jy_F w s f' → (0 ≤ (f' t).toInt → post (f' t) (w, f')) ∧ ((f' t).toInt < 0 → post (-2) (w, f'))) : wpY_distance post (w, f) (nI s) (nI t) := by
  unfold wpY_distance
  dsimp only
  refine jz_freeY hs hws _ f (br_f jz_10 (jz_freeY ht hwt _ f (br_f jz_10 ?_)))
  refine jy_search hs hws _ f (fun f' hF => ⟨jq_in ht, ?_⟩)
  dsimp only
  rw [jq_cl ht]
  obtain ⟨p1, p2⟩ := h f' hF
  refine br_c (fun z => ⟨jq_in ht, p1 ?_⟩) (fun z => p2 ?_)
  · rw [Int32.le_iff_toInt_le, jb_i0] at z
    exact z
  · rw [Int32.le_iff_toInt_le, jb_i0] at z
    omega
theorem jq_shut {w : Nat → Int32} {c : Nat} (hc : c < 144) : ∀ i, i < 144 → (upd w c 1 i = 0 ↔ (w i = 0 ∧ ¬ nI i = nI c)) := by
  intro i hi
  rw [nI_eq (by omega) (by omega)]
  by_cases e : i = c
  · rw [e, pk_us]
    exact ⟨fun h => absurd h (by decide), fun h => absurd rfl h.2⟩
  · rw [pk_un e]
    exact ⟨fun h => ⟨h, e⟩, fun h => h.1⟩
theorem jq_undo {w : Nat → Int32} {c : Nat} (h : w c = 0) : upd (upd w c 1) c 0 = w := by
  funext j
  by_cases e : j = c
  · rw [e, pk_us, h]
  · rw [pk_un e, pk_un e]
theorem i_vc_vital {k : Nat} {u : SX} {v : SY} (I : i_Rel k u v) (hk : k + 4 ≤ 2048) (v1 : Int32) (v2 : Int32) (v3 : Int32) : wpX_vital (fun r u' => wpY_vital (fun r' v' => r' = r ∧ i_Rel (k + 4) u' v') v v1 v2 v3) u v1 v2 v3 := by
  obtain ⟨w, a, cl⟩ := u
  obtain ⟨w', f⟩ := v
  have e : w = w' := I
  subst e
  unfold wpX_vital wpY_vital
  dsimp only
  rcases jz_free w v1 with ⟨s, hs, rfl, hws, X1, Y1⟩ | ⟨X1, Y1⟩
  · rcases jz_free w v2 with ⟨t, ht, rfl, hwt, X2, Y2⟩ | ⟨X2, Y2⟩
    · rcases jz_free w v3 with ⟨c, hc, rfl, hwc, X3, Y3⟩ | ⟨X3, Y3⟩
      · by_cases g1 : nI c = nI s
        · exact X1 _ a cl (br_f jz_10 (X2 _ a cl (br_f jz_10 (X3 _ a cl (br_f jz_10 (br_t g1 (Y1 _ f (br_f jz_10 (Y2 _ f (br_f jz_10 (Y3 _ f (br_f jz_10 (br_t g1 ⟨rfl, rfl⟩)))))))))))))
        by_cases g2 : nI c = nI t
        · exact X1 _ a cl (br_f jz_10 (X2 _ a cl (br_f jz_10 (X3 _ a cl (br_f jz_10 (br_f g1 (br_t g2 (Y1 _ f (br_f jz_10 (Y2 _ f (br_f jz_10 (Y3 _ f (br_f jz_10 (br_f g1 (br_t g2 ⟨rfl, rfl⟩)))))))))))))))
        have hsc : s ≠ c := fun e => g1 (by rw [e])
        have htc : t ≠ c := fun e => g2 (by rw [e])
        have hs2 : upd w c 1 s = 0 := by rw [pk_un hsc]; exact hws
        have ht2 : upd w c 1 t = 0 := by rw [pk_un htc]; exact hwt
        refine X1 _ a cl (br_f jz_10 (X2 _ a cl (br_f jz_10 (X3 _ a cl (br_f jz_10 (br_f g1 (br_f g2 ?_)))))))
        refine jx_measure hs hws _ w a cl (-1) (jq_no w) (fun a1 cl1 hA1 => ?_)
        dsimp only
        refine ⟨jq_in ht, ?_⟩
        rw [jq_cl ht, jq_cl hc]
        refine nm_e ?_
        refine jx_measure (b := upd w c 1) hs hs2 _ w a1 cl1 (nI c) (jq_shut hc) (fun a2 cl2 hA2 => ?_)
        dsimp only
        refine ⟨jq_in ht, ?_⟩
        refine br_c (fun h1 => ?_) (fun h1 => ?_)
        · rw [Int32.le_iff_toInt_le] at h1
          refine Y1 _ f (br_f jz_10 (Y2 _ f (br_f jz_10 (Y3 _ f (br_f jz_10 (br_f g1 (br_f g2 ?_)))))))
          refine jq_dist hs ht hws hwt _ f (fun f1 hF1 => ⟨fun z1 => ?_, fun z1 => ?_⟩)
          · refine br_t (by rw [Int32.le_iff_toInt_le, jb_i0]; exact z1) ⟨jq_in hc, ?_⟩
            rw [jb_n1, jb_n0]
            refine nm_e ?_
            refine jq_dist hs ht hs2 ht2 _ f1 (fun f2 hF2 => ⟨fun z2 => ?_, fun z2 => ?_⟩)
            · refine ⟨jq_in hc, nm_r (jq_undo hwc) (br_f ?_ (br_t ?_ ⟨rfl, rfl⟩))⟩
              · rw [Int32.lt_iff_toInt_lt, jb_i0]
                omega
              · rw [Int32.le_iff_toInt_le]
                rcases jz_both hA1 hF1 t ht with ⟨l1, l2, l3⟩ | ⟨l1, l2⟩
                · rcases jz_both hA2 hF2 t ht with ⟨m1, m2, m3⟩ | ⟨m1, m2⟩
                  · rw [l3, m3]
                    exact h1
                  · omega
                · omega
            · exfalso
              rcases jz_both hA1 hF1 t ht with ⟨l1, l2, l3⟩ | ⟨l1, l2⟩
              · rcases jz_both hA2 hF2 t ht with ⟨m1, m2, m3⟩ | ⟨m1, m2⟩
                · rw [m3] at z2
                  omega
                · omega
              · omega
          · refine br_f (by decide) ⟨rfl, rfl⟩
        · rw [Int32.le_iff_toInt_le] at h1
          refine Y1 _ f (br_f jz_10 (Y2 _ f (br_f jz_10 (Y3 _ f (br_f jz_10 (br_f g1 (br_f g2 ?_)))))))
          refine jq_dist hs ht hws hwt _ f (fun f1 hF1 => ⟨fun z1 => ?_, fun z1 => ?_⟩)
          · refine br_t (by rw [Int32.le_iff_toInt_le, jb_i0]; exact z1) ⟨jq_in hc, ?_⟩
            rw [jb_n1, jb_n0]
            refine nm_e ?_
            refine jq_dist hs ht hs2 ht2 _ f1 (fun f2 hF2 => ⟨fun z2 => ?_, fun z2 => ?_⟩)
            · refine ⟨jq_in hc, nm_r (jq_undo hwc) (br_f ?_ (br_f ?_ ⟨rfl, rfl⟩))⟩
              · rw [Int32.lt_iff_toInt_lt, jb_i0]
                omega
              · rw [Int32.le_iff_toInt_le]
                rcases jz_both hA1 hF1 t ht with ⟨l1, l2, l3⟩ | ⟨l1, l2⟩
                · rcases jz_both hA2 hF2 t ht with ⟨m1, m2, m3⟩ | ⟨m1, m2⟩
                  · rw [l3, m3]
                    exact h1
                  · omega
                · omega
            · exact ⟨jq_in hc, nm_r (jq_undo hwc) (br_t (by decide) ⟨rfl, rfl⟩)⟩
          · exfalso
            have := (hA2 t ht).2.1
            rcases jz_both hA1 hF1 t ht with ⟨l1, l2, l3⟩ | ⟨l1, l2⟩
            · rw [l3] at z1
              omega
            · omega
      · exact X1 _ a cl (br_f jz_10 (X2 _ a cl (br_f jz_10 (X3 _ a cl (br_t rfl (Y1 _ f (br_f jz_10 (Y2 _ f (br_f jz_10 (Y3 _ f (br_t rfl ⟨rfl, rfl⟩)))))))))))
    · exact X1 _ a cl (br_f jz_10 (X2 _ a cl (br_t rfl (Y1 _ f (br_f jz_10 (Y2 _ f (br_t rfl ⟨rfl, rfl⟩)))))))
  · exact X1 _ a cl (br_t rfl (Y1 _ f (br_t rfl ⟨rfl, rfl⟩)))
