/-! ===== what is owed: the methods that only answer ===== -/
theorem i_vc_alive {k : Nat} {u : SX} {v : SY} (I : i_Rel k u v) (hk : k + 3 ≤ 1536) (v1 : Int32) : wpX_alive (fun r => wpY_alive (fun r' v' => r' = r ∧ i_Rel (k + 3) u v') v v1) u v1 := by
  obtain ⟨ro, sz, rf⟩ := u
  obtain ⟨sy, rt, rs, fo, gu⟩ := v
  obtain ⟨h1, h2, h3⟩ := I
  have h1 : sz = sy := h1
  subst h1
  unfold wpX_alive wpY_alive
  dsimp only
  rcases kt_ob v1 with b | ⟨j, hj, rfl⟩
  · exact kt_Xio0 b (br_t rfl (kt_Yba1 b (br_f (by decide) ⟨rfl, rfl, h2, h3⟩)))
  · refine kt_Xio1 hj (br_f (by decide) ?_)
    refine kt_Xal (a := 16) (fun i hi => kt_no hi) (fun w hw => ?_)
    refine kt_Xbo (by omega) ?_
    rw [hw j hj]
    refine kt_Yba0 hj (br_t rfl (kt_Yia h2 h3 hj (fun fo' => ?_)))
    refine kt_br _ rfl (fun f => ⟨?_, rfl, h2, h3⟩) (fun g => ⟨?_, rfl, h2, h3⟩)
    · rw [f]; rfl
    · rw [g]; rfl
theorem i_vc_keeper {k : Nat} {u : SX} {v : SY} (I : i_Rel k u v) (hk : k + 3 ≤ 1536) (v1 : Int32) : wpX_keeper (fun r => wpY_keeper (fun r' v' => r' = r ∧ i_Rel (k + 3) u v') v v1) u v1 := by
  obtain ⟨ro, sz, rf⟩ := u
  obtain ⟨sy, rt, rs, fo, gu⟩ := v
  obtain ⟨h1, h2, h3⟩ := I
  have h1 : sz = sy := h1
  subst h1
  unfold wpX_keeper wpY_keeper
  dsimp only
  rcases kt_ob v1 with b | ⟨j, hj, rfl⟩
  · exact kt_Xio0 b (br_t rfl (kt_Yba1 b (br_f (by decide) ⟨rfl, rfl, h2, h3⟩)))
  · refine kt_Xio1 hj (br_f (by decide) ?_)
    refine kt_Xgo hj (fun w hw x2 e2 => ?_)
    refine kt_Xlg (kt_s (kt_G (bt ro) (kt_e rf)) j j true) (fun i hi => ?_) ?_
    · rw [e2, b_and, kt_not _ hi, kt_sh1 (by omega) hi, hw i hi]
      unfold kt_s
      rw [Bool.and_self, Bool.true_and, Bool.and_assoc]
    · refine kt_Yba0 hj (br_t rfl (kt_Yga h2 h3 (fun fo' gu' hf hg => ?_)))
      exact kt_Yla hg hj hj true rfl ⟨rfl, rfl, h2, h3⟩
theorem i_vc_held {k : Nat} {u : SX} {v : SY} (I : i_Rel k u v) (hk : k + 3 ≤ 1536) (v1 : Int32) : wpX_held (fun r => wpY_held (fun r' v' => r' = r ∧ i_Rel (k + 3) u v') v v1) u v1 := by
  obtain ⟨ro, sz, rf⟩ := u
  obtain ⟨sy, rt, rs, fo, gu⟩ := v
  obtain ⟨h1, h2, h3⟩ := I
  have h1 : sz = sy := h1
  subst h1
  unfold wpX_held wpY_held
  dsimp only
  rcases kt_ob v1 with b | ⟨j, hj, rfl⟩
  · exact kt_Xio0 b (br_t rfl (kt_Yba1 b (br_f (by decide) ⟨rfl, rfl, h2, h3⟩)))
  · refine kt_Xio1 hj (br_f (by decide) ?_)
    refine kt_Xgb hj (fun w hw => ?_)
    refine kt_Xsz (kt_G (bt ro) (kt_e rf) j) hw ?_
    refine kt_Yba0 hj (br_t rfl (kt_Yga h2 h3 (fun fo' gu' hf hg => ?_)))
    exact kt_Yhb hg hj ⟨rfl, rfl, h2, h3⟩
theorem i_vc_guards {k : Nat} {u : SX} {v : SY} (I : i_Rel k u v) (hk : k + 3 ≤ 1536) (v1 : Int32) (v2 : Int32) : wpX_guards (fun r => wpY_guards (fun r' v' => r' = r ∧ i_Rel (k + 3) u v') v v1 v2) u v1 v2 := by
  obtain ⟨ro, sz, rf⟩ := u
  obtain ⟨sy, rt, rs, fo, gu⟩ := v
  obtain ⟨h1, h2, h3⟩ := I
  have h1 : sz = sy := h1
  subst h1
  unfold wpX_guards wpY_guards
  dsimp only
  rcases kt_ob v1 with b | ⟨j, hj, rfl⟩
  · exact kt_Xio0 b (br_t rfl (kt_Yba1 b (br_f (by decide) ⟨rfl, rfl, h2, h3⟩)))
  · refine kt_Xio1 hj (br_f (by decide) ?_)
    rcases kt_ob v2 with b | ⟨t, ht, rfl⟩
    · exact kt_Xio0 b (br_t rfl (kt_Yba0 hj (br_t rfl (kt_Yba1 b (br_f (by decide) ⟨rfl, rfl, h2, h3⟩)))))
    · refine kt_Xio1 ht (br_f (by decide) ?_)
      refine kt_Xgb hj (fun w hw => ?_)
      refine kt_Xbo (by omega) ?_
      rw [hw t ht]
      refine kt_Yba0 hj (br_t rfl (kt_Yba0 ht (br_t rfl (kt_Yig h2 h3 hj ht (fun fo' => ?_)))))
      refine kt_br _ rfl (fun f => ⟨?_, rfl, h2, h3⟩) (fun g => ⟨?_, rfl, h2, h3⟩)
      · rw [f]; rfl
      · rw [g]; rfl
theorem i_vc_depth {k : Nat} {u : SX} {v : SY} (I : i_Rel k u v) (hk : k + 3 ≤ 1536) (v1 : Int32) : wpX_depth (fun r => wpY_depth (fun r' v' => r' = r ∧ i_Rel (k + 3) u v') v v1) u v1 := by
  obtain ⟨ro, sz, rf⟩ := u
  obtain ⟨sy, rt, rs, fo, gu⟩ := v
  obtain ⟨h1, h2, h3⟩ := I
  have h1 : sz = sy := h1
  subst h1
  unfold wpX_depth wpY_depth
  dsimp only
  rcases kt_ob v1 with b | ⟨j, hj, rfl⟩
  · exact kt_Xio0 b (br_t rfl (kt_Yba1 b (br_f (by decide) ⟨rfl, rfl, h2, h3⟩)))
  · refine kt_Xio1 hj (br_f (by decide) ?_)
    refine kt_Xgo hj (fun w hw => ?_)
    refine kt_Xco (fun k => kt_G (bt ro) (kt_e rf) k j) (fun i hi => by rw [hw i (by omega), decide_eq_true hi]; rfl) ?_
    refine kt_Yba0 hj (br_t rfl (kt_Yga h2 h3 (fun fo' gu' hf hg => ⟨17, ?_⟩)))
    exact kt_Yd18 hg hj 16 0 0 rfl ⟨rfl, rfl, h2, h3⟩
theorem i_vc_common {k : Nat} {u : SX} {v : SY} (I : i_Rel k u v) (hk : k + 3 ≤ 1536) (v1 : Int32) (v2 : Int32) : wpX_common (fun r => wpY_common (fun r' v' => r' = r ∧ i_Rel (k + 3) u v') v v1 v2) u v1 v2 := by
  obtain ⟨ro, sz, rf⟩ := u
  obtain ⟨sy, rt, rs, fo, gu⟩ := v
  obtain ⟨h1, h2, h3⟩ := I
  have h1 : sz = sy := h1
  subst h1
  unfold wpX_common wpY_common
  dsimp only
  rcases kt_ob v1 with b | ⟨j, hj, rfl⟩
  · exact kt_Xio0 b (br_t rfl (kt_Yba1 b (br_f (by decide) ⟨rfl, rfl, h2, h3⟩)))
  · refine kt_Xio1 hj (br_f (by decide) ?_)
    rcases kt_ob v2 with b | ⟨t, ht, rfl⟩
    · exact kt_Xio0 b (br_t rfl (kt_Yba0 hj (br_t rfl (kt_Yba1 b (br_f (by decide) ⟨rfl, rfl, h2, h3⟩)))))
    · refine kt_Xio1 ht (br_f (by decide) ?_)
      refine kt_Xgo hj (fun w hw => kt_Xgo ht (fun w2 hw2 x3 e3 => ?_))
      refine kt_Xlg (kt_s (kt_G (bt ro) (kt_e rf)) j t false) (fun i hi => ?_) ?_
      · rw [e3, b_and, hw i hi, hw2 i hi]
        unfold kt_s
        cases decide (i < 16) <;> simp
      · refine kt_Yba0 hj (br_t rfl (kt_Yba0 ht (br_t rfl (kt_Yga h2 h3 (fun fo' gu' hf hg => ?_)))))
        exact kt_Yla hg hj ht false rfl ⟨rfl, rfl, h2, h3⟩
theorem i_vc_heaviest {k : Nat} {u : SX} {v : SY} (I : i_Rel k u v) (hk : k + 3 ≤ 1536) : wpX_heaviest (fun r => wpY_heaviest (fun r' v' => r' = r ∧ i_Rel (k + 3) u v') v) u := by
  obtain ⟨ro, sz, rf⟩ := u
  obtain ⟨sy, rt, rs, fo, gu⟩ := v
  obtain ⟨h1, h2, h3⟩ := I
  have h1 : sz = sy := h1
  subst h1
  unfold wpX_heaviest wpY_heaviest
  dsimp only
  refine ⟨17, kt_Xh6 16 0 (-1) (-1) rfl ?_⟩
  refine kt_Yga h2 h3 (fun fo' gu' hf hg => ⟨17, ?_⟩)
  exact kt_Yh10 hg 16 0 (-1) (-1) rfl ⟨rfl, rfl, h2, h3⟩
theorem i_vc_total {k : Nat} {u : SX} {v : SY} (I : i_Rel k u v) (hk : k + 3 ≤ 1536) : wpX_total (fun r => wpY_total (fun r' v' => r' = r ∧ i_Rel (k + 3) u v') v) u := by
  obtain ⟨ro, sz, rf⟩ := u
  obtain ⟨sy, rt, rs, fo, gu⟩ := v
  obtain ⟨h1, h2, h3⟩ := I
  have h1 : sz = sy := h1
  subst h1
  unfold wpX_total wpY_total
  dsimp only
  refine kt_Xal (a := 16) (fun i hi => kt_no hi) (fun w hw => ?_)
  refine kt_Xsz (kt_A (bt ro) (kt_e rf) 16) hw ?_
  refine kt_Yfi 16 kt_xm1 h2 h3 (fun fo' hf => ⟨17, ?_⟩)
  exact kt_Yt9 hf 16 0 0 rfl ⟨rfl, rfl, h2, h3⟩
