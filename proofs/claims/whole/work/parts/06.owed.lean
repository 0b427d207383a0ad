/-! ===== single calls ===== -/
theorem kt_Xio1 {post : Int32 → Prop} {j : Nat} (hj : j < 16) (hp : post 1) : wpX_isObject post (nI j) := br_f (nI_pos (by omega)) (br_f (kt_ge16 hj) hp)
theorem kt_Xio0 {post : Int32 → Prop} {v : Int32} (h : v < 0 ∨ nI 16 ≤ v) (hp : post 0) : wpX_isObject post v := by
  by_cases c : v < 0
  · exact br_t c hp
  · rcases h with h | h
    · exact absurd h c
    · exact br_f c (br_t h hp)
theorem kt_Yba0 {post : Int32 → Prop} {j : Nat} (hj : j < 16) (hp : post 0) : wpY_bad post (nI j) := br_f (nI_pos (by omega)) (br_t (nI_le (b := 15) (by omega) (by decide)) hp)
theorem kt_Yba1 {post : Int32 → Prop} {v : Int32} (h : v < 0 ∨ nI 16 ≤ v) (hp : post 1) : wpY_bad post v := by
  by_cases c : v < 0
  · exact br_t c hp
  · rcases h with h | h
    · exact absurd h c
    · refine br_f c (br_f (fun z => ?_) hp)
      exact absurd (Int32.le_trans h z) (by decide)
theorem kt_ob (v : Int32) : (v < 0 ∨ nI 16 ≤ v) ∨ ∃ j : Nat, j < 16 ∧ v = nI j := by
  rcases pk_ix v (n := 16) (by decide) with h | h | h
  · exact Or.inl (Or.inl h)
  · exact Or.inl (Or.inr h)
  · exact Or.inr h
theorem kt_Xbo {post : Int32 → Prop} {x : Int32} {i : Nat} (hi : i < 32) (hp : post (kt_I (bt x i))) : wpX_bitOf post x (nI i) := by
  unfold wpX_bitOf
  rw [kt_bit x hi]
  exact hp
theorem kt_Yia {post : Int32 → SY → Prop} {sz rt rs fo gu : Nat → Int32} {r : Nat → Bool} {e : Nat → Nat → Bool} (hrt : kt_rep 16 rt r) (hrs : kt_rep 256 rs (fun m => e (m / 16) (m % 16))) {o : Nat} (ho : o < 16) (hp : ∀ fo, post (kt_I (kt_A r e 16 o)) (sz, rt, rs, fo, gu)) : wpY_isAlive post (sz, rt, rs, fo, gu) (nI o) := by
  unfold wpY_isAlive
  dsimp only
  refine kt_Yfi 16 kt_xm1 hrt hrs (fun fo' hf => ?_)
  have e := kt_at hf o rfl ho (by omega)
  dsimp only
  rw [e]
  exact ⟨vp_in_nI ho (by omega), kt_nn _, hp fo'⟩
theorem kt_Yig {post : Int32 → SY → Prop} {sz rt rs fo gu : Nat → Int32} {r : Nat → Bool} {e : Nat → Nat → Bool} (hrt : kt_rep 16 rt r) (hrs : kt_rep 256 rs (fun m => e (m / 16) (m % 16))) {k o : Nat} (hk : k < 16) (ho : o < 16) (hp : ∀ fo, post (kt_I (kt_G r e k o)) (sz, rt, rs, fo, gu)) : wpY_isGuard post (sz, rt, rs, fo, gu) (nI k) (nI o) := by
  unfold wpY_isGuard
  dsimp only
  refine kt_Yia hrt hrs ho (fun fo1 => ?_)
  dsimp only
  refine kt_Yfi k (kt_xk hk) hrt hrs (fun fo2 hf => ?_)
  have hp := hp fo2
  unfold kt_G at hp
  refine kt_br (kt_A r e 16 o) rfl (fun f => ?_) (fun t => ⟨vp_in_nI ho (by omega), ?_⟩)
  · rw [f] at hp; exact hp
  · refine kt_br (kt_A r e k o) (kt_at hf o rfl ho (by omega)) (fun f => ?_) (fun t2 => ?_)
    · rw [t, f] at hp; exact hp
    · rw [t, t2] at hp; exact hp
theorem kt_flip {rf rs : Nat → Int32} (h : kt_rep 256 rs (fun m => kt_e rf (m / 16) (m % 16))) {j t : Nat} (hj : j < 16) (ht : t < 16) : kt_rep 256 (upd rs ((16 * nI j) + nI t).toNatClampNeg (kt_I (!(bt (rf j) t)))) (fun m => kt_e (upd rf j ((rf j) ^^^ ((1 : Int32) <<< (nI t &&& 31)))) (m / 16) (m % 16)) := by
  refine kt_rep_c (kt_put h (16 * j + t) (!(bt (rf j) t)) (kt_ix j t) (by omega) rfl) (fun m hm => ?_)
  show (if m = 16 * j + t then !(bt (rf j) t) else bt (rf (m / 16)) (m % 16)) = bt (upd rf j ((rf j) ^^^ ((1 : Int32) <<< (nI t &&& 31))) (m / 16)) (m % 16)
  by_cases z : m = 16 * j + t
  · have e1 : m / 16 = j := by omega
    have e2 : m % 16 = t := by omega
    rw [if_pos z, e1, e2, pk_us, b_xor, kt_sh1 (by omega) (by omega), decide_eq_true rfl, Bool.xor_true]
  · rw [if_neg z]
    by_cases w : m / 16 = j
    · have e2 : ¬ m % 16 = t := by omega
      rw [w, pk_us, b_xor, kt_sh1 (by omega) (by omega), decide_eq_false e2, Bool.xor_false]
    · rw [pk_un w]
theorem kt_flb (x : Int32) {t : Nat} (ht : t < 16) : bt (x ^^^ ((1 : Int32) <<< (nI t &&& 31))) t = !(bt x t) := by
  rw [b_xor, kt_sh1 (by omega) (by omega), decide_eq_true rfl, Bool.xor_true]
/-! ===== what is owed ===== -/
def i_Rel (_ : Nat) (u : SX) (v : SY) : Prop := u.2.1 = v.1 ∧ kt_rep 16 v.2.1 (bt u.1) ∧ kt_rep 256 v.2.2.1 (fun m => kt_e u.2.2 (m / 16) (m % 16))
theorem i_up {k : Nat} {u : SX} {v : SY} (h : i_Rel k u v) : i_Rel (k + 3) u v := h
theorem i_vc0 : wpX_init (fun u => wpY_init (fun v => i_Rel 0 u v)) := by
  refine ⟨rfl, fun i _ => ?_, fun i _ => ?_⟩
  · show 0 = kt_I (bt 0 i)
    rw [b_0]; rfl
  · show 0 = kt_I (bt 0 (i % 16))
    rw [b_0]; rfl
theorem i_vc_setSize {k : Nat} {u : SX} {v : SY} (I : i_Rel k u v) (hk : k + 3 ≤ 1536) (v1 : Int32) (v2 : Int32) : wpX_setSize (fun r u' => wpY_setSize (fun r' v' => r' = r ∧ i_Rel (k + 3) u' v') v v1 v2) u v1 v2 := by
  obtain ⟨ro, sz, rf⟩ := u
  obtain ⟨sy, rt, rs, fo, gu⟩ := v
  obtain ⟨h1, h2, h3⟩ := I
  have h1 : sz = sy := h1
  subst h1
  unfold wpX_setSize wpY_setSize
  dsimp only
  rcases kt_ob v1 with b | ⟨j, hj, rfl⟩
  · exact kt_Xio0 b (br_t rfl (kt_Yba1 b (br_f (by decide) ⟨rfl, rfl, h2, h3⟩)))
  · have ii : vp_in (nI j) 16 := vp_in_nI hj (by omega)
    refine kt_Xio1 hj (br_f (by decide) ⟨ii, ?_⟩)
    intro x e
    by_cases c0 : 0 ≤ v2
    · by_cases c1 : v2 ≤ 1000
      · refine br_t c0 (br_t c1 ⟨ii, fun a ea => ?_⟩)
        refine kt_Yba0 hj (br_t rfl ⟨ii, fun y ey => ?_⟩)
        exact br_t c0 (br_t c1 ⟨ii, fun a2 ea2 => ⟨ey.trans e.symm, ea.trans ea2.symm, h2, h3⟩⟩)
      · refine br_t c0 (br_f c1 ⟨ii, fun a ea => ?_⟩)
        refine kt_Yba0 hj (br_t rfl ⟨ii, fun y ey => ?_⟩)
        exact br_t c0 (br_f c1 ⟨ii, fun a2 ea2 => ⟨ey.trans e.symm, ea.trans ea2.symm, h2, h3⟩⟩)
    · refine br_f c0 ⟨ii, fun a ea => ?_⟩
      refine kt_Yba0 hj (br_t rfl ⟨ii, fun y ey => ?_⟩)
      exact br_f c0 ⟨ii, fun a2 ea2 => ⟨ey.trans e.symm, ea.trans ea2.symm, h2, h3⟩⟩
theorem i_vc_flip {k : Nat} {u : SX} {v : SY} (I : i_Rel k u v) (hk : k + 3 ≤ 1536) (v1 : Int32) (v2 : Int32) : wpX_flip (fun r u' => wpY_flip (fun r' v' => r' = r ∧ i_Rel (k + 3) u' v') v v1 v2) u v1 v2 := by
  obtain ⟨ro, sz, rf⟩ := u
  obtain ⟨sy, rt, rs, fo, gu⟩ := v
  obtain ⟨h1, h2, h3⟩ := I
  have h1 : sz = sy := h1
  subst h1
  unfold wpX_flip wpY_flip
  dsimp only
  rcases kt_ob v1 with b | ⟨j, hj, rfl⟩
  · exact kt_Xio0 b (br_t rfl (kt_Yba1 b (br_f (by decide) ⟨rfl, rfl, h2, h3⟩)))
  · have ii : vp_in (nI j) 16 := vp_in_nI hj (by omega)
    refine kt_Xio1 hj (br_f (by decide) ?_)
    rcases kt_ob v2 with b | ⟨t, ht, rfl⟩
    · exact kt_Xio0 b (br_t rfl (kt_Yba0 hj (br_t rfl (kt_Yba1 b (br_f (by decide) ⟨rfl, rfl, h2, h3⟩)))))
    · refine kt_Xio1 ht (br_f (by decide) ⟨ii, ii, fun rf' e => ⟨ii, ?_⟩⟩)
      rw [nI_clamp (show j < 2 ^ 31 by omega)] at e
      rw [nI_clamp (show j < 2 ^ 31 by omega)]
      refine kt_Xbo (by omega) ?_
      have e1 : bt (rf' j) t = !(bt (rf j) t) := by rw [e, pk_us, kt_flb _ ht]
      rw [e1]
      refine kt_Yba0 hj (br_t rfl (kt_Yba0 ht (br_t rfl ⟨kt_gin hj ht, ?_⟩)))
      have go : ∀ z0 : Int32, vp_nar .boolean z0 = kt_I (!(bt (rf j) t)) → wY_flip_46 (fun r' v' => r' = kt_I (!(bt (rf j) t)) ∧ i_Rel (k + 3) (ro, sz, rf') v') (nI j) (nI t) z0 ((16 * nI j) + nI t) sz rt rs fo gu := by
        intro z0 hz
        refine ⟨kt_gin hj ht, fun rs' er => ⟨kt_gin hj ht, ?_⟩⟩
        rw [hz] at er
        have R : i_Rel (k + 3) (ro, sz, rf') (sz, rt, rs', fo, gu) := by
          refine ⟨rfl, h2, ?_⟩
          rw [e, er]
          exact kt_flip h3 hj ht
        have v : rs' ((16 * nI j) + nI t).toNatClampNeg = kt_I (!(bt (rf j) t)) := by rw [er, pk_us]
        refine kt_br _ v (fun f => ⟨?_, R⟩) (fun g => ⟨?_, R⟩)
        · rw [f]; rfl
        · rw [g]; rfl
      have v : rs ((16 * nI j) + nI t).toNatClampNeg = kt_I (bt (rf j) t) := kt_gat h3 hj ht
      refine kt_br _ v (fun f => go 1 ?_) (fun g => go 0 ?_)
      · rw [f]; exact kt_n1
      · rw [g]; exact kt_n0
theorem kt_rtC {ro : Int32} {rt : Nat → Int32} (h : kt_rep 16 rt (bt ro)) {j : Nat} (hj : j < 16) {v : Int32} (hv : v = kt_I false) : kt_rep 16 (upd rt (nI j).toNatClampNeg v) (bt (ro &&& (((1 : Int32) <<< (nI j &&& 31)) ^^^ (-1)))) := by
  refine kt_rep_c (kt_put h j false rfl (by omega) hv) (fun i hi => ?_)
  show (if i = j then false else bt ro i) = _
  rw [b_and, kt_not _ (by omega), kt_sh1 (by omega) (by omega)]
  by_cases z : i = j
  · rw [if_pos z, decide_eq_true z]; simp
  · rw [if_neg z, decide_eq_false z]; simp
theorem kt_rtS {ro : Int32} {rt : Nat → Int32} (h : kt_rep 16 rt (bt ro)) {j : Nat} (hj : j < 16) {v : Int32} (hv : v = kt_I true) : kt_rep 16 (upd rt (nI j).toNatClampNeg v) (bt (ro ||| ((1 : Int32) <<< (nI j &&& 31)))) := by
  refine kt_rep_c (kt_put h j true rfl (by omega) hv) (fun i hi => ?_)
  show (if i = j then true else bt ro i) = _
  rw [b_or, kt_sh1 (by omega) (by omega)]
  by_cases z : i = j
  · rw [if_pos z, decide_eq_true z]; simp
  · rw [if_neg z, decide_eq_false z]; simp
theorem i_vc_setRoot {k : Nat} {u : SX} {v : SY} (I : i_Rel k u v) (hk : k + 3 ≤ 1536) (v1 : Int32) (v2 : Int32) : wpX_setRoot (fun r u' => wpY_setRoot (fun r' v' => r' = r ∧ i_Rel (k + 3) u' v') v v1 (lw_bz v2)) u v1 (lw_bz v2) := by
  obtain ⟨ro, sz, rf⟩ := u
  obtain ⟨sy, rt, rs, fo, gu⟩ := v
  obtain ⟨h1, h2, h3⟩ := I
  have h1 : sz = sy := h1
  subst h1
  unfold wpX_setRoot wpY_setRoot
  dsimp only
  rcases kt_ob v1 with b | ⟨j, hj, rfl⟩
  · exact kt_Xio0 b (br_t rfl (kt_Yba1 b (br_f (by decide) ⟨rfl, rfl, h2, h3⟩)))
  · have ii : vp_in (nI j) 16 := vp_in_nI hj (by omega)
    refine kt_Xio1 hj (br_f (by decide) ?_)
    refine kt_Xbo (by omega) ?_
    have v : rt (nI j).toNatClampNeg = kt_I (bt ro j) := kt_at h2 j rfl hj (by omega)
    rcases lw_bz_01 v2 with z | z
    · rw [z]
      refine br_t rfl (fun ro' er => ?_)
      have R : ∀ rt', rt' = upd rt (nI j).toNatClampNeg (vp_nar .boolean 0) → i_Rel (k + 3) (ro', sz, rf) (sz, rt', rs, fo, gu) := fun rt' et => by
        refine ⟨rfl, ?_, h3⟩
        rw [er, et]
        exact kt_rtC h2 hj kt_n0
      refine kt_Yba0 hj (br_t rfl ⟨ii, ?_⟩)
      refine kt_br _ v (fun f => ⟨ii, fun rt' et => ⟨?_, R rt' et⟩⟩) (fun g => ⟨ii, fun rt' et => ⟨?_, R rt' et⟩⟩)
      · rw [f]; rfl
      · rw [g]; rfl
    · rw [z]
      refine br_f (by decide) (fun ro' er => ?_)
      have R : ∀ rt', rt' = upd rt (nI j).toNatClampNeg (vp_nar .boolean 1) → i_Rel (k + 3) (ro', sz, rf) (sz, rt', rs, fo, gu) := fun rt' et => by
        refine ⟨rfl, ?_, h3⟩
        rw [er, et]
        exact kt_rtS h2 hj kt_n1
      refine kt_Yba0 hj (br_t rfl ⟨ii, ?_⟩)
      refine kt_br _ v (fun f => ⟨ii, fun rt' et => ⟨?_, R rt' et⟩⟩) (fun g => ⟨ii, fun rt' et => ⟨?_, R rt' et⟩⟩)
      · rw [f]; rfl
      · rw [g]; rfl
