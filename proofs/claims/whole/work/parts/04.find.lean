/-! ===== the reference's walks: find, gather ===== -/
theorem kt_ge256 {i : Nat} (h : i < 256) : ¬ (256 : Int32) ≤ nI i := nI_ge (b := 256) h (by decide)
theorem kt_le256 {i : Nat} (h : i = 256) : (256 : Int32) ≤ nI i := by subst h; exact Int32.le_refl _
theorem kt_div {i : Nat} (h : i < 256) : nI i / 16 = nI (i / 16) := pk_div (d := 16) (by omega) (by omega) (by omega)
theorem kt_rem {i : Nat} (h : i < 256) : nI i - nI i / 16 * 16 = nI (i % 16) := pk_rem (d := 16) (by omega) (by omega) (by omega)
theorem kt_16 : ¬ (16 : Int32) = 0 := by decide
theorem kt_stp1 {e : Nat → Nat → Bool} {a i : Nat} {s t : Nat → Bool} (h : kt_stp e a i s t) (h1 : e (i / 16) (i % 16) = true → i % 16 ≠ a → s (i / 16) = true → t (i % 16) = true) : kt_stp e a (i + 1) s t := by
  intro x y hx hy hm sx exy ha
  by_cases z : 16 * x + y = i
  · have z1 : i / 16 = x := by omega
    have z2 : i % 16 = y := by omega
    rw [z1, z2] at h1
    exact h1 exy ha sx
  · exact h x y hx hy (by omega) sx exy ha
theorem kt_Y58 {post : SY → Prop} {J : Int32 → Int32 → (Nat → Int32) → (Nat → Int32) → (Nat → Int32) → (Nat → Int32) → (Nat → Int32) → Prop} {x1 x3 : Int32} {sz rt rs gu : Nat → Int32} {r : Nat → Bool} {e : Nat → Nat → Bool} {a : Nat} (hx : ∀ i, i < 16 → (nI i = x1 ↔ i = a)) (hrs : kt_rep 256 rs (fun m => e (m / 16) (m % 16))) (f0 : Nat → Bool)
    (hJ : ∀ mo fo f, kt_rep 16 fo f → kt_sub f0 f → kt_snd r e a f → kt_stp e a 256 f0 f → (mo = 0 → ∀ i, i < 16 → f i = f0 i) → J mo (x3 + 1) sz rt rs fo gu) : ∀ d i mo fo f, i + d = 256 → kt_rep 16 fo f → kt_sub f0 f → kt_snd r e a f → kt_stp e a i f0 f → (mo = 0 → ∀ i, i < 16 → f i = f0 i) → wY_find_58 post J x1 x3 (d + 1) mo (nI i) sz rt rs fo gu := by
  intro d
  induction d with
  | zero =>
    intro i mo fo f hi hr hs hn ht hm
    have z : i = 256 := by omega
    subst z
    exact br_t (kt_le256 rfl) (nm_e (hJ mo fo f hr hs hn ht hm))
  | succ d ih =>
    intro i mo fo f hi hr hs hn ht hm
    have skip : (e (i / 16) (i % 16) = true → i % 16 ≠ a → f0 (i / 16) = true → f (i % 16) = true) → ∀ y : Int32, y = nI i + 1 → wY_find_58 post J x1 x3 (d + 1) mo y sz rt rs fo gu := by
      intro h1 y ey
      rw [ey, nI_1]
      exact ih (i + 1) mo fo f (by omega) hr hs hn (kt_stp1 ht h1) hm
    refine br_f (kt_ge256 (by omega)) ⟨kt_16, ?_⟩
    intro x5 e5
    rw [kt_rem (by omega)] at e5
    have ed : nI i / 16 = nI (i / 16) := kt_div (by omega)
    have i5 : vp_in x5 16 := by rw [e5]; exact vp_in_nI (by omega) (by omega)
    refine ⟨vp_in_nI (by omega) (by omega), ?_⟩
    refine kt_br (e (i / 16) (i % 16)) (kt_at hrs i rfl (by omega) (by omega)) (fun ef => ?_) (fun et => ?_)
    · exact skip (fun z => absurd z (by rw [ef]; decide))
    · refine ⟨kt_16, by rw [ed]; exact vp_in_nI (by omega) (by omega), ?_⟩
      refine kt_br (f (i / 16)) (kt_at hr (i / 16) ed (by omega) (by omega)) (fun ff => ?_) (fun ft => ?_)
      · refine skip (fun _ _ z => ?_)
        have w := hs (i / 16) (by omega) z
        rw [ff] at w
        cases w
      · refine ⟨i5, ?_⟩
        refine kt_br (f (i % 16)) (kt_at hr (i % 16) e5 (by omega) (by omega)) (fun tf => ?_) (fun tt => ?_)
        · refine ek_if (d := i % 16 = a) (by rw [e5]; exact hx _ (by omega)) (fun t => ?_) (fun n => ?_)
          · exact skip (fun _ z _ => absurd t z)
          · refine ⟨i5, ?_⟩
            intro fo' efo y ey
            rw [ey, nI_1, efo]
            have up : ∀ j, f j = true → (if j = i % 16 then true else f j) = true := by
              intro j hj
              split
              · rfl
              · exact hj
            refine ih (i + 1) 1 _ (fun j => if j = i % 16 then true else f j) (by omega) (kt_put hr (i % 16) true e5 (by omega) kt_n1) (fun j hj s => up j (hs j hj s)) (fun j hj s => ?_) (kt_stp1 (fun x y hx hy hm sx exy ha => up y (ht x y hx hy hm sx exy ha)) (fun _ _ _ => if_pos rfl)) (fun z => absurd z (by decide))
            by_cases z : j = i % 16
            · subst z
              exact kt_R1 (x := i / 16) (by omega) hj (hn (i / 16) (by omega) ft) et n
            · refine hn j hj ?_
              have w : (if j = i % 16 then true else f j) = true := s
              rw [if_neg z] at w
              exact w
        · exact skip (fun _ _ _ => tt)
theorem kt_Y43 {post : SY → Prop} {x1 : Int32} {sz rt rs gu : Nat → Int32} {r : Nat → Bool} {e : Nat → Nat → Bool} {a : Nat} (hx : ∀ i, i < 16 → (nI i = x1 ↔ i = a)) (hrs : kt_rep 256 rs (fun m => e (m / 16) (m % 16))) (hp : ∀ fo, kt_rep 16 fo (kt_A r e a) → post (sz, rt, rs, fo, gu)) : ∀ d j mo fo f, j + d = 16 → kt_rep 16 fo f → kt_Inv r e a j f → (mo = 0 → ∀ i, i < 16 → f i = kt_A r e a i) → wY_find_43 post x1 (d + 1) mo (nI j) sz rt rs fo gu := by
  intro d
  induction d with
  | zero =>
    intro j mo fo f hj hr h hm
    have z : j = 16 := by omega
    subst z
    exact br_t (kt_le16 rfl) (hp fo (kt_rep_c hr (kt_fin h)))
  | succ d ih =>
    intro j mo fo f hj hr h hm
    refine br_f (kt_ge16 (by omega)) ⟨fun z => hp fo (kt_rep_c hr (hm z)), fun z => ⟨257, ?_⟩⟩
    refine kt_Y58 (r := r) hx hrs f (fun mo' fo' f' hr' hs' hn' ht' hm' => ?_) 256 0 0 fo f rfl hr (fun _ _ z => z) h.2.1 (fun x y _ _ w => absurd w (by omega)) (fun _ _ _ => rfl)
    rw [nI_1]
    refine ih (j + 1) mo' fo' f' (by omega) hr' (kt_pass h hs' hn' ht') (fun z => ?_)
    refine kt_eqA (kt_clo h.1 h.2.1 (fun x y hx hy hm sx exy ha => ?_)) hs' hn'
    rw [← hm' z y hy]
    exact ht' x y hx hy hm sx exy ha
theorem kt_Y2 {post : SY → Prop} {x1 : Int32} {sz rt rs gu : Nat → Int32} {r : Nat → Bool} {e : Nat → Nat → Bool} {a : Nat} (hx : ∀ i, i < 16 → (nI i = x1 ↔ i = a)) (hrt : kt_rep 16 rt r) (hrs : kt_rep 256 rs (fun m => e (m / 16) (m % 16))) (hp : ∀ fo, kt_rep 16 fo (kt_A r e a) → post (sz, rt, rs, fo, gu)) : ∀ d i fo, i + d = 16 → kt_rep i fo (fun j => r j && !(decide (j = a))) → wY_find_2 post x1 (d + 1) (nI i) sz rt rs fo gu := by
  intro d
  induction d with
  | zero =>
    intro i fo hi h
    have z : i = 16 := by omega
    subst z
    exact br_t (kt_le16 rfl) ⟨17, kt_Y43 hx hrs hp 16 0 1 fo _ rfl h (kt_Inv0 (fun _ _ => rfl)) (fun z => absurd z (by decide))⟩
  | succ d ih =>
    intro i fo hi h
    have ii : vp_in (nI i) 16 := vp_in_nI (by omega) (by omega)
    refine br_f (kt_ge16 (by omega)) ⟨ii, ?_⟩
    refine kt_br (r i) (kt_at hrt i rfl (by omega) (by omega)) (fun f => ?_) (fun t => ?_)
    · refine ⟨ii, ?_⟩
      intro fo' efo y ey
      rw [ey, nI_1, efo]
      refine ih (i + 1) _ (by omega) (kt_put1 h rfl (by omega) ?_)
      show _ = kt_I (r i && !(decide (i = a)))
      rw [f]
      exact kt_n0
    · refine ek_if (hx i (by omega)) (fun z => ?_) (fun n => ?_)
      · refine ⟨ii, ?_⟩
        intro fo' efo y ey
        rw [ey, nI_1, efo]
        refine ih (i + 1) _ (by omega) (kt_put1 h rfl (by omega) ?_)
        show _ = kt_I (r i && !(decide (i = a)))
        rw [t, decide_eq_true z]
        exact kt_n0
      · refine ⟨ii, ?_⟩
        intro fo' efo y ey
        rw [ey, nI_1, efo]
        refine ih (i + 1) _ (by omega) (kt_put1 h rfl (by omega) ?_)
        show _ = kt_I (r i && !(decide (i = a)))
        rw [t, decide_eq_false n]
        exact kt_n1
theorem kt_Yfi {post : SY → Prop} {p0 : Int32} {sz rt rs fo gu : Nat → Int32} {r : Nat → Bool} {e : Nat → Nat → Bool} (a : Nat) (hx : ∀ i, i < 16 → (nI i = p0 ↔ i = a)) (hrt : kt_rep 16 rt r) (hrs : kt_rep 256 rs (fun m => e (m / 16) (m % 16))) (hp : ∀ fo, kt_rep 16 fo (kt_A r e a) → post (sz, rt, rs, fo, gu)) : wpY_find post (sz, rt, rs, fo, gu) p0 :=
  ⟨17, kt_Y2 hx hrt hrs hp 16 0 fo rfl (fun i hi => absurd hi (by omega))⟩
theorem kt_m1 : ∀ i, i < 16 → ¬ nI i = -1 := by decide +kernel
theorem kt_xm1 (i : Nat) (h : i < 16) : (nI i = -1 ↔ i = 16) := ⟨fun z => absurd z (kt_m1 i h), fun z => absurd z (by omega)⟩
theorem kt_xk {k : Nat} (hk : k < 16) (i : Nat) (h : i < 16) : (nI i = nI k ↔ i = k) := nI_eq (by omega) (by omega)
/-! gather -/
def kt_mx (L N : Nat → Bool) (i m : Nat) : Bool := if m < i then (L (m % 16) && N m) else N m
theorem kt_mx1 {L N : Nat → Bool} {i : Nat} {gu : Nat → Int32} (h : kt_rep 256 gu (kt_mx L N i)) (hi : i < 256) {v : Int32} (hv : v = kt_I (L (i % 16) && N i)) : kt_rep 256 (upd gu (nI i).toNatClampNeg v) (kt_mx L N (i + 1)) := by
  refine kt_rep_c (kt_put h i (L (i % 16) && N i) rfl (by omega) hv) (fun j hj => ?_)
  show (if j = i then (L (i % 16) && N i) else kt_mx L N i j) = kt_mx L N (i + 1) j
  unfold kt_mx
  by_cases z : j = i
  · subst z
    rw [if_pos rfl, if_pos (by omega)]
  · rw [if_neg z]
    by_cases w : j < i
    · rw [if_pos w, if_pos (by omega)]
    · rw [if_neg w, if_neg (by omega)]
theorem kt_Y65 {post : SY → Prop} {sz rt rs fo : Nat → Int32} {L N : Nat → Bool} (hfo : kt_rep 16 fo L) (hp : ∀ gu, kt_rep 256 gu (fun m => L (m % 16) && N m) → post (sz, rt, rs, fo, gu)) : ∀ d i gu, i + d = 256 → kt_rep 256 gu (kt_mx L N i) → wY_gather_65 post (d + 1) (nI i) sz rt rs fo gu := by
  intro d
  induction d with
  | zero =>
    intro i gu hi h
    refine br_t (kt_le256 (by omega)) (hp gu (kt_rep_c h (fun j hj => ?_)))
    exact if_pos (by omega)
  | succ d ih =>
    intro i gu hi h
    have ii : vp_in (nI i) 256 := vp_in_nI (by omega) (by omega)
    refine br_f (kt_ge256 (by omega)) ⟨ii, ?_⟩
    have hg : gu (nI i).toNatClampNeg = kt_I (N i) := by
      rw [kt_at h i rfl (by omega) (by omega)]
      unfold kt_mx
      rw [if_neg (by omega)]
    refine kt_br (N i) hg (fun f => ?_) (fun t => ?_)
    · refine ⟨ii, ?_⟩
      intro gu' eg y ey
      rw [ey, nI_1, eg]
      refine ih (i + 1) _ (by omega) (kt_mx1 h (by omega) ?_)
      rw [f, Bool.and_false]
      exact kt_n0
    · have er : nI i - nI i / 16 * 16 = nI (i % 16) := kt_rem (by omega)
      refine ⟨kt_16, by rw [er]; exact vp_in_nI (by omega) (by omega), ?_⟩
      refine kt_br (L (i % 16)) (kt_at hfo (i % 16) er (by omega) (by omega)) (fun f => ?_) (fun t2 => ?_)
      · refine ⟨ii, ?_⟩
        intro gu' eg y ey
        rw [ey, nI_1, eg]
        refine ih (i + 1) _ (by omega) (kt_mx1 h (by omega) ?_)
        rw [f]
        exact kt_n0
      · refine ⟨ii, ?_⟩
        intro gu' eg y ey
        rw [ey, nI_1, eg]
        refine ih (i + 1) _ (by omega) (kt_mx1 h (by omega) ?_)
        rw [t, t2]
        exact kt_n1
theorem kt_Y15 {post : SY → Prop} {J : Int32 → (Nat → Int32) → (Nat → Int32) → (Nat → Int32) → (Nat → Int32) → (Nat → Int32) → Prop} {sz rt rs fo : Nat → Int32} {L N : Nat → Bool} {k : Nat} (hk : k < 16) (hfo : kt_rep 16 fo L) (hN : ∀ o, o < 16 → N (16 * k + o) = !(L o)) (hJ : ∀ gu, kt_rep (16 * k + 16) gu N → J (nI k + 1) sz rt rs fo gu) : ∀ d o gu, o + d = 16 → kt_rep (16 * k + o) gu N → wY_gather_15 post J (nI k) (d + 1) (nI o) sz rt rs fo gu := by
  intro d
  induction d with
  | zero =>
    intro o gu ho h
    have z : o = 16 := by omega
    subst z
    exact br_t (kt_le16 rfl) (nm_e (hJ gu h))
  | succ d ih =>
    intro o gu ho h
    have ii : vp_in ((16 * nI k) + nI o) 256 := by rw [kt_ix]; exact vp_in_nI (by omega) (by omega)
    refine br_f (kt_ge16 (by omega)) ⟨vp_in_nI (by omega) (by omega), ?_⟩
    refine kt_br (L o) (kt_at hfo o rfl (by omega) (by omega)) (fun f => ?_) (fun t => ?_)
    · refine ⟨ii, ?_⟩
      intro gu' eg y ey
      rw [ey, nI_1, eg]
      refine ih (o + 1) _ (by omega) (kt_put1 h (kt_ix k o) (by omega) ?_)
      rw [hN o (by omega), f]
      exact kt_n1
    · refine ⟨ii, ?_⟩
      intro gu' eg y ey
      rw [ey, nI_1, eg]
      refine ih (o + 1) _ (by omega) (kt_put1 h (kt_ix k o) (by omega) ?_)
      rw [hN o (by omega), t]
      exact kt_n0
theorem kt_Yg2 {post : SY → Prop} {sz rt rs : Nat → Int32} {r : Nat → Bool} {e : Nat → Nat → Bool} (hrt : kt_rep 16 rt r) (hrs : kt_rep 256 rs (fun m => e (m / 16) (m % 16))) (hp : ∀ fo gu, kt_rep 16 fo (kt_A r e 16) → kt_rep 256 gu (fun m => kt_G r e (m / 16) (m % 16)) → post (sz, rt, rs, fo, gu)) : ∀ d k fo gu, k + d = 16 → kt_rep (16 * k) gu (fun m => !(kt_A r e (m / 16) (m % 16))) → wY_gather_2 post (d + 1) (nI k) sz rt rs fo gu := by
  intro d
  induction d with
  | zero =>
    intro k fo gu hk h
    have z : k = 16 := by omega
    subst z
    refine br_t (kt_le16 rfl) ?_
    refine kt_Yfi 16 kt_xm1 hrt hrs (fun fo' hfo' => ⟨257, ?_⟩)
    exact kt_Y65 hfo' (fun gu' hg' => hp fo' gu' hfo' hg') 256 0 gu rfl (kt_rep_c h (fun j hj => (if_neg (by omega)).symm))
  | succ d ih =>
    intro k fo gu hk h
    refine br_f (kt_ge16 (by omega)) ?_
    refine kt_Yfi k (kt_xk (by omega)) hrt hrs (fun fo' hfo' => ⟨17, ?_⟩)
    refine kt_Y15 (N := fun m => !(kt_A r e (m / 16) (m % 16))) (by omega) hfo' (fun o ho => ?_) (fun gu' hg' => ?_) 16 0 gu rfl h
    · show (!(kt_A r e ((16 * k + o) / 16) ((16 * k + o) % 16))) = _
      have e1 : (16 * k + o) / 16 = k := by omega
      have e2 : (16 * k + o) % 16 = o := by omega
      rw [e1, e2]
    · rw [nI_1]
      exact ih (k + 1) fo' gu' (by omega) hg'
theorem kt_Yga {post : SY → Prop} {sz rt rs fo gu : Nat → Int32} {r : Nat → Bool} {e : Nat → Nat → Bool} (hrt : kt_rep 16 rt r) (hrs : kt_rep 256 rs (fun m => e (m / 16) (m % 16))) (hp : ∀ fo gu, kt_rep 16 fo (kt_A r e 16) → kt_rep 256 gu (fun m => kt_G r e (m / 16) (m % 16)) → post (sz, rt, rs, fo, gu)) : wpY_gather post (sz, rt, rs, fo, gu) :=
  ⟨17, kt_Yg2 hrt hrs hp 16 0 fo gu rfl (fun i hi => absurd hi (by omega))⟩
