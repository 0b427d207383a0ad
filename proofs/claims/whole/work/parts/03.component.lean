/-! ===== what both sides compute ===== -/
noncomputable def kt_p (G : Nat → Nat → Bool) (s : Nat → Bool) (g : Nat) : Bool := @decide (s g = true ∧ ∀ h, h < 16 → s h = true → G h g = true) (Classical.propDecidable _)
theorem kt_p1 {G : Nat → Nat → Bool} {s : Nat → Bool} {g : Nat} : kt_p G s g = true ↔ (s g = true ∧ ∀ h, h < 16 → s h = true → G h g = true) := @decide_eq_true_iff _ (Classical.propDecidable _)
def kt_F (p : Nat → Bool) : Nat → Nat → Int32
  | 0, _ => -1
  | d + 1, i => if p i = true then nI i else kt_F p d (i + 1)
def kt_S (f : Nat → Bool) (z : Nat → Int32) : Nat → Nat → Int32 → Int32
  | 0, _, c => c
  | d + 1, i, c => kt_S f z d (i + 1) (if f i = true then c + z i else c)
def kt_C (f : Nat → Bool) : Nat → Nat → Int32 → Int32
  | 0, _, c => c
  | d + 1, i, c => kt_C f d (i + 1) (if f i = true then c + 1 else c)
def kt_H (q : Nat → Bool) (hs : Nat → Int32) : Nat → Nat → Int32 → Int32 → Int32
  | 0, _, b, _ => b
  | d + 1, i, b, m => if q i = true then (if hs i ≤ m then kt_H q hs d (i + 1) b m else kt_H q hs d (i + 1) (nI i) (hs i)) else kt_H q hs d (i + 1) b m
noncomputable def kt_q (G : Nat → Nat → Bool) (o : Nat) : Bool := @decide (∀ k, k < 16 → G k o = decide (k = o)) (Classical.propDecidable _)
theorem kt_q1 {G : Nat → Nat → Bool} {o : Nat} : kt_q G o = true ↔ (∀ k, k < 16 → G k o = decide (k = o)) := @decide_eq_true_iff _ (Classical.propDecidable _)
def kt_e (rf : Nat → Int32) (i j : Nat) : Bool := bt (rf i) j
theorem kt_ge16 {i : Nat} (h : i < 16) : ¬ (16 : Int32) ≤ nI i := nI_ge (b := 16) h (by decide)
theorem kt_le16 {i : Nat} (h : i = 16) : (16 : Int32) ≤ nI i := by subst h; exact Int32.le_refl _
/-! ===== the component's walks ===== -/
theorem kt_X20 {post : Int32 → Prop} {J : Int32 → Int32 → Prop} {x1 x3 ro : Int32} {sz rf : Nat → Int32} {r : Nat → Bool} {a : Nat} (l0 : Nat → Bool) (hx : ∀ i, i < 16 → bt x1 i = decide (i = a)) (hJ : ∀ l, kt_sub l0 (bt l) → kt_snd r (kt_e rf) a (bt l) → kt_stp (kt_e rf) a 256 l0 (bt l) → J l (x3 + 1)) : ∀ d i l, i + d = 16 → kt_sub l0 (bt l) → kt_snd r (kt_e rf) a (bt l) → kt_stp (kt_e rf) a (16 * i) l0 (bt l) → wX_aliveWithout_20 post J x1 x3 ro sz rf (d + 1) l (nI i) := by
  intro d
  induction d with
  | zero =>
    intro i l hi h1 h2 h3
    have e : i = 16 := by omega
    subst e
    exact br_t (kt_le16 rfl) (nm_e (hJ l h1 h2 h3))
  | succ d ih =>
    intro i l hi h1 h2 h3
    refine br_f (kt_ge16 (by omega)) ?_
    refine kt_br1 (bt l i) (kt_bit l (by omega)) (fun t => ?_) (fun f => ?_)
    · refine ⟨vp_in_nI (by omega) (by omega), ?_⟩
      intro l' hl y ey
      rw [ey, nI_1]
      rw [nI_clamp (by omega)] at hl
      have hb : ∀ j, j < 16 → bt l' j = (bt l j || (bt (rf i) j && !(decide (j = a)))) := by
        intro j hj
        rw [hl, b_or, b_and, kt_not _ (by omega), hx j hj]
      refine ih (i + 1) l' (by omega) (fun j hj s => ?_) (fun j hj s => ?_) (fun x y hx' hy hm sx exy ha => ?_)
      · rw [hb j hj, h1 j hj s]; rfl
      · rw [hb j hj, Bool.or_eq_true] at s
        rcases s with s | s
        · exact h2 j hj s
        · rw [Bool.and_eq_true] at s
          refine kt_R1 (x := i) (by omega) hj (h2 i (by omega) t) s.1 (fun z => ?_)
          have w := s.2
          rw [decide_eq_true z] at w
          cases w
      · rw [hb y hy]
        by_cases z : x = i
        · subst z
          have w : bt (rf x) y = true := exy
          rw [w, decide_eq_false ha]; simp
        · rw [h3 x y hx' hy (by omega) sx exy ha]; rfl
    · intro y ey
      rw [ey, nI_1]
      refine ih (i + 1) l (by omega) h1 h2 (fun x y hx' hy hm sx exy ha => ?_)
      by_cases z : x = i
      · subst z
        have w := h1 x hx' sx
        rw [f] at w
        cases w
      · exact h3 x y hx' hy (by omega) sx exy ha
theorem kt_X11 {post : Int32 → Prop} {x1 ro : Int32} {sz rf : Nat → Int32} {a : Nat} (hx : ∀ i, i < 16 → bt x1 i = decide (i = a)) (hp : ∀ w, (∀ i, i < 16 → bt w i = kt_A (bt ro) (kt_e rf) a i) → post w) : ∀ d j l, j + d = 16 → kt_Inv (bt ro) (kt_e rf) a j (bt l) → wX_aliveWithout_11 post x1 ro sz rf (d + 1) l (nI j) := by
  intro d
  induction d with
  | zero =>
    intro j l hj h
    have e : j = 16 := by omega
    subst e
    exact br_t (kt_le16 rfl) (hp l (kt_fin h))
  | succ d ih =>
    intro j l hj h
    refine br_f (kt_ge16 (by omega)) ⟨17, ?_⟩
    refine kt_X20 (r := bt ro) (bt l) hx (fun l' a b c => ?_) 16 0 l rfl (fun _ _ z => z) h.2.1 (fun x y _ _ hm => absurd hm (by omega))
    rw [nI_1]
    exact ih (j + 1) l' (by omega) (kt_pass h a b c)
theorem kt_Xal {post : Int32 → Prop} {p0 ro : Int32} {sz rf : Nat → Int32} {a : Nat} (hx : ∀ i, i < 16 → bt p0 i = decide (i = a)) (hp : ∀ w, (∀ i, i < 16 → bt w i = kt_A (bt ro) (kt_e rf) a i) → post w) : wpX_aliveWithout post (ro, sz, rf) p0 := by
  intro l hl
  refine ⟨17, kt_X11 hx hp 16 0 l rfl (kt_Inv0 (fun i hi => ?_))⟩
  rw [hl, b_and, kt_not _ (by omega), hx i hi]
theorem kt_no {i : Nat} (h : i < 16) : bt 0 i = decide (i = 16) := by rw [b_0, decide_eq_false (by omega)]
theorem kt_Xgb {post : Int32 → Prop} {ro : Int32} {sz rf : Nat → Int32} {k : Nat} (hk : k < 16) (hp : ∀ w, (∀ i, i < 16 → bt w i = kt_G (bt ro) (kt_e rf) k i) → post w) : wpX_guardedBy post (ro, sz, rf) (nI k) := by
  unfold wpX_guardedBy
  dsimp only
  refine kt_Xal (a := 16) (fun i hi => kt_no hi) (fun w1 h1 => ?_)
  refine kt_Xal (a := k) (fun i hi => kt_sh1 (by omega) (by omega)) (fun w2 h2 => hp _ (fun i hi => ?_))
  rw [b_and, kt_not _ (by omega), h1 i hi, h2 i hi]
  rfl
theorem kt_Xg4 {post : Int32 → Prop} {ro : Int32} {sz rf : Nat → Int32} {o : Nat} (ho : o < 16) (hp : ∀ w, (∀ i, i < 32 → bt w i = (decide (i < 16) && kt_G (bt ro) (kt_e rf) i o)) → post w) : ∀ d g w, g + d = 16 → (∀ i, i < 32 → bt w i = (decide (i < g) && kt_G (bt ro) (kt_e rf) i o)) → wX_guardsOf_4 post (nI o) ro sz rf (d + 1) w (nI g) := by
  intro d
  induction d with
  | zero =>
    intro g w hg h
    have e : g = 16 := by omega
    subst e
    exact br_t (kt_le16 rfl) (hp w h)
  | succ d ih =>
    intro g w hg h
    refine br_f (kt_ge16 (by omega)) (kt_Xgb (by omega) (fun w1 h1 => ?_))
    unfold wpX_bitOf
    intro w2 e2 y ey
    rw [kt_bit w1 (by omega), h1 o ho] at e2
    rw [ey, nI_1]
    refine ih (g + 1) w2 (by omega) (fun i hi => ?_)
    rw [e2, b_or, kt_shI _ (by omega) hi, h i hi]
    by_cases z : i = g
    · subst z
      rw [decide_eq_false (show ¬ i < i by omega), decide_eq_true (show i < i + 1 by omega)]; simp
    · rw [decide_eq_false z]
      by_cases z2 : i < g
      · rw [decide_eq_true z2, decide_eq_true (show i < g + 1 by omega)]; simp
      · rw [decide_eq_false z2, decide_eq_false (show ¬ i < g + 1 by omega)]; simp
theorem kt_Xgo {post : Int32 → Prop} {ro : Int32} {sz rf : Nat → Int32} {o : Nat} (ho : o < 16) (hp : ∀ w, (∀ i, i < 32 → bt w i = (decide (i < 16) && kt_G (bt ro) (kt_e rf) i o)) → post w) : wpX_guardsOf post (ro, sz, rf) (nI o) :=
  ⟨17, kt_Xg4 ho hp 16 0 0 rfl (fun i _ => by rw [b_0, decide_eq_false (by omega)]; rfl)⟩
theorem kt_Xl2 {post : Int32 → Prop} {x1 ro : Int32} {sz rf : Nat → Int32} (s : Nat → Bool) (hx : ∀ i, i < 32 → bt x1 i = (decide (i < 16) && s i)) : ∀ d i, i + d = 16 → post (kt_F (kt_p (kt_G (bt ro) (kt_e rf)) s) d i) → wX_lastGuard_2 post x1 ro sz rf (d + 1) (nI i) := by
  intro d
  induction d with
  | zero =>
    intro i hi hp
    exact br_t (kt_le16 (by omega)) hp
  | succ d ih =>
    intro i hi hp
    have hxi : bt x1 i = s i := by rw [hx i (by omega), decide_eq_true (by omega)]; rfl
    have hp' : ¬ kt_p (kt_G (bt ro) (kt_e rf)) s i = true → post (kt_F (kt_p (kt_G (bt ro) (kt_e rf)) s) d (i + 1)) := fun n => by
      rw [kt_F, if_neg n] at hp; exact hp
    refine br_f (kt_ge16 (by omega)) ?_
    refine kt_br1 (bt x1 i) (kt_bit x1 (by omega)) (fun t => ?_) (fun f => ?_)
    · refine kt_Xgo (by omega) (fun w hw => ?_)
      have key : (x1 &&& (w ^^^ (-1))) = 0 ↔ kt_p (kt_G (bt ro) (kt_e rf)) s i = true := by
        rw [kt_p1]
        constructor
        · intro z
          refine ⟨hxi ▸ t, fun h hh sh => ?_⟩
          have b : bt (x1 &&& (w ^^^ (-1))) h = bt 0 h := by rw [z]
          rw [b_and, kt_not _ (by omega), hx h (by omega), hw h (by omega), b_0, sh, decide_eq_true hh] at b
          cases c : kt_G (bt ro) (kt_e rf) h i
          · rw [c] at b; cases b
          · rfl
        · intro z
          apply b_ext
          intro h hh
          rw [b_and, kt_not _ hh, hx h hh, hw h hh, b_0]
          by_cases l : h < 16
          · rw [decide_eq_true l]
            cases c : s h
            · rfl
            · rw [z.2 h l c]; rfl
          · rw [decide_eq_false l]; rfl
      refine ek_if key (fun t => ?_) (fun n => ?_)
      · rw [kt_F, if_pos t] at hp
        exact hp
      · intro y ey
        rw [ey, nI_1]
        exact ih (i + 1) (by omega) (hp' n)
    · intro y ey
      rw [ey, nI_1]
      refine ih (i + 1) (by omega) (hp' (fun z => ?_))
      have := (kt_p1.mp z).1
      rw [← hxi, f] at this
      cases this
theorem kt_Xlg {post : Int32 → Prop} {x1 ro : Int32} {sz rf : Nat → Int32} (s : Nat → Bool) (hx : ∀ i, i < 32 → bt x1 i = (decide (i < 16) && s i)) (hp : post (kt_F (kt_p (kt_G (bt ro) (kt_e rf)) s) 16 0)) : wpX_lastGuard post (ro, sz, rf) x1 :=
  ⟨17, kt_Xl2 s hx 16 0 rfl hp⟩
theorem kt_Xs4 {post : Int32 → Prop} {x1 ro : Int32} {sz rf : Nat → Int32} (f : Nat → Bool) (hx : ∀ i, i < 16 → bt x1 i = f i) : ∀ d i c, i + d = 16 → post (kt_S f sz d i c) → wX_sizeOf_4 post x1 ro sz rf (d + 1) c (nI i) := by
  intro d
  induction d with
  | zero =>
    intro i c hi hp
    exact br_t (kt_le16 (by omega)) hp
  | succ d ih =>
    intro i c hi hp
    refine br_f (kt_ge16 (by omega)) ?_
    refine kt_br1 (f i) ((kt_bit x1 (by omega)).trans (by rw [hx i (by omega)])) (fun t => ?_) (fun n => ?_)
    · refine ⟨vp_in_nI (by omega) (by omega), ?_⟩
      intro c' ec y ey
      rw [ey, nI_1, ec, nI_clamp (by omega)]
      refine ih (i + 1) _ (by omega) ?_
      rw [kt_S, if_pos t] at hp
      exact hp
    · intro y ey
      rw [ey, nI_1]
      refine ih (i + 1) _ (by omega) ?_
      rw [kt_S, if_neg (by rw [n]; decide)] at hp
      exact hp
theorem kt_Xsz {post : Int32 → Prop} {x1 ro : Int32} {sz rf : Nat → Int32} (f : Nat → Bool) (hx : ∀ i, i < 16 → bt x1 i = f i) (hp : post (kt_S f sz 16 0 0)) : wpX_sizeOf post (ro, sz, rf) x1 :=
  ⟨17, kt_Xs4 f hx 16 0 0 rfl hp⟩
theorem kt_Xc4 {post : Int32 → Prop} {x0 : Int32} (f : Nat → Bool) (hx : ∀ i, i < 16 → bt x0 i = f i) : ∀ d i c, i + d = 16 → post (kt_C f d i c) → wX_countOf_4 post x0 (d + 1) c (nI i) := by
  intro d
  induction d with
  | zero =>
    intro i c hi hp
    exact br_t (kt_le16 (by omega)) hp
  | succ d ih =>
    intro i c hi hp
    refine br_f (kt_ge16 (by omega)) ?_
    unfold wpX_bitOf
    intro c' ec y ey
    rw [kt_bit x0 (by omega), hx i (by omega)] at ec
    rw [ey, nI_1, ec]
    refine ih (i + 1) _ (by omega) ?_
    rw [kt_C] at hp
    cases z : f i
    · rw [z, if_neg (by decide)] at hp
      have e : c + kt_I false = c := Int32.add_zero c
      rw [e]; exact hp
    · rw [z, if_pos rfl] at hp
      exact hp
theorem kt_Xco {post : Int32 → Prop} {x0 : Int32} (f : Nat → Bool) (hx : ∀ i, i < 16 → bt x0 i = f i) (hp : post (kt_C f 16 0 0)) : wpX_countOf post x0 :=
  ⟨17, kt_Xc4 f hx 16 0 0 rfl hp⟩
theorem kt_Xh6 {post : Int32 → Prop} {ro : Int32} {sz rf : Nat → Int32} : ∀ d i b m, i + d = 16 → post (kt_H (kt_q (kt_G (bt ro) (kt_e rf))) (fun k => kt_S (kt_G (bt ro) (kt_e rf) k) sz 16 0 0) d i b m) → wX_heaviest_6 post ro sz rf (d + 1) b m (nI i) := by
  intro d
  induction d with
  | zero =>
    intro i b m hi hp
    exact br_t (kt_le16 (by omega)) hp
  | succ d ih =>
    intro i b m hi hp
    refine br_f (kt_ge16 (by omega)) (kt_Xgo (by omega) (fun w hw => ?_))
    have key : w = ((1 : Int32) <<< (nI i &&& 31)) ↔ kt_q (kt_G (bt ro) (kt_e rf)) i = true := by
      rw [kt_q1]
      constructor
      · intro z k hk
        have e := hw k (by omega)
        rw [z, kt_sh1 (by omega) (by omega), decide_eq_true hk, Bool.true_and] at e
        exact e.symm
      · intro z
        apply b_ext
        intro k hk
        rw [hw k hk, kt_sh1 (by omega) hk]
        by_cases l : k < 16
        · rw [decide_eq_true l, z k l, Bool.true_and]
        · rw [decide_eq_false l, decide_eq_false (show ¬ k = i by omega)]; rfl
    rw [kt_H] at hp
    refine ek_if key (fun t => ?_) (fun n => ?_)
    · rw [if_pos t] at hp
      refine kt_Xgb (by omega) (fun w1 h1 => ?_)
      refine kt_Xsz (kt_G (bt ro) (kt_e rf) i) h1 ?_
      refine ⟨fun l => ?_, fun l => ?_⟩
      · rw [if_pos l] at hp
        intro y ey
        rw [ey, nI_1]
        exact ih (i + 1) _ _ (by omega) hp
      · rw [if_neg l] at hp
        intro y ey
        rw [ey, nI_1]
        exact ih (i + 1) _ _ (by omega) hp
    · rw [if_neg n] at hp
      intro y ey
      rw [ey, nI_1]
      exact ih (i + 1) _ _ (by omega) hp
