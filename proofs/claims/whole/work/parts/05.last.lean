/-! ===== the reference's walks: both, last, heldBy, depth, heaviest, total ===== -/
def kt_s (G : Nat → Nat → Bool) (a b : Nat) (ot : Bool) (g : Nat) : Bool := (G g a && G g b) && !(ot && decide (g = a))
theorem kt_gat {G : Nat → Nat → Bool} {gu : Nat → Int32} (hg : kt_rep 256 gu (fun m => G (m / 16) (m % 16))) {g a : Nat} (h1 : g < 16) (h2 : a < 16) : gu ((16 * nI g) + nI a).toNatClampNeg = kt_I (G g a) := by
  have e := kt_at hg (16 * g + a) (kt_ix g a) (by omega) (by omega)
  rw [e]
  show kt_I (G ((16 * g + a) / 16) ((16 * g + a) % 16)) = _
  have e1 : (16 * g + a) / 16 = g := by omega
  have e2 : (16 * g + a) % 16 = a := by omega
  rw [e1, e2]
theorem kt_gin {g a : Nat} (h1 : g < 16) (h2 : a < 16) : vp_in ((16 * nI g) + nI a) 256 := by rw [kt_ix]; exact vp_in_nI (by omega) (by omega)
theorem kt_Ybo {post : Int32 → Prop} {sz rt rs fo gu : Nat → Int32} {G : Nat → Nat → Bool} (hg : kt_rep 256 gu (fun m => G (m / 16) (m % 16))) {g a b : Nat} (h1 : g < 16) (h2 : a < 16) (h3 : b < 16) (ot : Bool) {p3 : Int32} (h4 : p3 = kt_I ot) (hp : post (kt_I (kt_s G a b ot g))) : wpY_both post (sz, rt, rs, fo, gu) (nI g) (nI a) (nI b) p3 := by
  unfold kt_s at hp
  refine ⟨kt_gin h1 h2, ?_⟩
  refine kt_br (G g a) (kt_gat hg h1 h2) (fun f => ?_) (fun t => ?_)
  · rw [f] at hp; exact hp
  · refine ⟨kt_gin h1 h3, ?_⟩
    refine kt_br (G g b) (kt_gat hg h1 h3) (fun f => ?_) (fun t2 => ?_)
    · rw [t, f] at hp; exact hp
    · rw [t, t2] at hp
      refine kt_br ot h4 (fun f => ?_) (fun t3 => ?_)
      · rw [f] at hp; exact hp
      · rw [t3] at hp
        refine ek_if (nI_eq (a := g) (b := a) (by omega) (by omega)) (fun z => ?_) (fun z => ?_)
        · rw [decide_eq_true z] at hp; exact hp
        · rw [decide_eq_false z] at hp; exact hp
theorem kt_Yl24 {post : Int32 → Prop} {J : Int32 → Prop} {sz rt rs fo gu : Nat → Int32} {G : Nat → Nat → Bool} (hg : kt_rep 256 gu (fun m => G (m / 16) (m % 16))) {g a b : Nat} (h1 : g < 16) (h2 : a < 16) (h3 : b < 16) (ot : Bool) {p3 : Int32} (h4 : p3 = kt_I ot) (hp : kt_p G (kt_s G a b ot) g = true → post (nI g)) (hJ : ¬ kt_p G (kt_s G a b ot) g = true → J (nI (g + 1))) : ∀ d h al, h + d = 16 → (al = true ↔ (kt_s G a b ot g = true ∧ ∀ h', h' < h → kt_s G a b ot h' = true → G h' g = true)) → wY_last_24 post J (nI a) (nI b) p3 (nI g) sz rt rs fo gu (d + 1) (kt_I al) (nI h) := by
  intro d
  induction d with
  | zero =>
    intro h al hh H
    have z : h = 16 := by omega
    subst z
    rw [← kt_p1] at H
    refine br_t (kt_le16 rfl) ?_
    refine kt_br al rfl (fun f => ?_) (fun t => hp (H.mp t))
    refine nm_r (nI_1 g) (hJ (fun w => ?_))
    have w := H.mpr w
    rw [f] at w
    cases w
  | succ d ih =>
    intro h al hh H
    have ext : (kt_s G a b ot h = true → G h g = true) → (al = true ↔ (kt_s G a b ot g = true ∧ ∀ h', h' < h + 1 → kt_s G a b ot h' = true → G h' g = true)) := by
      intro c
      rw [H]
      constructor
      · intro z
        refine ⟨z.1, fun h' l s => ?_⟩
        by_cases w : h' = h
        · subst w; exact c s
        · exact z.2 h' (by omega) s
      · intro z
        exact ⟨z.1, fun h' l s => z.2 h' (by omega) s⟩
    refine br_f (kt_ge16 (by omega)) ?_
    refine kt_Ybo hg (by omega) h2 h3 ot h4 ?_
    refine kt_br (kt_s G a b ot h) rfl (fun f => ?_) (fun t => ?_)
    · refine nm_r (nI_1 h) (ih (h + 1) al (by omega) (ext (fun z => ?_)))
      rw [f] at z
      cases z
    · refine ⟨kt_gin (by omega) h1, ?_⟩
      refine kt_br (G h g) (kt_gat hg (by omega) h1) (fun f => ?_) (fun t2 => ?_)
      · refine nm_r (nI_1 h) (ih (h + 1) false (by omega) ⟨(fun z => nomatch z), fun z => ?_⟩)
        have w := z.2 h (by omega) t
        rw [f] at w
        cases w
      · exact nm_r (nI_1 h) (ih (h + 1) al (by omega) (ext (fun _ => t2)))
theorem kt_Yl3 {post : Int32 → Prop} {sz rt rs fo gu : Nat → Int32} {G : Nat → Nat → Bool} (hg : kt_rep 256 gu (fun m => G (m / 16) (m % 16))) {a b : Nat} (h2 : a < 16) (h3 : b < 16) (ot : Bool) {p3 : Int32} (h4 : p3 = kt_I ot) : ∀ d g, g + d = 16 → post (kt_F (kt_p G (kt_s G a b ot)) d g) → wY_last_3 post (nI a) (nI b) p3 sz rt rs fo gu (d + 1) (nI g) := by
  intro d
  induction d with
  | zero =>
    intro g h hp
    exact br_t (kt_le16 (by omega)) hp
  | succ d ih =>
    intro g h hp
    rw [kt_F] at hp
    refine br_f (kt_ge16 (by omega)) ?_
    refine kt_Ybo hg (by omega) h2 h3 ot h4 ⟨17, ?_⟩
    refine kt_Yl24 hg (by omega) h2 h3 ot h4 (fun t => ?_) (fun n => ?_) 16 0 _ rfl ⟨fun z => ⟨z, fun h' l => absurd l (by omega)⟩, fun z => z.1⟩
    · rw [if_pos t] at hp; exact hp
    · rw [if_neg n] at hp
      exact ih (g + 1) (by omega) hp
theorem kt_Yla {post : Int32 → Prop} {sz rt rs fo gu : Nat → Int32} {G : Nat → Nat → Bool} (hg : kt_rep 256 gu (fun m => G (m / 16) (m % 16))) {a b : Nat} (h2 : a < 16) (h3 : b < 16) (ot : Bool) {p3 : Int32} (h4 : p3 = kt_I ot) (hp : post (kt_F (kt_p G (kt_s G a b ot)) 16 0)) : wpY_last post (sz, rt, rs, fo, gu) (nI a) (nI b) p3 :=
  ⟨17, kt_Yl3 hg h2 h3 ot h4 16 0 rfl hp⟩
theorem kt_Yh4 {post : Int32 → Prop} {sz rt rs fo gu : Nat → Int32} {G : Nat → Nat → Bool} (hg : kt_rep 256 gu (fun m => G (m / 16) (m % 16))) {k : Nat} (hk : k < 16) : ∀ d i c, i + d = 16 → post (kt_S (G k) sz d i c) → wY_heldBy_4 post (nI k) sz rt rs fo gu (d + 1) c (nI i) := by
  intro d
  induction d with
  | zero =>
    intro i c h hp
    exact br_t (kt_le16 (by omega)) hp
  | succ d ih =>
    intro i c h hp
    rw [kt_S] at hp
    refine br_f (kt_ge16 (by omega)) ⟨kt_gin hk (by omega), ?_⟩
    refine kt_br (G k i) (kt_gat hg hk (by omega)) (fun f => ?_) (fun t => ?_)
    · refine nm_r (nI_1 i) (ih (i + 1) c (by omega) ?_)
      rw [if_neg (by rw [f]; decide)] at hp
      exact hp
    · refine ⟨vp_in_nI (by omega) (by omega), ?_⟩
      intro c' ec y ey
      rw [ey, nI_1, ec, nI_clamp (by omega)]
      refine ih (i + 1) _ (by omega) ?_
      rw [if_pos t] at hp
      exact hp
theorem kt_Yhb {post : Int32 → Prop} {sz rt rs fo gu : Nat → Int32} {G : Nat → Nat → Bool} (hg : kt_rep 256 gu (fun m => G (m / 16) (m % 16))) {k : Nat} (hk : k < 16) (hp : post (kt_S (G k) sz 16 0 0)) : wpY_heldBy post (sz, rt, rs, fo, gu) (nI k) :=
  ⟨17, kt_Yh4 hg hk 16 0 0 rfl hp⟩
theorem kt_Yd18 {post : Int32 → SY → Prop} {sz rt rs fo gu : Nat → Int32} {G : Nat → Nat → Bool} (hg : kt_rep 256 gu (fun m => G (m / 16) (m % 16))) {o : Nat} (ho : o < 16) : ∀ d i c, i + d = 16 → post (kt_C (fun k => G k o) d i c) (sz, rt, rs, fo, gu) → wY_depth_18 post (nI o) sz rt rs fo gu (d + 1) c (nI i) := by
  intro d
  induction d with
  | zero =>
    intro i c h hp
    exact br_t (kt_le16 (by omega)) hp
  | succ d ih =>
    intro i c h hp
    rw [kt_C] at hp
    refine br_f (kt_ge16 (by omega)) ⟨kt_gin (by omega) ho, ?_⟩
    refine kt_br (G i o) (kt_gat hg (by omega) ho) (fun f => ?_) (fun t => ?_)
    · refine nm_r (nI_1 i) (ih (i + 1) c (by omega) ?_)
      rw [if_neg (by rw [f]; decide)] at hp
      exact hp
    · intro c' ec y ey
      rw [ey, nI_1, ec]
      refine ih (i + 1) _ (by omega) ?_
      rw [if_pos t] at hp
      exact hp
theorem kt_Yt9 {post : Int32 → SY → Prop} {sz rt rs fo gu : Nat → Int32} {L : Nat → Bool} (hf : kt_rep 16 fo L) : ∀ d i c, i + d = 16 → post (kt_S L sz d i c) (sz, rt, rs, fo, gu) → wY_total_9 post sz rt rs fo gu (d + 1) c (nI i) := by
  intro d
  induction d with
  | zero =>
    intro i c h hp
    exact br_t (kt_le16 (by omega)) hp
  | succ d ih =>
    intro i c h hp
    have ii : vp_in (nI i) 16 := vp_in_nI (by omega) (by omega)
    rw [kt_S] at hp
    refine br_f (kt_ge16 (by omega)) ⟨ii, ?_⟩
    refine kt_br (L i) (kt_at hf i rfl (by omega) (by omega)) (fun f => ?_) (fun t => ?_)
    · refine nm_r (nI_1 i) (ih (i + 1) c (by omega) ?_)
      rw [if_neg (by rw [f]; decide)] at hp
      exact hp
    · refine ⟨ii, ?_⟩
      intro c' ec y ey
      rw [ey, nI_1, ec, nI_clamp (by omega)]
      refine ih (i + 1) _ (by omega) ?_
      rw [if_pos t] at hp
      exact hp
/-! the search finds something just where there is something; an object that others guard has a last one -/
theorem kt_F0 (p : Nat → Bool) : ∀ d i, i + d ≤ 16 → (0 ≤ kt_F p d i ↔ ∃ j, i ≤ j ∧ j < i + d ∧ p j = true) := by
  intro d
  induction d with
  | zero =>
    intro i _
    exact ⟨fun z => absurd z (show ¬ (0 : Int32) ≤ -1 by decide), fun ⟨j, h1, h2, _⟩ => absurd h2 (by omega)⟩
  | succ d ih =>
    intro i hi
    rw [kt_F]
    by_cases z : p i = true
    · rw [if_pos z]
      exact ⟨fun _ => ⟨i, by omega, by omega, z⟩, fun _ => nI_pos' (by omega)⟩
    · rw [if_neg z, ih (i + 1) (by omega)]
      constructor
      · intro ⟨j, h1, h2, h3⟩
        exact ⟨j, by omega, by omega, h3⟩
      · intro ⟨j, h1, h2, h3⟩
        refine ⟨j, ?_, by omega, h3⟩
        by_cases w : j = i
        · subst w; exact absurd h3 z
        · omega
theorem kt_s1 {G : Nat → Nat → Bool} {o g : Nat} : kt_s G o o true g = true ↔ G g o = true ∧ g ≠ o := by
  unfold kt_s
  rw [Bool.and_self, Bool.true_and, Bool.and_eq_true, Bool.not_eq_true', decide_eq_false_iff_not]
theorem kt_qq {r : Nat → Bool} {e : Nat → Nat → Bool} {o : Nat} (ho : kt_G r e o o = true) : kt_q (kt_G r e) o = true ↔ ¬ 0 ≤ kt_F (kt_p (kt_G r e) (kt_s (kt_G r e) o o true)) 16 0 := by
  rw [kt_q1, kt_F0 _ 16 0 (by omega)]
  constructor
  · intro h ⟨j, _, hj, hp⟩
    have w := kt_s1.mp (kt_p1.mp hp).1
    rw [h j (by omega), decide_eq_true_iff] at w
    exact w.2 w.1
  · intro h k hk
    by_cases z : k = o
    · subst z
      rw [ho, decide_eq_true rfl]
    · rw [decide_eq_false z]
      cases c : kt_G r e k o
      · rfl
      · exfalso
        rcases kt_max (r := r) (e := e) (o := o) (fun g => kt_s (kt_G r e) o o true g = true) (fun g hg => (kt_s1.mp hg).1) 16 with m | ⟨g, hg, sg, m⟩
        · exact m k hk (kt_s1.mpr ⟨c, z⟩)
        · exact h ⟨g, by omega, by omega, kt_p1.mpr ⟨sg, m⟩⟩
theorem kt_Yh10 {post : Int32 → SY → Prop} {sz rt rs fo gu : Nat → Int32} {r : Nat → Bool} {e : Nat → Nat → Bool} (hg : kt_rep 256 gu (fun m => kt_G r e (m / 16) (m % 16))) : ∀ d i b m, i + d = 16 → post (kt_H (kt_q (kt_G r e)) (fun k => kt_S (kt_G r e k) sz 16 0 0) d i b m) (sz, rt, rs, fo, gu) → wY_heaviest_10 post sz rt rs fo gu (d + 1) b m (nI i) := by
  intro d
  induction d with
  | zero =>
    intro i b m h hp
    exact br_t (kt_le16 (by omega)) hp
  | succ d ih =>
    intro i b m h hp
    rw [kt_H] at hp
    have no : ¬ kt_q (kt_G r e) i = true → wY_heaviest_44 post (wY_heaviest_10 post sz rt rs fo gu (d + 1)) b m (nI i) sz rt rs fo gu := by
      intro n
      rw [if_neg n] at hp
      unfold wY_heaviest_44 wY_heaviest_45
      exact br_t rfl (nm_r (nI_1 i) (ih (i + 1) b m (by omega) hp))
    refine br_f (kt_ge16 (by omega)) ⟨kt_gin (by omega) (by omega), ?_⟩
    refine kt_br (kt_G r e i i) (kt_gat hg (by omega) (by omega)) (fun f => no (fun z => ?_)) (fun t => ?_)
    · have w := kt_q1.mp z i (by omega)
      rw [f, decide_eq_true rfl] at w
      cases w
    · refine kt_Yla hg (by omega) (by omega) true rfl ⟨fun ge => no (fun z => (kt_qq t).mp z ge), fun lt => ?_⟩
      have q := (kt_qq t).mpr lt
      rw [if_pos q] at hp
      unfold wY_heaviest_45
      refine br_f (by decide) ?_
      refine kt_Yhb hg (by omega) ⟨fun l => ?_, fun l => ?_⟩
      · rw [if_pos l] at hp
        exact nm_r (nI_1 i) (ih (i + 1) b m (by omega) hp)
      · rw [if_neg l] at hp
        refine kt_Yhb hg (by omega) ?_
        exact nm_r (nI_1 i) (ih (i + 1) _ _ (by omega) hp)
