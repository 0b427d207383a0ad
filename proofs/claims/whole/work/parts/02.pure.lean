/-! ===== the pure picture: found from the roots without passing a (a = 16: nothing is away) ===== -/
def kt_R (r : Nat → Bool) (e : Nat → Nat → Bool) (a o : Nat) : Prop := ∀ S : Nat → Prop, (∀ x, x < 16 → r x = true → x ≠ a → S x) → (∀ x y, x < 16 → y < 16 → S x → e x y = true → y ≠ a → S y) → S o
theorem kt_R0 {r : Nat → Bool} {e : Nat → Nat → Bool} {a x : Nat} (hx : x < 16) (hr : r x = true) (ha : x ≠ a) : kt_R r e a x := fun _ h0 _ => h0 x hx hr ha
theorem kt_R1 {r : Nat → Bool} {e : Nat → Nat → Bool} {a x y : Nat} (hx : x < 16) (hy : y < 16) (h : kt_R r e a x) (he : e x y = true) (ha : y ≠ a) : kt_R r e a y := fun S h0 h1 => h1 x y hx hy (h S h0 h1) he ha
theorem kt_Rn {r : Nat → Bool} {e : Nat → Nat → Bool} {a : Nat} : ¬ kt_R r e a a := fun h => h (fun x => x ≠ a) (fun _ _ _ z => z) (fun _ _ _ _ _ _ z => z) rfl
noncomputable def kt_A (r : Nat → Bool) (e : Nat → Nat → Bool) (a o : Nat) : Bool := @decide (kt_R r e a o) (Classical.propDecidable _)
theorem kt_A1 {r : Nat → Bool} {e : Nat → Nat → Bool} {a o : Nat} : kt_A r e a o = true ↔ kt_R r e a o := @decide_eq_true_iff _ (Classical.propDecidable _)
theorem kt_A0 {r : Nat → Bool} {e : Nat → Nat → Bool} {a o : Nat} : kt_A r e a o = false ↔ ¬ kt_R r e a o := @decide_eq_false_iff_not _ (Classical.propDecidable _)
/-! counting -/
def kt_cn (s : Nat → Bool) : Nat → Nat
  | 0 => 0
  | n + 1 => kt_cn s n + (if s n = true then 1 else 0)
theorem kt_cn_le (s t : Nat → Bool) : ∀ n, (∀ i, i < n → s i = true → t i = true) → kt_cn s n ≤ kt_cn t n := by
  intro n
  induction n with
  | zero => intro _; exact Nat.le_refl _
  | succ n ih =>
    intro h
    have h1 := ih (fun i hi => h i (by omega))
    have h2 := h n (by omega)
    show kt_cn s n + (if s n = true then 1 else 0) ≤ kt_cn t n + (if t n = true then 1 else 0)
    by_cases z : s n = true
    · rw [if_pos z, if_pos (h2 z)]; omega
    · rw [if_neg z]; omega
theorem kt_cn_lt (s t : Nat → Bool) : ∀ n, (∀ i, i < n → s i = true → t i = true) → (∃ i, i < n ∧ s i = false ∧ t i = true) → kt_cn s n + 1 ≤ kt_cn t n := by
  intro n
  induction n with
  | zero => intro _ h; obtain ⟨i, hi, _⟩ := h; omega
  | succ n ih =>
    intro h hx
    obtain ⟨i, hi, hs, ht⟩ := hx
    show kt_cn s n + (if s n = true then 1 else 0) + 1 ≤ kt_cn t n + (if t n = true then 1 else 0)
    by_cases z : i = n
    · subst z
      have h1 := kt_cn_le s t i (fun j hj => h j (by omega))
      rw [if_pos ht, if_neg (by rw [hs]; decide)]; omega
    · have h1 := ih (fun j hj => h j (by omega)) ⟨i, by omega, hs, ht⟩
      have h2 := h n (by omega)
      by_cases z : s n = true
      · rw [if_pos z, if_pos (h2 z)]; omega
      · rw [if_neg z]; omega
theorem kt_cn_n (s : Nat → Bool) : ∀ n, kt_cn s n ≤ n := by
  intro n
  induction n with
  | zero => exact Nat.le_refl _
  | succ n ih =>
    show kt_cn s n + (if s n = true then 1 else 0) ≤ n + 1
    split <;> omega
theorem kt_cn_all (s : Nat → Bool) : ∀ n, n ≤ kt_cn s n → ∀ i, i < n → s i = true := by
  intro n
  induction n with
  | zero => intro _ i hi; omega
  | succ n ih =>
    intro h i hi
    have h1 := kt_cn_n s n
    have h : n + 1 ≤ kt_cn s n + (if s n = true then 1 else 0) := h
    by_cases z : s n = true
    · rw [if_pos z] at h
      by_cases e : i = n
      · subst e; exact z
      · exact ih (by omega) i (by omega)
    · rw [if_neg z] at h; omega
/-! the closure in rounds -/
def kt_snd (r : Nat → Bool) (e : Nat → Nat → Bool) (a : Nat) (s : Nat → Bool) : Prop := ∀ i, i < 16 → s i = true → kt_R r e a i
def kt_sub (s t : Nat → Bool) : Prop := ∀ i, i < 16 → s i = true → t i = true
/-- what the round from s has taken up in t, of the references that come from below m, in the order of the rows -/
def kt_stp (e : Nat → Nat → Bool) (a m : Nat) (s t : Nat → Bool) : Prop := ∀ x y, x < 16 → y < 16 → 16 * x + y < m → s x = true → e x y = true → y ≠ a → t y = true
def kt_Inv (r : Nat → Bool) (e : Nat → Nat → Bool) (a j : Nat) (s : Nat → Bool) : Prop := (∀ i, i < 16 → r i = true → i ≠ a → s i = true) ∧ kt_snd r e a s ∧ ((∀ i, i < 16 → s i = kt_A r e a i) ∨ j ≤ kt_cn s 16)
theorem kt_clo {r : Nat → Bool} {e : Nat → Nat → Bool} {a : Nat} {s : Nat → Bool} (h0 : ∀ i, i < 16 → r i = true → i ≠ a → s i = true) (h1 : kt_snd r e a s) (h2 : kt_stp e a 256 s s) : ∀ i, i < 16 → s i = kt_A r e a i := by
  intro i hi
  cases z : s i
  · symm
    rw [kt_A0]
    intro h
    have := h (fun x => s x = true) h0 (fun x y hx hy hs he hn => h2 x y hx hy (by omega) hs he hn)
    rw [z] at this
    cases this
  · symm
    rw [kt_A1]
    exact h1 i hi z
theorem kt_eqA {r : Nat → Bool} {e : Nat → Nat → Bool} {a : Nat} {s t : Nat → Bool} (h : ∀ i, i < 16 → s i = kt_A r e a i) (hs : kt_sub s t) (ht : kt_snd r e a t) : ∀ i, i < 16 → t i = kt_A r e a i := by
  intro i hi
  cases z : t i
  · cases w : s i
    · rw [← h i hi, w]
    · have := hs i hi w
      rw [z] at this
      cases this
  · symm
    rw [kt_A1]
    exact ht i hi z
theorem kt_pass {r : Nat → Bool} {e : Nat → Nat → Bool} {a j : Nat} {s t : Nat → Bool} (I : kt_Inv r e a j s) (hs : kt_sub s t) (ht : kt_snd r e a t) (hp : kt_stp e a 256 s t) : kt_Inv r e a (j + 1) t := by
  obtain ⟨h0, h1, h2⟩ := I
  refine ⟨fun i hi hr ha => hs i hi (h0 i hi hr ha), ht, ?_⟩
  rcases h2 with h2 | h2
  · exact Or.inl (kt_eqA h2 hs ht)
  · by_cases c : kt_stp e a 256 s s
    · exact Or.inl (kt_eqA (kt_clo h0 h1 c) hs ht)
    · right
      have : ∃ i, i < 16 ∧ s i = false ∧ t i = true := Classical.byContradiction fun n => c (fun x y hx hy hm hsx he ha => by
        cases z : s y
        · exact absurd ⟨y, hy, z, hp x y hx hy hm hsx he ha⟩ n
        · rfl)
      have := kt_cn_lt s t 16 hs this
      omega
theorem kt_fin {r : Nat → Bool} {e : Nat → Nat → Bool} {a : Nat} {s : Nat → Bool} (I : kt_Inv r e a 16 s) : ∀ i, i < 16 → s i = kt_A r e a i := by
  obtain ⟨h0, h1, h2⟩ := I
  rcases h2 with h2 | h2
  · exact h2
  · have h := kt_cn_all s 16 h2
    exact kt_clo h0 h1 (fun x y _ hy _ _ _ _ => h y hy)
theorem kt_Inv0 {r : Nat → Bool} {e : Nat → Nat → Bool} {a : Nat} {s : Nat → Bool} (h : ∀ i, i < 16 → s i = (r i && !(decide (i = a)))) : kt_Inv r e a 0 s := by
  refine ⟨fun i hi hr ha => ?_, fun i hi hs => ?_, Or.inr (Nat.zero_le _)⟩
  · rw [h i hi, hr, decide_eq_false ha]; rfl
  · rw [h i hi, Bool.and_eq_true] at hs
    refine kt_R0 hi hs.1 (fun z => ?_)
    have := hs.2
    rw [decide_eq_true z] at this
    cases this
/-! ===== guards ===== -/
noncomputable def kt_G (r : Nat → Bool) (e : Nat → Nat → Bool) (k o : Nat) : Bool := kt_A r e 16 o && !(kt_A r e k o)
theorem kt_G1 {r : Nat → Bool} {e : Nat → Nat → Bool} {k o : Nat} : kt_G r e k o = true ↔ kt_R r e 16 o ∧ ¬ kt_R r e k o := by
  unfold kt_G
  rw [Bool.and_eq_true, kt_A1, Bool.not_eq_true', kt_A0]
theorem kt_self {r : Nat → Bool} {e : Nat → Nat → Bool} {o : Nat} (h : kt_R r e 16 o) : kt_G r e o o = true := kt_G1.mpr ⟨h, kt_Rn⟩
theorem kt_alv {r : Nat → Bool} {e : Nat → Nat → Bool} {k o : Nat} (h : kt_G r e k o = true) : kt_R r e 16 k := by
  obtain ⟨h1, h2⟩ := kt_G1.mp h
  apply Classical.byContradiction
  intro n
  apply h2
  refine (h1 (fun x => kt_R r e k x ∧ kt_R r e 16 x) (fun x hx hr ha => ?_) (fun x y hx hy hs he ha => ?_)).1
  · have a1 : kt_R r e 16 x := kt_R0 hx hr ha
    exact ⟨kt_R0 hx hr (fun z => n (z ▸ a1)), a1⟩
  · have a1 : kt_R r e 16 y := kt_R1 hx hy hs.2 he ha
    exact ⟨kt_R1 hx hy hs.1 he (fun z => n (z ▸ a1)), a1⟩
theorem kt_tr {r : Nat → Bool} {e : Nat → Nat → Bool} {g h o : Nat} (h1 : kt_G r e g h = true) (h2 : kt_G r e h o = true) : kt_G r e g o = true := by
  obtain ⟨_, b1⟩ := kt_G1.mp h1
  obtain ⟨a2, b2⟩ := kt_G1.mp h2
  refine kt_G1.mpr ⟨a2, fun z => b2 ?_⟩
  refine (z (fun x => kt_R r e h x ∧ kt_R r e g x) (fun x hx hr ha => ?_) (fun x y hx hy hs he ha => ?_)).1
  · have c : kt_R r e g x := kt_R0 hx hr ha
    exact ⟨kt_R0 hx hr (fun w => b1 (w ▸ c)), c⟩
  · have c : kt_R r e g y := kt_R1 hx hy hs.2 he ha
    exact ⟨kt_R1 hx hy hs.1 he (fun w => b1 (w ▸ c)), c⟩
theorem kt_tot {r : Nat → Bool} {e : Nat → Nat → Bool} {g h o : Nat} (h1 : kt_G r e g o = true) (h2 : kt_G r e h o = true) : kt_G r e g h = true ∨ kt_G r e h g = true := by
  apply Classical.byContradiction
  intro n
  have lg := kt_alv h1
  have lh := kt_alv h2
  have gh : kt_R r e g h := Classical.byContradiction fun z => n (Or.inl (kt_G1.mpr ⟨lh, z⟩))
  have hg : kt_R r e h g := Classical.byContradiction fun z => n (Or.inr (kt_G1.mpr ⟨lg, z⟩))
  obtain ⟨a1, b1⟩ := kt_G1.mp h1
  obtain ⟨_, b2⟩ := kt_G1.mp h2
  have : kt_R r e g o ∨ kt_R r e h o := by
    refine a1 (fun x => kt_R r e g x ∨ kt_R r e h x) (fun x hx hr ha => ?_) (fun x y hx hy hs he ha => ?_)
    · by_cases z : x = g
      · exact Or.inr (z ▸ hg)
      · exact Or.inl (kt_R0 hx hr z)
    · by_cases z : y = g
      · exact Or.inr (z ▸ hg)
      · by_cases w : y = h
        · exact Or.inl (w ▸ gh)
        · rcases hs with hs | hs
          · exact Or.inl (kt_R1 hx hy hs he z)
          · exact Or.inr (kt_R1 hx hy hs he w)
  rcases this with t | t
  · exact b1 t
  · exact b2 t
theorem kt_max {r : Nat → Bool} {e : Nat → Nat → Bool} {o : Nat} (D : Nat → Prop) (hD : ∀ g, D g → kt_G r e g o = true) : ∀ n, (∀ g, g < n → ¬ D g) ∨ ∃ g, g < n ∧ D g ∧ ∀ h, h < n → D h → kt_G r e h g = true := by
  intro n
  induction n with
  | zero => exact Or.inl (fun g hg => by omega)
  | succ n ih =>
    by_cases d : D n
    · right
      have sn : kt_G r e n n = true := kt_self (kt_alv (hD n d))
      rcases ih with ih | ⟨g, hg, dg, ih⟩
      · refine ⟨n, by omega, d, fun h hh dh => ?_⟩
        by_cases z : h = n
        · subst z; exact sn
        · exact absurd dh (ih h (by omega))
      · rcases kt_tot (hD g dg) (hD n d) with t | t
        · refine ⟨n, by omega, d, fun h hh dh => ?_⟩
          by_cases z : h = n
          · subst z; exact sn
          · exact kt_tr (ih h (by omega) dh) t
        · refine ⟨g, by omega, dg, fun h hh dh => ?_⟩
          by_cases z : h = n
          · subst z; exact t
          · exact ih h (by omega) dh
    · rcases ih with ih | ⟨g, hg, dg, ih⟩
      · left
        intro g hg
        by_cases z : g = n
        · subst z; exact d
        · exact ih g (by omega)
      · right
        refine ⟨g, by omega, dg, fun h hh dh => ?_⟩
        by_cases z : h = n
        · subst z; exact absurd dh d
        · exact ih h (by omega) dh
