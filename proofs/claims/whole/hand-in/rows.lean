section
/-! pasted from kit/rows: pk_us .. pk_cl, ek_if; bt and its rows -/
theorem pk_us {f : Nat → Int32} {k : Nat} {x : Int32} : upd f k x k = x := if_pos rfl
theorem pk_un {f : Nat → Int32} {k j : Nat} {x : Int32} (h : j ≠ k) : upd f k x j = f j := if_neg h
theorem pk_sub {a b : Nat} (h : b ≤ a) : nI a - nI b = nI (a - b) := by
  obtain ⟨c, rfl⟩ : ∃ c, a = c + b := ⟨a - b, by omega⟩
  rw [← nI_add, Int32.add_sub_cancel, Nat.add_sub_cancel]
theorem pk_m1 (n : Nat) : nI (n + 1) + (-1) = nI n := by
  rw [← nI_1, Int32.add_assoc, show (1 : Int32) + (-1) = 0 from rfl, Int32.add_zero]
theorem pk_mul (a b : Nat) : nI a * nI b = nI (a * b) := (Int32.ofNat_mul a b).symm
theorem pk_div {a d : Nat} (ha : a < 2 ^ 31) (h0 : 0 < d) (hd : d < 2 ^ 31) : nI a / nI d = nI (a / d) := by
  apply Int32.toInt_inj.mp
  rw [lg_idiv_nonneg (by rw [nI_toInt ha]; omega) (by rw [nI_toInt hd]; omega), nI_toInt ha, nI_toInt hd, nI_toInt (Nat.lt_of_le_of_lt (Nat.div_le_self a d) ha)]
  first | rfl | exact (Int.natCast_ediv _ _).symm
theorem pk_rem {a d : Nat} (ha : a < 2 ^ 31) (h0 : 0 < d) (hd : d < 2 ^ 31) : nI a - nI a / nI d * nI d = nI (a % d) := by
  rw [pk_div ha h0 hd, pk_mul, pk_sub (Nat.div_mul_le_self a d)]
  exact congrArg nI (by have := Nat.div_add_mod' a d; omega)
theorem pk_ix (x : Int32) {n : Nat} (hn : n < 2 ^ 31) : x < 0 ∨ nI n ≤ x ∨ ∃ j : Nat, j < n ∧ x = nI j := by
  by_cases h : x < 0
  · exact Or.inl h
  · obtain ⟨j, hj, rfl⟩ := nI_of h
    by_cases h2 : j < n
    · exact Or.inr (Or.inr ⟨j, h2, rfl⟩)
    · exact Or.inr (Or.inl (nI_le (by omega) hj))
theorem pk_le {x y : Int32} {A B : Prop} (a b : Nat) (f : a ≤ b → A) (g : b < a → B) (hx : x = nI a := by rfl) (hy : y = nI b := by rfl) (ha : a < 2 ^ 31 := by omega) (hb : b < 2 ^ 31 := by omega) : (x ≤ y → A) ∧ (¬ x ≤ y → B) := by
  subst hx hy
  rw [nI_leI ha hb]
  exact ⟨f, fun z => g (by omega)⟩
theorem pk_lt {x y : Int32} {A B : Prop} (a b : Nat) (f : a < b → A) (g : b ≤ a → B) (hx : x = nI a := by rfl) (hy : y = nI b := by rfl) (ha : a < 2 ^ 31 := by omega) (hb : b < 2 ^ 31 := by omega) : (x < y → A) ∧ (¬ x < y → B) := by
  subst hx hy
  rw [nI_ltI ha hb]
  exact ⟨f, fun z => g (by omega)⟩
theorem pk_eq {x y : Int32} {A B : Prop} (a b : Nat) (f : a = b → A) (g : a ≠ b → B) (hx : x = nI a := by rfl) (hy : y = nI b := by rfl) (ha : a < 2 ^ 31 := by omega) (hb : b < 2 ^ 31 := by omega) : (x = y → A) ∧ (¬ x = y → B) := by
  subst hx hy
  rw [nI_eq ha hb]
  exact ⟨f, g⟩
theorem pk_in {x : Int32} (n N : Nat) (h : n < N) (hx : x = nI n := by rfl) (hN : N < 2 ^ 31 := by omega) : vp_in x N := by
  subst hx
  exact vp_in_nI h hN
theorem pk_cl {x : Int32} (n : Nat) (hx : x = nI n := by rfl) (h : n < 2 ^ 31 := by omega) : x.toNatClampNeg = n := by
  subst hx
  exact nI_clamp h
theorem ek_if {c d A B : Prop} (e : c ↔ d) (f : d → A) (g : ¬ d → B) : (c → A) ∧ (¬ c → B) :=
  ⟨fun z => f (e.mp z), fun z => g (fun y => z (e.mpr y))⟩
def bt (x : Int32) (i : Nat) : Bool := x.toBitVec.getLsbD i
theorem b_ext {x y : Int32} (h : ∀ i, i < 32 → bt x i = bt y i) : x = y := Int32.toBitVec_inj.mp (BitVec.eq_of_getLsbD_eq (fun i hi => h i hi))
theorem b_or (x y : Int32) (i : Nat) : bt (x ||| y) i = (bt x i || bt y i) := by unfold bt; rw [Int32.toBitVec_or, BitVec.getLsbD_or]
theorem b_and (x y : Int32) (i : Nat) : bt (x &&& y) i = (bt x i && bt y i) := by unfold bt; rw [Int32.toBitVec_and, BitVec.getLsbD_and]
theorem b_xor (x y : Int32) (i : Nat) : bt (x ^^^ y) i = (bt x i ^^ bt y i) := by unfold bt; rw [Int32.toBitVec_xor, BitVec.getLsbD_xor]
theorem b_big {x : Int32} {i : Nat} (h : 32 ≤ i) : bt x i = false := BitVec.getLsbD_of_ge _ _ h
theorem b_m1 : ∀ i, i < 32 → bt (-1) i = true := by decide +kernel
theorem b_0 (i : Nat) : bt 0 i = false := BitVec.getLsbD_zero
theorem s_l : ∀ n, n < 32 → ((nI n &&& 31).toBitVec.smod 32).toNat = n := by decide +kernel
theorem b_shl (n : Nat) (hn : n < 32) (x : Int32) {i : Nat} (hi : i < 32) : bt (x <<< (nI n &&& 31)) i = (decide (n ≤ i) && bt x (i - n)) := by
  unfold bt
  rw [Int32.toBitVec_shiftLeft]
  show (x.toBitVec <<< ((nI n &&& 31).toBitVec.smod 32).toNat).getLsbD i = _
  rw [s_l n hn, BitVec.getLsbD_shiftLeft]
  rcases Nat.lt_or_ge i n with h | h
  · simp [h, Nat.not_le.mpr h]
  · simp [hi, h, Nat.not_lt.mpr h]
theorem b_sshr (n : Nat) (hn : n < 32) (x : Int32) {i : Nat} (hi : i < 32) : bt (x >>> (nI n &&& 31)) i = if n + i < 32 then bt x (n + i) else bt x 31 := by
  unfold bt
  rw [Int32.toBitVec_shiftRight]
  show (x.toBitVec.sshiftRight ((nI n &&& 31).toBitVec.smod 32).toNat).getLsbD i = _
  rw [s_l n hn, BitVec.getLsbD_sshiftRight, BitVec.msb_eq_getLsbD_last]
  simp [hi]
/-! ===== own rows: a Bool as an int, bits, arrays of Bools ===== -/
def kt_I (b : Bool) : Int32 := bif b then 1 else 0
theorem kt_I0 (b : Bool) : kt_I b = 0 ↔ b = false := by cases b <;> decide
theorem kt_I1 (b : Bool) : kt_I b = 1 ↔ b = true := by cases b <;> decide
theorem kt_n0 : vp_nar .boolean 0 = kt_I false := by rfl
theorem kt_n1 : vp_nar .boolean 1 = kt_I true := by rfl
theorem kt_nI (b : Bool) : vp_nar .boolean (kt_I b) = kt_I b := by cases b <;> rfl
theorem kt_nn (b : Bool) : narrow .boolean (.int (kt_I b)) = .int (kt_I b) := by cases b <;> rfl
theorem kt_b1 : ∀ i, i < 32 → bt 1 i = decide (i = 0) := by decide +kernel
theorem kt_bI (b : Bool) {i : Nat} (hi : i < 32) : bt (kt_I b) i = (b && decide (i = 0)) := by
  cases b
  · exact b_0 i
  · rw [Bool.true_and]; exact kt_b1 i hi
theorem kt_bit (x : Int32) {i : Nat} (hi : i < 32) : ((x >>> (nI i &&& 31)) &&& 1) = kt_I (bt x i) := by
  apply b_ext
  intro j hj
  rw [b_and, b_sshr i hi x hj, kt_b1 j hj, kt_bI _ hj]
  by_cases h : j = 0
  · subst h
    rw [if_pos (by omega)]; simp
  · simp [h]
theorem kt_sh1 {k i : Nat} (hk : k < 32) (hi : i < 32) : bt ((1 : Int32) <<< (nI k &&& 31)) i = decide (i = k) := by
  rw [b_shl k hk 1 hi, kt_b1 _ (by omega)]
  by_cases h : i = k
  · subst h; simp
  · by_cases h2 : k ≤ i
    · rw [decide_eq_false (show ¬ i - k = 0 by omega), decide_eq_false h]; simp
    · rw [decide_eq_false h2, decide_eq_false h]; simp
theorem kt_shI {k i : Nat} (b : Bool) (hk : k < 32) (hi : i < 32) : bt (kt_I b <<< (nI k &&& 31)) i = (b && decide (i = k)) := by
  rw [b_shl k hk _ hi, kt_bI _ (by omega)]
  by_cases h : i = k
  · subst h; simp
  · by_cases h2 : k ≤ i
    · rw [decide_eq_false (show ¬ i - k = 0 by omega), decide_eq_false h]; simp
    · rw [decide_eq_false h2, decide_eq_false h]; simp
theorem kt_not (x : Int32) {i : Nat} (hi : i < 32) : bt (x ^^^ (-1)) i = !(bt x i) := by
  rw [b_xor, b_m1 i hi]; simp
/-- an array of ints that holds, below n, the Bools of f -/
def kt_rep (n : Nat) (a : Nat → Int32) (f : Nat → Bool) : Prop := ∀ i, i < n → a i = kt_I (f i)
theorem kt_at {n : Nat} {a : Nat → Int32} {f : Nat → Bool} (h : kt_rep n a f) {x : Int32} (i : Nat) (hx : x = nI i) (hi : i < n) (h2 : i < 2 ^ 31) : a x.toNatClampNeg = kt_I (f i) := by
  subst hx
  rw [nI_clamp h2]
  exact h i hi
theorem kt_put {n : Nat} {a : Nat → Int32} {f : Nat → Bool} (h : kt_rep n a f) {x v : Int32} (i : Nat) (b : Bool) (hx : x = nI i) (h2 : i < 2 ^ 31) (hv : v = kt_I b) : kt_rep n (upd a x.toNatClampNeg v) (fun j => if j = i then b else f j) := by
  subst hx hv
  rw [nI_clamp h2]
  intro j hj
  show _ = kt_I (if j = i then b else f j)
  by_cases e : j = i
  · subst e; rw [pk_us, if_pos rfl]
  · rw [pk_un e, if_neg e]; exact h j hj
theorem kt_rep_c {n : Nat} {a : Nat → Int32} {f g : Nat → Bool} (h : kt_rep n a f) (e : ∀ i, i < n → f i = g i) : kt_rep n a g := fun i hi => by
  rw [h i hi, e i hi]
/-- one more cell -/
theorem kt_put1 {n : Nat} {a : Nat → Int32} {f : Nat → Bool} (h : kt_rep n a f) {x v : Int32} (hx : x = nI n) (h2 : n < 2 ^ 31) (hv : v = kt_I (f n)) : kt_rep (n + 1) (upd a x.toNatClampNeg v) f := by
  subst hx hv
  rw [nI_clamp h2]
  intro j hj
  by_cases e : j = n
  · subst e; rw [pk_us]
  · rw [pk_un e]; exact h j (by omega)
/-- a branch on such a value -/
theorem kt_br {x : Int32} {A B : Prop} (b : Bool) (hx : x = kt_I b) (f : b = false → A) (g : b = true → B) : (x = 0 → A) ∧ (¬ x = 0 → B) := by
  subst hx
  cases b
  · exact ⟨fun _ => f rfl, fun z => absurd rfl z⟩
  · exact ⟨fun z => absurd z (by decide), fun _ => g rfl⟩
theorem kt_br1 {x : Int32} {A B : Prop} (b : Bool) (hx : x = kt_I b) (f : b = true → A) (g : b = false → B) : (x = 1 → A) ∧ (¬ x = 1 → B) := by
  subst hx
  cases b
  · exact ⟨fun z => absurd z (by decide), fun _ => g rfl⟩
  · exact ⟨fun _ => f rfl, fun z => absurd rfl z⟩
/-- an index of two -/
theorem kt_ix (a b : Nat) : (16 * nI a) + nI b = nI (16 * a + b) := by
  show (nI 16 * nI a) + nI b = _
  rw [pk_mul, nI_add]
end
section
/-! ===== the pure picture: found from the roots without passing a (a = 16: nothing is away) ===== -/
def kt_R (r : Nat → Bool) (e : Nat → Nat → Bool) (a o : Nat) : Prop := ∀ S : Nat → Prop, (∀ x, x < 16 → r x = true → x ≠ a → S x) → (∀ x y, x < 16 → y < 16 → S x → e x y = true → y ≠ a → S y) → S o
theorem kt_R0 {r : Nat → Bool} {e : Nat → Nat → Bool} {a x : Nat} (hx : x < 16) (hr : r x = true) (ha : x ≠ a) : kt_R r e a x := fun _ h0 _ => h0 x hx hr ha
theorem kt_R1 {r : Nat → Bool} {e : Nat → Nat → Bool} {a x y : Nat} (hx : x < 16) (hy : y < 16) (h : kt_R r e a x) (he : e x y = true) (ha : y ≠ a) : kt_R r e a y := fun S h0 h1 => h1 x y hx hy (h S h0 h1) he ha
theorem kt_Rn {r : Nat → Bool} {e : Nat → Nat → Bool} {a : Nat} : ¬ kt_R r e a a := fun h => h (fun x => x ≠ a) (fun _ _ _ z => z) (fun _ _ _ _ _ _ z => z) rfl
noncomputable def kt_A (r : Nat → Bool) (e : Nat → Nat → Bool) (a o : Nat) : Bool := @decide (kt_R r e a o) (Classical.propDecidable _)
theorem kt_A1 {r : Nat → Bool} {e : Nat → Nat → Bool} {a o : Nat} : kt_A r e a o = true ↔ kt_R r e a o := @decide_eq_true_iff _ (Classical.propDecidable _)
theorem kt_A0 {r : Nat → Bool} {e : Nat → Nat → Bool} {a o : Nat} : kt_A r e a o = false ↔ ¬ kt_R r e a o := @decide_eq_false_iff_not _ (Classical.propDecidable _)
/-! counting -/
def kt_cn (s : Nat → Bool) : Nat → Nat
  | 0 => 0
  | n + 1 => kt_cn s n + (if s n = true then 1 else 0)
theorem kt_cn_le (s t : Nat → Bool) : ∀ n, (∀ i, i < n → s i = true → t i = true) → kt_cn s n ≤ kt_cn t n := by
  intro n
  induction n with
  | zero => intro _; exact Nat.le_refl _
  | succ n ih =>
    intro h
    have h1 := ih (fun i hi => h i (by omega))
    have h2 := h n (by omega)
    show kt_cn s n + (if s n = true then 1 else 0) ≤ kt_cn t n + (if t n = true then 1 else 0)
    by_cases z : s n = true
    · rw [if_pos z, if_pos (h2 z)]; omega
    · rw [if_neg z]; omega
theorem kt_cn_lt (s t : Nat → Bool) : ∀ n, (∀ i, i < n → s i = true → t i = true) → (∃ i, i < n ∧ s i = false ∧ t i = true) → kt_cn s n + 1 ≤ kt_cn t n := by
  intro n
  induction n with
  | zero => intro _ h; obtain ⟨i, hi, _⟩ := h; omega
  | succ n ih =>
    intro h hx
    obtain ⟨i, hi, hs, ht⟩ := hx
    show kt_cn s n + (if s n = true then 1 else 0) + 1 ≤ kt_cn t n + (if t n = true then 1 else 0)
    by_cases z : i = n
    · subst z
      have h1 := kt_cn_le s t i (fun j hj => h j (by omega))
      rw [if_pos ht, if_neg (by rw [hs]; decide)]; omega
    · have h1 := ih (fun j hj => h j (by omega)) ⟨i, by omega, hs, ht⟩
      have h2 := h n (by omega)
      by_cases z : s n = true
      · rw [if_pos z, if_pos (h2 z)]; omega
      · rw [if_neg z]; omega
theorem kt_cn_n (s : Nat → Bool) : ∀ n, kt_cn s n ≤ n := by
  intro n
  induction n with
  | zero => exact Nat.le_refl _
  | succ n ih =>
    show kt_cn s n + (if s n = true then 1 else 0) ≤ n + 1
    split <;> omega
theorem kt_cn_all (s : Nat → Bool) : ∀ n, n ≤ kt_cn s n → ∀ i, i < n → s i = true := by
  intro n
  induction n with
  | zero => intro _ i hi; omega
  | succ n ih =>
    intro h i hi
    have h1 := kt_cn_n s n
    have h : n + 1 ≤ kt_cn s n + (if s n = true then 1 else 0) := h
    by_cases z : s n = true
    · rw [if_pos z] at h
      by_cases e : i = n
      · subst e; exact z
      · exact ih (by omega) i (by omega)
    · rw [if_neg z] at h; omega
/-! the closure in rounds -/
def kt_snd (r : Nat → Bool) (e : Nat → Nat → Bool) (a : Nat) (s : Nat → Bool) : Prop := ∀ i, i < 16 → s i = true → kt_R r e a i
def kt_sub (s t : Nat → Bool) : Prop := ∀ i, i < 16 → s i = true → t i = true
/-- what the round from s has taken up in t, of the references that come from below m, in the order of the rows -/
def kt_stp (e : Nat → Nat → Bool) (a m : Nat) (s t : Nat → Bool) : Prop := ∀ x y, x < 16 → y < 16 → 16 * x + y < m → s x = true → e x y = true → y ≠ a → t y = true
def kt_Inv (r : Nat → Bool) (e : Nat → Nat → Bool) (a j : Nat) (s : Nat → Bool) : Prop := (∀ i, i < 16 → r i = true → i ≠ a → s i = true) ∧ kt_snd r e a s ∧ ((∀ i, i < 16 → s i = kt_A r e a i) ∨ j ≤ kt_cn s 16)
theorem kt_clo {r : Nat → Bool} {e : Nat → Nat → Bool} {a : Nat} {s : Nat → Bool} (h0 : ∀ i, i < 16 → r i = true → i ≠ a → s i = true) (h1 : kt_snd r e a s) (h2 : kt_stp e a 256 s s) : ∀ i, i < 16 → s i = kt_A r e a i := by
  intro i hi
  cases z : s i
  · symm
    rw [kt_A0]
    intro h
    have := h (fun x => s x = true) h0 (fun x y hx hy hs he hn => h2 x y hx hy (by omega) hs he hn)
    rw [z] at this
    cases this
  · symm
    rw [kt_A1]
    exact h1 i hi z
theorem kt_eqA {r : Nat → Bool} {e : Nat → Nat → Bool} {a : Nat} {s t : Nat → Bool} (h : ∀ i, i < 16 → s i = kt_A r e a i) (hs : kt_sub s t) (ht : kt_snd r e a t) : ∀ i, i < 16 → t i = kt_A r e a i := by
  intro i hi
  cases z : t i
  · cases w : s i
    · rw [← h i hi, w]
    · have := hs i hi w
      rw [z] at this
      cases this
  · symm
    rw [kt_A1]
    exact ht i hi z
theorem kt_pass {r : Nat → Bool} {e : Nat → Nat → Bool} {a j : Nat} {s t : Nat → Bool} (I : kt_Inv r e a j s) (hs : kt_sub s t) (ht : kt_snd r e a t) (hp : kt_stp e a 256 s t) : kt_Inv r e a (j + 1) t := by
  obtain ⟨h0, h1, h2⟩ := I
  refine ⟨fun i hi hr ha => hs i hi (h0 i hi hr ha), ht, ?_⟩
  rcases h2 with h2 | h2
  · exact Or.inl (kt_eqA h2 hs ht)
  · by_cases c : kt_stp e a 256 s s
    · exact Or.inl (kt_eqA (kt_clo h0 h1 c) hs ht)
    · right
      have : ∃ i, i < 16 ∧ s i = false ∧ t i = true := Classical.byContradiction fun n => c (fun x y hx hy hm hsx he ha => by
        cases z : s y
        · exact absurd ⟨y, hy, z, hp x y hx hy hm hsx he ha⟩ n
        · rfl)
      have := kt_cn_lt s t 16 hs this
      omega
theorem kt_fin {r : Nat → Bool} {e : Nat → Nat → Bool} {a : Nat} {s : Nat → Bool} (I : kt_Inv r e a 16 s) : ∀ i, i < 16 → s i = kt_A r e a i := by
  obtain ⟨h0, h1, h2⟩ := I
  rcases h2 with h2 | h2
  · exact h2
  · have h := kt_cn_all s 16 h2
    exact kt_clo h0 h1 (fun x y _ hy _ _ _ _ => h y hy)
theorem kt_Inv0 {r : Nat → Bool} {e : Nat → Nat → Bool} {a : Nat} {s : Nat → Bool} (h : ∀ i, i < 16 → s i = (r i && !(decide (i = a)))) : kt_Inv r e a 0 s := by
  refine ⟨fun i hi hr ha => ?_, fun i hi hs => ?_, Or.inr (Nat.zero_le _)⟩
  · rw [h i hi, hr, decide_eq_false ha]; rfl
  · rw [h i hi, Bool.and_eq_true] at hs
    refine kt_R0 hi hs.1 (fun z => ?_)
    have := hs.2
    rw [decide_eq_true z] at this
    cases this
/-! ===== guards ===== -/
noncomputable def kt_G (r : Nat → Bool) (e : Nat → Nat → Bool) (k o : Nat) : Bool := kt_A r e 16 o && !(kt_A r e k o)
theorem kt_G1 {r : Nat → Bool} {e : Nat → Nat → Bool} {k o : Nat} : kt_G r e k o = true ↔ kt_R r e 16 o ∧ ¬ kt_R r e k o := by
  unfold kt_G
  rw [Bool.and_eq_true, kt_A1, Bool.not_eq_true', kt_A0]
theorem kt_self {r : Nat → Bool} {e : Nat → Nat → Bool} {o : Nat} (h : kt_R r e 16 o) : kt_G r e o o = true := kt_G1.mpr ⟨h, kt_Rn⟩
theorem kt_alv {r : Nat → Bool} {e : Nat → Nat → Bool} {k o : Nat} (h : kt_G r e k o = true) : kt_R r e 16 k := by
  obtain ⟨h1, h2⟩ := kt_G1.mp h
  apply Classical.byContradiction
  intro n
  apply h2
  refine (h1 (fun x => kt_R r e k x ∧ kt_R r e 16 x) (fun x hx hr ha => ?_) (fun x y hx hy hs he ha => ?_)).1
  · have a1 : kt_R r e 16 x := kt_R0 hx hr ha
    exact ⟨kt_R0 hx hr (fun z => n (z ▸ a1)), a1⟩
  · have a1 : kt_R r e 16 y := kt_R1 hx hy hs.2 he ha
    exact ⟨kt_R1 hx hy hs.1 he (fun z => n (z ▸ a1)), a1⟩
theorem kt_tr {r : Nat → Bool} {e : Nat → Nat → Bool} {g h o : Nat} (h1 : kt_G r e g h = true) (h2 : kt_G r e h o = true) : kt_G r e g o = true := by
  obtain ⟨_, b1⟩ := kt_G1.mp h1
  obtain ⟨a2, b2⟩ := kt_G1.mp h2
  refine kt_G1.mpr ⟨a2, fun z => b2 ?_⟩
  refine (z (fun x => kt_R r e h x ∧ kt_R r e g x) (fun x hx hr ha => ?_) (fun x y hx hy hs he ha => ?_)).1
  · have c : kt_R r e g x := kt_R0 hx hr ha
    exact ⟨kt_R0 hx hr (fun w => b1 (w ▸ c)), c⟩
  · have c : kt_R r e g y := kt_R1 hx hy hs.2 he ha
    exact ⟨kt_R1 hx hy hs.1 he (fun w => b1 (w ▸ c)), c⟩
theorem kt_tot {r : Nat → Bool} {e : Nat → Nat → Bool} {g h o : Nat} (h1 : kt_G r e g o = true) (h2 : kt_G r e h o = true) : kt_G r e g h = true ∨ kt_G r e h g = true := by
  apply Classical.byContradiction
  intro n
  have lg := kt_alv h1
  have lh := kt_alv h2
  have gh : kt_R r e g h := Classical.byContradiction fun z => n (Or.inl (kt_G1.mpr ⟨lh, z⟩))
  have hg : kt_R r e h g := Classical.byContradiction fun z => n (Or.inr (kt_G1.mpr ⟨lg, z⟩))
  obtain ⟨a1, b1⟩ := kt_G1.mp h1
  obtain ⟨_, b2⟩ := kt_G1.mp h2
  have : kt_R r e g o ∨ kt_R r e h o := by
    refine a1 (fun x => kt_R r e g x ∨ kt_R r e h x) (fun x hx hr ha => ?_) (fun x y hx hy hs he ha => ?_)
    · by_cases z : x = g
      · exact Or.inr (z ▸ hg)
      · exact Or.inl (kt_R0 hx hr z)
    · by_cases z : y = g
      · exact Or.inr (z ▸ hg)
      · by_cases w : y = h
        · exact Or.inl (w ▸ gh)
        · rcases hs with hs | hs
          · exact Or.inl (kt_R1 hx hy hs he z)
          · exact Or.inr (kt_R1 hx hy hs he w)
  rcases this with t | t
  · exact b1 t
  · exact b2 t
theorem kt_max {r : Nat → Bool} {e : Nat → Nat → Bool} {o : Nat} (D : Nat → Prop) (hD : ∀ g, D g → kt_G r e g o = true) : ∀ n, (∀ g, g < n → ¬ D g) ∨ ∃ g, g < n ∧ D g ∧ ∀ h, h < n → D h → kt_G r e h g = true := by
  intro n
  induction n with
  | zero => exact Or.inl (fun g hg => by omega)
  | succ n ih =>
    by_cases d : D n
    · right
      have sn : kt_G r e n n = true := kt_self (kt_alv (hD n d))
      rcases ih with ih | ⟨g, hg, dg, ih⟩
      · refine ⟨n, by omega, d, fun h hh dh => ?_⟩
        by_cases z : h = n
        · subst z; exact sn
        · exact absurd dh (ih h (by omega))
      · rcases kt_tot (hD g dg) (hD n d) with t | t
        · refine ⟨n, by omega, d, fun h hh dh => ?_⟩
          by_cases z : h = n
          · subst z; exact sn
          · exact kt_tr (ih h (by omega) dh) t
        · refine ⟨g, by omega, dg, fun h hh dh => ?_⟩
          by_cases z : h = n
          · subst z; exact t
          · exact ih h (by omega) dh
    · rcases ih with ih | ⟨g, hg, dg, ih⟩
      · left
        intro g hg
        by_cases z : g = n
        · subst z; exact d
        · exact ih g (by omega)
      · right
        refine ⟨g, by omega, dg, fun h hh dh => ?_⟩
        by_cases z : h = n
        · subst z; exact absurd dh d
        · exact ih h (by omega) dh
end
section
/-! ===== what both sides compute ===== -/
noncomputable def kt_p (G : Nat → Nat → Bool) (s : Nat → Bool) (g : Nat) : Bool := @decide (s g = true ∧ ∀ h, h < 16 → s h = true → G h g = true) (Classical.propDecidable _)
theorem kt_p1 {G : Nat → Nat → Bool} {s : Nat → Bool} {g : Nat} : kt_p G s g = true ↔ (s g = true ∧ ∀ h, h < 16 → s h = true → G h g = true) := @decide_eq_true_iff _ (Classical.propDecidable _)
def kt_F (p : Nat → Bool) : Nat → Nat → Int32
  | 0, _ => -1
  | d + 1, i => if p i = true then nI i else kt_F p d (i + 1)
def kt_S (f : Nat → Bool) (z : Nat → Int32) : Nat → Nat → Int32 → Int32
  | 0, _, c => c
  | d + 1, i, c => kt_S f z d (i + 1) (if f i = true then c + z i else c)
def kt_C (f : Nat → Bool) : Nat → Nat → Int32 → Int32
  | 0, _, c => c
  | d + 1, i, c => kt_C f d (i + 1) (if f i = true then c + 1 else c)
def kt_H (q : Nat → Bool) (hs : Nat → Int32) : Nat → Nat → Int32 → Int32 → Int32
  | 0, _, b, _ => b
  | d + 1, i, b, m => if q i = true then (if hs i ≤ m then kt_H q hs d (i + 1) b m else kt_H q hs d (i + 1) (nI i) (hs i)) else kt_H q hs d (i + 1) b m
noncomputable def kt_q (G : Nat → Nat → Bool) (o : Nat) : Bool := @decide (∀ k, k < 16 → G k o = decide (k = o)) (Classical.propDecidable _)
theorem kt_q1 {G : Nat → Nat → Bool} {o : Nat} : kt_q G o = true ↔ (∀ k, k < 16 → G k o = decide (k = o)) := @decide_eq_true_iff _ (Classical.propDecidable _)
def kt_e (rf : Nat → Int32) (i j : Nat) : Bool := bt (rf i) j
theorem kt_ge16 {i : Nat} (h : i < 16) : ¬ (16 : Int32) ≤ nI i := nI_ge (b := 16) h (by decide)
theorem kt_le16 {i : Nat} (h : i = 16) : (16 : Int32) ≤ nI i := by subst h; exact Int32.le_refl _
/-! ===== the component's walks ===== -/
theorem kt_X20 {post : Int32 → Prop} {J : Int32 → Int32 → Prop} {x1 x3 ro : Int32} {sz rf : Nat → Int32} {r : Nat → Bool} {a : Nat} (l0 : Nat → Bool) (hx : ∀ i, i < 16 → bt x1 i = decide (i = a)) (hJ : ∀ l, kt_sub l0 (bt l) → kt_snd r (kt_e rf) a (bt l) → kt_stp (kt_e rf) a 256 l0 (bt l) → J l (x3 + 1)) : ∀ d i l, i + d = 16 → kt_sub l0 (bt l) → kt_snd r (kt_e rf) a (bt l) → kt_stp (kt_e rf) a (16 * i) l0 (bt l) → wX_aliveWithout_20 post J x1 x3 ro sz rf (d + 1) l (nI i) := by
  intro d
  induction d with
  | zero =>
    intro i l hi h1 h2 h3
    have e : i = 16 := by omega
    subst e
    exact br_t (kt_le16 rfl) (nm_e (hJ l h1 h2 h3))
  | succ d ih =>
    intro i l hi h1 h2 h3
    refine br_f (kt_ge16 (by omega)) ?_
    refine kt_br1 (bt l i) (kt_bit l (by omega)) (fun t => ?_) (fun f => ?_)
    · refine ⟨vp_in_nI (by omega) (by omega), ?_⟩
      intro l' hl y ey
      rw [ey, nI_1]
      rw [nI_clamp (by omega)] at hl
      have hb : ∀ j, j < 16 → bt l' j = (bt l j || (bt (rf i) j && !(decide (j = a)))) := by
        intro j hj
        rw [hl, b_or, b_and, kt_not _ (by omega), hx j hj]
      refine ih (i + 1) l' (by omega) (fun j hj s => ?_) (fun j hj s => ?_) (fun x y hx' hy hm sx exy ha => ?_)
      · rw [hb j hj, h1 j hj s]; rfl
      · rw [hb j hj, Bool.or_eq_true] at s
        rcases s with s | s
        · exact h2 j hj s
        · rw [Bool.and_eq_true] at s
          refine kt_R1 (x := i) (by omega) hj (h2 i (by omega) t) s.1 (fun z => ?_)
          have w := s.2
          rw [decide_eq_true z] at w
          cases w
      · rw [hb y hy]
        by_cases z : x = i
        · subst z
          have w : bt (rf x) y = true := exy
          rw [w, decide_eq_false ha]; simp
        · rw [h3 x y hx' hy (by omega) sx exy ha]; rfl
    · intro y ey
      rw [ey, nI_1]
      refine ih (i + 1) l (by omega) h1 h2 (fun x y hx' hy hm sx exy ha => ?_)
      by_cases z : x = i
      · subst z
        have w := h1 x hx' sx
        rw [f] at w
        cases w
      · exact h3 x y hx' hy (by omega) sx exy ha
theorem kt_X11 {post : Int32 → Prop} {x1 ro : Int32} {sz rf : Nat → Int32} {a : Nat} (hx : ∀ i, i < 16 → bt x1 i = decide (i = a)) (hp : ∀ w, (∀ i, i < 16 → bt w i = kt_A (bt ro) (kt_e rf) a i) → post w) : ∀ d j l, j + d = 16 → kt_Inv (bt ro) (kt_e rf) a j (bt l) → wX_aliveWithout_11 post x1 ro sz rf (d + 1) l (nI j) := by
  intro d
  induction d with
  | zero =>
    intro j l hj h
    have e : j = 16 := by omega
    subst e
    exact br_t (kt_le16 rfl) (hp l (kt_fin h))
  | succ d ih =>
    intro j l hj h
    refine br_f (kt_ge16 (by omega)) ⟨17, ?_⟩
    refine kt_X20 (r := bt ro) (bt l) hx (fun l' a b c => ?_) 16 0 l rfl (fun _ _ z => z) h.2.1 (fun x y _ _ hm => absurd hm (by omega))
    rw [nI_1]
    exact ih (j + 1) l' (by omega) (kt_pass h a b c)
theorem kt_Xal {post : Int32 → Prop} {p0 ro : Int32} {sz rf : Nat → Int32} {a : Nat} (hx : ∀ i, i < 16 → bt p0 i = decide (i = a)) (hp : ∀ w, (∀ i, i < 16 → bt w i = kt_A (bt ro) (kt_e rf) a i) → post w) : wpX_aliveWithout post (ro, sz, rf) p0 := by
  intro l hl
  refine ⟨17, kt_X11 hx hp 16 0 l rfl (kt_Inv0 (fun i hi => ?_))⟩
  rw [hl, b_and, kt_not _ (by omega), hx i hi]
theorem kt_no {i : Nat} (h : i < 16) : bt 0 i = decide (i = 16) := by rw [b_0, decide_eq_false (by omega)]
theorem kt_Xgb {post : Int32 → Prop} {ro : Int32} {sz rf : Nat → Int32} {k : Nat} (hk : k < 16) (hp : ∀ w, (∀ i, i < 16 → bt w i = kt_G (bt ro) (kt_e rf) k i) → post w) : wpX_guardedBy post (ro, sz, rf) (nI k) := by
  unfold wpX_guardedBy
  dsimp only
  refine kt_Xal (a := 16) (fun i hi => kt_no hi) (fun w1 h1 => ?_)
  refine kt_Xal (a := k) (fun i hi => kt_sh1 (by omega) (by omega)) (fun w2 h2 => hp _ (fun i hi => ?_))
  rw [b_and, kt_not _ (by omega), h1 i hi, h2 i hi]
  rfl
theorem kt_Xg4 {post : Int32 → Prop} {ro : Int32} {sz rf : Nat → Int32} {o : Nat} (ho : o < 16) (hp : ∀ w, (∀ i, i < 32 → bt w i = (decide (i < 16) && kt_G (bt ro) (kt_e rf) i o)) → post w) : ∀ d g w, g + d = 16 → (∀ i, i < 32 → bt w i = (decide (i < g) && kt_G (bt ro) (kt_e rf) i o)) → wX_guardsOf_4 post (nI o) ro sz rf (d + 1) w (nI g) := by
  intro d
  induction d with
  | zero =>
    intro g w hg h
    have e : g = 16 := by omega
    subst e
    exact br_t (kt_le16 rfl) (hp w h)
  | succ d ih =>
    intro g w hg h
    refine br_f (kt_ge16 (by omega)) (kt_Xgb (by omega) (fun w1 h1 => ?_))
    unfold wpX_bitOf
    intro w2 e2 y ey
    rw [kt_bit w1 (by omega), h1 o ho] at e2
    rw [ey, nI_1]
    refine ih (g + 1) w2 (by omega) (fun i hi => ?_)
    rw [e2, b_or, kt_shI _ (by omega) hi, h i hi]
    by_cases z : i = g
    · subst z
      rw [decide_eq_false (show ¬ i < i by omega), decide_eq_true (show i < i + 1 by omega)]; simp
    · rw [decide_eq_false z]
      by_cases z2 : i < g
      · rw [decide_eq_true z2, decide_eq_true (show i < g + 1 by omega)]; simp
      · rw [decide_eq_false z2, decide_eq_false (show ¬ i < g + 1 by omega)]; simp
theorem kt_Xgo {post : Int32 → Prop} {ro : Int32} {sz rf : Nat → Int32} {o : Nat} (ho : o < 16) (hp : ∀ w, (∀ i, i < 32 → bt w i = (decide (i < 16) && kt_G (bt ro) (kt_e rf) i o)) → post w) : wpX_guardsOf post (ro, sz, rf) (nI o) :=
  ⟨17, kt_Xg4 ho hp 16 0 0 rfl (fun i _ => by rw [b_0, decide_eq_false (by omega)]; rfl)⟩
theorem kt_Xl2 {post : Int32 → Prop} {x1 ro : Int32} {sz rf : Nat → Int32} (s : Nat → Bool) (hx : ∀ i, i < 32 → bt x1 i = (decide (i < 16) && s i)) : ∀ d i, i + d = 16 → post (kt_F (kt_p (kt_G (bt ro) (kt_e rf)) s) d i) → wX_lastGuard_2 post x1 ro sz rf (d + 1) (nI i) := by
  intro d
  induction d with
  | zero =>
    intro i hi hp
    exact br_t (kt_le16 (by omega)) hp
  | succ d ih =>
    intro i hi hp
    have hxi : bt x1 i = s i := by rw [hx i (by omega), decide_eq_true (by omega)]; rfl
    have hp' : ¬ kt_p (kt_G (bt ro) (kt_e rf)) s i = true → post (kt_F (kt_p (kt_G (bt ro) (kt_e rf)) s) d (i + 1)) := fun n => by
      rw [kt_F, if_neg n] at hp; exact hp
    refine br_f (kt_ge16 (by omega)) ?_
    refine kt_br1 (bt x1 i) (kt_bit x1 (by omega)) (fun t => ?_) (fun f => ?_)
    · refine kt_Xgo (by omega) (fun w hw => ?_)
      have key : (x1 &&& (w ^^^ (-1))) = 0 ↔ kt_p (kt_G (bt ro) (kt_e rf)) s i = true := by
        rw [kt_p1]
        constructor
        · intro z
          refine ⟨hxi ▸ t, fun h hh sh => ?_⟩
          have b : bt (x1 &&& (w ^^^ (-1))) h = bt 0 h := by rw [z]
          rw [b_and, kt_not _ (by omega), hx h (by omega), hw h (by omega), b_0, sh, decide_eq_true hh] at b
          cases c : kt_G (bt ro) (kt_e rf) h i
          · rw [c] at b; cases b
          · rfl
        · intro z
          apply b_ext
          intro h hh
          rw [b_and, kt_not _ hh, hx h hh, hw h hh, b_0]
          by_cases l : h < 16
          · rw [decide_eq_true l]
            cases c : s h
            · rfl
            · rw [z.2 h l c]; rfl
          · rw [decide_eq_false l]; rfl
      refine ek_if key (fun t => ?_) (fun n => ?_)
      · rw [kt_F, if_pos t] at hp
        exact hp
      · intro y ey
        rw [ey, nI_1]
        exact ih (i + 1) (by omega) (hp' n)
    · intro y ey
      rw [ey, nI_1]
      refine ih (i + 1) (by omega) (hp' (fun z => ?_))
      have := (kt_p1.mp z).1
      rw [← hxi, f] at this
      cases this
theorem kt_Xlg {post : Int32 → Prop} {x1 ro : Int32} {sz rf : Nat → Int32} (s : Nat → Bool) (hx : ∀ i, i < 32 → bt x1 i = (decide (i < 16) && s i)) (hp : post (kt_F (kt_p (kt_G (bt ro) (kt_e rf)) s) 16 0)) : wpX_lastGuard post (ro, sz, rf) x1 :=
  ⟨17, kt_Xl2 s hx 16 0 rfl hp⟩
theorem kt_Xs4 {post : Int32 → Prop} {x1 ro : Int32} {sz rf : Nat → Int32} (f : Nat → Bool) (hx : ∀ i, i < 16 → bt x1 i = f i) : ∀ d i c, i + d = 16 → post (kt_S f sz d i c) → wX_sizeOf_4 post x1 ro sz rf (d + 1) c (nI i) := by
  intro d
  induction d with
  | zero =>
    intro i c hi hp
    exact br_t (kt_le16 (by omega)) hp
  | succ d ih =>
    intro i c hi hp
    refine br_f (kt_ge16 (by omega)) ?_
    refine kt_br1 (f i) ((kt_bit x1 (by omega)).trans (by rw [hx i (by omega)])) (fun t => ?_) (fun n => ?_)
    · refine ⟨vp_in_nI (by omega) (by omega), ?_⟩
      intro c' ec y ey
      rw [ey, nI_1, ec, nI_clamp (by omega)]
      refine ih (i + 1) _ (by omega) ?_
      rw [kt_S, if_pos t] at hp
      exact hp
    · intro y ey
      rw [ey, nI_1]
      refine ih (i + 1) _ (by omega) ?_
      rw [kt_S, if_neg (by rw [n]; decide)] at hp
      exact hp
theorem kt_Xsz {post : Int32 → Prop} {x1 ro : Int32} {sz rf : Nat → Int32} (f : Nat → Bool) (hx : ∀ i, i < 16 → bt x1 i = f i) (hp : post (kt_S f sz 16 0 0)) : wpX_sizeOf post (ro, sz, rf) x1 :=
  ⟨17, kt_Xs4 f hx 16 0 0 rfl hp⟩
theorem kt_Xc4 {post : Int32 → Prop} {x0 : Int32} (f : Nat → Bool) (hx : ∀ i, i < 16 → bt x0 i = f i) : ∀ d i c, i + d = 16 → post (kt_C f d i c) → wX_countOf_4 post x0 (d + 1) c (nI i) := by
  intro d
  induction d with
  | zero =>
    intro i c hi hp
    exact br_t (kt_le16 (by omega)) hp
  | succ d ih =>
    intro i c hi hp
    refine br_f (kt_ge16 (by omega)) ?_
    unfold wpX_bitOf
    intro c' ec y ey
    rw [kt_bit x0 (by omega), hx i (by omega)] at ec
    rw [ey, nI_1, ec]
    refine ih (i + 1) _ (by omega) ?_
    rw [kt_C] at hp
    cases z : f i
    · rw [z, if_neg (by decide)] at hp
      have e : c + kt_I false = c := Int32.add_zero c
      rw [e]; exact hp
    · rw [z, if_pos rfl] at hp
      exact hp
theorem kt_Xco {post : Int32 → Prop} {x0 : Int32} (f : Nat → Bool) (hx : ∀ i, i < 16 → bt x0 i = f i) (hp : post (kt_C f 16 0 0)) : wpX_countOf post x0 :=
  ⟨17, kt_Xc4 f hx 16 0 0 rfl hp⟩
theorem kt_Xh6 {post : Int32 → Prop} {ro : Int32} {sz rf : Nat → Int32} : ∀ d i b m, i + d = 16 → post (kt_H (kt_q (kt_G (bt ro) (kt_e rf))) (fun k => kt_S (kt_G (bt ro) (kt_e rf) k) sz 16 0 0) d i b m) → wX_heaviest_6 post ro sz rf (d + 1) b m (nI i) := by
  intro d
  induction d with
  | zero =>
    intro i b m hi hp
    exact br_t (kt_le16 (by omega)) hp
  | succ d ih =>
    intro i b m hi hp
    refine br_f (kt_ge16 (by omega)) (kt_Xgo (by omega) (fun w hw => ?_))
    have key : w = ((1 : Int32) <<< (nI i &&& 31)) ↔ kt_q (kt_G (bt ro) (kt_e rf)) i = true := by
      rw [kt_q1]
      constructor
      · intro z k hk
        have e := hw k (by omega)
        rw [z, kt_sh1 (by omega) (by omega), decide_eq_true hk, Bool.true_and] at e
        exact e.symm
      · intro z
        apply b_ext
        intro k hk
        rw [hw k hk, kt_sh1 (by omega) hk]
        by_cases l : k < 16
        · rw [decide_eq_true l, z k l, Bool.true_and]
        · rw [decide_eq_false l, decide_eq_false (show ¬ k = i by omega)]; rfl
    rw [kt_H] at hp
    refine ek_if key (fun t => ?_) (fun n => ?_)
    · rw [if_pos t] at hp
      refine kt_Xgb (by omega) (fun w1 h1 => ?_)
      refine kt_Xsz (kt_G (bt ro) (kt_e rf) i) h1 ?_
      refine ⟨fun l => ?_, fun l => ?_⟩
      · rw [if_pos l] at hp
        intro y ey
        rw [ey, nI_1]
        exact ih (i + 1) _ _ (by omega) hp
      · rw [if_neg l] at hp
        intro y ey
        rw [ey, nI_1]
        exact ih (i + 1) _ _ (by omega) hp
    · rw [if_neg n] at hp
      intro y ey
      rw [ey, nI_1]
      exact ih (i + 1) _ _ (by omega) hp
end
section
/-! ===== the reference's walks: find, gather ===== -/
theorem kt_ge256 {i : Nat} (h : i < 256) : ¬ (256 : Int32) ≤ nI i := nI_ge (b := 256) h (by decide)
theorem kt_le256 {i : Nat} (h : i = 256) : (256 : Int32) ≤ nI i := by subst h; exact Int32.le_refl _
theorem kt_div {i : Nat} (h : i < 256) : nI i / 16 = nI (i / 16) := pk_div (d := 16) (by omega) (by omega) (by omega)
theorem kt_rem {i : Nat} (h : i < 256) : nI i - nI i / 16 * 16 = nI (i % 16) := pk_rem (d := 16) (by omega) (by omega) (by omega)
theorem kt_16 : ¬ (16 : Int32) = 0 := by decide
theorem kt_stp1 {e : Nat → Nat → Bool} {a i : Nat} {s t : Nat → Bool} (h : kt_stp e a i s t) (h1 : e (i / 16) (i % 16) = true → i % 16 ≠ a → s (i / 16) = true → t (i % 16) = true) : kt_stp e a (i + 1) s t := by
  intro x y hx hy hm sx exy ha
  by_cases z : 16 * x + y = i
  · have z1 : i / 16 = x := by omega
    have z2 : i % 16 = y := by omega
    rw [z1, z2] at h1
    exact h1 exy ha sx
  · exact h x y hx hy (by omega) sx exy ha
theorem kt_Y58 {post : SY → Prop} {J : Int32 → Int32 → (Nat → Int32) → (Nat → Int32) → (Nat → Int32) → (Nat → Int32) → (Nat → Int32) → Prop} {x1 x3 : Int32} {sz rt rs gu : Nat → Int32} {r : Nat → Bool} {e : Nat → Nat → Bool} {a : Nat} (hx : ∀ i, i < 16 → (nI i = x1 ↔ i = a)) (hrs : kt_rep 256 rs (fun m => e (m / 16) (m % 16))) (f0 : Nat → Bool)
    (hJ : ∀ mo fo f, kt_rep 16 fo f → kt_sub f0 f → kt_snd r e a f → kt_stp e a 256 f0 f → (mo = 0 → ∀ i, i < 16 → f i = f0 i) → J mo (x3 + 1) sz rt rs fo gu) : ∀ d i mo fo f, i + d = 256 → kt_rep 16 fo f → kt_sub f0 f → kt_snd r e a f → kt_stp e a i f0 f → (mo = 0 → ∀ i, i < 16 → f i = f0 i) → wY_find_58 post J x1 x3 (d + 1) mo (nI i) sz rt rs fo gu := by
  intro d
  induction d with
  | zero =>
    intro i mo fo f hi hr hs hn ht hm
    have z : i = 256 := by omega
    subst z
    exact br_t (kt_le256 rfl) (nm_e (hJ mo fo f hr hs hn ht hm))
  | succ d ih =>
    intro i mo fo f hi hr hs hn ht hm
    have skip : (e (i / 16) (i % 16) = true → i % 16 ≠ a → f0 (i / 16) = true → f (i % 16) = true) → ∀ y : Int32, y = nI i + 1 → wY_find_58 post J x1 x3 (d + 1) mo y sz rt rs fo gu := by
      intro h1 y ey
      rw [ey, nI_1]
      exact ih (i + 1) mo fo f (by omega) hr hs hn (kt_stp1 ht h1) hm
    refine br_f (kt_ge256 (by omega)) ⟨kt_16, ?_⟩
    intro x5 e5
    rw [kt_rem (by omega)] at e5
    have ed : nI i / 16 = nI (i / 16) := kt_div (by omega)
    have i5 : vp_in x5 16 := by rw [e5]; exact vp_in_nI (by omega) (by omega)
    refine ⟨vp_in_nI (by omega) (by omega), ?_⟩
    refine kt_br (e (i / 16) (i % 16)) (kt_at hrs i rfl (by omega) (by omega)) (fun ef => ?_) (fun et => ?_)
    · exact skip (fun z => absurd z (by rw [ef]; decide))
    · refine ⟨kt_16, by rw [ed]; exact vp_in_nI (by omega) (by omega), ?_⟩
      refine kt_br (f (i / 16)) (kt_at hr (i / 16) ed (by omega) (by omega)) (fun ff => ?_) (fun ft => ?_)
      · refine skip (fun _ _ z => ?_)
        have w := hs (i / 16) (by omega) z
        rw [ff] at w
        cases w
      · refine ⟨i5, ?_⟩
        refine kt_br (f (i % 16)) (kt_at hr (i % 16) e5 (by omega) (by omega)) (fun tf => ?_) (fun tt => ?_)
        · refine ek_if (d := i % 16 = a) (by rw [e5]; exact hx _ (by omega)) (fun t => ?_) (fun n => ?_)
          · exact skip (fun _ z _ => absurd t z)
          · refine ⟨i5, ?_⟩
            intro fo' efo y ey
            rw [ey, nI_1, efo]
            have up : ∀ j, f j = true → (if j = i % 16 then true else f j) = true := by
              intro j hj
              split
              · rfl
              · exact hj
            refine ih (i + 1) 1 _ (fun j => if j = i % 16 then true else f j) (by omega) (kt_put hr (i % 16) true e5 (by omega) kt_n1) (fun j hj s => up j (hs j hj s)) (fun j hj s => ?_) (kt_stp1 (fun x y hx hy hm sx exy ha => up y (ht x y hx hy hm sx exy ha)) (fun _ _ _ => if_pos rfl)) (fun z => absurd z (by decide))
            by_cases z : j = i % 16
            · subst z
              exact kt_R1 (x := i / 16) (by omega) hj (hn (i / 16) (by omega) ft) et n
            · refine hn j hj ?_
              have w : (if j = i % 16 then true else f j) = true := s
              rw [if_neg z] at w
              exact w
        · exact skip (fun _ _ _ => tt)
theorem kt_Y43 {post : SY → Prop} {x1 : Int32} {sz rt rs gu : Nat → Int32} {r : Nat → Bool} {e : Nat → Nat → Bool} {a : Nat} (hx : ∀ i, i < 16 → (nI i = x1 ↔ i = a)) (hrs : kt_rep 256 rs (fun m => e (m / 16) (m % 16))) (hp : ∀ fo, kt_rep 16 fo (kt_A r e a) → post (sz, rt, rs, fo, gu)) : ∀ d j mo fo f, j + d = 16 → kt_rep 16 fo f → kt_Inv r e a j f → (mo = 0 → ∀ i, i < 16 → f i = kt_A r e a i) → wY_find_43 post x1 (d + 1) mo (nI j) sz rt rs fo gu := by
  intro d
  induction d with
  | zero =>
    intro j mo fo f hj hr h hm
    have z : j = 16 := by omega
    subst z
    exact br_t (kt_le16 rfl) (hp fo (kt_rep_c hr (kt_fin h)))
  | succ d ih =>
    intro j mo fo f hj hr h hm
    refine br_f (kt_ge16 (by omega)) ⟨fun z => hp fo (kt_rep_c hr (hm z)), fun z => ⟨257, ?_⟩⟩
    refine kt_Y58 (r := r) hx hrs f (fun mo' fo' f' hr' hs' hn' ht' hm' => ?_) 256 0 0 fo f rfl hr (fun _ _ z => z) h.2.1 (fun x y _ _ w => absurd w (by omega)) (fun _ _ _ => rfl)
    rw [nI_1]
    refine ih (j + 1) mo' fo' f' (by omega) hr' (kt_pass h hs' hn' ht') (fun z => ?_)
    refine kt_eqA (kt_clo h.1 h.2.1 (fun x y hx hy hm sx exy ha => ?_)) hs' hn'
    rw [← hm' z y hy]
    exact ht' x y hx hy hm sx exy ha
theorem kt_Y2 {post : SY → Prop} {x1 : Int32} {sz rt rs gu : Nat → Int32} {r : Nat → Bool} {e : Nat → Nat → Bool} {a : Nat} (hx : ∀ i, i < 16 → (nI i = x1 ↔ i = a)) (hrt : kt_rep 16 rt r) (hrs : kt_rep 256 rs (fun m => e (m / 16) (m % 16))) (hp : ∀ fo, kt_rep 16 fo (kt_A r e a) → post (sz, rt, rs, fo, gu)) : ∀ d i fo, i + d = 16 → kt_rep i fo (fun j => r j && !(decide (j = a))) → wY_find_2 post x1 (d + 1) (nI i) sz rt rs fo gu := by
  intro d
  induction d with
  | zero =>
    intro i fo hi h
    have z : i = 16 := by omega
    subst z
    exact br_t (kt_le16 rfl) ⟨17, kt_Y43 hx hrs hp 16 0 1 fo _ rfl h (kt_Inv0 (fun _ _ => rfl)) (fun z => absurd z (by decide))⟩
  | succ d ih =>
    intro i fo hi h
    have ii : vp_in (nI i) 16 := vp_in_nI (by omega) (by omega)
    refine br_f (kt_ge16 (by omega)) ⟨ii, ?_⟩
    refine kt_br (r i) (kt_at hrt i rfl (by omega) (by omega)) (fun f => ?_) (fun t => ?_)
    · refine ⟨ii, ?_⟩
      intro fo' efo y ey
      rw [ey, nI_1, efo]
      refine ih (i + 1) _ (by omega) (kt_put1 h rfl (by omega) ?_)
      show _ = kt_I (r i && !(decide (i = a)))
      rw [f]
      exact kt_n0
    · refine ek_if (hx i (by omega)) (fun z => ?_) (fun n => ?_)
      · refine ⟨ii, ?_⟩
        intro fo' efo y ey
        rw [ey, nI_1, efo]
        refine ih (i + 1) _ (by omega) (kt_put1 h rfl (by omega) ?_)
        show _ = kt_I (r i && !(decide (i = a)))
        rw [t, decide_eq_true z]
        exact kt_n0
      · refine ⟨ii, ?_⟩
        intro fo' efo y ey
        rw [ey, nI_1, efo]
        refine ih (i + 1) _ (by omega) (kt_put1 h rfl (by omega) ?_)
        show _ = kt_I (r i && !(decide (i = a)))
        rw [t, decide_eq_false n]
        exact kt_n1
theorem kt_Yfi {post : SY → Prop} {p0 : Int32} {sz rt rs fo gu : Nat → Int32} {r : Nat → Bool} {e : Nat → Nat → Bool} (a : Nat) (hx : ∀ i, i < 16 → (nI i = p0 ↔ i = a)) (hrt : kt_rep 16 rt r) (hrs : kt_rep 256 rs (fun m => e (m / 16) (m % 16))) (hp : ∀ fo, kt_rep 16 fo (kt_A r e a) → post (sz, rt, rs, fo, gu)) : wpY_find post (sz, rt, rs, fo, gu) p0 :=
  ⟨17, kt_Y2 hx hrt hrs hp 16 0 fo rfl (fun i hi => absurd hi (by omega))⟩
theorem kt_m1 : ∀ i, i < 16 → ¬ nI i = -1 := by decide +kernel
theorem kt_xm1 (i : Nat) (h : i < 16) : (nI i = -1 ↔ i = 16) := ⟨fun z => absurd z (kt_m1 i h), fun z => absurd z (by omega)⟩
theorem kt_xk {k : Nat} (hk : k < 16) (i : Nat) (h : i < 16) : (nI i = nI k ↔ i = k) := nI_eq (by omega) (by omega)
/-! gather -/
def kt_mx (L N : Nat → Bool) (i m : Nat) : Bool := if m < i then (L (m % 16) && N m) else N m
theorem kt_mx1 {L N : Nat → Bool} {i : Nat} {gu : Nat → Int32} (h : kt_rep 256 gu (kt_mx L N i)) (hi : i < 256) {v : Int32} (hv : v = kt_I (L (i % 16) && N i)) : kt_rep 256 (upd gu (nI i).toNatClampNeg v) (kt_mx L N (i + 1)) := by
  refine kt_rep_c (kt_put h i (L (i % 16) && N i) rfl (by omega) hv) (fun j hj => ?_)
  show (if j = i then (L (i % 16) && N i) else kt_mx L N i j) = kt_mx L N (i + 1) j
  unfold kt_mx
  by_cases z : j = i
  · subst z
    rw [if_pos rfl, if_pos (by omega)]
  · rw [if_neg z]
    by_cases w : j < i
    · rw [if_pos w, if_pos (by omega)]
    · rw [if_neg w, if_neg (by omega)]
theorem kt_Y65 {post : SY → Prop} {sz rt rs fo : Nat → Int32} {L N : Nat → Bool} (hfo : kt_rep 16 fo L) (hp : ∀ gu, kt_rep 256 gu (fun m => L (m % 16) && N m) → post (sz, rt, rs, fo, gu)) : ∀ d i gu, i + d = 256 → kt_rep 256 gu (kt_mx L N i) → wY_gather_65 post (d + 1) (nI i) sz rt rs fo gu := by
  intro d
  induction d with
  | zero =>
    intro i gu hi h
    refine br_t (kt_le256 (by omega)) (hp gu (kt_rep_c h (fun j hj => ?_)))
    exact if_pos (by omega)
  | succ d ih =>
    intro i gu hi h
    have ii : vp_in (nI i) 256 := vp_in_nI (by omega) (by omega)
    refine br_f (kt_ge256 (by omega)) ⟨ii, ?_⟩
    have hg : gu (nI i).toNatClampNeg = kt_I (N i) := by
      rw [kt_at h i rfl (by omega) (by omega)]
      unfold kt_mx
      rw [if_neg (by omega)]
    refine kt_br (N i) hg (fun f => ?_) (fun t => ?_)
    · refine ⟨ii, ?_⟩
      intro gu' eg y ey
      rw [ey, nI_1, eg]
      refine ih (i + 1) _ (by omega) (kt_mx1 h (by omega) ?_)
      rw [f, Bool.and_false]
      exact kt_n0
    · have er : nI i - nI i / 16 * 16 = nI (i % 16) := kt_rem (by omega)
      refine ⟨kt_16, by rw [er]; exact vp_in_nI (by omega) (by omega), ?_⟩
      refine kt_br (L (i % 16)) (kt_at hfo (i % 16) er (by omega) (by omega)) (fun f => ?_) (fun t2 => ?_)
      · refine ⟨ii, ?_⟩
        intro gu' eg y ey
        rw [ey, nI_1, eg]
        refine ih (i + 1) _ (by omega) (kt_mx1 h (by omega) ?_)
        rw [f]
        exact kt_n0
      · refine ⟨ii, ?_⟩
        intro gu' eg y ey
        rw [ey, nI_1, eg]
        refine ih (i + 1) _ (by omega) (kt_mx1 h (by omega) ?_)
        rw [t, t2]
        exact kt_n1
theorem kt_Y15 {post : SY → Prop} {J : Int32 → (Nat → Int32) → (Nat → Int32) → (Nat → Int32) → (Nat → Int32) → (Nat → Int32) → Prop} {sz rt rs fo : Nat → Int32} {L N : Nat → Bool} {k : Nat} (hk : k < 16) (hfo : kt_rep 16 fo L) (hN : ∀ o, o < 16 → N (16 * k + o) = !(L o)) (hJ : ∀ gu, kt_rep (16 * k + 16) gu N → J (nI k + 1) sz rt rs fo gu) : ∀ d o gu, o + d = 16 → kt_rep (16 * k + o) gu N → wY_gather_15 post J (nI k) (d + 1) (nI o) sz rt rs fo gu := by
  intro d
  induction d with
  | zero =>
    intro o gu ho h
    have z : o = 16 := by omega
    subst z
    exact br_t (kt_le16 rfl) (nm_e (hJ gu h))
  | succ d ih =>
    intro o gu ho h
    have ii : vp_in ((16 * nI k) + nI o) 256 := by rw [kt_ix]; exact vp_in_nI (by omega) (by omega)
    refine br_f (kt_ge16 (by omega)) ⟨vp_in_nI (by omega) (by omega), ?_⟩
    refine kt_br (L o) (kt_at hfo o rfl (by omega) (by omega)) (fun f => ?_) (fun t => ?_)
    · refine ⟨ii, ?_⟩
      intro gu' eg y ey
      rw [ey, nI_1, eg]
      refine ih (o + 1) _ (by omega) (kt_put1 h (kt_ix k o) (by omega) ?_)
      rw [hN o (by omega), f]
      exact kt_n1
    · refine ⟨ii, ?_⟩
      intro gu' eg y ey
      rw [ey, nI_1, eg]
      refine ih (o + 1) _ (by omega) (kt_put1 h (kt_ix k o) (by omega) ?_)
      rw [hN o (by omega), t]
      exact kt_n0
theorem kt_Yg2 {post : SY → Prop} {sz rt rs : Nat → Int32} {r : Nat → Bool} {e : Nat → Nat → Bool} (hrt : kt_rep 16 rt r) (hrs : kt_rep 256 rs (fun m => e (m / 16) (m % 16))) (hp : ∀ fo gu, kt_rep 16 fo (kt_A r e 16) → kt_rep 256 gu (fun m => kt_G r e (m / 16) (m % 16)) → post (sz, rt, rs, fo, gu)) : ∀ d k fo gu, k + d = 16 → kt_rep (16 * k) gu (fun m => !(kt_A r e (m / 16) (m % 16))) → wY_gather_2 post (d + 1) (nI k) sz rt rs fo gu := by
  intro d
  induction d with
  | zero =>
    intro k fo gu hk h
    have z : k = 16 := by omega
    subst z
    refine br_t (kt_le16 rfl) ?_
    refine kt_Yfi 16 kt_xm1 hrt hrs (fun fo' hfo' => ⟨257, ?_⟩)
    exact kt_Y65 hfo' (fun gu' hg' => hp fo' gu' hfo' hg') 256 0 gu rfl (kt_rep_c h (fun j hj => (if_neg (by omega)).symm))
  | succ d ih =>
    intro k fo gu hk h
    refine br_f (kt_ge16 (by omega)) ?_
    refine kt_Yfi k (kt_xk (by omega)) hrt hrs (fun fo' hfo' => ⟨17, ?_⟩)
    refine kt_Y15 (N := fun m => !(kt_A r e (m / 16) (m % 16))) (by omega) hfo' (fun o ho => ?_) (fun gu' hg' => ?_) 16 0 gu rfl h
    · show (!(kt_A r e ((16 * k + o) / 16) ((16 * k + o) % 16))) = _
      have e1 : (16 * k + o) / 16 = k := by omega
      have e2 : (16 * k + o) % 16 = o := by omega
      rw [e1, e2]
    · rw [nI_1]
      exact ih (k + 1) fo' gu' (by omega) hg'
theorem kt_Yga {post : SY → Prop} {sz rt rs fo gu : Nat → Int32} {r : Nat → Bool} {e : Nat → Nat → Bool} (hrt : kt_rep 16 rt r) (hrs : kt_rep 256 rs (fun m => e (m / 16) (m % 16))) (hp : ∀ fo gu, kt_rep 16 fo (kt_A r e 16) → kt_rep 256 gu (fun m => kt_G r e (m / 16) (m % 16)) → post (sz, rt, rs, fo, gu)) : wpY_gather post (sz, rt, rs, fo, gu) :=
  ⟨17, kt_Yg2 hrt hrs hp 16 0 fo gu rfl (fun i hi => absurd hi (by omega))⟩
end
section
/-! ===== the reference's walks: both, last, heldBy, depth, heaviest, total ===== -/
def kt_s (G : Nat → Nat → Bool) (a b : Nat) (ot : Bool) (g : Nat) : Bool := (G g a && G g b) && !(ot && decide (g = a))
theorem kt_gat {G : Nat → Nat → Bool} {gu : Nat → Int32} (hg : kt_rep 256 gu (fun m => G (m / 16) (m % 16))) {g a : Nat} (h1 : g < 16) (h2 : a < 16) : gu ((16 * nI g) + nI a).toNatClampNeg = kt_I (G g a) := by
  have e := kt_at hg (16 * g + a) (kt_ix g a) (by omega) (by omega)
  rw [e]
  show kt_I (G ((16 * g + a) / 16) ((16 * g + a) % 16)) = _
  have e1 : (16 * g + a) / 16 = g := by omega
  have e2 : (16 * g + a) % 16 = a := by omega
  rw [e1, e2]
theorem kt_gin {g a : Nat} (h1 : g < 16) (h2 : a < 16) : vp_in ((16 * nI g) + nI a) 256 := by rw [kt_ix]; exact vp_in_nI (by omega) (by omega)
theorem kt_Ybo {post : Int32 → Prop} {sz rt rs fo gu : Nat → Int32} {G : Nat → Nat → Bool} (hg : kt_rep 256 gu (fun m => G (m / 16) (m % 16))) {g a b : Nat} (h1 : g < 16) (h2 : a < 16) (h3 : b < 16) (ot : Bool) {p3 : Int32} (h4 : p3 = kt_I ot) (hp : post (kt_I (kt_s G a b ot g))) : wpY_both post (sz, rt, rs, fo, gu) (nI g) (nI a) (nI b) p3 := by
  unfold kt_s at hp
  refine ⟨kt_gin h1 h2, ?_⟩
  refine kt_br (G g a) (kt_gat hg h1 h2) (fun f => ?_) (fun t => ?_)
  · rw [f] at hp; exact hp
  · refine ⟨kt_gin h1 h3, ?_⟩
    refine kt_br (G g b) (kt_gat hg h1 h3) (fun f => ?_) (fun t2 => ?_)
    · rw [t, f] at hp; exact hp
    · rw [t, t2] at hp
      refine kt_br ot h4 (fun f => ?_) (fun t3 => ?_)
      · rw [f] at hp; exact hp
      · rw [t3] at hp
        refine ek_if (nI_eq (a := g) (b := a) (by omega) (by omega)) (fun z => ?_) (fun z => ?_)
        · rw [decide_eq_true z] at hp; exact hp
        · rw [decide_eq_false z] at hp; exact hp
theorem kt_Yl24 {post : Int32 → Prop} {J : Int32 → Prop} {sz rt rs fo gu : Nat → Int32} {G : Nat → Nat → Bool} (hg : kt_rep 256 gu (fun m => G (m / 16) (m % 16))) {g a b : Nat} (h1 : g < 16) (h2 : a < 16) (h3 : b < 16) (ot : Bool) {p3 : Int32} (h4 : p3 = kt_I ot) (hp : kt_p G (kt_s G a b ot) g = true → post (nI g)) (hJ : ¬ kt_p G (kt_s G a b ot) g = true → J (nI (g + 1))) : ∀ d h al, h + d = 16 → (al = true ↔ (kt_s G a b ot g = true ∧ ∀ h', h' < h → kt_s G a b ot h' = true → G h' g = true)) → wY_last_24 post J (nI a) (nI b) p3 (nI g) sz rt rs fo gu (d + 1) (kt_I al) (nI h) := by
  intro d
  induction d with
  | zero =>
    intro h al hh H
    have z : h = 16 := by omega
    subst z
    rw [← kt_p1] at H
    refine br_t (kt_le16 rfl) ?_
    refine kt_br al rfl (fun f => ?_) (fun t => hp (H.mp t))
    refine nm_r (nI_1 g) (hJ (fun w => ?_))
    have w := H.mpr w
    rw [f] at w
    cases w
  | succ d ih =>
    intro h al hh H
    have ext : (kt_s G a b ot h = true → G h g = true) → (al = true ↔ (kt_s G a b ot g = true ∧ ∀ h', h' < h + 1 → kt_s G a b ot h' = true → G h' g = true)) := by
      intro c
      rw [H]
      constructor
      · intro z
        refine ⟨z.1, fun h' l s => ?_⟩
        by_cases w : h' = h
        · subst w; exact c s
        · exact z.2 h' (by omega) s
      · intro z
        exact ⟨z.1, fun h' l s => z.2 h' (by omega) s⟩
    refine br_f (kt_ge16 (by omega)) ?_
    refine kt_Ybo hg (by omega) h2 h3 ot h4 ?_
    refine kt_br (kt_s G a b ot h) rfl (fun f => ?_) (fun t => ?_)
    · refine nm_r (nI_1 h) (ih (h + 1) al (by omega) (ext (fun z => ?_)))
      rw [f] at z
      cases z
    · refine ⟨kt_gin (by omega) h1, ?_⟩
      refine kt_br (G h g) (kt_gat hg (by omega) h1) (fun f => ?_) (fun t2 => ?_)
      · refine nm_r (nI_1 h) (ih (h + 1) false (by omega) ⟨(fun z => nomatch z), fun z => ?_⟩)
        have w := z.2 h (by omega) t
        rw [f] at w
        cases w
      · exact nm_r (nI_1 h) (ih (h + 1) al (by omega) (ext (fun _ => t2)))
theorem kt_Yl3 {post : Int32 → Prop} {sz rt rs fo gu : Nat → Int32} {G : Nat → Nat → Bool} (hg : kt_rep 256 gu (fun m => G (m / 16) (m % 16))) {a b : Nat} (h2 : a < 16) (h3 : b < 16) (ot : Bool) {p3 : Int32} (h4 : p3 = kt_I ot) : ∀ d g, g + d = 16 → post (kt_F (kt_p G (kt_s G a b ot)) d g) → wY_last_3 post (nI a) (nI b) p3 sz rt rs fo gu (d + 1) (nI g) := by
  intro d
  induction d with
  | zero =>
    intro g h hp
    exact br_t (kt_le16 (by omega)) hp
  | succ d ih =>
    intro g h hp
    rw [kt_F] at hp
    refine br_f (kt_ge16 (by omega)) ?_
    refine kt_Ybo hg (by omega) h2 h3 ot h4 ⟨17, ?_⟩
    refine kt_Yl24 hg (by omega) h2 h3 ot h4 (fun t => ?_) (fun n => ?_) 16 0 _ rfl ⟨fun z => ⟨z, fun h' l => absurd l (by omega)⟩, fun z => z.1⟩
    · rw [if_pos t] at hp; exact hp
    · rw [if_neg n] at hp
      exact ih (g + 1) (by omega) hp
theorem kt_Yla {post : Int32 → Prop} {sz rt rs fo gu : Nat → Int32} {G : Nat → Nat → Bool} (hg : kt_rep 256 gu (fun m => G (m / 16) (m % 16))) {a b : Nat} (h2 : a < 16) (h3 : b < 16) (ot : Bool) {p3 : Int32} (h4 : p3 = kt_I ot) (hp : post (kt_F (kt_p G (kt_s G a b ot)) 16 0)) : wpY_last post (sz, rt, rs, fo, gu) (nI a) (nI b) p3 :=
  ⟨17, kt_Yl3 hg h2 h3 ot h4 16 0 rfl hp⟩
theorem kt_Yh4 {post : Int32 → Prop} {sz rt rs fo gu : Nat → Int32} {G : Nat → Nat → Bool} (hg : kt_rep 256 gu (fun m => G (m / 16) (m % 16))) {k : Nat} (hk : k < 16) : ∀ d i c, i + d = 16 → post (kt_S (G k) sz d i c) → wY_heldBy_4 post (nI k) sz rt rs fo gu (d + 1) c (nI i) := by
  intro d
  induction d with
  | zero =>
    intro i c h hp
    exact br_t (kt_le16 (by omega)) hp
  | succ d ih =>
    intro i c h hp
    rw [kt_S] at hp
    refine br_f (kt_ge16 (by omega)) ⟨kt_gin hk (by omega), ?_⟩
    refine kt_br (G k i) (kt_gat hg hk (by omega)) (fun f => ?_) (fun t => ?_)
    · refine nm_r (nI_1 i) (ih (i + 1) c (by omega) ?_)
      rw [if_neg (by rw [f]; decide)] at hp
      exact hp
    · refine ⟨vp_in_nI (by omega) (by omega), ?_⟩
      intro c' ec y ey
      rw [ey, nI_1, ec, nI_clamp (by omega)]
      refine ih (i + 1) _ (by omega) ?_
      rw [if_pos t] at hp
      exact hp
theorem kt_Yhb {post : Int32 → Prop} {sz rt rs fo gu : Nat → Int32} {G : Nat → Nat → Bool} (hg : kt_rep 256 gu (fun m => G (m / 16) (m % 16))) {k : Nat} (hk : k < 16) (hp : post (kt_S (G k) sz 16 0 0)) : wpY_heldBy post (sz, rt, rs, fo, gu) (nI k) :=
  ⟨17, kt_Yh4 hg hk 16 0 0 rfl hp⟩
theorem kt_Yd18 {post : Int32 → SY → Prop} {sz rt rs fo gu : Nat → Int32} {G : Nat → Nat → Bool} (hg : kt_rep 256 gu (fun m => G (m / 16) (m % 16))) {o : Nat} (ho : o < 16) : ∀ d i c, i + d = 16 → post (kt_C (fun k => G k o) d i c) (sz, rt, rs, fo, gu) → wY_depth_18 post (nI o) sz rt rs fo gu (d + 1) c (nI i) := by
  intro d
  induction d with
  | zero =>
    intro i c h hp
    exact br_t (kt_le16 (by omega)) hp
  | succ d ih =>
    intro i c h hp
    rw [kt_C] at hp
    refine br_f (kt_ge16 (by omega)) ⟨kt_gin (by omega) ho, ?_⟩
    refine kt_br (G i o) (kt_gat hg (by omega) ho) (fun f => ?_) (fun t => ?_)
    · refine nm_r (nI_1 i) (ih (i + 1) c (by omega) ?_)
      rw [if_neg (by rw [f]; decide)] at hp
      exact hp
    · intro c' ec y ey
      rw [ey, nI_1, ec]
      refine ih (i + 1) _ (by omega) ?_
      rw [if_pos t] at hp
      exact hp
theorem kt_Yt9 {post : Int32 → SY → Prop} {sz rt rs fo gu : Nat → Int32} {L : Nat → Bool} (hf : kt_rep 16 fo L) : ∀ d i c, i + d = 16 → post (kt_S L sz d i c) (sz, rt, rs, fo, gu) → wY_total_9 post sz rt rs fo gu (d + 1) c (nI i) := by
  intro d
  induction d with
  | zero =>
    intro i c h hp
    exact br_t (kt_le16 (by omega)) hp
  | succ d ih =>
    intro i c h hp
    have ii : vp_in (nI i) 16 := vp_in_nI (by omega) (by omega)
    rw [kt_S] at hp
    refine br_f (kt_ge16 (by omega)) ⟨ii, ?_⟩
    refine kt_br (L i) (kt_at hf i rfl (by omega) (by omega)) (fun f => ?_) (fun t => ?_)
    · refine nm_r (nI_1 i) (ih (i + 1) c (by omega) ?_)
      rw [if_neg (by rw [f]; decide)] at hp
      exact hp
    · refine ⟨ii, ?_⟩
      intro c' ec y ey
      rw [ey, nI_1, ec, nI_clamp (by omega)]
      refine ih (i + 1) _ (by omega) ?_
      rw [if_pos t] at hp
      exact hp
/-! the search finds something just where there is something; an object that others guard has a last one -/
theorem kt_F0 (p : Nat → Bool) : ∀ d i, i + d ≤ 16 → (0 ≤ kt_F p d i ↔ ∃ j, i ≤ j ∧ j < i + d ∧ p j = true) := by
  intro d
  induction d with
  | zero =>
    intro i _
    exact ⟨fun z => absurd z (show ¬ (0 : Int32) ≤ -1 by decide), fun ⟨j, h1, h2, _⟩ => absurd h2 (by omega)⟩
  | succ d ih =>
    intro i hi
    rw [kt_F]
    by_cases z : p i = true
    · rw [if_pos z]
      exact ⟨fun _ => ⟨i, by omega, by omega, z⟩, fun _ => nI_pos' (by omega)⟩
    · rw [if_neg z, ih (i + 1) (by omega)]
      constructor
      · intro ⟨j, h1, h2, h3⟩
        exact ⟨j, by omega, by omega, h3⟩
      · intro ⟨j, h1, h2, h3⟩
        refine ⟨j, ?_, by omega, h3⟩
        by_cases w : j = i
        · subst w; exact absurd h3 z
        · omega
theorem kt_s1 {G : Nat → Nat → Bool} {o g : Nat} : kt_s G o o true g = true ↔ G g o = true ∧ g ≠ o := by
  unfold kt_s
  rw [Bool.and_self, Bool.true_and, Bool.and_eq_true, Bool.not_eq_true', decide_eq_false_iff_not]
theorem kt_qq {r : Nat → Bool} {e : Nat → Nat → Bool} {o : Nat} (ho : kt_G r e o o = true) : kt_q (kt_G r e) o = true ↔ ¬ 0 ≤ kt_F (kt_p (kt_G r e) (kt_s (kt_G r e) o o true)) 16 0 := by
  rw [kt_q1, kt_F0 _ 16 0 (by omega)]
  constructor
  · intro h ⟨j, _, hj, hp⟩
    have w := kt_s1.mp (kt_p1.mp hp).1
    rw [h j (by omega), decide_eq_true_iff] at w
    exact w.2 w.1
  · intro h k hk
    by_cases z : k = o
    · subst z
      rw [ho, decide_eq_true rfl]
    · rw [decide_eq_false z]
      cases c : kt_G r e k o
      · rfl
      · exfalso
        rcases kt_max (r := r) (e := e) (o := o) (fun g => kt_s (kt_G r e) o o true g = true) (fun g hg => (kt_s1.mp hg).1) 16 with m | ⟨g, hg, sg, m⟩
        · exact m k hk (kt_s1.mpr ⟨c, z⟩)
        · exact h ⟨g, by omega, by omega, kt_p1.mpr ⟨sg, m⟩⟩
theorem kt_Yh10 {post : Int32 → SY → Prop} {sz rt rs fo gu : Nat → Int32} {r : Nat → Bool} {e : Nat → Nat → Bool} (hg : kt_rep 256 gu (fun m => kt_G r e (m / 16) (m % 16))) : ∀ d i b m, i + d = 16 → post (kt_H (kt_q (kt_G r e)) (fun k => kt_S (kt_G r e k) sz 16 0 0) d i b m) (sz, rt, rs, fo, gu) → wY_heaviest_10 post sz rt rs fo gu (d + 1) b m (nI i) := by
  intro d
  induction d with
  | zero =>
    intro i b m h hp
    exact br_t (kt_le16 (by omega)) hp
  | succ d ih =>
    intro i b m h hp
    rw [kt_H] at hp
    have no : ¬ kt_q (kt_G r e) i = true → wY_heaviest_44 post (wY_heaviest_10 post sz rt rs fo gu (d + 1)) b m (nI i) sz rt rs fo gu := by
      intro n
      rw [if_neg n] at hp
      unfold wY_heaviest_44 wY_heaviest_45
      exact br_t rfl (nm_r (nI_1 i) (ih (i + 1) b m (by omega) hp))
    refine br_f (kt_ge16 (by omega)) ⟨kt_gin (by omega) (by omega), ?_⟩
    refine kt_br (kt_G r e i i) (kt_gat hg (by omega) (by omega)) (fun f => no (fun z => ?_)) (fun t => ?_)
    · have w := kt_q1.mp z i (by omega)
      rw [f, decide_eq_true rfl] at w
      cases w
    · refine kt_Yla hg (by omega) (by omega) true rfl ⟨fun ge => no (fun z => (kt_qq t).mp z ge), fun lt => ?_⟩
      have q := (kt_qq t).mpr lt
      rw [if_pos q] at hp
      unfold wY_heaviest_45
      refine br_f (by decide) ?_
      refine kt_Yhb hg (by omega) ⟨fun l => ?_, fun l => ?_⟩
      · rw [if_pos l] at hp
        exact nm_r (nI_1 i) (ih (i + 1) b m (by omega) hp)
      · rw [if_neg l] at hp
        refine kt_Yhb hg (by omega) ?_
        exact nm_r (nI_1 i) (ih (i + 1) _ _ (by omega) hp)
end
section
/-! ===== single calls ===== -/
theorem kt_Xio1 {post : Int32 → Prop} {j : Nat} (hj : j < 16) (hp : post 1) : wpX_isObject post (nI j) := br_f (nI_pos (by omega)) (br_f (kt_ge16 hj) hp)
theorem kt_Xio0 {post : Int32 → Prop} {v : Int32} (h : v < 0 ∨ nI 16 ≤ v) (hp : post 0) : wpX_isObject post v := by
  by_cases c : v < 0
  · exact br_t c hp
  · rcases h with h | h
    · exact absurd h c
    · exact br_f c (br_t h hp)
theorem kt_Yba0 {post : Int32 → Prop} {j : Nat} (hj : j < 16) (hp : post 0) : wpY_bad post (nI j) := br_f (nI_pos (by omega)) (br_t (nI_le (b := 15) (by omega) (by decide)) hp)
theorem kt_Yba1 {post : Int32 → Prop} {v : Int32} (h : v < 0 ∨ nI 16 ≤ v) (hp : post 1) : wpY_bad post v := by
  by_cases c : v < 0
  · exact br_t c hp
  · rcases h with h | h
    · exact absurd h c
    · refine br_f c (br_f (fun z => ?_) hp)
      exact absurd (Int32.le_trans h z) (by decide)
theorem kt_ob (v : Int32) : (v < 0 ∨ nI 16 ≤ v) ∨ ∃ j : Nat, j < 16 ∧ v = nI j := by
  rcases pk_ix v (n := 16) (by decide) with h | h | h
  · exact Or.inl (Or.inl h)
  · exact Or.inl (Or.inr h)
  · exact Or.inr h
theorem kt_Xbo {post : Int32 → Prop} {x : Int32} {i : Nat} (hi : i < 32) (hp : post (kt_I (bt x i))) : wpX_bitOf post x (nI i) := by
  unfold wpX_bitOf
  rw [kt_bit x hi]
  exact hp
theorem kt_Yia {post : Int32 → SY → Prop} {sz rt rs fo gu : Nat → Int32} {r : Nat → Bool} {e : Nat → Nat → Bool} (hrt : kt_rep 16 rt r) (hrs : kt_rep 256 rs (fun m => e (m / 16) (m % 16))) {o : Nat} (ho : o < 16) (hp : ∀ fo, post (kt_I (kt_A r e 16 o)) (sz, rt, rs, fo, gu)) : wpY_isAlive post (sz, rt, rs, fo, gu) (nI o) := by
  unfold wpY_isAlive
  dsimp only
  refine kt_Yfi 16 kt_xm1 hrt hrs (fun fo' hf => ?_)
  have e := kt_at hf o rfl ho (by omega)
  dsimp only
  rw [e]
  exact ⟨vp_in_nI ho (by omega), kt_nn _, hp fo'⟩
theorem kt_Yig {post : Int32 → SY → Prop} {sz rt rs fo gu : Nat → Int32} {r : Nat → Bool} {e : Nat → Nat → Bool} (hrt : kt_rep 16 rt r) (hrs : kt_rep 256 rs (fun m => e (m / 16) (m % 16))) {k o : Nat} (hk : k < 16) (ho : o < 16) (hp : ∀ fo, post (kt_I (kt_G r e k o)) (sz, rt, rs, fo, gu)) : wpY_isGuard post (sz, rt, rs, fo, gu) (nI k) (nI o) := by
  unfold wpY_isGuard
  dsimp only
  refine kt_Yia hrt hrs ho (fun fo1 => ?_)
  dsimp only
  refine kt_Yfi k (kt_xk hk) hrt hrs (fun fo2 hf => ?_)
  have hp := hp fo2
  unfold kt_G at hp
  refine kt_br (kt_A r e 16 o) rfl (fun f => ?_) (fun t => ⟨vp_in_nI ho (by omega), ?_⟩)
  · rw [f] at hp; exact hp
  · refine kt_br (kt_A r e k o) (kt_at hf o rfl ho (by omega)) (fun f => ?_) (fun t2 => ?_)
    · rw [t, f] at hp; exact hp
    · rw [t, t2] at hp; exact hp
theorem kt_flip {rf rs : Nat → Int32} (h : kt_rep 256 rs (fun m => kt_e rf (m / 16) (m % 16))) {j t : Nat} (hj : j < 16) (ht : t < 16) : kt_rep 256 (upd rs ((16 * nI j) + nI t).toNatClampNeg (kt_I (!(bt (rf j) t)))) (fun m => kt_e (upd rf j ((rf j) ^^^ ((1 : Int32) <<< (nI t &&& 31)))) (m / 16) (m % 16)) := by
  refine kt_rep_c (kt_put h (16 * j + t) (!(bt (rf j) t)) (kt_ix j t) (by omega) rfl) (fun m hm => ?_)
  show (if m = 16 * j + t then !(bt (rf j) t) else bt (rf (m / 16)) (m % 16)) = bt (upd rf j ((rf j) ^^^ ((1 : Int32) <<< (nI t &&& 31))) (m / 16)) (m % 16)
  by_cases z : m = 16 * j + t
  · have e1 : m / 16 = j := by omega
    have e2 : m % 16 = t := by omega
    rw [if_pos z, e1, e2, pk_us, b_xor, kt_sh1 (by omega) (by omega), decide_eq_true rfl, Bool.xor_true]
  · rw [if_neg z]
    by_cases w : m / 16 = j
    · have e2 : ¬ m % 16 = t := by omega
      rw [w, pk_us, b_xor, kt_sh1 (by omega) (by omega), decide_eq_false e2, Bool.xor_false]
    · rw [pk_un w]
theorem kt_flb (x : Int32) {t : Nat} (ht : t < 16) : bt (x ^^^ ((1 : Int32) <<< (nI t &&& 31))) t = !(bt x t) := by
  rw [b_xor, kt_sh1 (by omega) (by omega), decide_eq_true rfl, Bool.xor_true]
/-! ===== what is owed ===== -/
def i_Rel (_ : Nat) (u : SX) (v : SY) : Prop := u.2.1 = v.1 ∧ kt_rep 16 v.2.1 (bt u.1) ∧ kt_rep 256 v.2.2.1 (fun m => kt_e u.2.2 (m / 16) (m % 16))
theorem i_up {k : Nat} {u : SX} {v : SY} (h : i_Rel k u v) : i_Rel (k + 3) u v := h
theorem i_vc0 : wpX_init (fun u => wpY_init (fun v => i_Rel 0 u v)) := by
  refine ⟨rfl, fun i _ => ?_, fun i _ => ?_⟩
  · show 0 = kt_I (bt 0 i)
    rw [b_0]; rfl
  · show 0 = kt_I (bt 0 (i % 16))
    rw [b_0]; rfl
theorem i_vc_setSize {k : Nat} {u : SX} {v : SY} (I : i_Rel k u v) (hk : k + 3 ≤ 1536) (v1 : Int32) (v2 : Int32) : wpX_setSize (fun r u' => wpY_setSize (fun r' v' => r' = r ∧ i_Rel (k + 3) u' v') v v1 v2) u v1 v2 := by
  obtain ⟨ro, sz, rf⟩ := u
  obtain ⟨sy, rt, rs, fo, gu⟩ := v
  obtain ⟨h1, h2, h3⟩ := I
  have h1 : sz = sy := h1
  subst h1
  unfold wpX_setSize wpY_setSize
  dsimp only
  rcases kt_ob v1 with b | ⟨j, hj, rfl⟩
  · exact kt_Xio0 b (br_t rfl (kt_Yba1 b (br_f (by decide) ⟨rfl, rfl, h2, h3⟩)))
  · have ii : vp_in (nI j) 16 := vp_in_nI hj (by omega)
    refine kt_Xio1 hj (br_f (by decide) ⟨ii, ?_⟩)
    intro x e
    by_cases c0 : 0 ≤ v2
    · by_cases c1 : v2 ≤ 1000
      · refine br_t c0 (br_t c1 ⟨ii, fun a ea => ?_⟩)
        refine kt_Yba0 hj (br_t rfl ⟨ii, fun y ey => ?_⟩)
        exact br_t c0 (br_t c1 ⟨ii, fun a2 ea2 => ⟨ey.trans e.symm, ea.trans ea2.symm, h2, h3⟩⟩)
      · refine br_t c0 (br_f c1 ⟨ii, fun a ea => ?_⟩)
        refine kt_Yba0 hj (br_t rfl ⟨ii, fun y ey => ?_⟩)
        exact br_t c0 (br_f c1 ⟨ii, fun a2 ea2 => ⟨ey.trans e.symm, ea.trans ea2.symm, h2, h3⟩⟩)
    · refine br_f c0 ⟨ii, fun a ea => ?_⟩
      refine kt_Yba0 hj (br_t rfl ⟨ii, fun y ey => ?_⟩)
      exact br_f c0 ⟨ii, fun a2 ea2 => ⟨ey.trans e.symm, ea.trans ea2.symm, h2, h3⟩⟩
theorem i_vc_flip {k : Nat} {u : SX} {v : SY} (I : i_Rel k u v) (hk : k + 3 ≤ 1536) (v1 : Int32) (v2 : Int32) : wpX_flip (fun r u' => wpY_flip (fun r' v' => r' = r ∧ i_Rel (k + 3) u' v') v v1 v2) u v1 v2 := by
  obtain ⟨ro, sz, rf⟩ := u
  obtain ⟨sy, rt, rs, fo, gu⟩ := v
  obtain ⟨h1, h2, h3⟩ := I
  have h1 : sz = sy := h1
  subst h1
  unfold wpX_flip wpY_flip
  dsimp only
  rcases kt_ob v1 with b | ⟨j, hj, rfl⟩
  · exact kt_Xio0 b (br_t rfl (kt_Yba1 b (br_f (by decide) ⟨rfl, rfl, h2, h3⟩)))
  · have ii : vp_in (nI j) 16 := vp_in_nI hj (by omega)
    refine kt_Xio1 hj (br_f (by decide) ?_)
    rcases kt_ob v2 with b | ⟨t, ht, rfl⟩
    · exact kt_Xio0 b (br_t rfl (kt_Yba0 hj (br_t rfl (kt_Yba1 b (br_f (by decide) ⟨rfl, rfl, h2, h3⟩)))))
    · refine kt_Xio1 ht (br_f (by decide) ⟨ii, ii, fun rf' e => ⟨ii, ?_⟩⟩)
      rw [nI_clamp (show j < 2 ^ 31 by omega)] at e
      rw [nI_clamp (show j < 2 ^ 31 by omega)]
      refine kt_Xbo (by omega) ?_
      have e1 : bt (rf' j) t = !(bt (rf j) t) := by rw [e, pk_us, kt_flb _ ht]
      rw [e1]
      refine kt_Yba0 hj (br_t rfl (kt_Yba0 ht (br_t rfl ⟨kt_gin hj ht, ?_⟩)))
      have go : ∀ z0 : Int32, vp_nar .boolean z0 = kt_I (!(bt (rf j) t)) → wY_flip_46 (fun r' v' => r' = kt_I (!(bt (rf j) t)) ∧ i_Rel (k + 3) (ro, sz, rf') v') (nI j) (nI t) z0 ((16 * nI j) + nI t) sz rt rs fo gu := by
        intro z0 hz
        refine ⟨kt_gin hj ht, fun rs' er => ⟨kt_gin hj ht, ?_⟩⟩
        rw [hz] at er
        have R : i_Rel (k + 3) (ro, sz, rf') (sz, rt, rs', fo, gu) := by
          refine ⟨rfl, h2, ?_⟩
          rw [e, er]
          exact kt_flip h3 hj ht
        have v : rs' ((16 * nI j) + nI t).toNatClampNeg = kt_I (!(bt (rf j) t)) := by rw [er, pk_us]
        refine kt_br _ v (fun f => ⟨?_, R⟩) (fun g => ⟨?_, R⟩)
        · rw [f]; rfl
        · rw [g]; rfl
      have v : rs ((16 * nI j) + nI t).toNatClampNeg = kt_I (bt (rf j) t) := kt_gat h3 hj ht
      refine kt_br _ v (fun f => go 1 ?_) (fun g => go 0 ?_)
      · rw [f]; exact kt_n1
      · rw [g]; exact kt_n0
theorem kt_rtC {ro : Int32} {rt : Nat → Int32} (h : kt_rep 16 rt (bt ro)) {j : Nat} (hj : j < 16) {v : Int32} (hv : v = kt_I false) : kt_rep 16 (upd rt (nI j).toNatClampNeg v) (bt (ro &&& (((1 : Int32) <<< (nI j &&& 31)) ^^^ (-1)))) := by
  refine kt_rep_c (kt_put h j false rfl (by omega) hv) (fun i hi => ?_)
  show (if i = j then false else bt ro i) = _
  rw [b_and, kt_not _ (by omega), kt_sh1 (by omega) (by omega)]
  by_cases z : i = j
  · rw [if_pos z, decide_eq_true z]; simp
  · rw [if_neg z, decide_eq_false z]; simp
theorem kt_rtS {ro : Int32} {rt : Nat → Int32} (h : kt_rep 16 rt (bt ro)) {j : Nat} (hj : j < 16) {v : Int32} (hv : v = kt_I true) : kt_rep 16 (upd rt (nI j).toNatClampNeg v) (bt (ro ||| ((1 : Int32) <<< (nI j &&& 31)))) := by
  refine kt_rep_c (kt_put h j true rfl (by omega) hv) (fun i hi => ?_)
  show (if i = j then true else bt ro i) = _
  rw [b_or, kt_sh1 (by omega) (by omega)]
  by_cases z : i = j
  · rw [if_pos z, decide_eq_true z]; simp
  · rw [if_neg z, decide_eq_false z]; simp
theorem i_vc_setRoot {k : Nat} {u : SX} {v : SY} (I : i_Rel k u v) (hk : k + 3 ≤ 1536) (v1 : Int32) (v2 : Int32) : wpX_setRoot (fun r u' => wpY_setRoot (fun r' v' => r' = r ∧ i_Rel (k + 3) u' v') v v1 (lw_bz v2)) u v1 (lw_bz v2) := by
  obtain ⟨ro, sz, rf⟩ := u
  obtain ⟨sy, rt, rs, fo, gu⟩ := v
  obtain ⟨h1, h2, h3⟩ := I
  have h1 : sz = sy := h1
  subst h1
  unfold wpX_setRoot wpY_setRoot
  dsimp only
  rcases kt_ob v1 with b | ⟨j, hj, rfl⟩
  · exact kt_Xio0 b (br_t rfl (kt_Yba1 b (br_f (by decide) ⟨rfl, rfl, h2, h3⟩)))
  · have ii : vp_in (nI j) 16 := vp_in_nI hj (by omega)
    refine kt_Xio1 hj (br_f (by decide) ?_)
    refine kt_Xbo (by omega) ?_
    have v : rt (nI j).toNatClampNeg = kt_I (bt ro j) := kt_at h2 j rfl hj (by omega)
    rcases lw_bz_01 v2 with z | z
    · rw [z]
      refine br_t rfl (fun ro' er => ?_)
      have R : ∀ rt', rt' = upd rt (nI j).toNatClampNeg (vp_nar .boolean 0) → i_Rel (k + 3) (ro', sz, rf) (sz, rt', rs, fo, gu) := fun rt' et => by
        refine ⟨rfl, ?_, h3⟩
        rw [er, et]
        exact kt_rtC h2 hj kt_n0
      refine kt_Yba0 hj (br_t rfl ⟨ii, ?_⟩)
      refine kt_br _ v (fun f => ⟨ii, fun rt' et => ⟨?_, R rt' et⟩⟩) (fun g => ⟨ii, fun rt' et => ⟨?_, R rt' et⟩⟩)
      · rw [f]; rfl
      · rw [g]; rfl
    · rw [z]
      refine br_f (by decide) (fun ro' er => ?_)
      have R : ∀ rt', rt' = upd rt (nI j).toNatClampNeg (vp_nar .boolean 1) → i_Rel (k + 3) (ro', sz, rf) (sz, rt', rs, fo, gu) := fun rt' et => by
        refine ⟨rfl, ?_, h3⟩
        rw [er, et]
        exact kt_rtS h2 hj kt_n1
      refine kt_Yba0 hj (br_t rfl ⟨ii, ?_⟩)
      refine kt_br _ v (fun f => ⟨ii, fun rt' et => ⟨?_, R rt' et⟩⟩) (fun g => ⟨ii, fun rt' et => ⟨?_, R rt' et⟩⟩)
      · rw [f]; rfl
      · rw [g]; rfl
end
section
/-! ===== what is owed: the methods that only answer ===== -/
theorem i_vc_alive {k : Nat} {u : SX} {v : SY} (I : i_Rel k u v) (hk : k + 3 ≤ 1536) (v1 : Int32) : wpX_alive (fun r => wpY_alive (fun r' v' => r' = r ∧ i_Rel (k + 3) u v') v v1) u v1 := by
  obtain ⟨ro, sz, rf⟩ := u
  obtain ⟨sy, rt, rs, fo, gu⟩ := v
  obtain ⟨h1, h2, h3⟩ := I
  have h1 : sz = sy := h1
  subst h1
  unfold wpX_alive wpY_alive
  dsimp only
  rcases kt_ob v1 with b | ⟨j, hj, rfl⟩
  · exact kt_Xio0 b (br_t rfl (kt_Yba1 b (br_f (by decide) ⟨rfl, rfl, h2, h3⟩)))
  · refine kt_Xio1 hj (br_f (by decide) ?_)
    refine kt_Xal (a := 16) (fun i hi => kt_no hi) (fun w hw => ?_)
    refine kt_Xbo (by omega) ?_
    rw [hw j hj]
    refine kt_Yba0 hj (br_t rfl (kt_Yia h2 h3 hj (fun fo' => ?_)))
    refine kt_br _ rfl (fun f => ⟨?_, rfl, h2, h3⟩) (fun g => ⟨?_, rfl, h2, h3⟩)
    · rw [f]; rfl
    · rw [g]; rfl
theorem i_vc_keeper {k : Nat} {u : SX} {v : SY} (I : i_Rel k u v) (hk : k + 3 ≤ 1536) (v1 : Int32) : wpX_keeper (fun r => wpY_keeper (fun r' v' => r' = r ∧ i_Rel (k + 3) u v') v v1) u v1 := by
  obtain ⟨ro, sz, rf⟩ := u
  obtain ⟨sy, rt, rs, fo, gu⟩ := v
  obtain ⟨h1, h2, h3⟩ := I
  have h1 : sz = sy := h1
  subst h1
  unfold wpX_keeper wpY_keeper
  dsimp only
  rcases kt_ob v1 with b | ⟨j, hj, rfl⟩
  · exact kt_Xio0 b (br_t rfl (kt_Yba1 b (br_f (by decide) ⟨rfl, rfl, h2, h3⟩)))
  · refine kt_Xio1 hj (br_f (by decide) ?_)
    refine kt_Xgo hj (fun w hw x2 e2 => ?_)
    refine kt_Xlg (kt_s (kt_G (bt ro) (kt_e rf)) j j true) (fun i hi => ?_) ?_
    · rw [e2, b_and, kt_not _ hi, kt_sh1 (by omega) hi, hw i hi]
      unfold kt_s
      rw [Bool.and_self, Bool.true_and, Bool.and_assoc]
    · refine kt_Yba0 hj (br_t rfl (kt_Yga h2 h3 (fun fo' gu' hf hg => ?_)))
      exact kt_Yla hg hj hj true rfl ⟨rfl, rfl, h2, h3⟩
theorem i_vc_held {k : Nat} {u : SX} {v : SY} (I : i_Rel k u v) (hk : k + 3 ≤ 1536) (v1 : Int32) : wpX_held (fun r => wpY_held (fun r' v' => r' = r ∧ i_Rel (k + 3) u v') v v1) u v1 := by
  obtain ⟨ro, sz, rf⟩ := u
  obtain ⟨sy, rt, rs, fo, gu⟩ := v
  obtain ⟨h1, h2, h3⟩ := I
  have h1 : sz = sy := h1
  subst h1
  unfold wpX_held wpY_held
  dsimp only
  rcases kt_ob v1 with b | ⟨j, hj, rfl⟩
  · exact kt_Xio0 b (br_t rfl (kt_Yba1 b (br_f (by decide) ⟨rfl, rfl, h2, h3⟩)))
  · refine kt_Xio1 hj (br_f (by decide) ?_)
    refine kt_Xgb hj (fun w hw => ?_)
    refine kt_Xsz (kt_G (bt ro) (kt_e rf) j) hw ?_
    refine kt_Yba0 hj (br_t rfl (kt_Yga h2 h3 (fun fo' gu' hf hg => ?_)))
    exact kt_Yhb hg hj ⟨rfl, rfl, h2, h3⟩
theorem i_vc_guards {k : Nat} {u : SX} {v : SY} (I : i_Rel k u v) (hk : k + 3 ≤ 1536) (v1 : Int32) (v2 : Int32) : wpX_guards (fun r => wpY_guards (fun r' v' => r' = r ∧ i_Rel (k + 3) u v') v v1 v2) u v1 v2 := by
  obtain ⟨ro, sz, rf⟩ := u
  obtain ⟨sy, rt, rs, fo, gu⟩ := v
  obtain ⟨h1, h2, h3⟩ := I
  have h1 : sz = sy := h1
  subst h1
  unfold wpX_guards wpY_guards
  dsimp only
  rcases kt_ob v1 with b | ⟨j, hj, rfl⟩
  · exact kt_Xio0 b (br_t rfl (kt_Yba1 b (br_f (by decide) ⟨rfl, rfl, h2, h3⟩)))
  · refine kt_Xio1 hj (br_f (by decide) ?_)
    rcases kt_ob v2 with b | ⟨t, ht, rfl⟩
    · exact kt_Xio0 b (br_t rfl (kt_Yba0 hj (br_t rfl (kt_Yba1 b (br_f (by decide) ⟨rfl, rfl, h2, h3⟩)))))
    · refine kt_Xio1 ht (br_f (by decide) ?_)
      refine kt_Xgb hj (fun w hw => ?_)
      refine kt_Xbo (by omega) ?_
      rw [hw t ht]
      refine kt_Yba0 hj (br_t rfl (kt_Yba0 ht (br_t rfl (kt_Yig h2 h3 hj ht (fun fo' => ?_)))))
      refine kt_br _ rfl (fun f => ⟨?_, rfl, h2, h3⟩) (fun g => ⟨?_, rfl, h2, h3⟩)
      · rw [f]; rfl
      · rw [g]; rfl
theorem i_vc_depth {k : Nat} {u : SX} {v : SY} (I : i_Rel k u v) (hk : k + 3 ≤ 1536) (v1 : Int32) : wpX_depth (fun r => wpY_depth (fun r' v' => r' = r ∧ i_Rel (k + 3) u v') v v1) u v1 := by
  obtain ⟨ro, sz, rf⟩ := u
  obtain ⟨sy, rt, rs, fo, gu⟩ := v
  obtain ⟨h1, h2, h3⟩ := I
  have h1 : sz = sy := h1
  subst h1
  unfold wpX_depth wpY_depth
  dsimp only
  rcases kt_ob v1 with b | ⟨j, hj, rfl⟩
  · exact kt_Xio0 b (br_t rfl (kt_Yba1 b (br_f (by decide) ⟨rfl, rfl, h2, h3⟩)))
  · refine kt_Xio1 hj (br_f (by decide) ?_)
    refine kt_Xgo hj (fun w hw => ?_)
    refine kt_Xco (fun k => kt_G (bt ro) (kt_e rf) k j) (fun i hi => by rw [hw i (by omega), decide_eq_true hi]; rfl) ?_
    refine kt_Yba0 hj (br_t rfl (kt_Yga h2 h3 (fun fo' gu' hf hg => ⟨17, ?_⟩)))
    exact kt_Yd18 hg hj 16 0 0 rfl ⟨rfl, rfl, h2, h3⟩
theorem i_vc_common {k : Nat} {u : SX} {v : SY} (I : i_Rel k u v) (hk : k + 3 ≤ 1536) (v1 : Int32) (v2 : Int32) : wpX_common (fun r => wpY_common (fun r' v' => r' = r ∧ i_Rel (k + 3) u v') v v1 v2) u v1 v2 := by
  obtain ⟨ro, sz, rf⟩ := u
  obtain ⟨sy, rt, rs, fo, gu⟩ := v
  obtain ⟨h1, h2, h3⟩ := I
  have h1 : sz = sy := h1
  subst h1
  unfold wpX_common wpY_common
  dsimp only
  rcases kt_ob v1 with b | ⟨j, hj, rfl⟩
  · exact kt_Xio0 b (br_t rfl (kt_Yba1 b (br_f (by decide) ⟨rfl, rfl, h2, h3⟩)))
  · refine kt_Xio1 hj (br_f (by decide) ?_)
    rcases kt_ob v2 with b | ⟨t, ht, rfl⟩
    · exact kt_Xio0 b (br_t rfl (kt_Yba0 hj (br_t rfl (kt_Yba1 b (br_f (by decide) ⟨rfl, rfl, h2, h3⟩)))))
    · refine kt_Xio1 ht (br_f (by decide) ?_)
      refine kt_Xgo hj (fun w hw => kt_Xgo ht (fun w2 hw2 x3 e3 => ?_))
      refine kt_Xlg (kt_s (kt_G (bt ro) (kt_e rf)) j t false) (fun i hi => ?_) ?_
      · rw [e3, b_and, hw i hi, hw2 i hi]
        unfold kt_s
        cases decide (i < 16) <;> simp
      · refine kt_Yba0 hj (br_t rfl (kt_Yba0 ht (br_t rfl (kt_Yga h2 h3 (fun fo' gu' hf hg => ?_)))))
        exact kt_Yla hg hj ht false rfl ⟨rfl, rfl, h2, h3⟩
theorem i_vc_heaviest {k : Nat} {u : SX} {v : SY} (I : i_Rel k u v) (hk : k + 3 ≤ 1536) : wpX_heaviest (fun r => wpY_heaviest (fun r' v' => r' = r ∧ i_Rel (k + 3) u v') v) u := by
  obtain ⟨ro, sz, rf⟩ := u
  obtain ⟨sy, rt, rs, fo, gu⟩ := v
  obtain ⟨h1, h2, h3⟩ := I
  have h1 : sz = sy := h1
  subst h1
  unfold wpX_heaviest wpY_heaviest
  dsimp only
  refine ⟨17, kt_Xh6 16 0 (-1) (-1) rfl ?_⟩
  refine kt_Yga h2 h3 (fun fo' gu' hf hg => ⟨17, ?_⟩)
  exact kt_Yh10 hg 16 0 (-1) (-1) rfl ⟨rfl, rfl, h2, h3⟩
theorem i_vc_total {k : Nat} {u : SX} {v : SY} (I : i_Rel k u v) (hk : k + 3 ≤ 1536) : wpX_total (fun r => wpY_total (fun r' v' => r' = r ∧ i_Rel (k + 3) u v') v) u := by
  obtain ⟨ro, sz, rf⟩ := u
  obtain ⟨sy, rt, rs, fo, gu⟩ := v
  obtain ⟨h1, h2, h3⟩ := I
  have h1 : sz = sy := h1
  subst h1
  unfold wpX_total wpY_total
  dsimp only
  refine kt_Xal (a := 16) (fun i hi => kt_no hi) (fun w hw => ?_)
  refine kt_Xsz (kt_A (bt ro) (kt_e rf) 16) hw ?_
  refine kt_Yfi 16 kt_xm1 h2 h3 (fun fo' hf => ⟨17, ?_⟩)
  exact kt_Yt9 hf 16 0 0 rfl ⟨rfl, rfl, h2, h3⟩
end
