/-! pasted from kit/rows: pk_us .. pk_cl, ek_if; bt and its rows -/
theorem pk_us {f : Nat → Int32} {k : Nat} {x : Int32} : upd f k x k = x := if_pos rfl
theorem pk_un {f : Nat → Int32} {k j : Nat} {x : Int32} (h : j ≠ k) : upd f k x j = f j := if_neg h
theorem pk_sub {a b : Nat} (h : b ≤ a) : nI a - nI b = nI (a - b) := by
  obtain ⟨c, rfl⟩ : ∃ c, a = c + b := ⟨a - b, by omega⟩
  rw [← nI_add, Int32.add_sub_cancel, Nat.add_sub_cancel]
theorem pk_m1 (n : Nat) : nI (n + 1) + (-1) = nI n := by
  rw [← nI_1, Int32.add_assoc, show (1 : Int32) + (-1) = 0 from rfl, Int32.add_zero]
theorem pk_mul (a b : Nat) : nI a * nI b = nI (a * b) := (Int32.ofNat_mul a b).symm
theorem pk_div {a d : Nat} (ha : a < 2 ^ 31) (h0 : 0 < d) (hd : d < 2 ^ 31) : nI a / nI d = nI (a / d) := by
  apply Int32.toInt_inj.mp
  rw [lg_idiv_nonneg (by rw [nI_toInt ha]; omega) (by rw [nI_toInt hd]; omega), nI_toInt ha, nI_toInt hd, nI_toInt (Nat.lt_of_le_of_lt (Nat.div_le_self a d) ha)]
  first | rfl | exact (Int.natCast_ediv _ _).symm
theorem pk_rem {a d : Nat} (ha : a < 2 ^ 31) (h0 : 0 < d) (hd : d < 2 ^ 31) : nI a - nI a / nI d * nI d = nI (a % d) := by
  rw [pk_div ha h0 hd, pk_mul, pk_sub (Nat.div_mul_le_self a d)]
  exact congrArg nI (by have := Nat.div_add_mod' a d; omega)
theorem pk_ix (x : Int32) {n : Nat} (hn : n < 2 ^ 31) : x < 0 ∨ nI n ≤ x ∨ ∃ j : Nat, j < n ∧ x = nI j := by
  by_cases h : x < 0
  · exact Or.inl h
  · obtain ⟨j, hj, rfl⟩ := nI_of h
    by_cases h2 : j < n
    · exact Or.inr (Or.inr ⟨j, h2, rfl⟩)
    · exact Or.inr (Or.inl (nI_le (by omega) hj))
theorem pk_le {x y : Int32} {A B : Prop} (a b : Nat) (f : a ≤ b → A) (g : b < a → B) (hx : x = nI a := by rfl) (hy : y = nI b := by rfl) (ha : a < 2 ^ 31 := by omega) (hb : b < 2 ^ 31 := by omega) : (x ≤ y → A) ∧ (¬ x ≤ y → B) := by
  subst hx hy
  rw [nI_leI ha hb]
  exact ⟨f, fun z => g (by omega)⟩
theorem pk_lt {x y : Int32} {A B : Prop} (a b : Nat) (f : a < b → A) (g : b ≤ a → B) (hx : x = nI a := by rfl) (hy : y = nI b := by rfl) (ha : a < 2 ^ 31 := by omega) (hb : b < 2 ^ 31 := by omega) : (x < y → A) ∧ (¬ x < y → B) := by
  subst hx hy
  rw [nI_ltI ha hb]
  exact ⟨f, fun z => g (by omega)⟩
theorem pk_eq {x y : Int32} {A B : Prop} (a b : Nat) (f : a = b → A) (g : a ≠ b → B) (hx : x = nI a := by rfl) (hy : y = nI b := by rfl) (ha : a < 2 ^ 31 := by omega) (hb : b < 2 ^ 31 := by omega) : (x = y → A) ∧ (¬ x = y → B) := by
  subst hx hy
  rw [nI_eq ha hb]
  exact ⟨f, g⟩
theorem pk_in {x : Int32} (n N : Nat) (h : n < N) (hx : x = nI n := by rfl) (hN : N < 2 ^ 31 := by omega) : vp_in x N := by
  subst hx
  exact vp_in_nI h hN
theorem pk_cl {x : Int32} (n : Nat) (hx : x = nI n := by rfl) (h : n < 2 ^ 31 := by omega) : x.toNatClampNeg = n := by
  subst hx
  exact nI_clamp h
theorem ek_if {c d A B : Prop} (e : c ↔ d) (f : d → A) (g : ¬ d → B) : (c → A) ∧ (¬ c → B) :=
  ⟨fun z => f (e.mp z), fun z => g (fun y => z (e.mpr y))⟩
def bt (x : Int32) (i : Nat) : Bool := x.toBitVec.getLsbD i
theorem b_ext {x y : Int32} (h : ∀ i, i < 32 → bt x i = bt y i) : x = y := Int32.toBitVec_inj.mp (BitVec.eq_of_getLsbD_eq (fun i hi => h i hi))
theorem b_or (x y : Int32) (i : Nat) : bt (x ||| y) i = (bt x i || bt y i) := by unfold bt; rw [Int32.toBitVec_or, BitVec.getLsbD_or]
theorem b_and (x y : Int32) (i : Nat) : bt (x &&& y) i = (bt x i && bt y i) := by unfold bt; rw [Int32.toBitVec_and, BitVec.getLsbD_and]
theorem b_xor (x y : Int32) (i : Nat) : bt (x ^^^ y) i = (bt x i ^^ bt y i) := by unfold bt; rw [Int32.toBitVec_xor, BitVec.getLsbD_xor]
theorem b_big {x : Int32} {i : Nat} (h : 32 ≤ i) : bt x i = false := BitVec.getLsbD_of_ge _ _ h
theorem b_m1 : ∀ i, i < 32 → bt (-1) i = true := by decide +kernel
theorem b_0 (i : Nat) : bt 0 i = false := BitVec.getLsbD_zero
theorem s_l : ∀ n, n < 32 → ((nI n &&& 31).toBitVec.smod 32).toNat = n := by decide +kernel
theorem b_shl (n : Nat) (hn : n < 32) (x : Int32) {i : Nat} (hi : i < 32) : bt (x <<< (nI n &&& 31)) i = (decide (n ≤ i) && bt x (i - n)) := by
  unfold bt
  rw [Int32.toBitVec_shiftLeft]
  show (x.toBitVec <<< ((nI n &&& 31).toBitVec.smod 32).toNat).getLsbD i = _
  rw [s_l n hn, BitVec.getLsbD_shiftLeft]
  rcases Nat.lt_or_ge i n with h | h
  · simp [h, Nat.not_le.mpr h]
  · simp [hi, h, Nat.not_lt.mpr h]
theorem b_sshr (n : Nat) (hn : n < 32) (x : Int32) {i : Nat} (hi : i < 32) : bt (x >>> (nI n &&& 31)) i = if n + i < 32 then bt x (n + i) else bt x 31 := by
  unfold bt
  rw [Int32.toBitVec_shiftRight]
  show (x.toBitVec.sshiftRight ((nI n &&& 31).toBitVec.smod 32).toNat).getLsbD i = _
  rw [s_l n hn, BitVec.getLsbD_sshiftRight, BitVec.msb_eq_getLsbD_last]
  simp [hi]
/-! ===== own rows: a Bool as an int, bits, arrays of Bools ===== -/
def kt_I (b : Bool) : Int32 := bif b then 1 else 0
theorem kt_I0 (b : Bool) : kt_I b = 0 ↔ b = false := by cases b <;> decide
theorem kt_I1 (b : Bool) : kt_I b = 1 ↔ b = true := by cases b <;> decide
theorem kt_n0 : vp_nar .boolean 0 = kt_I false := by rfl
theorem kt_n1 : vp_nar .boolean 1 = kt_I true := by rfl
theorem kt_nI (b : Bool) : vp_nar .boolean (kt_I b) = kt_I b := by cases b <;> rfl
theorem kt_nn (b : Bool) : narrow .boolean (.int (kt_I b)) = .int (kt_I b) := by cases b <;> rfl
theorem kt_b1 : ∀ i, i < 32 → bt 1 i = decide (i = 0) := by decide +kernel
theorem kt_bI (b : Bool) {i : Nat} (hi : i < 32) : bt (kt_I b) i = (b && decide (i = 0)) := by
  cases b
  · exact b_0 i
  · rw [Bool.true_and]; exact kt_b1 i hi
theorem kt_bit (x : Int32) {i : Nat} (hi : i < 32) : ((x >>> (nI i &&& 31)) &&& 1) = kt_I (bt x i) := by
  apply b_ext
  intro j hj
  rw [b_and, b_sshr i hi x hj, kt_b1 j hj, kt_bI _ hj]
  by_cases h : j = 0
  · subst h
    rw [if_pos (by omega)]; simp
  · simp [h]
theorem kt_sh1 {k i : Nat} (hk : k < 32) (hi : i < 32) : bt ((1 : Int32) <<< (nI k &&& 31)) i = decide (i = k) := by
  rw [b_shl k hk 1 hi, kt_b1 _ (by omega)]
  by_cases h : i = k
  · subst h; simp
  · by_cases h2 : k ≤ i
    · rw [decide_eq_false (show ¬ i - k = 0 by omega), decide_eq_false h]; simp
    · rw [decide_eq_false h2, decide_eq_false h]; simp
theorem kt_shI {k i : Nat} (b : Bool) (hk : k < 32) (hi : i < 32) : bt (kt_I b <<< (nI k &&& 31)) i = (b && decide (i = k)) := by
  rw [b_shl k hk _ hi, kt_bI _ (by omega)]
  by_cases h : i = k
  · subst h; simp
  · by_cases h2 : k ≤ i
    · rw [decide_eq_false (show ¬ i - k = 0 by omega), decide_eq_false h]; simp
    · rw [decide_eq_false h2, decide_eq_false h]; simp
theorem kt_not (x : Int32) {i : Nat} (hi : i < 32) : bt (x ^^^ (-1)) i = !(bt x i) := by
  rw [b_xor, b_m1 i hi]; simp
/-- an array of ints that holds, below n, the Bools of f -/
def kt_rep (n : Nat) (a : Nat → Int32) (f : Nat → Bool) : Prop := ∀ i, i < n → a i = kt_I (f i)
theorem kt_at {n : Nat} {a : Nat → Int32} {f : Nat → Bool} (h : kt_rep n a f) {x : Int32} (i : Nat) (hx : x = nI i) (hi : i < n) (h2 : i < 2 ^ 31) : a x.toNatClampNeg = kt_I (f i) := by
  subst hx
  rw [nI_clamp h2]
  exact h i hi
theorem kt_put {n : Nat} {a : Nat → Int32} {f : Nat → Bool} (h : kt_rep n a f) {x v : Int32} (i : Nat) (b : Bool) (hx : x = nI i) (h2 : i < 2 ^ 31) (hv : v = kt_I b) : kt_rep n (upd a x.toNatClampNeg v) (fun j => if j = i then b else f j) := by
  subst hx hv
  rw [nI_clamp h2]
  intro j hj
  show _ = kt_I (if j = i then b else f j)
  by_cases e : j = i
  · subst e; rw [pk_us, if_pos rfl]
  · rw [pk_un e, if_neg e]; exact h j hj
theorem kt_rep_c {n : Nat} {a : Nat → Int32} {f g : Nat → Bool} (h : kt_rep n a f) (e : ∀ i, i < n → f i = g i) : kt_rep n a g := fun i hi => by
  rw [h i hi, e i hi]
/-- one more cell -/
theorem kt_put1 {n : Nat} {a : Nat → Int32} {f : Nat → Bool} (h : kt_rep n a f) {x v : Int32} (hx : x = nI n) (h2 : n < 2 ^ 31) (hv : v = kt_I (f n)) : kt_rep (n + 1) (upd a x.toNatClampNeg v) f := by
  subst hx hv
  rw [nI_clamp h2]
  intro j hj
  by_cases e : j = n
  · subst e; rw [pk_us]
  · rw [pk_un e]; exact h j (by omega)
/-- a branch on such a value -/
theorem kt_br {x : Int32} {A B : Prop} (b : Bool) (hx : x = kt_I b) (f : b = false → A) (g : b = true → B) : (x = 0 → A) ∧ (¬ x = 0 → B) := by
  subst hx
  cases b
  · exact ⟨fun _ => f rfl, fun z => absurd rfl z⟩
  · exact ⟨fun z => absurd z (by decide), fun _ => g rfl⟩
theorem kt_br1 {x : Int32} {A B : Prop} (b : Bool) (hx : x = kt_I b) (f : b = true → A) (g : b = false → B) : (x = 1 → A) ∧ (¬ x = 1 → B) := by
  subst hx
  cases b
  · exact ⟨fun z => absurd z (by decide), fun _ => g rfl⟩
  · exact ⟨fun _ => f rfl, fun z => absurd rfl z⟩
/-- an index of two -/
theorem kt_ix (a b : Nat) : (16 * nI a) + nI b = nI (16 * a + b) := by
  show (nI 16 * nI a) + nI b = _
  rw [pk_mul, nI_add]
