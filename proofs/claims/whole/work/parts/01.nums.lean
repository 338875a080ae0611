/- rows pk_*, sb_*, ek_* began as rows of kit/rows -/
theorem pk_us {f : Nat → Int32} {k : Nat} {x : Int32} : upd f k x k = x := if_pos rfl
theorem pk_un {f : Nat → Int32} {k j : Nat} {x : Int32} (h : j ≠ k) : upd f k x j = f j := if_neg h
theorem pk_sub {a b : Nat} (h : b ≤ a) : nI a - nI b = nI (a - b) := by
  obtain ⟨c, rfl⟩ : ∃ c, a = c + b := ⟨a - b, by omega⟩
  rw [← nI_add, Int32.add_sub_cancel, Nat.add_sub_cancel]
theorem pk_mul (a b : Nat) : nI a * nI b = nI (a * b) := (Int32.ofNat_mul a b).symm
theorem pk_div {a d : Nat} (ha : a < 2 ^ 31) (h0 : 0 < d) (hd : d < 2 ^ 31) : nI a / nI d = nI (a / d) := by
  apply Int32.toInt_inj.mp
  rw [lg_idiv_nonneg (by rw [nI_toInt ha]; omega) (by rw [nI_toInt hd]; omega), nI_toInt ha, nI_toInt hd, nI_toInt (Nat.lt_of_le_of_lt (Nat.div_le_self a d) ha)]
  first | rfl | exact (Int.natCast_ediv _ _).symm
theorem pk_rem {a d : Nat} (ha : a < 2 ^ 31) (h0 : 0 < d) (hd : d < 2 ^ 31) : nI a - nI a / nI d * nI d = nI (a % d) := by
  rw [pk_div ha h0 hd, pk_mul, pk_sub (Nat.div_mul_le_self a d)]
  exact congrArg nI (by have := Nat.div_add_mod' a d; omega)
theorem pk_ix (x : Int32) {n : Nat} (hn : n < 2 ^ 31) : x < 0 ∨ nI n ≤ x ∨ ∃ j : Nat, j < n ∧ x = nI j := by
  by_cases h : x < 0
  · exact Or.inl h
  · obtain ⟨j, hj, rfl⟩ := nI_of h
    by_cases h2 : j < n
    · exact Or.inr (Or.inr ⟨j, h2, rfl⟩)
    · exact Or.inr (Or.inl (nI_le (by omega) hj))
theorem pk_le {x y : Int32} {A B : Prop} (a b : Nat) (f : a ≤ b → A) (g : b < a → B) (hx : x = nI a := by rfl) (hy : y = nI b := by rfl) (ha : a < 2 ^ 31 := by omega) (hb : b < 2 ^ 31 := by omega) : (x ≤ y → A) ∧ (¬ x ≤ y → B) := by
  subst hx hy
  rw [nI_leI ha hb]
  exact ⟨f, fun z => g (by omega)⟩
theorem pk_lt {x y : Int32} {A B : Prop} (a b : Nat) (f : a < b → A) (g : b ≤ a → B) (hx : x = nI a := by rfl) (hy : y = nI b := by rfl) (ha : a < 2 ^ 31 := by omega) (hb : b < 2 ^ 31 := by omega) : (x < y → A) ∧ (¬ x < y → B) := by
  subst hx hy
  rw [nI_ltI ha hb]
  exact ⟨f, fun z => g (by omega)⟩
theorem pk_eq {x y : Int32} {A B : Prop} (a b : Nat) (f : a = b → A) (g : a ≠ b → B) (hx : x = nI a := by rfl) (hy : y = nI b := by rfl) (ha : a < 2 ^ 31 := by omega) (hb : b < 2 ^ 31 := by omega) : (x = y → A) ∧ (¬ x = y → B) := by
  subst hx hy
  rw [nI_eq ha hb]
  exact ⟨f, g⟩
theorem pk_in {x : Int32} (n N : Nat) (h : n < N) (hx : x = nI n := by rfl) (hN : N < 2 ^ 31 := by omega) : vp_in x N := by
  subst hx
  exact vp_in_nI h hN
theorem pk_cl {x : Int32} (n : Nat) (hx : x = nI n := by rfl) (h : n < 2 ^ 31 := by omega) : x.toNatClampNeg = n := by
  subst hx
  exact nI_clamp h
theorem sb_negT {w : Nat} (h : w < 2 ^ 31) : (-nI w).toInt = -(w : Int) := by
  rw [Int32.toInt_neg, nI_toInt h]
  exact Int.bmod_eq_of_le (by omega) (by omega)
theorem ek_if {c d A B : Prop} (e : c ↔ d) (f : d → A) (g : ¬ d → B) : (c → A) ∧ (¬ c → B) :=
  ⟨fun z => f (e.mp z), fun z => g (fun y => z (e.mpr y))⟩
def hp_i (a : Int) : Int32 := Int32.ofInt a
theorem hp_mul (a b : Int) : hp_i a * hp_i b = hp_i (a * b) := (Int32.ofInt_mul a b).symm
theorem hp_add (a b : Int) : hp_i a + hp_i b = hp_i (a + b) := (Int32.ofInt_add a b).symm
theorem hp_sub (a b : Int) : hp_i a - hp_i b = hp_i (a - b) := (Int32.ofInt_sub a b).symm
theorem hp_neg (a : Int) : - hp_i a = hp_i (- a) := (Int32.ofInt_neg a).symm
theorem hp_nat (n : Nat) : nI n = hp_i (n : Int) := Int32.ofInt_eq_ofNat.symm
theorem hp_of (x : Int32) : hp_i x.toInt = x := Int32.ofInt_toInt x
theorem hp_t {a : Int} (h : a.natAbs < 2147483648) : (hp_i a).toInt = a :=
  Int32.toInt_ofInt_of_le (by omega) (by omega)
theorem hp_le {a b : Int} (ha : a.natAbs < 2147483648) (hb : b.natAbs < 2147483648) : hp_i a ≤ hp_i b ↔ a ≤ b := by
  rw [Int32.le_iff_toInt_le, hp_t ha, hp_t hb]
theorem hp_lt {a b : Int} (ha : a.natAbs < 2147483648) (hb : b.natAbs < 2147483648) : hp_i a < hp_i b ↔ a < b := by
  rw [Int32.lt_iff_toInt_lt, hp_t ha, hp_t hb]
theorem hp_eq {a b : Int} (ha : a.natAbs < 2147483648) (hb : b.natAbs < 2147483648) : hp_i a = hp_i b ↔ a = b := by
  rw [← Int32.toInt_inj, hp_t ha, hp_t hb]
theorem hp_bm {a b : Int} {M N : Nat} (ha : a.natAbs ≤ M) (hb : b.natAbs ≤ N) : (a * b).natAbs ≤ M * N := by
  rw [Int.natAbs_mul]; exact Nat.mul_le_mul ha hb
theorem hp_ba {a b : Int} {M N : Nat} (ha : a.natAbs ≤ M) (hb : b.natAbs ≤ N) : (a + b).natAbs ≤ M + N := by omega
theorem hp_bs {a b : Int} {M N : Nat} (ha : a.natAbs ≤ M) (hb : b.natAbs ≤ N) : (a - b).natAbs ≤ M + N := by omega
/-- branches over whole numbers -/
theorem hp_kle {x y : Int32} {A B : Prop} (a b : Int) (hx : x = hp_i a) (hy : y = hp_i b) (ha : a.natAbs < 2147483648) (hb : b.natAbs < 2147483648) (f : a ≤ b → A) (g : b < a → B) : (x ≤ y → A) ∧ (¬ x ≤ y → B) := by
  subst hx hy
  rw [hp_le ha hb]
  exact ⟨f, fun z => g (by omega)⟩
theorem hp_klt {x y : Int32} {A B : Prop} (a b : Int) (hx : x = hp_i a) (hy : y = hp_i b) (ha : a.natAbs < 2147483648) (hb : b.natAbs < 2147483648) (f : a < b → A) (g : b ≤ a → B) : (x < y → A) ∧ (¬ x < y → B) := by
  subst hx hy
  rw [hp_lt ha hb]
  exact ⟨f, fun z => g (by omega)⟩
theorem hp_keq {x y : Int32} {A B : Prop} (a b : Int) (hx : x = hp_i a) (hy : y = hp_i b) (ha : a.natAbs < 2147483648) (hb : b.natAbs < 2147483648) (f : a = b → A) (g : ¬ a = b → B) : (x = y → A) ∧ (¬ x = y → B) := by
  subst hx hy
  rw [hp_eq ha hb]
  exact ⟨f, g⟩
theorem hp_0 : (0 : Int32) = hp_i 0 := rfl
theorem hp_m1 : ∀ n, n < 14 → nI n ≠ -1 := by decide
theorem hp_nn {a b : Nat} (ha : a < 14) (hb : b < 14) : nI a ≠ nI b ↔ a ≠ b := by
  rw [ne_eq, nI_eq (by omega) (by omega)]
/-- arrays as whole numbers -/
def hp_F (f : Nat → Int) : Nat → Int32 := fun s => hp_i (f s)
def hp_u (f : Nat → Int) (k : Nat) (x : Int) : Nat → Int := fun j => if j = k then x else f j
theorem hp_uF (f : Nat → Int) (k : Nat) (x : Int) : upd (hp_F f) k (hp_i x) = hp_F (hp_u f k x) := by
  funext j
  unfold upd hp_F hp_u
  split <;> rfl
theorem hp_Fc (f : Nat → Int) {n : Nat} (h : n < 14) : hp_F f (nI n).toNatClampNeg = hp_i (f n) := by
  rw [nI_clamp (by omega)]; rfl
/-- the slots of the class against those of the reference -/
def hp_g (s : Nat) : Nat := if s = 0 then 11 else if s = 1 then 10 else if s = 2 then 13 else if s = 3 then 12 else if s < 14 then s - 4 else s
def hp_h (i : Nat) : Nat := if i < 10 then i + 4 else if i = 10 then 1 else if i = 11 then 0 else if i = 12 then 3 else if i = 13 then 2 else i
theorem hp_gh (i : Nat) : hp_g (hp_h i) = i := by
  unfold hp_h hp_g
  repeat' split
  all_goals omega
theorem hp_hg (s : Nat) : hp_h (hp_g s) = s := by
  unfold hp_h hp_g
  repeat' split
  all_goals omega
theorem hp_ug (f : Nat → Int) {k : Nat} (hk : k < 10) (x : Int) : hp_u (fun s => f (hp_g s)) (4 + k) x = fun s => hp_u f k x (hp_g s) := by
  funext s
  unfold hp_u
  have e : s = 4 + k ↔ hp_g s = k := by
    unfold hp_g
    repeat' split
    all_goals omega
  by_cases h : s = 4 + k
  · rw [if_pos h, if_pos (e.mp h)]
  · rw [if_neg h, if_neg (fun z => h (e.mpr z))]
