section
/- rows pk_*, sb_*, ek_* began as rows of kit/rows -/
theorem pk_us {f : Nat → Int32} {k : Nat} {x : Int32} : upd f k x k = x := if_pos rfl
theorem pk_un {f : Nat → Int32} {k j : Nat} {x : Int32} (h : j ≠ k) : upd f k x j = f j := if_neg h
theorem pk_sub {a b : Nat} (h : b ≤ a) : nI a - nI b = nI (a - b) := by
  obtain ⟨c, rfl⟩ : ∃ c, a = c + b := ⟨a - b, by omega⟩
  rw [← nI_add, Int32.add_sub_cancel, Nat.add_sub_cancel]
theorem pk_mul (a b : Nat) : nI a * nI b = nI (a * b) := (Int32.ofNat_mul a b).symm
theorem pk_div {a d : Nat} (ha : a < 2 ^ 31) (h0 : 0 < d) (hd : d < 2 ^ 31) : nI a / nI d = nI (a / d) := by
  apply Int32.toInt_inj.mp
  rw [lg_idiv_nonneg (by rw [nI_toInt ha]; omega) (by rw [nI_toInt hd]; omega), nI_toInt ha, nI_toInt hd, nI_toInt (Nat.lt_of_le_of_lt (Nat.div_le_self a d) ha)]
  first | rfl | exact (Int.natCast_ediv _ _).symm
theorem pk_rem {a d : Nat} (ha : a < 2 ^ 31) (h0 : 0 < d) (hd : d < 2 ^ 31) : nI a - nI a / nI d * nI d = nI (a % d) := by
  rw [pk_div ha h0 hd, pk_mul, pk_sub (Nat.div_mul_le_self a d)]
  exact congrArg nI (by have := Nat.div_add_mod' a d; omega)
theorem pk_ix (x : Int32) {n : Nat} (hn : n < 2 ^ 31) : x < 0 ∨ nI n ≤ x ∨ ∃ j : Nat, j < n ∧ x = nI j := by
  by_cases h : x < 0
  · exact Or.inl h
  · obtain ⟨j, hj, rfl⟩ := nI_of h
    by_cases h2 : j < n
    · exact Or.inr (Or.inr ⟨j, h2, rfl⟩)
    · exact Or.inr (Or.inl (nI_le (by omega) hj))
theorem pk_le {x y : Int32} {A B : Prop} (a b : Nat) (f : a ≤ b → A) (g : b < a → B) (hx : x = nI a := by rfl) (hy : y = nI b := by rfl) (ha : a < 2 ^ 31 := by omega) (hb : b < 2 ^ 31 := by omega) : (x ≤ y → A) ∧ (¬ x ≤ y → B) := by
  subst hx hy
  rw [nI_leI ha hb]
  exact ⟨f, fun z => g (by omega)⟩
theorem pk_lt {x y : Int32} {A B : Prop} (a b : Nat) (f : a < b → A) (g : b ≤ a → B) (hx : x = nI a := by rfl) (hy : y = nI b := by rfl) (ha : a < 2 ^ 31 := by omega) (hb : b < 2 ^ 31 := by omega) : (x < y → A) ∧ (¬ x < y → B) := by
  subst hx hy
  rw [nI_ltI ha hb]
  exact ⟨f, fun z => g (by omega)⟩
theorem pk_eq {x y : Int32} {A B : Prop} (a b : Nat) (f : a = b → A) (g : a ≠ b → B) (hx : x = nI a := by rfl) (hy : y = nI b := by rfl) (ha : a < 2 ^ 31 := by omega) (hb : b < 2 ^ 31 := by omega) : (x = y → A) ∧ (¬ x = y → B) := by
  subst hx hy
  rw [nI_eq ha hb]
  exact ⟨f, g⟩
theorem pk_in {x : Int32} (n N : Nat) (h : n < N) (hx : x = nI n := by rfl) (hN : N < 2 ^ 31 := by omega) : vp_in x N := by
  subst hx
  exact vp_in_nI h hN
theorem pk_cl {x : Int32} (n : Nat) (hx : x = nI n := by rfl) (h : n < 2 ^ 31 := by omega) : x.toNatClampNeg = n := by
  subst hx
  exact nI_clamp h
theorem sb_negT {w : Nat} (h : w < 2 ^ 31) : (-nI w).toInt = -(w : Int) := by
  rw [Int32.toInt_neg, nI_toInt h]
  exact Int.bmod_eq_of_le (by omega) (by omega)
theorem ek_if {c d A B : Prop} (e : c ↔ d) (f : d → A) (g : ¬ d → B) : (c → A) ∧ (¬ c → B) :=
  ⟨fun z => f (e.mp z), fun z => g (fun y => z (e.mpr y))⟩
def hp_i (a : Int) : Int32 := Int32.ofInt a
theorem hp_mul (a b : Int) : hp_i a * hp_i b = hp_i (a * b) := (Int32.ofInt_mul a b).symm
theorem hp_add (a b : Int) : hp_i a + hp_i b = hp_i (a + b) := (Int32.ofInt_add a b).symm
theorem hp_sub (a b : Int) : hp_i a - hp_i b = hp_i (a - b) := (Int32.ofInt_sub a b).symm
theorem hp_neg (a : Int) : - hp_i a = hp_i (- a) := (Int32.ofInt_neg a).symm
theorem hp_nat (n : Nat) : nI n = hp_i (n : Int) := Int32.ofInt_eq_ofNat.symm
theorem hp_of (x : Int32) : hp_i x.toInt = x := Int32.ofInt_toInt x
theorem hp_t {a : Int} (h : a.natAbs < 2147483648) : (hp_i a).toInt = a :=
  Int32.toInt_ofInt_of_le (by omega) (by omega)
theorem hp_le {a b : Int} (ha : a.natAbs < 2147483648) (hb : b.natAbs < 2147483648) : hp_i a ≤ hp_i b ↔ a ≤ b := by
  rw [Int32.le_iff_toInt_le, hp_t ha, hp_t hb]
theorem hp_lt {a b : Int} (ha : a.natAbs < 2147483648) (hb : b.natAbs < 2147483648) : hp_i a < hp_i b ↔ a < b := by
  rw [Int32.lt_iff_toInt_lt, hp_t ha, hp_t hb]
theorem hp_eq {a b : Int} (ha : a.natAbs < 2147483648) (hb : b.natAbs < 2147483648) : hp_i a = hp_i b ↔ a = b := by
  rw [← Int32.toInt_inj, hp_t ha, hp_t hb]
theorem hp_bm {a b : Int} {M N : Nat} (ha : a.natAbs ≤ M) (hb : b.natAbs ≤ N) : (a * b).natAbs ≤ M * N := by
  rw [Int.natAbs_mul]; exact Nat.mul_le_mul ha hb
theorem hp_ba {a b : Int} {M N : Nat} (ha : a.natAbs ≤ M) (hb : b.natAbs ≤ N) : (a + b).natAbs ≤ M + N := by omega
theorem hp_bs {a b : Int} {M N : Nat} (ha : a.natAbs ≤ M) (hb : b.natAbs ≤ N) : (a - b).natAbs ≤ M + N := by omega
/-- branches over whole numbers -/
theorem hp_kle {x y : Int32} {A B : Prop} (a b : Int) (hx : x = hp_i a) (hy : y = hp_i b) (ha : a.natAbs < 2147483648) (hb : b.natAbs < 2147483648) (f : a ≤ b → A) (g : b < a → B) : (x ≤ y → A) ∧ (¬ x ≤ y → B) := by
  subst hx hy
  rw [hp_le ha hb]
  exact ⟨f, fun z => g (by omega)⟩
theorem hp_klt {x y : Int32} {A B : Prop} (a b : Int) (hx : x = hp_i a) (hy : y = hp_i b) (ha : a.natAbs < 2147483648) (hb : b.natAbs < 2147483648) (f : a < b → A) (g : b ≤ a → B) : (x < y → A) ∧ (¬ x < y → B) := by
  subst hx hy
  rw [hp_lt ha hb]
  exact ⟨f, fun z => g (by omega)⟩
theorem hp_keq {x y : Int32} {A B : Prop} (a b : Int) (hx : x = hp_i a) (hy : y = hp_i b) (ha : a.natAbs < 2147483648) (hb : b.natAbs < 2147483648) (f : a = b → A) (g : ¬ a = b → B) : (x = y → A) ∧ (¬ x = y → B) := by
  subst hx hy
  rw [hp_eq ha hb]
  exact ⟨f, g⟩
theorem hp_0 : (0 : Int32) = hp_i 0 := rfl
theorem hp_m1 : ∀ n, n < 14 → nI n ≠ -1 := by decide
theorem hp_nn {a b : Nat} (ha : a < 14) (hb : b < 14) : nI a ≠ nI b ↔ a ≠ b := by
  rw [ne_eq, nI_eq (by omega) (by omega)]
/-- arrays as whole numbers -/
def hp_F (f : Nat → Int) : Nat → Int32 := fun s => hp_i (f s)
def hp_u (f : Nat → Int) (k : Nat) (x : Int) : Nat → Int := fun j => if j = k then x else f j
theorem hp_uF (f : Nat → Int) (k : Nat) (x : Int) : upd (hp_F f) k (hp_i x) = hp_F (hp_u f k x) := by
  funext j
  unfold upd hp_F hp_u
  split <;> rfl
theorem hp_Fc (f : Nat → Int) {n : Nat} (h : n < 14) : hp_F f (nI n).toNatClampNeg = hp_i (f n) := by
  rw [nI_clamp (by omega)]; rfl
/-- the slots of the class against those of the reference -/
def hp_g (s : Nat) : Nat := if s = 0 then 11 else if s = 1 then 10 else if s = 2 then 13 else if s = 3 then 12 else if s < 14 then s - 4 else s
def hp_h (i : Nat) : Nat := if i < 10 then i + 4 else if i = 10 then 1 else if i = 11 then 0 else if i = 12 then 3 else if i = 13 then 2 else i
theorem hp_gh (i : Nat) : hp_g (hp_h i) = i := by
  unfold hp_h hp_g
  repeat' split
  all_goals omega
theorem hp_hg (s : Nat) : hp_h (hp_g s) = s := by
  unfold hp_h hp_g
  repeat' split
  all_goals omega
theorem hp_ug (f : Nat → Int) {k : Nat} (hk : k < 10) (x : Int) : hp_u (fun s => f (hp_g s)) (4 + k) x = fun s => hp_u f k x (hp_g s) := by
  funext s
  unfold hp_u
  have e : s = 4 + k ↔ hp_g s = k := by
    unfold hp_g
    repeat' split
    all_goals omega
  by_cases h : s = 4 + k
  · rw [if_pos h, if_pos (e.mp h)]
  · rw [if_neg h, if_neg (fun z => h (e.mpr z))]
end
section
/-! triples (x, y, d) for the point (x / d, y / d) -/
abbrev hp_T : Type := Int × Int × Int
def hp_D (f g : Nat → Int) (i j : Nat) : Int := f i * g j - f j * g i
theorem hp_Dn (f g : Nat → Int) (i j : Nat) : hp_D f g j i = - hp_D f g i j := by
  unfold hp_D; omega
def hp_tr (a b c : Nat → Int) (i j : Nat) : hp_T := (hp_D c b i j, hp_D a c i j, hp_D a b i j)
def hp_ok (a b c : Nat → Int) : Prop := ∀ i, (a i).natAbs ≤ 9 ∧ (b i).natAbs ≤ 9 ∧ (c i).natAbs ≤ 99
theorem hp_bD {a b c : Nat → Int} (h : hp_ok a b c) (i j : Nat) : (hp_D a b i j).natAbs ≤ 162 :=
  hp_bs (M := 81) (N := 81) (hp_bm (h i).1 (h j).2.1) (hp_bm (h j).1 (h i).2.1)
theorem hp_bX {a b c : Nat → Int} (h : hp_ok a b c) (i j : Nat) : (hp_D c b i j).natAbs ≤ 1782 :=
  hp_bs (M := 891) (N := 891) (hp_bm (h i).2.2 (h j).2.1) (hp_bm (h j).2.2 (h i).2.1)
theorem hp_bY {a b c : Nat → Int} (h : hp_ok a b c) (i j : Nat) : (hp_D a c i j).natAbs ≤ 1782 :=
  hp_bs (M := 891) (N := 891) (hp_bm (h i).1 (h j).2.2) (hp_bm (h j).1 (h i).2.2)
/-- bounds of a triple -/
def hp_bd (t : hp_T) : Prop := t.1.natAbs ≤ 2000 ∧ t.2.1.natAbs ≤ 2000 ∧ t.2.2.natAbs ≤ 162
theorem hp_btr {a b c : Nat → Int} (h : hp_ok a b c) (i j : Nat) : hp_bd (hp_tr a b c i j) :=
  ⟨Nat.le_trans (hp_bX h i j) (by decide), Nat.le_trans (hp_bY h i j) (by decide), hp_bD h i j⟩
def hp_al (a b c : Nat → Int) (th : Nat → Prop) (w : Int32) (t : hp_T) : Prop :=
  ∀ s, th s → nI s ≠ w → a s * t.1 + b s * t.2.1 ≤ c s * t.2.2
def hp_pt (a b : Nat → Int) (th : Nat → Prop) (w : Int32) (i j : Nat) : Prop :=
  th i ∧ th j ∧ nI i ≠ w ∧ nI j ≠ w ∧ 0 < hp_D a b i j
def hp_co (a b c : Nat → Int) (th : Nat → Prop) (w : Int32) (i j : Nat) : Prop :=
  hp_pt a b th w i j ∧ hp_al a b c th w (hp_tr a b c i j)
def hp_S (a b c : Nat → Int) (th : Nat → Prop) (w : Int32) (t : hp_T) : Prop :=
  ∃ i j, hp_co a b c th w i j ∧ t = hp_tr a b c i j
def hp_sm (t t' : hp_T) : Prop := t.1 * t'.2.2 = t'.1 * t.2.2 ∧ t.2.1 * t'.2.2 = t'.2.1 * t.2.2
def hp_v (p q : Int) (t : hp_T) : Int := p * t.1 + q * t.2.1
def hp_bt (p q : Int) (t t' : hp_T) : Prop :=
  hp_v p q t' * t.2.2 < hp_v p q t * t'.2.2 ∨ (hp_v p q t * t'.2.2 = hp_v p q t' * t.2.2 ∧
    (t.1 * t'.2.2 < t'.1 * t.2.2 ∨ (t.1 * t'.2.2 = t'.1 * t.2.2 ∧ t.2.1 * t'.2.2 < t'.2.1 * t.2.2)))
theorem hp_ml {a b k : Int} (hk : 0 < k) : a < b ↔ a * k < b * k := (Int.mul_lt_mul_right hk).symm
theorem hp_me {a b k : Int} (hk : 0 < k) : a = b ↔ a * k = b * k :=
  ⟨fun h => by rw [h], fun h => Int.eq_of_mul_eq_mul_right (by omega) h⟩
theorem hp_btk (p q : Int) (t t' : hp_T) {k : Int} (hk : 0 < k) : hp_bt p q t t' ↔
    (hp_v p q t' * t.2.2 * k < hp_v p q t * t'.2.2 * k ∨ (hp_v p q t * t'.2.2 * k = hp_v p q t' * t.2.2 * k ∧
    (t.1 * t'.2.2 * k < t'.1 * t.2.2 * k ∨ (t.1 * t'.2.2 * k = t'.1 * t.2.2 * k ∧ t.2.1 * t'.2.2 * k < t'.2.1 * t.2.2 * k)))) := by
  unfold hp_bt
  rw [hp_ml (a := hp_v p q t' * t.2.2) hk, hp_me (a := hp_v p q t * t'.2.2) hk, hp_ml (a := t.1 * t'.2.2) hk, hp_me (a := t.1 * t'.2.2) hk, hp_ml (a := t.2.1 * t'.2.2) hk]
theorem hp_lx {v1 v2 v3 x1 x2 x3 y1 y2 y3 : Int}
    (h : v2 < v1 ∨ (v1 = v2 ∧ (x1 < x2 ∨ (x1 = x2 ∧ y1 < y2))))
    (h' : v3 < v2 ∨ (v2 = v3 ∧ (x2 < x3 ∨ (x2 = x3 ∧ y2 < y3)))) :
    v3 < v1 ∨ (v1 = v3 ∧ (x1 < x3 ∨ (x1 = x3 ∧ y1 < y3))) := by omega
theorem hp_bt_tr {p q : Int} {t1 t2 t3 : hp_T} (d1 : 0 < t1.2.2) (d2 : 0 < t2.2.2) (d3 : 0 < t3.2.2)
    (h : hp_bt p q t1 t2) (h' : hp_bt p q t2 t3) : hp_bt p q t1 t3 := by
  rw [hp_btk p q t1 t2 d3] at h
  rw [hp_btk p q t2 t3 d1] at h'
  rw [hp_btk p q t1 t3 d2]
  rw [Int.mul_right_comm _ t1.2.2 t3.2.2, Int.mul_right_comm _ t1.2.2 t3.2.2, Int.mul_right_comm _ t1.2.2 t3.2.2] at h
  rw [Int.mul_right_comm _ t2.2.2 t1.2.2, Int.mul_right_comm _ t2.2.2 t1.2.2, Int.mul_right_comm _ t2.2.2 t1.2.2] at h'
  rw [Int.mul_right_comm _ t3.2.2 t2.2.2, Int.mul_right_comm _ t3.2.2 t2.2.2, Int.mul_right_comm _ t3.2.2 t2.2.2]
  exact hp_lx h h'
/-- neither is better: the same value and the same point -/
theorem hp_bt_eq {p q : Int} {t t' : hp_T} (h : ¬ hp_bt p q t t') (h' : ¬ hp_bt p q t' t) :
    hp_v p q t * t'.2.2 = hp_v p q t' * t.2.2 ∧ hp_sm t t' := by
  unfold hp_bt at h h'
  unfold hp_sm
  generalize hp_v p q t * t'.2.2 = a1 at *
  generalize hp_v p q t' * t.2.2 = a2 at *
  generalize t.1 * t'.2.2 = a3 at *
  generalize t'.1 * t.2.2 = a4 at *
  generalize t.2.1 * t'.2.2 = a5 at *
  generalize t'.2.1 * t.2.2 = a6 at *
  omega
theorem hp_sm_s {t t' : hp_T} (h : hp_sm t t') : hp_sm t' t := ⟨h.1.symm, h.2.symm⟩
theorem hp_sm_1 {x1 x2 x3 d1 d2 d3 : Int} (h : d2 ≠ 0) (h1 : x1 * d2 = x2 * d1) (h2 : x2 * d3 = x3 * d2) : x1 * d3 = x3 * d1 := by
  apply Int.eq_of_mul_eq_mul_right h
  rw [Int.mul_right_comm, h1, Int.mul_right_comm, h2, Int.mul_right_comm]
theorem hp_sm_t {t1 t2 t3 : hp_T} (d2 : 0 < t2.2.2) (h : hp_sm t1 t2) (h' : hp_sm t2 t3) : hp_sm t1 t3 :=
  ⟨hp_sm_1 (by omega) h.1 h'.1, hp_sm_1 (by omega) h.2 h'.2⟩
/-- a half-plane sees the point, not the triple -/
theorem hp_sm_l {t t' : hp_T} (A B : Int) (h : hp_sm t t') : (A * t.1 + B * t.2.1) * t'.2.2 = (A * t'.1 + B * t'.2.1) * t.2.2 := by
  rw [Int.add_mul, Int.add_mul, Int.mul_assoc, Int.mul_assoc, Int.mul_assoc, Int.mul_assoc, h.1, h.2]
theorem hp_sm_le {t t' : hp_T} (A B C : Int) (d : 0 < t.2.2) (d' : 0 < t'.2.2) (h : hp_sm t t') :
    A * t.1 + B * t.2.1 ≤ C * t.2.2 ↔ A * t'.1 + B * t'.2.1 ≤ C * t'.2.2 := by
  rw [← Int.mul_le_mul_right d', hp_sm_l A B h, Int.mul_right_comm, Int.mul_le_mul_right d]
theorem hp_sm_eq {t t' : hp_T} (A B C : Int) (d : 0 < t.2.2) (d' : 0 < t'.2.2) (h : hp_sm t t') :
    A * t.1 + B * t.2.1 = C * t.2.2 ↔ A * t'.1 + B * t'.2.1 = C * t'.2.2 := by
  rw [hp_me d', hp_sm_l A B h, Int.mul_right_comm, ← hp_me d]
theorem hp_sm_al {a b c : Nat → Int} {th : Nat → Prop} {w : Int32} {t t' : hp_T} (d : 0 < t.2.2) (d' : 0 < t'.2.2) (h : hp_sm t t')
    (H : hp_al a b c th w t) : hp_al a b c th w t' :=
  fun s hs hw => (hp_sm_le _ _ _ d d' h).mp (H s hs hw)
theorem hp_S_d {a b c : Nat → Int} {th : Nat → Prop} {w : Int32} {t : hp_T} (h : hp_S a b c th w t) : 0 < t.2.2 := by
  obtain ⟨i, j, h, rfl⟩ := h
  exact h.1.2.2.2.2
/-! the best of a set of triples, as it grows -/
def hp_be (p q : Int) (S : hp_T → Prop) (t : hp_T) : Prop := S t ∧ ∀ t', S t' → ¬ hp_bt p q t' t
theorem hp_be_1 {p q : Int} {S S' : hp_T → Prop} {t0 : hp_T} (d0 : 0 < t0.2.2) (hn : ∀ t, ¬ S t) (h : ∀ t, S' t ↔ S t ∨ t = t0) : hp_be p q S' t0 := by
  refine ⟨(h _).mpr (Or.inr rfl), fun t' ht' hb => ?_⟩
  rcases (h _).mp ht' with z | rfl
  · exact hn _ z
  · unfold hp_bt at hb
    omega
theorem hp_be_y {p q : Int} {S S' : hp_T → Prop} {t0 t : hp_T} (hd : ∀ t, S' t → 0 < t.2.2) (H : hp_be p q S t) (h : ∀ t, S' t ↔ S t ∨ t = t0) (hb : hp_bt p q t0 t) : hp_be p q S' t0 := by
  have d0 := hd t0 ((h _).mpr (Or.inr rfl))
  have d := hd t ((h _).mpr (Or.inl H.1))
  refine ⟨(h _).mpr (Or.inr rfl), fun t' ht' hb' => ?_⟩
  rcases (h _).mp ht' with z | rfl
  · exact H.2 _ z (hp_bt_tr (hd _ ht') d0 d hb' hb)
  · unfold hp_bt at hb'
    omega
theorem hp_be_n {p q : Int} {S S' : hp_T → Prop} {t0 t : hp_T} (H : hp_be p q S t) (h : ∀ t, S' t ↔ S t ∨ t = t0) (hb : ¬ hp_bt p q t0 t) : hp_be p q S' t := by
  refine ⟨(h _).mpr (Or.inl H.1), fun t' ht' hb' => ?_⟩
  rcases (h _).mp ht' with z | rfl
  · exact H.2 _ z hb'
  · exact hb hb'
theorem hp_be_c {p q : Int} {S S' : hp_T → Prop} {t : hp_T} (H : hp_be p q S t) (h : ∀ t, S' t ↔ S t) : hp_be p q S' t :=
  ⟨(h _).mpr H.1, fun t' ht' => H.2 t' ((h _).mp ht')⟩
/-! representatives of a set of triples, as it grows -/
def hp_rp (S : hp_T → Prop) (L : List hp_T) : Prop :=
  (∀ t, t ∈ L → S t) ∧ (∀ t, S t → ∃ t', t' ∈ L ∧ hp_sm t' t) ∧ L.Pairwise (fun t t' => ¬ hp_sm t t')
theorem hp_rp_0 {S : hp_T → Prop} (hn : ∀ t, ¬ S t) : hp_rp S [] :=
  ⟨fun t h => absurd h List.not_mem_nil, fun t h => absurd h (hn t), List.Pairwise.nil⟩
theorem hp_rp_c {S S' : hp_T → Prop} {L : List hp_T} (H : hp_rp S L) (h : ∀ t, S' t ↔ S t) : hp_rp S' L :=
  ⟨fun t ht => (h t).mpr (H.1 t ht), fun t ht => H.2.1 t ((h t).mp ht), H.2.2⟩
theorem hp_rp_y {S S' : hp_T → Prop} {L : List hp_T} {t0 : hp_T} (H : hp_rp S L) (h : ∀ t, S' t ↔ S t ∨ t = t0) (hf : ∀ t, S t → ¬ hp_sm t t0) : hp_rp S' (t0 :: L) := by
  refine ⟨fun t ht => ?_, fun t ht => ?_, ?_⟩
  · rcases List.mem_cons.mp ht with z | z
    · exact (h t).mpr (Or.inr z)
    · exact (h t).mpr (Or.inl (H.1 t z))
  · rcases (h t).mp ht with z | rfl
    · obtain ⟨t', m, e⟩ := H.2.1 t z
      exact ⟨t', List.mem_cons_of_mem _ m, e⟩
    · exact ⟨t, List.mem_cons_self, rfl, rfl⟩
  · exact List.Pairwise.cons (fun t' ht' z => hf t' (H.1 t' ht') (hp_sm_s z)) H.2.2
theorem hp_rp_n {S S' : hp_T → Prop} {L : List hp_T} {t0 : hp_T} (hd : ∀ t, S' t → 0 < t.2.2) (H : hp_rp S L) (h : ∀ t, S' t ↔ S t ∨ t = t0) (hf : ∃ t, S t ∧ hp_sm t t0) : hp_rp S' L := by
  refine ⟨fun t ht => (h t).mpr (Or.inl (H.1 t ht)), fun t ht => ?_, H.2.2⟩
  rcases (h t).mp ht with z | rfl
  · exact H.2.1 t z
  · obtain ⟨t1, s1, e1⟩ := hf
    obtain ⟨t', m, e⟩ := H.2.1 t1 s1
    exact ⟨t', m, hp_sm_t (hd _ ((h _).mpr (Or.inl s1))) e e1⟩
theorem hp_pg (D : List hp_T) : ∀ E : List hp_T, (∀ t, t ∈ E → 0 < t.2.2) → D.Pairwise (fun t t' => ¬ hp_sm t t') → (∀ t, t ∈ D → ∃ e, e ∈ E ∧ hp_sm e t) → D.length ≤ E.length := by
  induction D with
  | nil => intro E _ _ _; exact Nat.zero_le _
  | cons t D ih =>
    intro E hE hp hs
    obtain ⟨e, he, hse⟩ := hs t List.mem_cons_self
    obtain ⟨E1, E2, rfl⟩ := List.append_of_mem he
    have hp' := List.pairwise_cons.mp hp
    have k := ih (E1 ++ E2) (fun t' h' => hE t' (by
        rcases List.mem_append.mp h' with z | z
        · exact List.mem_append.mpr (Or.inl z)
        · exact List.mem_append.mpr (Or.inr (List.mem_cons_of_mem _ z)))) hp'.2 (fun t' h' => by
        obtain ⟨e', he', hs'⟩ := hs t' (List.mem_cons_of_mem _ h')
        rcases List.mem_append.mp he' with z | z
        · exact ⟨e', List.mem_append.mpr (Or.inl z), hs'⟩
        · rcases List.mem_cons.mp z with rfl | z
          · exact absurd (hp_sm_t (hE _ he) (hp_sm_s hse) hs') (hp'.1 t' h')
          · exact ⟨e', List.mem_append.mpr (Or.inr z), hs'⟩)
    rw [List.length_append] at k
    rw [List.length_append, List.length_cons, List.length_cons]
    omega
theorem hp_rp_l {S : hp_T → Prop} {L L' : List hp_T} (hd : ∀ t, S t → 0 < t.2.2) (H : hp_rp S L) (H' : hp_rp S L') : L.length = L'.length := by
  apply Nat.le_antisymm
  · exact hp_pg L L' (fun t h => hd t (H'.1 t h)) H.2.2 (fun t h => H'.2.1 t (H.1 t h))
  · exact hp_pg L' L (fun t h => hd t (H.1 t h)) H'.2.2 (fun t h => H.2.1 t (H'.1 t h))
/-! lowest terms -/
theorem hp_red {u d u' d' : Int} (hd : 0 < d) (hd' : 0 < d') (h : u * d' = u' * d) :
    ∃ a b : Int, u = (Nat.gcd u.natAbs d.natAbs : Nat) * a ∧ d = (Nat.gcd u.natAbs d.natAbs : Nat) * b ∧
      u' = (Nat.gcd u'.natAbs d'.natAbs : Nat) * a ∧ d' = (Nat.gcd u'.natAbs d'.natAbs : Nat) * b := by
  have g0 : 0 < Nat.gcd u.natAbs d.natAbs := Nat.gcd_pos_of_pos_right _ (by omega)
  have g0' : 0 < Nat.gcd u'.natAbs d'.natAbs := Nat.gcd_pos_of_pos_right _ (by omega)
  have e : Nat.gcd u.natAbs d.natAbs * d'.natAbs = Nat.gcd u'.natAbs d'.natAbs * d.natAbs := by
    rw [← Nat.gcd_mul_right, ← Nat.gcd_mul_right, ← Int.natAbs_mul, ← Int.natAbs_mul, h, Int.mul_comm d, Int.natAbs_mul, Int.natAbs_mul]
  obtain ⟨a, ha⟩ := Int.ofNat_dvd_left.mpr (Nat.gcd_dvd_left u.natAbs d.natAbs)
  obtain ⟨b, hb⟩ := Int.ofNat_dvd_left.mpr (Nat.gcd_dvd_right u.natAbs d.natAbs)
  obtain ⟨a', ha'⟩ := Int.ofNat_dvd_left.mpr (Nat.gcd_dvd_left u'.natAbs d'.natAbs)
  obtain ⟨b', hb'⟩ := Int.ofNat_dvd_left.mpr (Nat.gcd_dvd_right u'.natAbs d'.natAbs)
  generalize Nat.gcd u.natAbs d.natAbs = g at *
  generalize Nat.gcd u'.natAbs d'.natAbs = g' at *
  have E : (g : Int) * d' = (g' : Int) * d := by
    have := congrArg (fun n : Nat => (n : Int)) e
    simp only [Int.natCast_mul] at this
    rw [show ((d'.natAbs : Nat) : Int) = d' by omega, show ((d.natAbs : Nat) : Int) = d by omega] at this
    exact this
  have G : (g : Int) ≠ 0 := by omega
  have G' : (g' : Int) ≠ 0 := by omega
  have eb : b = b' := by
    rw [hb, hb', Int.mul_left_comm] at E
    exact (Int.eq_of_mul_eq_mul_left G (Int.eq_of_mul_eq_mul_left G' E)).symm
  have ea : a = a' := by
    have k : (g : Int) * d' ≠ 0 := Int.mul_ne_zero G (by omega)
    apply Int.eq_of_mul_eq_mul_left k
    calc (g : Int) * d' * a = (g : Int) * a * d' := Int.mul_right_comm _ _ _
      _ = u' * d := by rw [← ha]; exact h
      _ = (g' : Int) * a' * d := by rw [← ha']
      _ = (g' : Int) * d * a' := Int.mul_right_comm _ _ _
      _ = (g : Int) * d' * a' := by rw [E]
  subst ea eb
  exact ⟨a, b, ha, hb, ha', hb'⟩
theorem hp_dv {u a : Int} {g : Nat} (h : u = (g : Int) * a) (h0 : 0 < g) (hg : g < 2147483648) (hu : u.natAbs < 2147483648) : hp_i u / nI g = hp_i a := by
  rw [hp_nat]
  have k : a = u.tdiv (g : Int) := by rw [h]; exact (Int.mul_tdiv_cancel_left a (by omega)).symm
  rw [k]
  have m1 : Int32.minValue.toInt = -2147483648 := by decide
  have m2 : Int32.maxValue.toInt = 2147483647 := by decide
  exact (Int32.ofInt_tdiv (by omega) (by omega) (by omega) (by omega)).symm
end
section
/-! the class's walks against the sets -/
abbrev hp_X (n : Nat) (P Q : Int) (a b c : Nat → Int) : SX := (nI n, hp_i P, hp_i Q, hp_F a, hp_F b, hp_F c)
def hp_tx (n s : Nat) : Prop := s < n
theorem hp_bsl {a b c : Nat → Int} (ok : hp_ok a b c) (s : Nat) {t : hp_T} (bd : hp_bd t) : (c s * t.2.2 - a s * t.1 - b s * t.2.1).natAbs < 2147483648 :=
  Nat.lt_of_le_of_lt (hp_bs (hp_bs (hp_bm (ok s).2.2 bd.2.2) (hp_bm (ok s).1 bd.1)) (hp_bm (ok s).2.1 bd.2.1)) (by decide)
theorem hp_xsl {post : Int32 → Prop} {n : Nat} {P Q : Int} {a b c : Nat → Int} {s : Nat} (hs : s < 14) (t : hp_T)
    (h : post (hp_i (c s * t.2.2 - a s * t.1 - b s * t.2.1))) : wpX_slack post (hp_X n P Q a b c) (nI s) (hp_i t.1) (hp_i t.2.1) (hp_i t.2.2) := by
  have hi : vp_in (nI s) 14 := vp_in_nI hs (by omega)
  unfold wpX_slack
  dsimp only
  refine ⟨hi, hi, hi, ?_⟩
  rw [hp_Fc c hs, hp_Fc a hs, hp_Fc b hs, hp_mul, hp_mul, hp_mul, hp_sub, hp_sub]
  exact h
theorem hp_xal_l {post : Int32 → Prop} {n : Nat} {P Q : Int} {a b c : Nat → Int} (hn : n ≤ 14) (ok : hp_ok a b c) (w : Int32) (t : hp_T) (bd : hp_bd t)
    (h1 : hp_al a b c (hp_tx n) w t → post 1) (h0 : ¬ hp_al a b c (hp_tx n) w t → post 0) :
    ∀ k s, s + k = n → (∀ s', s' < s → nI s' ≠ w → a s' * t.1 + b s' * t.2.1 ≤ c s' * t.2.2) →
    wX_isAllowed_3 post (hp_i t.1) (hp_i t.2.1) (hp_i t.2.2) w (nI n) (hp_i P) (hp_i Q) (hp_F a) (hp_F b) (hp_F c) (k + 1) (nI s) := by
  intro k
  induction k with
  | zero =>
    intro s hs H
    exact br_t (nI_le (by omega) (by omega)) (h1 (fun s' hs' hw => H s' (by unfold hp_tx at hs'; omega) hw))
  | succ k ih =>
    intro s hs H
    refine br_f (nI_ge (by omega) (by omega)) ?_
    by_cases hw : nI s = w
    · exact br_t hw (nm_r (nI_1 s) (ih (s + 1) (by omega) (fun s' hs' hw' => by
        by_cases e : s' = s
        · exact absurd (e ▸ hw) hw'
        · exact H s' (by omega) hw')))
    · refine br_f hw (hp_xsl (by omega) t (hp_kle 0 _ rfl rfl (by decide) (hp_bsl ok s bd) (fun h => ?_) (fun h => ?_)))
      · exact nm_r (nI_1 s) (ih (s + 1) (by omega) (fun s' hs' hw' => by
          by_cases e : s' = s
          · subst e; omega
          · exact H s' (by omega) hw'))
      · refine h0 (fun z => ?_)
        have := z s (show s < n by omega) hw
        omega
theorem hp_xal {post : Int32 → Prop} {n : Nat} {P Q : Int} {a b c : Nat → Int} (hn : n ≤ 14) (ok : hp_ok a b c) (w : Int32) (t : hp_T) (bd : hp_bd t)
    (h1 : hp_al a b c (hp_tx n) w t → post 1) (h0 : ¬ hp_al a b c (hp_tx n) w t → post 0) :
    wpX_isAllowed post (hp_X n P Q a b c) (hp_i t.1) (hp_i t.2.1) (hp_i t.2.2) w :=
  ⟨n + 1, hp_xal_l hn ok w t bd h1 h0 n 0 (by omega) (fun s' hs' => absurd hs' (by omega))⟩
theorem hp_q {e : Nat} (he : e < 196) : nI e / 14 = nI (e / 14) := pk_div (d := 14) (by omega) (by omega) (by omega)
theorem hp_r {e : Nat} (he : e < 196) : nI e - nI e / 14 * 14 = nI (e % 14) := pk_rem (d := 14) (by omega) (by omega) (by omega)
theorem hp_q1 {e : Nat} (he : e < 196) : e / 14 < 14 := by omega
theorem hp_q2 (e : Nat) : e % 14 < 14 := by omega
theorem hp_xD {post : Int32 → Prop} {n : Nat} {P Q : Int} {a b c : Nat → Int} {e : Nat} (he : e < 196) (h : post (hp_i (hp_D a b (e / 14) (e % 14)))) :
    wpX_pairBottom post (hp_X n P Q a b c) (nI e) := by
  have h1 := hp_q1 he
  have h2 := hp_q2 e
  have i1 : vp_in (nI (e / 14)) 14 := vp_in_nI h1 (by omega)
  have i2 : vp_in (nI (e % 14)) 14 := vp_in_nI h2 (by omega)
  unfold wpX_pairBottom
  dsimp only
  refine ⟨by decide, nm_r (hp_q he) ⟨by decide, nm_r (hp_r he) ⟨i1, i2, i2, i1, ?_⟩⟩⟩
  rw [hp_Fc a h1, hp_Fc b h2, hp_Fc a h2, hp_Fc b h1, hp_mul, hp_mul, hp_sub]
  exact h
theorem hp_xX {post : Int32 → Prop} {n : Nat} {P Q : Int} {a b c : Nat → Int} {e : Nat} (he : e < 196) (h : post (hp_i (hp_D c b (e / 14) (e % 14)))) :
    wpX_pairX post (hp_X n P Q a b c) (nI e) := by
  have h1 := hp_q1 he
  have h2 := hp_q2 e
  have i1 : vp_in (nI (e / 14)) 14 := vp_in_nI h1 (by omega)
  have i2 : vp_in (nI (e % 14)) 14 := vp_in_nI h2 (by omega)
  unfold wpX_pairX
  dsimp only
  refine ⟨by decide, nm_r (hp_q he) ⟨by decide, nm_r (hp_r he) ⟨i1, i2, i2, i1, ?_⟩⟩⟩
  rw [hp_Fc c h1, hp_Fc b h2, hp_Fc c h2, hp_Fc b h1, hp_mul, hp_mul, hp_sub]
  exact h
theorem hp_xY {post : Int32 → Prop} {n : Nat} {P Q : Int} {a b c : Nat → Int} {e : Nat} (he : e < 196) (h : post (hp_i (hp_D a c (e / 14) (e % 14)))) :
    wpX_pairY post (hp_X n P Q a b c) (nI e) := by
  have h1 := hp_q1 he
  have h2 := hp_q2 e
  have i1 : vp_in (nI (e / 14)) 14 := vp_in_nI h1 (by omega)
  have i2 : vp_in (nI (e % 14)) 14 := vp_in_nI h2 (by omega)
  unfold wpX_pairY
  dsimp only
  refine ⟨by decide, nm_r (hp_q he) ⟨by decide, nm_r (hp_r he) ⟨i1, i2, i2, i1, ?_⟩⟩⟩
  rw [hp_Fc a h1, hp_Fc c h2, hp_Fc a h2, hp_Fc c h1, hp_mul, hp_mul, hp_sub]
  exact h
theorem hp_xV {post : Int32 → Prop} {n : Nat} {P Q : Int} {a b c : Nat → Int} {e : Nat} (he : e < 196) (h : post (hp_i (hp_v P Q (hp_tr a b c (e / 14) (e % 14))))) :
    wpX_pairValue post (hp_X n P Q a b c) (nI e) := by
  unfold wpX_pairValue
  dsimp only
  refine hp_xX he (hp_xY he ?_)
  rw [hp_mul, hp_mul, hp_add]
  exact h
theorem hp_xpt {post : Int32 → Prop} {n : Nat} {P Q : Int} {a b c : Nat → Int} {e : Nat} (hn : n ≤ 14) (ok : hp_ok a b c) (he : e < 196) (w : Int32)
    (h1 : hp_pt a b (hp_tx n) w (e / 14) (e % 14) → post 1) (h0 : ¬ hp_pt a b (hp_tx n) w (e / 14) (e % 14) → post 0) :
    wpX_isPoint post (hp_X n P Q a b c) (nI e) w := by
  have k1 := hp_q1 he
  have k2 := hp_q2 e
  have hb := hp_bD ok (e / 14) (e % 14)
  unfold wpX_isPoint
  dsimp only
  refine ⟨by decide, nm_r (hp_q he) ⟨by decide, nm_r (hp_r he) ?_⟩⟩
  refine pk_le n (e / 14) (fun h => h0 (fun z => absurd z.1 (by unfold hp_tx; omega))) (fun g1 => ?_)
  refine pk_le n (e % 14) (fun h => h0 (fun z => absurd z.2.1 (by unfold hp_tx; omega))) (fun g2 => ?_)
  refine br_c (fun h => h0 (fun z => z.2.2.1 h)) (fun g3 => ?_)
  refine br_c (fun h => h0 (fun z => z.2.2.2.1 h)) (fun g4 => ?_)
  exact hp_xD he (hp_kle _ 0 rfl rfl (by omega) (by decide) (fun h => h0 (fun z => by have := z.2.2.2.2; omega)) (fun h => h1 ⟨g1, g2, g3, g4, h⟩))
theorem hp_xco {post : Int32 → Prop} {n : Nat} {P Q : Int} {a b c : Nat → Int} {e : Nat} (hn : n ≤ 14) (ok : hp_ok a b c) (he : e < 196) (w : Int32)
    (h1 : hp_co a b c (hp_tx n) w (e / 14) (e % 14) → post 1) (h0 : ¬ hp_co a b c (hp_tx n) w (e / 14) (e % 14) → post 0) :
    wpX_isCorner post (hp_X n P Q a b c) (nI e) w := by
  unfold wpX_isCorner
  dsimp only
  refine hp_xpt hn ok he w (fun h => ?_) (fun h => br_t rfl (h0 (fun z => h z.1)))
  refine br_f (by decide) (hp_xX he (hp_xY he (hp_xD he ?_)))
  exact hp_xal hn ok w (hp_tr a b c (e / 14) (e % 14)) (hp_btr ok _ _) (fun H => ⟨rfl, h1 ⟨h, H⟩⟩) (fun H => ⟨rfl, h0 (fun z => H z.2)⟩)
theorem hp_bv {P Q : Int} (hP : P.natAbs ≤ 9) (hQ : Q.natAbs ≤ 9) {t : hp_T} (bd : hp_bd t) : (hp_v P Q t).natAbs ≤ 36000 :=
  hp_ba (M := 18000) (N := 18000) (hp_bm hP bd.1) (hp_bm hQ bd.2.1)
theorem hp_bc {u d u' d' : Int} (h1 : u.natAbs ≤ 36000) (h2 : d.natAbs ≤ 162) (h3 : u'.natAbs ≤ 36000) (h4 : d'.natAbs ≤ 162) : (u * d - u' * d').natAbs < 2147483648 :=
  Nat.lt_of_le_of_lt (hp_bs (hp_bm h1 h2) (hp_bm h3 h4)) (by decide)
theorem hp_bc1 {u d : Int} (h1 : u.natAbs ≤ 36000) (h2 : d.natAbs ≤ 162) : (u * d).natAbs < 2147483648 :=
  Nat.lt_of_le_of_lt (hp_bm h1 h2) (by decide)
theorem hp_bd1 {t : hp_T} (bd : hp_bd t) : t.1.natAbs ≤ 36000 := Nat.le_trans bd.1 (by decide)
theorem hp_bd2 {t : hp_T} (bd : hp_bd t) : t.2.1.natAbs ≤ 36000 := Nat.le_trans bd.2.1 (by decide)
theorem hp_xbt {post : Int32 → Prop} {n : Nat} {P Q : Int} {a b c : Nat → Int} {e o : Nat} (ok : hp_ok a b c) (hP : P.natAbs ≤ 9) (hQ : Q.natAbs ≤ 9) (he : e < 196) (ho : o < 196)
    (h1 : hp_bt P Q (hp_tr a b c (e / 14) (e % 14)) (hp_tr a b c (o / 14) (o % 14)) → post 1)
    (h0 : ¬ hp_bt P Q (hp_tr a b c (e / 14) (e % 14)) (hp_tr a b c (o / 14) (o % 14)) → post 0) :
    wpX_isBetter post (hp_X n P Q a b c) (nI e) (nI o) := by
  have be := hp_btr ok (e / 14) (e % 14)
  have bo := hp_btr ok (o / 14) (o % 14)
  unfold wpX_isBetter
  dsimp only
  refine hp_xD he (hp_xD ho (hp_xV he (hp_xV ho ?_)))
  rw [hp_mul, hp_mul, hp_sub]
  refine nm_e (hp_keq _ 0 rfl rfl (hp_bc (hp_bv hP hQ be) bo.2.2 (hp_bv hP hQ bo) be.2.2) (by decide) (fun g => ?_) (fun g => ?_))
  · refine hp_xX he (hp_xX ho ?_)
    rw [hp_mul, hp_mul, hp_sub]
    refine nm_e (hp_keq _ 0 rfl rfl (hp_bc (hp_bd1 be) bo.2.2 (hp_bd1 bo) be.2.2) (by decide) (fun g' => ?_) (fun g' => ?_))
    · refine hp_xY he (hp_xY ho ?_)
      rw [hp_mul, hp_mul]
      refine hp_kle _ _ rfl rfl (hp_bc1 (hp_bd2 bo) be.2.2) (hp_bc1 (hp_bd2 be) bo.2.2) (fun g'' => h0 (fun z => ?_)) (fun g'' => h1 (Or.inr ⟨?_, Or.inr ⟨?_, g''⟩⟩))
      · unfold hp_bt at z
        simp only [hp_tr] at z g
        omega
      · simp only [hp_tr] at g ⊢
        omega
      · simp only [hp_tr] at g' ⊢
        omega
    · refine hp_kle 0 _ rfl rfl (by decide) (hp_bc (hp_bd1 be) bo.2.2 (hp_bd1 bo) be.2.2) (fun g'' => h0 (fun z => ?_)) (fun g'' => h1 (Or.inr ⟨?_, Or.inl ?_⟩))
      · unfold hp_bt at z
        simp only [hp_tr] at z g
        omega
      · simp only [hp_tr] at g ⊢
        omega
      · simp only [hp_tr] at g'' ⊢
        omega
  · refine hp_kle _ 0 rfl rfl (hp_bc (hp_bv hP hQ be) bo.2.2 (hp_bv hP hQ bo) be.2.2) (by decide) (fun g' => h0 (fun z => ?_)) (fun g' => h1 (Or.inl ?_))
    · unfold hp_bt at z
      simp only [hp_tr] at z g g'
      omega
    · simp only [hp_tr] at g g' ⊢
      omega
/-! the pairs in their order -/
def hp_nx (a b c : Nat → Int) (n : Nat) (w : Int32) (e : Nat) (t : hp_T) : Prop :=
  ∃ e', e' < e ∧ hp_co a b c (hp_tx n) w (e' / 14) (e' % 14) ∧ t = hp_tr a b c (e' / 14) (e' % 14)
theorem hp_nx_0 {a b c : Nat → Int} {n : Nat} {w : Int32} (t : hp_T) : ¬ hp_nx a b c n w 0 t := by
  intro h
  obtain ⟨e', h, _⟩ := h
  omega
theorem hp_nx_y {a b c : Nat → Int} {n : Nat} {w : Int32} {e : Nat} (h : hp_co a b c (hp_tx n) w (e / 14) (e % 14)) (t : hp_T) :
    hp_nx a b c n w (e + 1) t ↔ hp_nx a b c n w e t ∨ t = hp_tr a b c (e / 14) (e % 14) := by
  constructor
  · intro z
    obtain ⟨e', h1, h2, h3⟩ := z
    by_cases k : e' = e
    · subst k; exact Or.inr h3
    · exact Or.inl ⟨e', by omega, h2, h3⟩
  · intro z
    rcases z with z | z
    · obtain ⟨e', h1, h2, h3⟩ := z
      exact ⟨e', by omega, h2, h3⟩
    · exact ⟨e, by omega, h, z⟩
theorem hp_nx_n {a b c : Nat → Int} {n : Nat} {w : Int32} {e : Nat} (h : ¬ hp_co a b c (hp_tx n) w (e / 14) (e % 14)) (t : hp_T) :
    hp_nx a b c n w (e + 1) t ↔ hp_nx a b c n w e t := by
  constructor
  · intro z
    obtain ⟨e', h1, h2, h3⟩ := z
    by_cases k : e' = e
    · subst k; exact absurd h2 h
    · exact ⟨e', by omega, h2, h3⟩
  · intro z
    obtain ⟨e', h1, h2, h3⟩ := z
    exact ⟨e', by omega, h2, h3⟩
theorem hp_nx_e {a b c : Nat → Int} {n : Nat} {w : Int32} (hn : n ≤ 14) (t : hp_T) : hp_nx a b c n w 196 t ↔ hp_S a b c (hp_tx n) w t := by
  constructor
  · intro z
    obtain ⟨e', h1, h2, h3⟩ := z
    exact ⟨_, _, h2, h3⟩
  · intro z
    obtain ⟨i, j, h2, h3⟩ := z
    have hi : i < n := h2.1.1
    have hj : j < n := h2.1.2.1
    have e1 : (i * 14 + j) / 14 = i := by omega
    have e2 : (i * 14 + j) % 14 = j := by omega
    refine ⟨i * 14 + j, by omega, ?_, ?_⟩
    · rw [e1, e2]; exact h2
    · rw [e1, e2]; exact h3
theorem hp_nx_d {a b c : Nat → Int} {n : Nat} {w : Int32} {e : Nat} (t : hp_T) (h : hp_nx a b c n w e t) : 0 < t.2.2 := by
  obtain ⟨e', h1, h2, rfl⟩ := h
  exact h2.1.2.2.2.2
theorem hp_ne1 {b : Nat} (hb : b < 196) : ¬ nI b = -1 := by
  intro h
  have := nI_pos (n := b) (by omega)
  rw [h] at this
  exact this (by decide)
theorem hp_xbp_l {post : Int32 → Prop} {n : Nat} {P Q : Int} {a b c : Nat → Int} (hn : n ≤ 14) (ok : hp_ok a b c) (hP : P.natAbs ≤ 9) (hQ : Q.natAbs ≤ 9)
    (h0 : (∀ t, ¬ hp_S a b c (hp_tx n) (-1) t) → post (-1))
    (h1 : ∀ e, e < 196 → hp_be P Q (hp_S a b c (hp_tx n) (-1)) (hp_tr a b c (e / 14) (e % 14)) → post (nI e)) :
    ∀ k e x1, e + k = 196 → ((x1 = -1 ∧ ∀ t, ¬ hp_nx a b c n (-1) e t) ∨ (∃ o, o < 196 ∧ x1 = nI o ∧ hp_be P Q (hp_nx a b c n (-1) e) (hp_tr a b c (o / 14) (o % 14)))) →
    wX_bestPair_4 post (nI n) (hp_i P) (hp_i Q) (hp_F a) (hp_F b) (hp_F c) (k + 1) x1 (nI e) := by
  intro k
  induction k with
  | zero =>
    intro e x1 he H
    have e9 : e = 196 := by omega
    subst e9
    refine br_t (nI_le (a := 196) (b := 196) (by omega) (by omega)) ?_
    rcases H with ⟨rfl, H⟩ | ⟨o, ho, rfl, H⟩
    · exact h0 (fun t z => H t ((hp_nx_e hn t).mpr z))
    · exact h1 o ho (hp_be_c H (fun t => (hp_nx_e hn t).symm))
  | succ k ih =>
    intro e x1 he H
    have he' : e < 196 := by omega
    refine br_f (nI_ge (b := 196) (by omega) (by omega)) ?_
    refine hp_xco hn ok he' (-1) (fun g => br_f (by decide) ?_) (fun g => br_t rfl (nm_r (nI_1 e) (ih (e + 1) x1 (by omega) ?_)))
    · rcases H with ⟨rfl, H⟩ | ⟨o, ho, rfl, H⟩
      · exact br_t rfl (nm_r (nI_1 e) (ih (e + 1) _ (by omega) (Or.inr ⟨e, he', rfl, hp_be_1 g.1.2.2.2.2 H (hp_nx_y g)⟩)))
      · refine br_f (hp_ne1 ho) (hp_xbt ok hP hQ he' ho (fun y => br_f (by decide) ?_) (fun y => br_t rfl ?_))
        · exact nm_r (nI_1 e) (ih (e + 1) _ (by omega) (Or.inr ⟨e, he', rfl, hp_be_y (fun t z => hp_nx_d t z) H (hp_nx_y g) y⟩))
        · exact nm_r (nI_1 e) (ih (e + 1) _ (by omega) (Or.inr ⟨o, ho, rfl, hp_be_n H (hp_nx_y g) y⟩))
    · rcases H with ⟨rfl, H⟩ | ⟨o, ho, rfl, H⟩
      · exact Or.inl ⟨rfl, fun t z => H t ((hp_nx_n g t).mp z)⟩
      · exact Or.inr ⟨o, ho, rfl, hp_be_c H (hp_nx_n g)⟩
theorem hp_xbp {post : Int32 → Prop} {n : Nat} {P Q : Int} {a b c : Nat → Int} (hn : n ≤ 14) (ok : hp_ok a b c) (hP : P.natAbs ≤ 9) (hQ : Q.natAbs ≤ 9)
    (h0 : (∀ t, ¬ hp_S a b c (hp_tx n) (-1) t) → post (-1))
    (h1 : ∀ e, e < 196 → hp_be P Q (hp_S a b c (hp_tx n) (-1)) (hp_tr a b c (e / 14) (e % 14)) → post (nI e)) :
    wpX_bestPair post (hp_X n P Q a b c) :=
  ⟨197, hp_xbp_l hn ok hP hQ h0 h1 196 0 (-1) (by omega) (Or.inl ⟨rfl, hp_nx_0⟩)⟩
end
section
/-! Euclid -/
theorem hp_eu {a b k : Nat} (hb : 0 < b) (h : b ≤ a) (hk : a * b < 2 ^ (k + 1)) : b * (a % b) < 2 ^ k := by
  have h1 : 2 * (a % b) ≤ a := by
    have h2 := Nat.mod_lt a hb
    have h3 := Nat.div_add_mod a b
    have h4 : 1 ≤ a / b := (Nat.le_div_iff_mul_le hb).mpr (by omega)
    have h5 : b * 1 ≤ b * (a / b) := Nat.mul_le_mul_left b h4
    omega
  have h6 : b * (2 * (a % b)) ≤ b * a := Nat.mul_le_mul_left b h1
  rw [Nat.mul_left_comm, Nat.mul_comm b a] at h6
  rw [Nat.pow_succ] at hk
  omega
theorem hp_e0 {a b : Nat} (h : b ≤ a) (hk : a * b < 2 ^ 0) : b = 0 := by
  by_cases z : b = 0
  · exact z
  · have : 0 < a * b := Nat.mul_pos (by omega) (by omega)
    omega
theorem hp_gr (a b : Nat) : Nat.gcd b (a % b) = Nat.gcd a b := by
  rw [Nat.gcd_comm a b, Nat.gcd_rec b a, Nat.gcd_comm]
theorem hp_xg_l {post : Int32 → Prop} : ∀ k a b st : Nat, a < 2147483648 → b ≤ a → a * b < 2 ^ k → st + k ≤ 999 → post (nI (Nat.gcd a b)) →
    wX_greatestDivisor_16 post (k + 1) (nI a) (nI b) (nI st) := by
  intro k
  induction k with
  | zero =>
    intro a b st ha hb hk hs h
    have b0 := hp_e0 hb hk
    subst b0
    rw [Nat.gcd_zero_right] at h
    exact br_f (nI_ge (b := 1000) (by omega) (by omega)) (br_t rfl h)
  | succ k ih =>
    intro a b st ha hb hk hs h
    refine br_f (nI_ge (b := 1000) (by omega) (by omega)) ?_
    by_cases b0 : b = 0
    · subst b0
      rw [Nat.gcd_zero_right] at h
      exact br_t rfl h
    · have n0 : ¬ nI b = 0 := nI_ne0 (by omega) (by omega)
      refine br_f n0 ⟨n0, nm_r (pk_rem (by omega) (by omega) (by omega)) (nm_r (nI_1 st) (ih b (a % b) (st + 1) (by omega) ?_ ?_ (by omega) ?_))⟩
      · exact Nat.le_of_lt (Nat.mod_lt a (by omega))
      · exact hp_eu (by omega) hb hk
      · rw [hp_gr]; exact h
theorem hp_xg_1 {post : Int32 → Prop} {a b : Nat} (ha : a < 2147483648) (h0 : 0 < b) (hb : b ≤ 162) (h : post (nI (Nat.gcd a b))) :
    wX_greatestDivisor_16 post 17 (nI a) (nI b) 0 := by
  have n0 : ¬ nI b = 0 := nI_ne0 (by omega) (by omega)
  refine br_f (by decide) (br_f n0 ⟨n0, nm_r (pk_rem (by omega) (by omega) (by omega)) (nm_r (nI_1 0) (hp_xg_l 15 b (a % b) 1 (by omega) ?_ ?_ (by omega) ?_))⟩)
  · exact Nat.le_of_lt (Nat.mod_lt a (by omega))
  · have h1 : a % b ≤ 162 := by have := Nat.mod_lt a h0; omega
    exact Nat.lt_of_le_of_lt (Nat.mul_le_mul hb h1) (by decide)
  · rw [hp_gr]; exact h
def hp_gc (u d : Int) : Nat := Nat.gcd u.natAbs d.natAbs
theorem hp_ab {u : Int} (h : 0 ≤ u) : hp_i u = nI u.natAbs := by
  rw [hp_nat]; congr 1; omega
theorem hp_an {u : Int} (h : u < 0) : - hp_i u = nI u.natAbs := by
  rw [hp_neg, hp_nat]; congr 1; omega
theorem hp_xg {post : Int32 → Prop} {u d : Int} (hu : u.natAbs < 2147483648) (h0 : 0 < d) (hd : d.natAbs ≤ 162) (h : post (nI (hp_gc u d))) :
    wpX_greatestDivisor post (hp_i u) (hp_i d) := by
  unfold wpX_greatestDivisor
  rw [hp_ab (u := d) (by omega)]
  refine hp_kle 0 u rfl rfl (by decide) hu (fun g => ⟨17, ?_⟩) (fun g => nm_r (hp_an g) ⟨17, ?_⟩)
  · rw [hp_ab g]
    exact hp_xg_1 hu (by omega) hd h
  · exact hp_xg_1 hu (by omega) hd h
def hp_lo (u d : Int) : Int := u.tdiv (hp_gc u d)
def hp_lb (u d : Int) : Int := d.tdiv (hp_gc u d)
theorem hp_gp (u : Int) {d : Int} (h0 : 0 < d) : 0 < hp_gc u d := Nat.gcd_pos_of_pos_right _ (by omega)
theorem hp_gl (u : Int) {d : Int} (h0 : 0 < d) (hd : d.natAbs ≤ 162) : hp_gc u d ≤ 162 :=
  Nat.le_trans (Nat.le_of_dvd (by omega) (Nat.gcd_dvd_right u.natAbs d.natAbs)) hd
theorem hp_lo_e (u : Int) {d : Int} (h0 : 0 < d) : u = (hp_gc u d : Nat) * hp_lo u d := by
  obtain ⟨a, ha⟩ := Int.ofNat_dvd_left.mpr (Nat.gcd_dvd_left u.natAbs d.natAbs)
  have g0 := hp_gp u h0
  have k : hp_lo u d = a := by
    unfold hp_lo
    generalize hg : hp_gc u d = g at *
    have ha' : u = (g : Int) * a := by rw [← hg]; exact ha
    rw [ha']
    exact Int.mul_tdiv_cancel_left a (by omega)
  rw [k]; exact ha
theorem hp_lb_e (u : Int) {d : Int} (h0 : 0 < d) : d = (hp_gc u d : Nat) * hp_lb u d := by
  obtain ⟨a, ha⟩ := Int.ofNat_dvd_left.mpr (Nat.gcd_dvd_right u.natAbs d.natAbs)
  have g0 := hp_gp u h0
  have k : hp_lb u d = a := by
    unfold hp_lb
    generalize hg : hp_gc u d = g at *
    have ha' : d = (g : Int) * a := by rw [← hg]; exact ha
    rw [ha']
    exact Int.mul_tdiv_cancel_left a (by omega)
  rw [k]; exact ha
theorem hp_same {u d u' d' : Int} (hd : 0 < d) (hd' : 0 < d') (h : u * d' = u' * d) : hp_lo u d = hp_lo u' d' ∧ hp_lb u d = hp_lb u' d' := by
  obtain ⟨a, b, h1, h2, h3, h4⟩ := hp_red hd hd' h
  have g0 := hp_gp u hd
  have g0' := hp_gp u' hd'
  have e1 := hp_lo_e u hd
  have e2 := hp_lb_e u hd
  have e3 := hp_lo_e u' hd'
  have e4 := hp_lb_e u' hd'
  have f1 : hp_lo u d = a := Int.eq_of_mul_eq_mul_left (a := (hp_gc u d : Int)) (by omega) (e1.symm.trans h1)
  have f2 : hp_lb u d = b := Int.eq_of_mul_eq_mul_left (a := (hp_gc u d : Int)) (by omega) (e2.symm.trans h2)
  have f3 : hp_lo u' d' = a := Int.eq_of_mul_eq_mul_left (a := (hp_gc u' d' : Int)) (by omega) (e3.symm.trans h3)
  have f4 : hp_lb u' d' = b := Int.eq_of_mul_eq_mul_left (a := (hp_gc u' d' : Int)) (by omega) (e4.symm.trans h4)
  exact ⟨f1.trans f3.symm, f2.trans f4.symm⟩
theorem hp_xlt {post : Int32 → Prop} {u d : Int} (hu : u.natAbs < 2147483648) (h0 : 0 < d) (hd : d.natAbs ≤ 162) (h : post (hp_i (hp_lo u d))) :
    wpX_lowestTop post (hp_i u) (hp_i d) := by
  have g0 := hp_gp u h0
  have g1 := hp_gl u h0 hd
  have e := hp_lo_e u h0
  unfold wpX_lowestTop
  refine hp_xg hu h0 hd (pk_le (hp_gc u d) 1 (fun k => ?_) (fun k => ⟨nI_ne0 (by omega) (by omega), ?_⟩))
  · have k1 : hp_gc u d = 1 := by omega
    rw [k1] at e
    have : hp_lo u d = u := by omega
    rw [← this]; exact h
  · rw [hp_dv e g0 (by omega) hu]; exact h
theorem hp_xlb {post : Int32 → Prop} {u d : Int} (hu : u.natAbs < 2147483648) (h0 : 0 < d) (hd : d.natAbs ≤ 162) (h : post (hp_i (hp_lb u d))) :
    wpX_lowestBottom post (hp_i u) (hp_i d) := by
  have g0 := hp_gp u h0
  have g1 := hp_gl u h0 hd
  have e := hp_lb_e u h0
  unfold wpX_lowestBottom
  refine hp_xg hu h0 hd (pk_le (hp_gc u d) 1 (fun k => ?_) (fun k => ⟨nI_ne0 (by omega) (by omega), ?_⟩))
  · have k1 : hp_gc u d = 1 := by omega
    rw [k1] at e
    have : hp_lb u d = d := by omega
    rw [← this]; exact h
  · rw [hp_dv e g0 (by omega) (by omega)]; exact h
/-! the class's questions -/
section
variable {post : Int32 → Prop} {n : Nat} {P Q : Int} {a b c : Nat → Int}
theorem hp_bvl (hP : P.natAbs ≤ 9) (hQ : Q.natAbs ≤ 9) {t : hp_T} (bd : hp_bd t) : (hp_v P Q t).natAbs < 2147483648 :=
  Nat.lt_of_le_of_lt (hp_bv hP hQ bd) (by decide)
theorem hp_x_em (hn : n ≤ 14) (ok : hp_ok a b c) (hP : P.natAbs ≤ 9) (hQ : Q.natAbs ≤ 9)
    (h0 : (∀ t, ¬ hp_S a b c (hp_tx n) (-1) t) → post 1)
    (h1 : ∀ t, hp_bd t → hp_be P Q (hp_S a b c (hp_tx n) (-1)) t → post 0) : wpX_empty post (hp_X n P Q a b c) := by
  unfold wpX_empty
  dsimp only
  exact hp_xbp hn ok hP hQ (fun h => br_t rfl (h0 h)) (fun e he h => br_f (hp_ne1 he) (h1 _ (hp_btr ok _ _) h))
theorem hp_x_vt (hn : n ≤ 14) (ok : hp_ok a b c) (hP : P.natAbs ≤ 9) (hQ : Q.natAbs ≤ 9)
    (h0 : (∀ t, ¬ hp_S a b c (hp_tx n) (-1) t) → post 0)
    (h1 : ∀ t, hp_bd t → hp_be P Q (hp_S a b c (hp_tx n) (-1)) t → post (hp_i (hp_lo (hp_v P Q t) t.2.2))) : wpX_valueTop post (hp_X n P Q a b c) := by
  unfold wpX_valueTop
  dsimp only
  refine hp_xbp hn ok hP hQ (fun h => br_t rfl (h0 h)) (fun e he h => br_f (hp_ne1 he) (hp_xV he (hp_xD he ?_)))
  have bd := hp_btr ok (e / 14) (e % 14)
  exact hp_xlt (hp_bvl hP hQ bd) (hp_S_d h.1) bd.2.2 (h1 _ bd h)
theorem hp_x_vb (hn : n ≤ 14) (ok : hp_ok a b c) (hP : P.natAbs ≤ 9) (hQ : Q.natAbs ≤ 9)
    (h0 : (∀ t, ¬ hp_S a b c (hp_tx n) (-1) t) → post 0)
    (h1 : ∀ t, hp_bd t → hp_be P Q (hp_S a b c (hp_tx n) (-1)) t → post (hp_i (hp_lb (hp_v P Q t) t.2.2))) : wpX_valueBottom post (hp_X n P Q a b c) := by
  unfold wpX_valueBottom
  dsimp only
  refine hp_xbp hn ok hP hQ (fun h => br_t rfl (h0 h)) (fun e he h => br_f (hp_ne1 he) (hp_xV he (hp_xD he ?_)))
  have bd := hp_btr ok (e / 14) (e % 14)
  exact hp_xlb (hp_bvl hP hQ bd) (hp_S_d h.1) bd.2.2 (h1 _ bd h)
theorem hp_x_xt (hn : n ≤ 14) (ok : hp_ok a b c) (hP : P.natAbs ≤ 9) (hQ : Q.natAbs ≤ 9)
    (h0 : (∀ t, ¬ hp_S a b c (hp_tx n) (-1) t) → post 0)
    (h1 : ∀ t, hp_bd t → hp_be P Q (hp_S a b c (hp_tx n) (-1)) t → post (hp_i (hp_lo t.1 t.2.2))) : wpX_xTop post (hp_X n P Q a b c) := by
  unfold wpX_xTop
  dsimp only
  refine hp_xbp hn ok hP hQ (fun h => br_t rfl (h0 h)) (fun e he h => br_f (hp_ne1 he) (hp_xX he (hp_xD he ?_)))
  have bd := hp_btr ok (e / 14) (e % 14)
  exact hp_xlt (Nat.lt_of_le_of_lt bd.1 (by decide)) (hp_S_d h.1) bd.2.2 (h1 _ bd h)
theorem hp_x_xb (hn : n ≤ 14) (ok : hp_ok a b c) (hP : P.natAbs ≤ 9) (hQ : Q.natAbs ≤ 9)
    (h0 : (∀ t, ¬ hp_S a b c (hp_tx n) (-1) t) → post 0)
    (h1 : ∀ t, hp_bd t → hp_be P Q (hp_S a b c (hp_tx n) (-1)) t → post (hp_i (hp_lb t.1 t.2.2))) : wpX_xBottom post (hp_X n P Q a b c) := by
  unfold wpX_xBottom
  dsimp only
  refine hp_xbp hn ok hP hQ (fun h => br_t rfl (h0 h)) (fun e he h => br_f (hp_ne1 he) (hp_xX he (hp_xD he ?_)))
  have bd := hp_btr ok (e / 14) (e % 14)
  exact hp_xlb (Nat.lt_of_le_of_lt bd.1 (by decide)) (hp_S_d h.1) bd.2.2 (h1 _ bd h)
theorem hp_x_yt (hn : n ≤ 14) (ok : hp_ok a b c) (hP : P.natAbs ≤ 9) (hQ : Q.natAbs ≤ 9)
    (h0 : (∀ t, ¬ hp_S a b c (hp_tx n) (-1) t) → post 0)
    (h1 : ∀ t, hp_bd t → hp_be P Q (hp_S a b c (hp_tx n) (-1)) t → post (hp_i (hp_lo t.2.1 t.2.2))) : wpX_yTop post (hp_X n P Q a b c) := by
  unfold wpX_yTop
  dsimp only
  refine hp_xbp hn ok hP hQ (fun h => br_t rfl (h0 h)) (fun e he h => br_f (hp_ne1 he) (hp_xY he (hp_xD he ?_)))
  have bd := hp_btr ok (e / 14) (e % 14)
  exact hp_xlt (Nat.lt_of_le_of_lt bd.2.1 (by decide)) (hp_S_d h.1) bd.2.2 (h1 _ bd h)
theorem hp_x_yb (hn : n ≤ 14) (ok : hp_ok a b c) (hP : P.natAbs ≤ 9) (hQ : Q.natAbs ≤ 9)
    (h0 : (∀ t, ¬ hp_S a b c (hp_tx n) (-1) t) → post 0)
    (h1 : ∀ t, hp_bd t → hp_be P Q (hp_S a b c (hp_tx n) (-1)) t → post (hp_i (hp_lb t.2.1 t.2.2))) : wpX_yBottom post (hp_X n P Q a b c) := by
  unfold wpX_yBottom
  dsimp only
  refine hp_xbp hn ok hP hQ (fun h => br_t rfl (h0 h)) (fun e he h => br_f (hp_ne1 he) (hp_xY he (hp_xD he ?_)))
  have bd := hp_btr ok (e / 14) (e % 14)
  exact hp_xlb (Nat.lt_of_le_of_lt bd.2.1 (by decide)) (hp_S_d h.1) bd.2.2 (h1 _ bd h)
end
/-! counting -/
noncomputable def hp_ct (p : Nat → Prop) : Nat → Nat
  | 0 => 0
  | k + 1 => hp_ct p k + @ite Nat (p k) (Classical.propDecidable _) 1 0
theorem hp_ct_y {p : Nat → Prop} {k : Nat} (h : p k) : hp_ct p (k + 1) = hp_ct p k + 1 := by
  rw [hp_ct, if_pos h]
theorem hp_ct_n {p : Nat → Prop} {k : Nat} (h : ¬ p k) : hp_ct p (k + 1) = hp_ct p k := by
  rw [hp_ct, if_neg h]
  rfl
noncomputable def hp_cs (R : Nat → Nat → Prop) : Nat → Nat
  | 0 => 0
  | u + 1 => hp_cs R u + hp_ct (R u) 41
section
variable {post : Int32 → Prop} {n : Nat} {P Q : Int} {a b c : Nat → Int}
/-- line i is tight at t -/
def hp_ti (a b c : Nat → Int) (t : hp_T) (s : Nat) : Prop := a s * t.1 + b s * t.2.1 = c s * t.2.2
theorem hp_xti_l (hn : n ≤ 14) (ok : hp_ok a b c) {t : hp_T} (bd : hp_bd t)
    (h : post (nI (hp_ct (fun i => hp_ti a b c t (4 + i)) (n - 4)))) :
    ∀ k i, 4 + i + k = n → wX_tight_37 post (hp_i t.1) (hp_i t.2.1) (hp_i t.2.2) (nI n) (hp_i P) (hp_i Q) (hp_F a) (hp_F b) (hp_F c) (k + 1) (nI (hp_ct (fun i => hp_ti a b c t (4 + i)) i)) (nI (4 + i)) := by
  intro k
  induction k with
  | zero =>
    intro i hi
    refine br_t (nI_le (by omega) (by omega)) ?_
    have e : i = n - 4 := by omega
    rw [e]; exact h
  | succ k ih =>
    intro i hi
    refine br_f (nI_ge (by omega) (by omega)) (hp_xsl (by omega) t (hp_keq _ 0 rfl rfl (hp_bsl ok (4 + i) bd) (by decide) (fun g => ?_) (fun g => ?_)))
    · have e : hp_ti a b c t (4 + i) := by unfold hp_ti; omega
      refine nm_r (nI_1 _) (nm_r (nI_1 (4 + i)) ?_)
      have := ih (i + 1) (by omega)
      rw [hp_ct_y (p := fun i => hp_ti a b c t (4 + i)) e] at this
      exact this
    · have e : ¬ hp_ti a b c t (4 + i) := by unfold hp_ti; omega
      refine nm_r (nI_1 (4 + i)) ?_
      have := ih (i + 1) (by omega)
      rw [hp_ct_n (p := fun i => hp_ti a b c t (4 + i)) e] at this
      exact this
theorem hp_x_ti (h4 : 4 ≤ n) (hn : n ≤ 14) (ok : hp_ok a b c) (hP : P.natAbs ≤ 9) (hQ : Q.natAbs ≤ 9)
    (h0 : (∀ t, ¬ hp_S a b c (hp_tx n) (-1) t) → post (-1))
    (h1 : ∀ t, hp_bd t → hp_be P Q (hp_S a b c (hp_tx n) (-1)) t → post (nI (hp_ct (fun i => hp_ti a b c t (4 + i)) (n - 4)))) : wpX_tight post (hp_X n P Q a b c) := by
  unfold wpX_tight
  dsimp only
  refine hp_xbp hn ok hP hQ (fun h => br_t rfl (h0 h)) (fun e he h => br_f (hp_ne1 he) (hp_xX he (hp_xY he (hp_xD he ?_))))
  have bd := hp_btr ok (e / 14) (e % 14)
  exact ⟨n - 4 + 1, hp_xti_l hn ok bd (h1 _ bd h) (n - 4) 0 (by omega)⟩
/-- the line of slot s cuts the triple off -/
def hp_cu (a b c : Nat → Int) (s : Nat) (t : hp_T) : Prop := c s * t.2.2 < a s * t.1 + b s * t.2.1
theorem hp_xcu {e s : Nat} (hs : s < 14) (ok : hp_ok a b c) (he : e < 196) (h1 : hp_cu a b c s (hp_tr a b c (e / 14) (e % 14)) → post 1) (h0 : ¬ hp_cu a b c s (hp_tr a b c (e / 14) (e % 14)) → post 0) :
    wpX_cutsOff post (hp_X n P Q a b c) (nI s) (nI e) := by
  unfold wpX_cutsOff
  dsimp only
  have bd := hp_btr ok (e / 14) (e % 14)
  refine hp_xX he (hp_xY he (hp_xD he (hp_xsl hs (hp_tr a b c (e / 14) (e % 14)) (hp_kle 0 _ rfl rfl (by decide) (hp_bsl ok s bd) (fun g => h0 ?_) (fun g => h1 ?_)))))
  · unfold hp_cu; omega
  · unfold hp_cu; omega
theorem hp_xrd_l {s : Nat} (hs : s < 14) (hn : n ≤ 14) (ok : hp_ok a b c)
    (h0 : (∃ t, hp_S a b c (hp_tx n) (nI s) t ∧ hp_cu a b c s t) → post 0)
    (h1 : (∀ t, hp_S a b c (hp_tx n) (nI s) t → ¬ hp_cu a b c s t) → post 1) :
    ∀ k e, e + k = 196 → (∀ t, hp_nx a b c n (nI s) e t → ¬ hp_cu a b c s t) →
    wX_redundant_16 post (nI s) (nI n) (hp_i P) (hp_i Q) (hp_F a) (hp_F b) (hp_F c) (k + 1) (nI e) := by
  intro k
  induction k with
  | zero =>
    intro e he H
    have e9 : e = 196 := by omega
    subst e9
    exact br_t (nI_le (a := 196) (b := 196) (by omega) (by omega)) (h1 (fun t z => H t ((hp_nx_e hn t).mpr z)))
  | succ k ih =>
    intro e he H
    have he' : e < 196 := by omega
    refine br_f (nI_ge (b := 196) (by omega) (by omega)) ?_
    refine hp_xco hn ok he' (nI s) (fun g => br_f (by decide) ?_) (fun g => br_t rfl (nm_r (nI_1 e) (ih (e + 1) (by omega) (fun t z => H t ((hp_nx_n g t).mp z)))))
    refine hp_xcu hs ok he' (fun y => br_f (by decide) (h0 ⟨_, ⟨_, _, g, rfl⟩, y⟩)) (fun y => br_t rfl (nm_r (nI_1 e) (ih (e + 1) (by omega) (fun t z => ?_))))
    rcases (hp_nx_y g t).mp z with z | rfl
    · exact H t z
    · exact y
theorem hp_xrd {s : Nat} (hs : s < 14) (hn : n ≤ 14) (ok : hp_ok a b c)
    (h0 : (∃ t, hp_S a b c (hp_tx n) (nI s) t ∧ hp_cu a b c s t) → post 0)
    (h1 : (∀ t, hp_S a b c (hp_tx n) (nI s) t → ¬ hp_cu a b c s t) → post 1) :
    ∃ n16 : Nat, wX_redundant_16 post (nI s) (nI n) (hp_i P) (hp_i Q) (hp_F a) (hp_F b) (hp_F c) n16 0 :=
  ⟨197, hp_xrd_l hs hn ok h0 h1 196 0 (by omega) (fun t z => absurd z (hp_nx_0 t))⟩
theorem hp_xsp {e o : Nat} (ok : hp_ok a b c) (he : e < 196) (ho : o < 196)
    (h1 : hp_sm (hp_tr a b c (e / 14) (e % 14)) (hp_tr a b c (o / 14) (o % 14)) → post 1)
    (h0 : ¬ hp_sm (hp_tr a b c (e / 14) (e % 14)) (hp_tr a b c (o / 14) (o % 14)) → post 0) :
    wpX_isSamePoint post (hp_X n P Q a b c) (nI e) (nI o) := by
  have be := hp_btr ok (e / 14) (e % 14)
  have bo := hp_btr ok (o / 14) (o % 14)
  unfold wpX_isSamePoint
  dsimp only
  refine hp_xD he (hp_xD ho (hp_xX he (hp_xX ho ?_)))
  rw [hp_mul, hp_mul]
  refine hp_keq _ _ rfl rfl (hp_bc1 (hp_bd1 be) bo.2.2) (hp_bc1 (hp_bd1 bo) be.2.2) (fun g => ?_) (fun g => h0 (fun z => g z.1))
  refine hp_xY he (hp_xY ho ?_)
  rw [hp_mul, hp_mul]
  exact hp_keq _ _ rfl rfl (hp_bc1 (hp_bd2 be) bo.2.2) (hp_bc1 (hp_bd2 bo) be.2.2) (fun g' => h1 ⟨g, g'⟩) (fun g' => h0 (fun z => g' z.2))
theorem hp_xfi_l {o : Nat} (hn : n ≤ 14) (ok : hp_ok a b c) (ho : o < 196)
    (h1 : (∀ e, e < o → hp_pt a b (hp_tx n) (-1) (e / 14) (e % 14) → ¬ hp_sm (hp_tr a b c (e / 14) (e % 14)) (hp_tr a b c (o / 14) (o % 14))) → post 1)
    (h0 : (∃ e, e < o ∧ hp_pt a b (hp_tx n) (-1) (e / 14) (e % 14) ∧ hp_sm (hp_tr a b c (e / 14) (e % 14)) (hp_tr a b c (o / 14) (o % 14))) → post 0) :
    ∀ k e, e + k = o → (∀ e', e' < e → hp_pt a b (hp_tx n) (-1) (e' / 14) (e' % 14) → ¬ hp_sm (hp_tr a b c (e' / 14) (e' % 14)) (hp_tr a b c (o / 14) (o % 14))) →
    wX_isFirstAtItsPoint_2 post (nI o) (nI n) (hp_i P) (hp_i Q) (hp_F a) (hp_F b) (hp_F c) (k + 1) (nI e) := by
  intro k
  induction k with
  | zero =>
    intro e he H
    have e9 : e = o := by omega
    subst e9
    exact br_t (nI_le (by omega) (by omega)) (h1 H)
  | succ k ih =>
    intro e he H
    have he' : e < 196 := by omega
    refine br_f (nI_ge (by omega) (by omega)) ?_
    refine hp_xpt hn ok he' (-1) (fun g => br_f (by decide) ?_) (fun g => br_t rfl (nm_r (nI_1 e) (ih (e + 1) (by omega) (fun e' h' z => ?_))))
    · refine hp_xsp ok he' ho (fun y => br_f (by decide) (h0 ⟨e, by omega, g, y⟩)) (fun y => br_t rfl (nm_r (nI_1 e) (ih (e + 1) (by omega) (fun e' h' z => ?_))))
      by_cases q : e' = e
      · subst q; exact y
      · exact H e' (by omega) z
    · by_cases q : e' = e
      · subst q; exact absurd z g
      · exact H e' (by omega) z
theorem hp_xfi {o : Nat} (hn : n ≤ 14) (ok : hp_ok a b c) (ho : o < 196)
    (h1 : (∀ e, e < o → hp_pt a b (hp_tx n) (-1) (e / 14) (e % 14) → ¬ hp_sm (hp_tr a b c (e / 14) (e % 14)) (hp_tr a b c (o / 14) (o % 14))) → post 1)
    (h0 : (∃ e, e < o ∧ hp_pt a b (hp_tx n) (-1) (e / 14) (e % 14) ∧ hp_sm (hp_tr a b c (e / 14) (e % 14)) (hp_tr a b c (o / 14) (o % 14))) → post 0) :
    wpX_isFirstAtItsPoint post (hp_X n P Q a b c) (nI o) :=
  ⟨o + 1, hp_xfi_l hn ok ho h1 h0 o 0 (by omega) (fun e' h' => absurd h' (by omega))⟩
theorem hp_xcs_l (hn : n ≤ 14) (ok : hp_ok a b c)
    (h1 : ∀ L, hp_rp (hp_S a b c (hp_tx n) (-1)) L → post (nI L.length)) :
    ∀ k e L, e + k = 196 → hp_rp (hp_nx a b c n (-1) e) L →
    wX_corners_4 post (nI n) (hp_i P) (hp_i Q) (hp_F a) (hp_F b) (hp_F c) (k + 1) (nI L.length) (nI e) := by
  intro k
  induction k with
  | zero =>
    intro e L he H
    have e9 : e = 196 := by omega
    subst e9
    exact br_t (nI_le (a := 196) (b := 196) (by omega) (by omega)) (h1 L (hp_rp_c H (fun t => (hp_nx_e hn t).symm)))
  | succ k ih =>
    intro e L he H
    have he' : e < 196 := by omega
    refine br_f (nI_ge (b := 196) (by omega) (by omega)) ?_
    refine hp_xco hn ok he' (-1) (fun g => br_f (by decide) ?_) (fun g => br_t rfl (nm_r (nI_1 e) (ih (e + 1) L (by omega) (hp_rp_c H (hp_nx_n g)))))
    refine hp_xfi hn ok he' (fun y => br_f (by decide) ?_) (fun y => br_t rfl ?_)
    · refine nm_r (nI_1 _) (nm_r (nI_1 e) ?_)
      have := ih (e + 1) (hp_tr a b c (e / 14) (e % 14) :: L) (by omega) (hp_rp_y H (hp_nx_y g) (fun t z => ?_))
      · rw [List.length_cons] at this; exact this
      · obtain ⟨e', h', z, rfl⟩ := z
        exact y e' h' z.1
    · refine nm_r (nI_1 e) (ih (e + 1) L (by omega) (hp_rp_n (fun t z => hp_nx_d t z) H (hp_nx_y g) ?_))
      obtain ⟨e', h', z, y⟩ := y
      exact ⟨_, ⟨e', h', ⟨z, hp_sm_al g.1.2.2.2.2 z.2.2.2.2 (hp_sm_s y) g.2⟩, rfl⟩, y⟩
theorem hp_x_cs (hn : n ≤ 14) (ok : hp_ok a b c)
    (h1 : ∀ L, hp_rp (hp_S a b c (hp_tx n) (-1)) L → post (nI L.length)) : wpX_corners post (hp_X n P Q a b c) :=
  ⟨197, hp_xcs_l hn ok h1 196 0 [] (by omega) (hp_rp_0 hp_nx_0)⟩
/-! grid -/
def hp_gt (u v : Nat) : hp_T := ((u : Int) - 20, (v : Int) - 20, 1)
theorem hp_gd {u v : Nat} (hu : u < 41) (hv : v < 41) : hp_bd (hp_gt u v) := by
  unfold hp_gt
  refine ⟨?_, ?_, ?_⟩
  · show ((u : Int) - 20).natAbs ≤ 2000
    omega
  · show ((v : Int) - 20).natAbs ≤ 2000
    omega
  · show (1 : Int).natAbs ≤ 162
    decide
theorem hp_g1 (v : Nat) : hp_i ((v : Int) - 20) + 1 = hp_i (((v + 1 : Nat) : Int) - 20) := by
  have : (1 : Int32) = hp_i 1 := rfl
  rw [this, hp_add]
  congr 1
  omega
theorem hp_xgr_i {J5 : Int32 → Int32 → Prop} {u : Nat} (hu : u < 41) (hn : n ≤ 14) (ok : hp_ok a b c)
    (hJ : J5 (nI (hp_cs (fun u v => hp_al a b c (hp_tx n) (-1) (hp_gt u v)) (u + 1))) (hp_i (((u + 1 : Nat) : Int) - 20))) :
    ∀ k v, v + k = 41 → wX_grid_14 post J5 (hp_i ((u : Int) - 20)) (nI n) (hp_i P) (hp_i Q) (hp_F a) (hp_F b) (hp_F c) (k + 1)
      (nI (hp_cs (fun u v => hp_al a b c (hp_tx n) (-1) (hp_gt u v)) u + hp_ct (fun v => hp_al a b c (hp_tx n) (-1) (hp_gt u v)) v)) (hp_i ((v : Int) - 20)) := by
  intro k
  induction k with
  | zero =>
    intro v hv
    have e : v = 41 := by omega
    subst e
    exact br_t (by decide) (nm_r (hp_g1 u) hJ)
  | succ k ih =>
    intro v hv
    have hv' : v < 41 := by omega
    refine hp_klt 20 _ rfl rfl (by decide) (by omega) (fun g => absurd g (by omega)) (fun g => ?_)
    refine hp_xal hn ok (-1) (hp_gt u v) (hp_gd hu hv') (fun y => br_f (by decide) ?_) (fun y => br_t rfl ?_)
    · refine nm_r (nI_1 _) (nm_r (hp_g1 v) ?_)
      have := ih (v + 1) (by omega)
      rw [hp_ct_y (p := fun v => hp_al a b c (hp_tx n) (-1) (hp_gt u v)) y] at this
      exact this
    · refine nm_r (hp_g1 v) ?_
      have := ih (v + 1) (by omega)
      rw [hp_ct_n (p := fun v => hp_al a b c (hp_tx n) (-1) (hp_gt u v)) y] at this
      exact this
theorem hp_xgr_o (hn : n ≤ 14) (ok : hp_ok a b c)
    (h : post (nI (hp_cs (fun u v => hp_al a b c (hp_tx n) (-1) (hp_gt u v)) 41))) :
    ∀ k u, u + k = 41 → wX_grid_5 post (nI n) (hp_i P) (hp_i Q) (hp_F a) (hp_F b) (hp_F c) (k + 1)
      (nI (hp_cs (fun u v => hp_al a b c (hp_tx n) (-1) (hp_gt u v)) u)) (hp_i ((u : Int) - 20)) := by
  intro k
  induction k with
  | zero =>
    intro u hu
    have e : u = 41 := by omega
    subst e
    exact br_t (by decide) h
  | succ k ih =>
    intro u hu
    refine hp_klt 20 _ rfl rfl (by decide) (by omega) (fun g => absurd g (by omega)) (fun g => ⟨42, ?_⟩)
    exact hp_xgr_i (by omega) hn ok (ih (u + 1) (by omega)) 41 0 (by omega)
theorem hp_x_gr (hn : n ≤ 14) (ok : hp_ok a b c)
    (h : post (nI (hp_cs (fun u v => hp_al a b c (hp_tx n) (-1) (hp_gt u v)) 41))) : wpX_grid post (hp_X n P Q a b c) :=
  ⟨42, hp_xgr_o hn ok h 41 0 (by omega)⟩
end
end
section
/-! the reference's walks against the sets -/
abbrev hp_Y (m : Nat) (P Q : Int) (x y d bX bY bZ : Int32) (a b c : Nat → Int) : SY := (nI m, hp_i P, hp_i Q, x, y, d, bX, bY, bZ, hp_F a, hp_F b, hp_F c)
def hp_ty (m i : Nat) : Prop := i < 14 ∧ (9 < i ∨ i < m)
section
variable {m : Nat} {P Q : Int} {a b c : Nat → Int}
theorem hp_yth {post : Int32 → Prop} {x y d bX bY bZ : Int32} {i : Nat} (hm : m ≤ 10) (hi : i < 14) (h1 : hp_ty m i → post 1) (h0 : ¬ hp_ty m i → post 0) :
    wpY_there post (hp_Y m P Q x y d bX bY bZ a b c) (nI i) := by
  unfold wpY_there
  dsimp only
  exact pk_lt 9 i (fun g => h1 ⟨hi, Or.inl g⟩) (fun g => pk_le m i (fun g' => h0 (fun z => by unfold hp_ty at z; omega)) (fun g' => h1 ⟨hi, Or.inr g'⟩))
theorem hp_bl1 (ok : hp_ok a b c) (s : Nat) {t : hp_T} (bd : hp_bd t) : (a s * t.1 + b s * t.2.1).natAbs < 2147483648 :=
  Nat.lt_of_le_of_lt (hp_ba (hp_bm (ok s).1 bd.1) (hp_bm (ok s).2.1 bd.2.1)) (by decide)
theorem hp_bl2 (ok : hp_ok a b c) (s : Nat) {t : hp_T} (bd : hp_bd t) : (c s * t.2.2).natAbs < 2147483648 :=
  Nat.lt_of_le_of_lt (hp_bm (ok s).2.2 bd.2.2) (by decide)
theorem hp_yal_l {post : Int32 → Prop} {x y d bX bY bZ : Int32} (hm : m ≤ 10) (ok : hp_ok a b c) (w : Int32) (t : hp_T) (bd : hp_bd t)
    (h1 : hp_al a b c (hp_ty m) w t → post 1) (h0 : ¬ hp_al a b c (hp_ty m) w t → post 0) :
    ∀ k s, s + k = 14 → (∀ s', s' < s → hp_ty m s' → nI s' ≠ w → a s' * t.1 + b s' * t.2.1 ≤ c s' * t.2.2) →
    wY_allowed_3 post (hp_i t.1) (hp_i t.2.1) (hp_i t.2.2) w (nI m) (hp_i P) (hp_i Q) x y d bX bY bZ (hp_F a) (hp_F b) (hp_F c) (k + 1) (nI s) := by
  intro k
  induction k with
  | zero =>
    intro s hs H
    exact br_t (nI_le (a := 14) (by omega) (by omega)) (h1 (fun s' hs' hw => H s' (by have := hs'.1; omega) hs' hw))
  | succ k ih =>
    intro s hs H
    have hs' : s < 14 := by omega
    have hi : vp_in (nI s) 14 := vp_in_nI hs' (by omega)
    refine br_f (nI_ge (b := 14) (by omega) (by omega)) ?_
    refine hp_yth hm hs' (fun g => br_f (by decide) ?_) (fun g => br_t rfl ?_)
    · by_cases hw : nI s = w
      · exact br_t hw (nm_r (nI_1 s) (ih (s + 1) (by omega) (fun s' hs' ht' hw' => by
          by_cases e : s' = s
          · exact absurd (e ▸ hw) hw'
          · exact H s' (by omega) ht' hw')))
      · refine br_f hw ⟨hi, hi, hi, ?_⟩
        rw [hp_Fc c hs', hp_Fc a hs', hp_Fc b hs', hp_mul, hp_mul, hp_mul, hp_add]
        refine hp_kle _ _ rfl rfl (hp_bl1 ok s bd) (hp_bl2 ok s bd) (fun h => ?_) (fun h => ?_)
        · exact nm_r (nI_1 s) (ih (s + 1) (by omega) (fun s' hs' ht' hw' => by
            by_cases e : s' = s
            · subst e; exact h
            · exact H s' (by omega) ht' hw'))
        · refine h0 (fun z => ?_)
          have := z s g hw
          omega
    · exact nm_r (nI_1 s) (ih (s + 1) (by omega) (fun s' hs' ht' hw' => by
        by_cases e : s' = s
        · exact absurd (e ▸ ht') g
        · exact H s' (by omega) ht' hw'))
theorem hp_yal {post : Int32 → Prop} {x y d bX bY bZ : Int32} (hm : m ≤ 10) (ok : hp_ok a b c) (w : Int32) (t : hp_T) (bd : hp_bd t)
    (h1 : hp_al a b c (hp_ty m) w t → post 1) (h0 : ¬ hp_al a b c (hp_ty m) w t → post 0) :
    wpY_allowed post (hp_Y m P Q x y d bX bY bZ a b c) (hp_i t.1) (hp_i t.2.1) (hp_i t.2.2) w :=
  ⟨15, hp_yal_l hm ok w t bd h1 h0 14 0 (by omega) (fun s' hs' => absurd hs' (by omega))⟩
theorem hp_yme {post : Int32 → SY → Prop} {x y d bX bY bZ : Int32} {i j : Nat} (hm : m ≤ 10) (ok : hp_ok a b c) (hi : i < 14) (hj : j < 14) (w : Int32)
    (h1 : hp_co a b c (hp_ty m) w i j → post 1 (hp_Y m P Q (hp_i (hp_D c b i j)) (hp_i (hp_D a c i j)) (hp_i (hp_D a b i j)) bX bY bZ a b c))
    (h2 : hp_co a b c (hp_ty m) w j i → post 1 (hp_Y m P Q (hp_i (hp_D c b j i)) (hp_i (hp_D a c j i)) (hp_i (hp_D a b j i)) bX bY bZ a b c))
    (h0 : ¬ hp_co a b c (hp_ty m) w i j → ¬ hp_co a b c (hp_ty m) w j i → ∀ x y d, post 0 (hp_Y m P Q x y d bX bY bZ a b c)) :
    wpY_meets post (hp_Y m P Q x y d bX bY bZ a b c) (nI i) (nI j) w := by
  have vi : vp_in (nI i) 14 := vp_in_nI hi (by omega)
  have vj : vp_in (nI j) 14 := vp_in_nI hj (by omega)
  have bD := hp_bD ok i j
  have D : hp_D a b j i = - hp_D a b i j := hp_Dn a b i j
  unfold wpY_meets
  dsimp only
  refine hp_yth hm hi (fun g1 => br_f (by decide) ?_) (fun g1 => br_t rfl (h0 (fun z => g1 z.1.1) (fun z => g1 z.1.2.1) _ _ _))
  refine hp_yth hm hj (fun g2 => br_f (by decide) ?_) (fun g2 => br_t rfl (h0 (fun z => g2 z.1.2.1) (fun z => g2 z.1.1) _ _ _))
  refine br_c (fun g3 => h0 (fun z => z.1.2.2.1 g3) (fun z => z.1.2.2.2.1 g3) _ _ _) (fun g3 => ?_)
  refine br_c (fun g4 => h0 (fun z => z.1.2.2.2.1 g4) (fun z => z.1.2.2.1 g4) _ _ _) (fun g4 => ?_)
  refine ⟨vi, vj, vj, vi, nm_r (e' := hp_i (hp_D a b i j)) ?_ ?_⟩
  · rw [hp_Fc a hi, hp_Fc b hj, hp_Fc a hj, hp_Fc b hi, hp_mul, hp_mul, hp_sub]; rfl
  refine hp_keq _ 0 rfl rfl (by omega) (by decide) (fun g5 => h0 (fun z => by have := z.1.2.2.2.2; omega) (fun z => by have := z.1.2.2.2.2; omega) _ _ _) (fun g5 => ?_)
  refine ⟨vi, vj, vj, vi, nm_r (e' := hp_i (hp_D c b i j)) ?_ ⟨vi, vj, vj, vi, nm_r (e' := hp_i (hp_D a c i j)) ?_ ?_⟩⟩
  · rw [hp_Fc c hi, hp_Fc b hj, hp_Fc c hj, hp_Fc b hi, hp_mul, hp_mul, hp_sub]; rfl
  · rw [hp_Fc a hi, hp_Fc c hj, hp_Fc a hj, hp_Fc c hi, hp_mul, hp_mul, hp_sub]; rfl
  refine hp_kle 0 _ rfl rfl (by decide) (by omega) (fun g6 => ?_) (fun g6 => ?_)
  · refine hp_yal hm ok w (hp_tr a b c i j) (hp_btr ok i j) (fun H => ⟨rfl, h1 ⟨⟨g1, g2, g3, g4, by omega⟩, H⟩⟩) (fun H => ⟨rfl, h0 (fun z => H z.2) (fun z => ?_) _ _ _⟩)
    have := z.1.2.2.2.2
    omega
  · refine nm_r (e' := hp_i (hp_D c b j i)) (by rw [hp_neg, hp_Dn c b i j]) (nm_r (e' := hp_i (hp_D a c j i)) (by rw [hp_neg, hp_Dn a c i j]) (nm_r (e' := hp_i (hp_D a b j i)) (by rw [hp_neg, hp_Dn a b i j]) ?_))
    refine hp_yal hm ok w (hp_tr a b c j i) (hp_btr ok j i) (fun H => ⟨rfl, h2 ⟨⟨g2, g1, g4, g3, by omega⟩, H⟩⟩) (fun H => ⟨rfl, h0 (fun z => ?_) (fun z => H z.2) _ _ _⟩)
    have := z.1.2.2.2.2
    omega
/-- the triple of a pair without order -/
def hp_pr (a b c : Nat → Int) (m : Nat) (w : Int32) (i j : Nat) (t : hp_T) : Prop :=
  (hp_co a b c (hp_ty m) w i j ∧ t = hp_tr a b c i j) ∨ (hp_co a b c (hp_ty m) w j i ∧ t = hp_tr a b c j i)
theorem hp_pr_u {w : Int32} {i j : Nat} {t t' : hp_T} (h : hp_pr a b c m w i j t) (h' : hp_pr a b c m w i j t') : t' = t := by
  rcases h with ⟨k, rfl⟩ | ⟨k, rfl⟩ <;> rcases h' with ⟨k', rfl⟩ | ⟨k', rfl⟩
  · rfl
  · have h1 := k.1.2.2.2.2
    have h2 := k'.1.2.2.2.2
    rw [hp_Dn] at h2
    omega
  · have h1 := k.1.2.2.2.2
    have h2 := k'.1.2.2.2.2
    rw [hp_Dn] at h2
    omega
  · rfl
theorem hp_pr_d {w : Int32} {i j : Nat} {t : hp_T} (h : hp_pr a b c m w i j t) : 0 < t.2.2 := by
  rcases h with ⟨k, rfl⟩ | ⟨k, rfl⟩
  · exact k.1.2.2.2.2
  · exact k.1.2.2.2.2
theorem hp_yms {post : Int32 → SY → Prop} {x y d bX bY bZ : Int32} {i j : Nat} (hm : m ≤ 10) (ok : hp_ok a b c) (hi : i < 14) (hj : j < 14) (w : Int32)
    (h1 : ∀ t, hp_bd t → hp_pr a b c m w i j t → post 1 (hp_Y m P Q (hp_i t.1) (hp_i t.2.1) (hp_i t.2.2) bX bY bZ a b c))
    (h0 : (∀ t, ¬ hp_pr a b c m w i j t) → ∀ x y d, post 0 (hp_Y m P Q x y d bX bY bZ a b c)) :
    wpY_meets post (hp_Y m P Q x y d bX bY bZ a b c) (nI i) (nI j) w :=
  hp_yme hm ok hi hj w (fun g => h1 (hp_tr a b c i j) (hp_btr ok i j) (Or.inl ⟨g, rfl⟩)) (fun g => h1 (hp_tr a b c j i) (hp_btr ok j i) (Or.inr ⟨g, rfl⟩))
    (fun g g' => h0 (fun t z => by
      rcases z with z | z
      · exact g z.1
      · exact g' z.1))
/-- the pairs in their order -/
def hp_ny (a b c : Nat → Int) (m : Nat) (w : Int32) (i j : Nat) (t : hp_T) : Prop :=
  ∃ k l, l < k ∧ (k < i ∨ (k = i ∧ l < j)) ∧ hp_pr a b c m w k l t
theorem hp_ny_0 {w : Int32} (t : hp_T) : ¬ hp_ny a b c m w 0 0 t := by
  intro h
  obtain ⟨k, l, h1, h2, _⟩ := h
  omega
theorem hp_ny_y {w : Int32} {i j : Nat} {t0 : hp_T} (hj : j < i) (h : hp_pr a b c m w i j t0) (t : hp_T) :
    hp_ny a b c m w i (j + 1) t ↔ hp_ny a b c m w i j t ∨ t = t0 := by
  constructor
  · intro z
    obtain ⟨k, l, h1, h2, h3⟩ := z
    by_cases q : k = i ∧ l = j
    · obtain ⟨rfl, rfl⟩ := q
      exact Or.inr (hp_pr_u h h3)
    · exact Or.inl ⟨k, l, h1, by omega, h3⟩
  · intro z
    rcases z with z | z
    · obtain ⟨k, l, h1, h2, h3⟩ := z
      exact ⟨k, l, h1, by omega, h3⟩
    · subst z
      exact ⟨i, j, hj, by omega, h⟩
theorem hp_ny_n {w : Int32} {i j : Nat} (h : ∀ t, ¬ hp_pr a b c m w i j t) (t : hp_T) :
    hp_ny a b c m w i (j + 1) t ↔ hp_ny a b c m w i j t := by
  constructor
  · intro z
    obtain ⟨k, l, h1, h2, h3⟩ := z
    by_cases q : k = i ∧ l = j
    · obtain ⟨rfl, rfl⟩ := q
      exact absurd h3 (h t)
    · exact ⟨k, l, h1, by omega, h3⟩
  · intro z
    obtain ⟨k, l, h1, h2, h3⟩ := z
    exact ⟨k, l, h1, by omega, h3⟩
theorem hp_ny_r {w : Int32} {i : Nat} (t : hp_T) : hp_ny a b c m w (i + 1) 0 t ↔ hp_ny a b c m w i i t := by
  constructor
  · intro z
    obtain ⟨k, l, h1, h2, h3⟩ := z
    exact ⟨k, l, h1, by omega, h3⟩
  · intro z
    obtain ⟨k, l, h1, h2, h3⟩ := z
    exact ⟨k, l, h1, by omega, h3⟩
theorem hp_ny_m {w : Int32} {i j l : Nat} {t : hp_T} (hl : j ≤ l) (h : hp_ny a b c m w i j t) : hp_ny a b c m w i l t := by
  obtain ⟨k, l, h1, h2, h3⟩ := h
  exact ⟨k, l, h1, by omega, h3⟩
theorem hp_ny_e {w : Int32} (t : hp_T) : hp_ny a b c m w 14 0 t ↔ hp_S a b c (hp_ty m) w t := by
  constructor
  · intro z
    obtain ⟨k, l, h1, h2, h3⟩ := z
    rcases h3 with ⟨g, e⟩ | ⟨g, e⟩
    · exact ⟨_, _, g, e⟩
    · exact ⟨_, _, g, e⟩
  · intro z
    obtain ⟨i, j, h2, h3⟩ := z
    have hi : i < 14 := h2.1.1.1
    have hj : j < 14 := h2.1.2.1.1
    have hD := h2.1.2.2.2.2
    by_cases q : j < i
    · exact ⟨i, j, q, by omega, Or.inl ⟨h2, h3⟩⟩
    · by_cases q' : i = j
      · subst q'
        unfold hp_D at hD
        omega
      · exact ⟨j, i, by omega, by omega, Or.inr ⟨h2, h3⟩⟩
theorem hp_ny_d {w : Int32} {i j : Nat} (t : hp_T) (h : hp_ny a b c m w i j t) : 0 < t.2.2 := by
  obtain ⟨k, l, h1, h2, h3⟩ := h
  exact hp_pr_d h3
theorem hp_ybt {post : Int32 → Prop} {t t' : hp_T} (hP : P.natAbs ≤ 9) (hQ : Q.natAbs ≤ 9) (be : hp_bd t) (bo : hp_bd t')
    (h1 : hp_bt P Q t t' → post 1) (h0 : ¬ hp_bt P Q t t' → post 0) :
    wpY_better post (hp_Y m P Q (hp_i t.1) (hp_i t.2.1) (hp_i t.2.2) (hp_i t'.1) (hp_i t'.2.1) (hp_i t'.2.2) a b c) := by
  unfold wpY_better
  dsimp only
  simp only [hp_mul, hp_add]
  refine nm_e (nm_e (hp_keq _ _ rfl rfl (hp_bc1 (hp_bv hP hQ be) bo.2.2) (hp_bc1 (hp_bv hP hQ bo) be.2.2) (fun g => ?_) (fun g => ?_)))
  · refine hp_keq _ _ rfl rfl (hp_bc1 (hp_bd1 be) bo.2.2) (hp_bc1 (hp_bd1 bo) be.2.2) (fun g' => ?_) (fun g' => ?_)
    · refine hp_kle _ _ rfl rfl (hp_bc1 (hp_bd2 bo) be.2.2) (hp_bc1 (hp_bd2 be) bo.2.2) (fun g'' => h0 (fun z => ?_)) (fun g'' => h1 (Or.inr ⟨g, Or.inr ⟨g', g''⟩⟩))
      unfold hp_bt at z
      simp only [hp_v] at z
      omega
    · refine hp_kle _ _ rfl rfl (hp_bc1 (hp_bd1 bo) be.2.2) (hp_bc1 (hp_bd1 be) bo.2.2) (fun g'' => h0 (fun z => ?_)) (fun g'' => h1 (Or.inr ⟨g, Or.inl g''⟩))
      unfold hp_bt at z
      simp only [hp_v] at z
      omega
  · refine hp_kle _ _ rfl rfl (hp_bc1 (hp_bv hP hQ be) bo.2.2) (hp_bc1 (hp_bv hP hQ bo) be.2.2) (fun g' => h0 (fun z => ?_)) (fun g' => h1 (Or.inl g'))
    unfold hp_bt at z
    simp only [hp_v] at z
    omega
/-! solve -/
def hp_iv (P Q : Int) (S : hp_T → Prop) (bX bY bZ : Int32) : Prop :=
  (bZ = 0 ∧ ∀ t, ¬ S t) ∨ (∃ t, hp_bd t ∧ 0 < t.2.2 ∧ bX = hp_i t.1 ∧ bY = hp_i t.2.1 ∧ bZ = hp_i t.2.2 ∧ hp_be P Q S t)
theorem hp_iv_c {S S' : hp_T → Prop} {bX bY bZ : Int32} (H : hp_iv P Q S bX bY bZ) (h : ∀ t, S' t ↔ S t) : hp_iv P Q S' bX bY bZ := by
  rcases H with ⟨e, H⟩ | ⟨t, h1, h2, h3, h4, h5, H⟩
  · exact Or.inl ⟨e, fun t z => H t ((h t).mp z)⟩
  · exact Or.inr ⟨t, h1, h2, h3, h4, h5, hp_be_c H h⟩
theorem hp_bz {t : hp_T} (bd : hp_bd t) (h : 0 < t.2.2) : ¬ hp_i t.2.2 = 0 := by
  rw [hp_0, hp_eq (Nat.lt_of_le_of_lt bd.2.2 (by decide)) (by decide)]
  omega
theorem hp_yso_i {post : Int32 → SY → Prop} {J7 : Int32 → Int32 → Int32 → Int32 → Int32 → Int32 → Int32 → Int32 → Int32 → Int32 → (Nat → Int32) → (Nat → Int32) → (Nat → Int32) → Prop} {i : Nat} (hi : i < 14)
    (hm : m ≤ 10) (ok : hp_ok a b c) (hP : P.natAbs ≤ 9) (hQ : Q.natAbs ≤ 9)
    (hJ : ∀ x y d bX bY bZ, hp_iv P Q (hp_ny a b c m (-1) (i + 1) 0) bX bY bZ → J7 (nI (i + 1)) (nI m) (hp_i P) (hp_i Q) x y d bX bY bZ (hp_F a) (hp_F b) (hp_F c)) :
    ∀ k j x y d bX bY bZ, j + k = i → hp_iv P Q (hp_ny a b c m (-1) i j) bX bY bZ →
    wY_solve_15 post J7 (nI i) (k + 1) (nI j) (nI m) (hp_i P) (hp_i Q) x y d bX bY bZ (hp_F a) (hp_F b) (hp_F c) := by
  intro k
  induction k with
  | zero =>
    intro j x y d bX bY bZ hj H
    have e : j = i := by omega
    subst e
    exact br_t (nI_le (by omega) (by omega)) (nm_r (nI_1 _) (hJ _ _ _ _ _ _ (hp_iv_c H hp_ny_r)))
  | succ k ih =>
    intro j x y d bX bY bZ hj H
    have hj' : j < i := by omega
    refine br_f (nI_ge (by omega) (by omega)) ?_
    refine hp_yms hm ok hi (by omega) (-1) (fun t bd g => br_f (by decide) ?_) (fun g x y d => br_t rfl (nm_r (nI_1 j) (ih (j + 1) _ _ _ _ _ _ (by omega) (hp_iv_c H (hp_ny_n g)))))
    rcases H with ⟨rfl, H⟩ | ⟨t', h1, h2, rfl, rfl, rfl, H⟩
    · exact br_t rfl (nm_r (nI_1 j) (ih (j + 1) _ _ _ _ _ _ (by omega) (Or.inr ⟨t, bd, hp_pr_d g, rfl, rfl, rfl, hp_be_1 (hp_pr_d g) H (hp_ny_y hj' g)⟩)))
    · refine br_f (hp_bz h1 h2) (hp_ybt hP hQ bd h1 (fun y => br_f (by decide) ?_) (fun y => br_t rfl ?_))
      · exact nm_r (nI_1 j) (ih (j + 1) _ _ _ _ _ _ (by omega) (Or.inr ⟨t, bd, hp_pr_d g, rfl, rfl, rfl, hp_be_y (fun t z => hp_ny_d t z) H (hp_ny_y hj' g) y⟩))
      · exact nm_r (nI_1 j) (ih (j + 1) _ _ _ _ _ _ (by omega) (Or.inr ⟨t', h1, h2, rfl, rfl, rfl, hp_be_n H (hp_ny_y hj' g) y⟩))
theorem hp_yso_o {post : Int32 → SY → Prop} (hm : m ≤ 10) (ok : hp_ok a b c) (hP : P.natAbs ≤ 9) (hQ : Q.natAbs ≤ 9)
    (h0 : (∀ t, ¬ hp_S a b c (hp_ty m) (-1) t) → ∀ x y d bX bY bZ, post 0 (hp_Y m P Q x y d bX bY bZ a b c))
    (h1 : ∀ t, hp_bd t → hp_be P Q (hp_S a b c (hp_ty m) (-1)) t → ∀ x y d, post 1 (hp_Y m P Q x y d (hp_i t.1) (hp_i t.2.1) (hp_i t.2.2) a b c)) :
    ∀ k i x y d bX bY bZ, i + k = 14 → hp_iv P Q (hp_ny a b c m (-1) i 0) bX bY bZ →
    wY_solve_7 post (k + 1) (nI i) (nI m) (hp_i P) (hp_i Q) x y d bX bY bZ (hp_F a) (hp_F b) (hp_F c) := by
  intro k
  induction k with
  | zero =>
    intro i x y d bX bY bZ hi H
    have e : i = 14 := by omega
    subst e
    refine br_t (nI_le (a := 14) (b := 14) (by omega) (by omega)) ?_
    rcases H with ⟨rfl, H⟩ | ⟨t, bd, hd, rfl, rfl, rfl, H⟩
    · exact br_t (by decide) (h0 (fun t z => H t ((hp_ny_e t).mpr z)) _ _ _ _ _ _)
    · refine hp_kle _ 0 rfl rfl (Nat.lt_of_le_of_lt bd.2.2 (by decide)) (by decide) (fun g => absurd g (by omega)) (fun g => ?_)
      exact h1 t bd (hp_be_c H (fun t => (hp_ny_e t).symm)) _ _ _
  | succ k ih =>
    intro i x y d bX bY bZ hi H
    refine br_f (nI_ge (b := 14) (by omega) (by omega)) ⟨i + 1, ?_⟩
    exact hp_yso_i (by omega) hm ok hP hQ (fun x y d bX bY bZ H' => ih (i + 1) _ _ _ _ _ _ (by omega) H') i 0 _ _ _ _ _ _ (by omega) H
theorem hp_yso {post : Int32 → SY → Prop} {x y d bX bY bZ : Int32} (hm : m ≤ 10) (ok : hp_ok a b c) (hP : P.natAbs ≤ 9) (hQ : Q.natAbs ≤ 9)
    (h0 : (∀ t, ¬ hp_S a b c (hp_ty m) (-1) t) → ∀ x y d bX bY bZ, post 0 (hp_Y m P Q x y d bX bY bZ a b c))
    (h1 : ∀ t, hp_bd t → hp_be P Q (hp_S a b c (hp_ty m) (-1)) t → ∀ x y d, post 1 (hp_Y m P Q x y d (hp_i t.1) (hp_i t.2.1) (hp_i t.2.2) a b c)) :
    wpY_solve post (hp_Y m P Q x y d bX bY bZ a b c) :=
  ⟨15, hp_yso_o hm ok hP hQ h0 h1 14 0 _ _ _ _ _ _ (by omega) (Or.inl ⟨rfl, hp_ny_0⟩)⟩
end
end
section
section
variable {m : Nat} {P Q : Int} {a b c : Nat → Int}
/-! Euclid, sixty steps -/
theorem hp_yg_l {post : Int32 → Prop} {x y d bX bY bZ : Int32} : ∀ r u v st k : Nat, st + r = 60 → k ≤ r → 0 < u → u < 2147483648 → v ≤ u → u * v < 2 ^ k → post (nI (Nat.gcd u v)) →
    wY_common_17 post (nI m) (hp_i P) (hp_i Q) x y d bX bY bZ (hp_F a) (hp_F b) (hp_F c) (r + 1) (nI u) (nI v) (nI st) := by
  intro r
  induction r with
  | zero =>
    intro u v st k hs hk h0 hu hv hp h
    have k0 : k = 0 := by omega
    subst k0
    have b0 := hp_e0 hv hp
    subst b0
    rw [Nat.gcd_zero_right] at h
    exact br_t (nI_le (a := 60) (by omega) (by omega)) (br_t (nI_le (a := 1) (by omega) (by omega)) h)
  | succ r ih =>
    intro u v st k hs hk h0 hu hv hp h
    refine br_f (nI_ge (b := 60) (by omega) (by omega)) ?_
    by_cases b0 : v = 0
    · subst b0
      exact br_t (by decide) (nm_r (nI_1 st) (ih u 0 (st + 1) 0 (by omega) (by omega) h0 hu hv (by rw [Nat.mul_zero]; decide) h))
    · have n0 : ¬ nI v = 0 := nI_ne0 (by omega) (by omega)
      obtain ⟨k', rfl⟩ : ∃ k', k = k' + 1 := by
        cases k with
        | zero => exact absurd (hp_e0 hv hp) b0
        | succ k' => exact ⟨k', rfl⟩
      refine br_f (nI_nle (by omega) (by omega)) ⟨n0, nm_r (pk_rem (by omega) (by omega) (by omega)) (nm_r (nI_1 st) (ih v (u % v) (st + 1) k' (by omega) (by omega) (by omega) (by omega) ?_ ?_ ?_))⟩
      · exact Nat.le_of_lt (Nat.mod_lt u (by omega))
      · exact hp_eu (by omega) hv hp
      · rw [hp_gr]; exact h
theorem hp_yg_1 {post : Int32 → Prop} {x y d bX bY bZ : Int32} {u v : Nat} (hu : u < 2147483648) (h0 : 0 < v) (hv : v ≤ 162) (h : post (nI (Nat.gcd u v))) :
    wY_common_17 post (nI m) (hp_i P) (hp_i Q) x y d bX bY bZ (hp_F a) (hp_F b) (hp_F c) 61 (nI u) (nI v) 0 := by
  have n0 : ¬ nI v = 0 := nI_ne0 (by omega) (by omega)
  refine br_f (by decide) (br_f (nI_nle (by omega) (by omega)) ⟨n0, nm_r (pk_rem (by omega) (by omega) (by omega)) (nm_r (nI_1 0) (hp_yg_l 59 v (u % v) 1 15 (by omega) (by omega) h0 (by omega) ?_ ?_ ?_))⟩)
  · exact Nat.le_of_lt (Nat.mod_lt u (by omega))
  · have h1 : u % v ≤ 162 := by have := Nat.mod_lt u h0; omega
    exact Nat.lt_of_le_of_lt (Nat.mul_le_mul hv h1) (by decide)
  · rw [hp_gr]; exact h
theorem hp_yg {post : Int32 → Prop} {x y e bX bY bZ : Int32} {u d : Int} (hu : u.natAbs < 2147483648) (h0 : 0 < d) (hd : d.natAbs ≤ 162) (h : post (nI (hp_gc u d))) :
    wpY_common post (hp_Y m P Q x y e bX bY bZ a b c) (hp_i u) (hp_i d) := by
  unfold wpY_common
  dsimp only
  rw [hp_ab (u := d) (by omega)]
  refine hp_kle 0 u rfl rfl (by decide) hu (fun g => ⟨61, ?_⟩) (fun g => nm_r (hp_an g) ⟨61, ?_⟩)
  · rw [hp_ab g]
    exact hp_yg_1 hu (by omega) hd h
  · exact hp_yg_1 hu (by omega) hd h
theorem hp_ylt {post : Int32 → Prop} {x y e bX bY bZ : Int32} {u d : Int} (hu : u.natAbs < 2147483648) (h0 : 0 < d) (hd : d.natAbs ≤ 162) (h : post (hp_i (hp_lo u d))) :
    wpY_top post (hp_Y m P Q x y e bX bY bZ a b c) (hp_i u) (hp_i d) := by
  have g0 := hp_gp u h0
  have g1 := hp_gl u h0 hd
  have e := hp_lo_e u h0
  unfold wpY_top
  dsimp only
  refine hp_yg hu h0 hd (br_t (nI_le (a := 1) (by omega) (by omega)) ⟨nI_ne0 (by omega) (by omega), ?_⟩)
  rw [hp_dv e g0 (by omega) hu]; exact h
theorem hp_ylb {post : Int32 → Prop} {x y e bX bY bZ : Int32} {u d : Int} (hu : u.natAbs < 2147483648) (h0 : 0 < d) (hd : d.natAbs ≤ 162) (h : post (hp_i (hp_lb u d))) :
    wpY_bottom post (hp_Y m P Q x y e bX bY bZ a b c) (hp_i u) (hp_i d) := by
  have g0 := hp_gp u h0
  have g1 := hp_gl u h0 hd
  have e := hp_lb_e u h0
  unfold wpY_bottom
  dsimp only
  refine hp_yg hu h0 hd (br_t (nI_le (a := 1) (by omega) (by omega)) ⟨nI_ne0 (by omega) (by omega), ?_⟩)
  rw [hp_dv e g0 (by omega) (by omega)]; exact h
/-! the reference's questions -/
section
variable {post : Int32 → SY → Prop} {x y d bX bY bZ : Int32}
theorem hp_y_em (hm : m ≤ 10) (ok : hp_ok a b c) (hP : P.natAbs ≤ 9) (hQ : Q.natAbs ≤ 9)
    (h0 : (∀ t, ¬ hp_S a b c (hp_ty m) (-1) t) → ∀ x y d bX bY bZ, post 1 (hp_Y m P Q x y d bX bY bZ a b c))
    (h1 : ∀ t, hp_bd t → hp_be P Q (hp_S a b c (hp_ty m) (-1)) t → ∀ x y d bX bY bZ, post 0 (hp_Y m P Q x y d bX bY bZ a b c)) :
    wpY_empty post (hp_Y m P Q x y d bX bY bZ a b c) := by
  unfold wpY_empty
  dsimp only
  exact hp_yso hm ok hP hQ (fun h x y d bX bY bZ => br_t rfl (h0 h _ _ _ _ _ _)) (fun t bd h x y d => br_f (by decide) (h1 t bd h _ _ _ _ _ _))
theorem hp_y_vt (hm : m ≤ 10) (ok : hp_ok a b c) (hP : P.natAbs ≤ 9) (hQ : Q.natAbs ≤ 9)
    (h0 : (∀ t, ¬ hp_S a b c (hp_ty m) (-1) t) → ∀ x y d bX bY bZ, post 0 (hp_Y m P Q x y d bX bY bZ a b c))
    (h1 : ∀ t, hp_bd t → hp_be P Q (hp_S a b c (hp_ty m) (-1)) t → ∀ x y d bX bY bZ, post (hp_i (hp_lo (hp_v P Q t) t.2.2)) (hp_Y m P Q x y d bX bY bZ a b c)) :
    wpY_valueTop post (hp_Y m P Q x y d bX bY bZ a b c) := by
  unfold wpY_valueTop
  dsimp only
  refine hp_yso hm ok hP hQ (fun h x y d bX bY bZ => br_t rfl (h0 h _ _ _ _ _ _)) (fun t bd h x y d => br_f (by decide) ?_)
  rw [hp_mul, hp_mul, hp_add]
  exact hp_ylt (hp_bvl hP hQ bd) (hp_S_d h.1) bd.2.2 (h1 t bd h _ _ _ _ _ _)
theorem hp_y_vb (hm : m ≤ 10) (ok : hp_ok a b c) (hP : P.natAbs ≤ 9) (hQ : Q.natAbs ≤ 9)
    (h0 : (∀ t, ¬ hp_S a b c (hp_ty m) (-1) t) → ∀ x y d bX bY bZ, post 0 (hp_Y m P Q x y d bX bY bZ a b c))
    (h1 : ∀ t, hp_bd t → hp_be P Q (hp_S a b c (hp_ty m) (-1)) t → ∀ x y d bX bY bZ, post (hp_i (hp_lb (hp_v P Q t) t.2.2)) (hp_Y m P Q x y d bX bY bZ a b c)) :
    wpY_valueBottom post (hp_Y m P Q x y d bX bY bZ a b c) := by
  unfold wpY_valueBottom
  dsimp only
  refine hp_yso hm ok hP hQ (fun h x y d bX bY bZ => br_t rfl (h0 h _ _ _ _ _ _)) (fun t bd h x y d => br_f (by decide) ?_)
  rw [hp_mul, hp_mul, hp_add]
  exact hp_ylb (hp_bvl hP hQ bd) (hp_S_d h.1) bd.2.2 (h1 t bd h _ _ _ _ _ _)
theorem hp_y_xt (hm : m ≤ 10) (ok : hp_ok a b c) (hP : P.natAbs ≤ 9) (hQ : Q.natAbs ≤ 9)
    (h0 : (∀ t, ¬ hp_S a b c (hp_ty m) (-1) t) → ∀ x y d bX bY bZ, post 0 (hp_Y m P Q x y d bX bY bZ a b c))
    (h1 : ∀ t, hp_bd t → hp_be P Q (hp_S a b c (hp_ty m) (-1)) t → ∀ x y d bX bY bZ, post (hp_i (hp_lo t.1 t.2.2)) (hp_Y m P Q x y d bX bY bZ a b c)) :
    wpY_xTop post (hp_Y m P Q x y d bX bY bZ a b c) := by
  unfold wpY_xTop
  dsimp only
  refine hp_yso hm ok hP hQ (fun h x y d bX bY bZ => br_t rfl (h0 h _ _ _ _ _ _)) (fun t bd h x y d => br_f (by decide) ?_)
  exact hp_ylt (Nat.lt_of_le_of_lt bd.1 (by decide)) (hp_S_d h.1) bd.2.2 (h1 t bd h _ _ _ _ _ _)
theorem hp_y_xb (hm : m ≤ 10) (ok : hp_ok a b c) (hP : P.natAbs ≤ 9) (hQ : Q.natAbs ≤ 9)
    (h0 : (∀ t, ¬ hp_S a b c (hp_ty m) (-1) t) → ∀ x y d bX bY bZ, post 0 (hp_Y m P Q x y d bX bY bZ a b c))
    (h1 : ∀ t, hp_bd t → hp_be P Q (hp_S a b c (hp_ty m) (-1)) t → ∀ x y d bX bY bZ, post (hp_i (hp_lb t.1 t.2.2)) (hp_Y m P Q x y d bX bY bZ a b c)) :
    wpY_xBottom post (hp_Y m P Q x y d bX bY bZ a b c) := by
  unfold wpY_xBottom
  dsimp only
  refine hp_yso hm ok hP hQ (fun h x y d bX bY bZ => br_t rfl (h0 h _ _ _ _ _ _)) (fun t bd h x y d => br_f (by decide) ?_)
  exact hp_ylb (Nat.lt_of_le_of_lt bd.1 (by decide)) (hp_S_d h.1) bd.2.2 (h1 t bd h _ _ _ _ _ _)
theorem hp_y_yt (hm : m ≤ 10) (ok : hp_ok a b c) (hP : P.natAbs ≤ 9) (hQ : Q.natAbs ≤ 9)
    (h0 : (∀ t, ¬ hp_S a b c (hp_ty m) (-1) t) → ∀ x y d bX bY bZ, post 0 (hp_Y m P Q x y d bX bY bZ a b c))
    (h1 : ∀ t, hp_bd t → hp_be P Q (hp_S a b c (hp_ty m) (-1)) t → ∀ x y d bX bY bZ, post (hp_i (hp_lo t.2.1 t.2.2)) (hp_Y m P Q x y d bX bY bZ a b c)) :
    wpY_yTop post (hp_Y m P Q x y d bX bY bZ a b c) := by
  unfold wpY_yTop
  dsimp only
  refine hp_yso hm ok hP hQ (fun h x y d bX bY bZ => br_t rfl (h0 h _ _ _ _ _ _)) (fun t bd h x y d => br_f (by decide) ?_)
  exact hp_ylt (Nat.lt_of_le_of_lt bd.2.1 (by decide)) (hp_S_d h.1) bd.2.2 (h1 t bd h _ _ _ _ _ _)
theorem hp_y_yb (hm : m ≤ 10) (ok : hp_ok a b c) (hP : P.natAbs ≤ 9) (hQ : Q.natAbs ≤ 9)
    (h0 : (∀ t, ¬ hp_S a b c (hp_ty m) (-1) t) → ∀ x y d bX bY bZ, post 0 (hp_Y m P Q x y d bX bY bZ a b c))
    (h1 : ∀ t, hp_bd t → hp_be P Q (hp_S a b c (hp_ty m) (-1)) t → ∀ x y d bX bY bZ, post (hp_i (hp_lb t.2.1 t.2.2)) (hp_Y m P Q x y d bX bY bZ a b c)) :
    wpY_yBottom post (hp_Y m P Q x y d bX bY bZ a b c) := by
  unfold wpY_yBottom
  dsimp only
  refine hp_yso hm ok hP hQ (fun h x y d bX bY bZ => br_t rfl (h0 h _ _ _ _ _ _)) (fun t bd h x y d => br_f (by decide) ?_)
  exact hp_ylb (Nat.lt_of_le_of_lt bd.2.1 (by decide)) (hp_S_d h.1) bd.2.2 (h1 t bd h _ _ _ _ _ _)
theorem hp_yti_l {t : hp_T} (hm : m ≤ 10) (ok : hp_ok a b c) (bd : hp_bd t)
    (h : post (nI (hp_ct (hp_ti a b c t) m)) (hp_Y m P Q x y d (hp_i t.1) (hp_i t.2.1) (hp_i t.2.2) a b c)) :
    ∀ k i, i + k = m → wY_tight_13 post (nI m) (hp_i P) (hp_i Q) x y d (hp_i t.1) (hp_i t.2.1) (hp_i t.2.2) (hp_F a) (hp_F b) (hp_F c) (k + 1) (nI (hp_ct (hp_ti a b c t) i)) (nI i) := by
  intro k
  induction k with
  | zero =>
    intro i hi
    have e : i = m := by omega
    subst e
    exact br_t (nI_le (by omega) (by omega)) h
  | succ k ih =>
    intro i hi
    have hi' : i < 14 := by omega
    have vi : vp_in (nI i) 14 := vp_in_nI hi' (by omega)
    refine br_f (nI_ge (by omega) (by omega)) (br_f (nI_ge (b := 10) (by omega) (by omega)) ⟨vi, vi, vi, ?_⟩)
    rw [hp_Fc c hi', hp_Fc a hi', hp_Fc b hi', hp_mul, hp_mul, hp_mul, hp_add]
    refine hp_keq _ _ rfl rfl (hp_bl1 ok i bd) (hp_bl2 ok i bd) (fun g => ?_) (fun g => ?_)
    · refine nm_r (nI_1 _) (nm_r (nI_1 i) ?_)
      have := ih (i + 1) (by omega)
      rw [hp_ct_y (p := hp_ti a b c t) g] at this
      exact this
    · refine nm_r (nI_1 i) ?_
      have := ih (i + 1) (by omega)
      rw [hp_ct_n (p := hp_ti a b c t) g] at this
      exact this
theorem hp_y_ti (hm : m ≤ 10) (ok : hp_ok a b c) (hP : P.natAbs ≤ 9) (hQ : Q.natAbs ≤ 9)
    (h0 : (∀ t, ¬ hp_S a b c (hp_ty m) (-1) t) → ∀ x y d bX bY bZ, post (-1) (hp_Y m P Q x y d bX bY bZ a b c))
    (h1 : ∀ t, hp_bd t → hp_be P Q (hp_S a b c (hp_ty m) (-1)) t → ∀ x y d bX bY bZ, post (nI (hp_ct (hp_ti a b c t) m)) (hp_Y m P Q x y d bX bY bZ a b c)) :
    wpY_tight post (hp_Y m P Q x y d bX bY bZ a b c) := by
  unfold wpY_tight
  dsimp only
  refine hp_yso hm ok hP hQ (fun h x y d bX bY bZ => br_t rfl (h0 h _ _ _ _ _ _)) (fun t bd h x y d => br_f (by decide) ⟨m + 1, ?_⟩)
  exact hp_yti_l hm ok bd (h1 t bd h _ _ _ _ _ _) m 0 (by omega)
/-! redundant -/
theorem hp_yrd_i {J : Int32 → Int32 → Int32 → Int32 → Int32 → Int32 → Int32 → Int32 → Int32 → Int32 → (Nat → Int32) → (Nat → Int32) → (Nat → Int32) → Prop} {s i : Nat} (hs : s < 14) (hi : i < 14)
    (hm : m ≤ 10) (ok : hp_ok a b c)
    (h0 : (∃ t, hp_S a b c (hp_ty m) (nI s) t ∧ hp_cu a b c s t) → ∀ x y d bX bY bZ, post 0 (hp_Y m P Q x y d bX bY bZ a b c))
    (hJ : (∀ t, hp_ny a b c m (nI s) (i + 1) 0 t → ¬ hp_cu a b c s t) → ∀ x y d bX bY bZ, J (nI (i + 1)) (nI m) (hp_i P) (hp_i Q) x y d bX bY bZ (hp_F a) (hp_F b) (hp_F c)) :
    ∀ k j x y d bX bY bZ, j + k = i → (∀ t, hp_ny a b c m (nI s) i j t → ¬ hp_cu a b c s t) →
    wY_redundant_20 post J (nI s) (nI i) (k + 1) (nI j) (nI m) (hp_i P) (hp_i Q) x y d bX bY bZ (hp_F a) (hp_F b) (hp_F c) := by
  have vs : vp_in (nI s) 14 := vp_in_nI hs (by omega)
  intro k
  induction k with
  | zero =>
    intro j x y d bX bY bZ hj H
    have e : j = i := by omega
    subst e
    exact br_t (nI_le (by omega) (by omega)) (nm_r (nI_1 _) (hJ (fun t z => H t ((hp_ny_r t).mp z)) _ _ _ _ _ _))
  | succ k ih =>
    intro j x y d bX bY bZ hj H
    have hj' : j < i := by omega
    refine br_f (nI_ge (by omega) (by omega)) ?_
    refine hp_yms hm ok hi (by omega) (nI s) (fun t bd g => br_f (by decide) ⟨vs, vs, vs, ?_⟩) (fun g x y d => br_t rfl (nm_r (nI_1 j) (ih (j + 1) _ _ _ _ _ _ (by omega) (fun t z => H t ((hp_ny_n g t).mp z)))))
    rw [hp_Fc c hs, hp_Fc a hs, hp_Fc b hs, hp_mul, hp_mul, hp_mul, hp_add]
    refine hp_kle _ _ rfl rfl (hp_bl1 ok s bd) (hp_bl2 ok s bd) (fun y => ?_) (fun y => ?_)
    · refine nm_r (nI_1 j) (ih (j + 1) _ _ _ _ _ _ (by omega) (fun t' z => ?_))
      rcases (hp_ny_y hj' g t').mp z with z | rfl
      · exact H t' z
      · unfold hp_cu; omega
    · refine h0 ⟨t, ?_, y⟩ _ _ _ _ _ _
      rcases g with ⟨g, e⟩ | ⟨g, e⟩
      · exact ⟨_, _, g, e⟩
      · exact ⟨_, _, g, e⟩
theorem hp_yrd_o {s : Nat} (hs : s < 14) (hm : m ≤ 10) (ok : hp_ok a b c)
    (h0 : (∃ t, hp_S a b c (hp_ty m) (nI s) t ∧ hp_cu a b c s t) → ∀ x y d bX bY bZ, post 0 (hp_Y m P Q x y d bX bY bZ a b c))
    (h1 : (∀ t, hp_S a b c (hp_ty m) (nI s) t → ¬ hp_cu a b c s t) → ∀ x y d bX bY bZ, post 1 (hp_Y m P Q x y d bX bY bZ a b c)) :
    ∀ k i x y d bX bY bZ, i + k = 14 → (∀ t, hp_ny a b c m (nI s) i 0 t → ¬ hp_cu a b c s t) →
    wY_redundant_12 post (nI s) (k + 1) (nI i) (nI m) (hp_i P) (hp_i Q) x y d bX bY bZ (hp_F a) (hp_F b) (hp_F c) := by
  intro k
  induction k with
  | zero =>
    intro i x y d bX bY bZ hi H
    have e : i = 14 := by omega
    subst e
    exact br_t (nI_le (a := 14) (b := 14) (by omega) (by omega)) (h1 (fun t z => H t ((hp_ny_e t).mpr z)) _ _ _ _ _ _)
  | succ k ih =>
    intro i x y d bX bY bZ hi H
    refine br_f (nI_ge (b := 14) (by omega) (by omega)) ⟨i + 1, ?_⟩
    exact hp_yrd_i hs (by omega) hm ok h0 (fun H' x y d bX bY bZ => ih (i + 1) _ _ _ _ _ _ (by omega) H') i 0 _ _ _ _ _ _ (by omega) H
theorem hp_yrd {s : Nat} (hs : s < 14) (hm : m ≤ 10) (ok : hp_ok a b c)
    (h0 : (∃ t, hp_S a b c (hp_ty m) (nI s) t ∧ hp_cu a b c s t) → ∀ x y d bX bY bZ, post 0 (hp_Y m P Q x y d bX bY bZ a b c))
    (h1 : (∀ t, hp_S a b c (hp_ty m) (nI s) t → ¬ hp_cu a b c s t) → ∀ x y d bX bY bZ, post 1 (hp_Y m P Q x y d bX bY bZ a b c)) :
    ∃ n12 : Nat, wY_redundant_12 post (nI s) n12 0 (nI m) (hp_i P) (hp_i Q) x y d bX bY bZ (hp_F a) (hp_F b) (hp_F c) :=
  ⟨15, hp_yrd_o hs hm ok h0 h1 14 0 _ _ _ _ _ _ (by omega) (fun t z => absurd z (hp_ny_0 t))⟩
/-! corners -/
theorem hp_yea_53 {J20 J29 : Int32 → Int32 → Int32 → Int32 → Int32 → Int32 → Int32 → Int32 → Int32 → Int32 → (Nat → Int32) → (Nat → Int32) → (Nat → Int32) → Prop} {x1 x2 : Int32} {t0 : hp_T} {k l : Nat} (hm : m ≤ 10) (ok : hp_ok a b c) (b0 : hp_bd t0) (hk : k < 14) (hl : l < 14)
    (h1 : ∀ t, hp_pr a b c m (-1) k l t → hp_sm t t0 → ∀ x y d, post 1 (hp_Y m P Q x y d bX bY bZ a b c))
    (hJ : (∀ t, hp_pr a b c m (-1) k l t → ¬ hp_sm t t0) → ∀ x y d, J29 (nI (l + 1)) (nI m) (hp_i P) (hp_i Q) x y d bX bY bZ (hp_F a) (hp_F b) (hp_F c)) :
    wY_earlier_53 post J20 J29 x1 x2 (hp_i t0.1) (hp_i t0.2.1) (hp_i t0.2.2) (nI k) (nI l) 1 (nI m) (hp_i P) (hp_i Q) x y d bX bY bZ (hp_F a) (hp_F b) (hp_F c) := by
  refine br_f (by decide) ?_
  refine hp_yms hm ok hk hl (-1) (fun t bd g => br_f (by decide) ?_) (fun g x y d => br_t rfl (nm_r (nI_1 l) (hJ (fun t z => absurd z (g t)) _ _ _)))
  rw [hp_mul, hp_mul, hp_mul, hp_mul]
  refine hp_keq _ _ rfl rfl (hp_bc1 (hp_bd1 bd) b0.2.2) (hp_bc1 (hp_bd1 b0) bd.2.2) (fun e1 => ?_) (fun e1 => nm_r (nI_1 l) (hJ (fun t' z s => ?_) _ _ _))
  · refine hp_keq _ _ rfl rfl (hp_bc1 (hp_bd2 bd) b0.2.2) (hp_bc1 (hp_bd2 b0) bd.2.2) (fun e2 => h1 t g ⟨e1, e2⟩ _ _ _) (fun e2 => nm_r (nI_1 l) (hJ (fun t' z s => ?_) _ _ _))
    rw [hp_pr_u g z] at s
    exact e2 s.2
  · rw [hp_pr_u g z] at s
    exact e1 s.1
theorem hp_yea_i {J20 : Int32 → Int32 → Int32 → Int32 → Int32 → Int32 → Int32 → Int32 → Int32 → Int32 → (Nat → Int32) → (Nat → Int32) → (Nat → Int32) → Prop} {t0 : hp_T} {i j k : Nat} (hm : m ≤ 10) (ok : hp_ok a b c) (b0 : hp_bd t0) (hi : i < 14) (hj : j < i) (hk : k ≤ i)
    (h1 : (∃ t, hp_ny a b c m (-1) i j t ∧ hp_sm t t0) → ∀ x y d, post 1 (hp_Y m P Q x y d bX bY bZ a b c))
    (hJ : (∀ t, hp_ny a b c m (-1) (k + 1) 0 t → hp_ny a b c m (-1) i j t → ¬ hp_sm t t0) → ∀ x y d, J20 (nI (k + 1)) (nI m) (hp_i P) (hp_i Q) x y d bX bY bZ (hp_F a) (hp_F b) (hp_F c)) :
    ∀ r l x y d, l + r = k → (∀ t, hp_ny a b c m (-1) k l t → hp_ny a b c m (-1) i j t → ¬ hp_sm t t0) →
    wY_earlier_29 post J20 (nI i) (nI j) (hp_i t0.1) (hp_i t0.2.1) (hp_i t0.2.2) (nI k) (r + 1) (nI l) (nI m) (hp_i P) (hp_i Q) x y d bX bY bZ (hp_F a) (hp_F b) (hp_F c) := by
  intro r
  induction r with
  | zero =>
    intro l x y d hl H
    have e : l = k := by omega
    subst e
    exact br_t (nI_le (by omega) (by omega)) (nm_r (nI_1 _) (hJ (fun t z => H t ((hp_ny_r t).mp z)) _ _ _))
  | succ r ih =>
    intro l x y d hl H
    have hl' : l < k := by omega
    have main : (k < i ∨ (k = i ∧ l < j)) → wY_earlier_53 post J20 (wY_earlier_29 post J20 (nI i) (nI j) (hp_i t0.1) (hp_i t0.2.1) (hp_i t0.2.2) (nI k) (r + 1)) (nI i) (nI j) (hp_i t0.1) (hp_i t0.2.1) (hp_i t0.2.2) (nI k) (nI l) 1 (nI m) (hp_i P) (hp_i Q) x y d bX bY bZ (hp_F a) (hp_F b) (hp_F c) := by
      intro hb
      refine hp_yea_53 hm ok b0 (by omega) (by omega) (fun t g s => h1 ⟨t, ⟨k, l, hl', hb, g⟩, s⟩) (fun g x y d => ih (l + 1) _ _ _ (by omega) (fun t z z' => ?_))
      obtain ⟨k', l', q1, q2, q3⟩ := z
      by_cases q : k' = k ∧ l' = l
      · obtain ⟨rfl, rfl⟩ := q
        exact g t q3
      · exact H t ⟨k', l', q1, by omega, q3⟩ z'
    refine br_f (nI_ge (by omega) (by omega)) ?_
    refine pk_lt k i (fun g => main (Or.inl g)) (fun g => ?_)
    refine pk_le j l (fun g' => ?_) (fun g' => main (Or.inr ⟨by omega, g'⟩))
    refine br_t rfl (nm_r (nI_1 l) (ih (l + 1) _ _ _ (by omega) (fun t z z' => H t ?_ z')))
    have e : k = i := by omega
    subst e
    exact hp_ny_m g' z'
theorem hp_yea_o {t0 : hp_T} {i j : Nat} (hm : m ≤ 10) (ok : hp_ok a b c) (b0 : hp_bd t0) (hi : i < 14) (hj : j < i)
    (h1 : (∃ t, hp_ny a b c m (-1) i j t ∧ hp_sm t t0) → ∀ x y d, post 1 (hp_Y m P Q x y d bX bY bZ a b c))
    (h0 : (∀ t, hp_ny a b c m (-1) i j t → ¬ hp_sm t t0) → ∀ x y d, post 0 (hp_Y m P Q x y d bX bY bZ a b c)) :
    ∀ r k x y d, k + r = i + 1 → (∀ t, hp_ny a b c m (-1) k 0 t → hp_ny a b c m (-1) i j t → ¬ hp_sm t t0) →
    wY_earlier_20 post (nI i) (nI j) (hp_i t0.1) (hp_i t0.2.1) (hp_i t0.2.2) (r + 1) (nI k) (nI m) (hp_i P) (hp_i Q) x y d bX bY bZ (hp_F a) (hp_F b) (hp_F c) := by
  intro r
  induction r with
  | zero =>
    intro k x y d hk H
    have e : k = i + 1 := by omega
    subst e
    exact br_t (nI_lt (by omega) (by omega)) (h0 (fun t z => H t ((hp_ny_r t).mpr (hp_ny_m (by omega) z)) z) _ _ _)
  | succ r ih =>
    intro k x y d hk H
    refine br_f (nI_nlt (by omega) (by omega)) ⟨k + 1, ?_⟩
    exact hp_yea_i hm ok b0 hi hj (by omega) h1 (fun H' x y d => ih (k + 1) _ _ _ (by omega) H') k 0 _ _ _ (by omega) H
theorem hp_yea {t0 : hp_T} {i j : Nat} (hm : m ≤ 10) (ok : hp_ok a b c) (b0 : hp_bd t0) (hi : i < 14) (hj : j < i)
    (h1 : (∃ t, hp_ny a b c m (-1) i j t ∧ hp_sm t t0) → ∀ x y d, post 1 (hp_Y m P Q x y d bX bY bZ a b c))
    (h0 : (∀ t, hp_ny a b c m (-1) i j t → ¬ hp_sm t t0) → ∀ x y d, post 0 (hp_Y m P Q x y d bX bY bZ a b c)) :
    wpY_earlier post (hp_Y m P Q (hp_i t0.1) (hp_i t0.2.1) (hp_i t0.2.2) bX bY bZ a b c) (nI i) (nI j) :=
  ⟨i + 2, hp_yea_o hm ok b0 hi hj h1 h0 (i + 1) 0 _ _ _ (by omega) (fun t z => absurd z (hp_ny_0 t))⟩
theorem hp_ycs_i {J : Int32 → Int32 → Int32 → Int32 → Int32 → Int32 → Int32 → Int32 → Int32 → Int32 → Int32 → (Nat → Int32) → (Nat → Int32) → (Nat → Int32) → Prop} {i : Nat} (hi : i < 14) (hm : m ≤ 10) (ok : hp_ok a b c)
    (hJ : ∀ L, hp_rp (hp_ny a b c m (-1) (i + 1) 0) L → ∀ x y d, J (nI L.length) (nI (i + 1)) (nI m) (hp_i P) (hp_i Q) x y d bX bY bZ (hp_F a) (hp_F b) (hp_F c)) :
    ∀ k j L x y d, j + k = i → hp_rp (hp_ny a b c m (-1) i j) L →
    wY_corners_12 post J (nI i) (k + 1) (nI L.length) (nI j) (nI m) (hp_i P) (hp_i Q) x y d bX bY bZ (hp_F a) (hp_F b) (hp_F c) := by
  intro k
  induction k with
  | zero =>
    intro j L x y d hj H
    have e : j = i := by omega
    subst e
    exact br_t (nI_le (by omega) (by omega)) (nm_r (nI_1 _) (hJ L (hp_rp_c H hp_ny_r) _ _ _))
  | succ k ih =>
    intro j L x y d hj H
    have hj' : j < i := by omega
    refine br_f (nI_ge (by omega) (by omega)) ?_
    refine hp_yms hm ok hi (by omega) (-1) (fun t bd g => br_f (by decide) ?_) (fun g x y d => br_t rfl (nm_r (nI_1 j) (ih (j + 1) L _ _ _ (by omega) (hp_rp_c H (hp_ny_n g)))))
    refine hp_yea hm ok bd hi hj' (fun q x y d => br_f (by decide) (nm_r (nI_1 j) (ih (j + 1) L _ _ _ (by omega) (hp_rp_n (fun t z => hp_ny_d t z) H (hp_ny_y hj' g) q)))) (fun q x y d => br_t rfl ?_)
    refine nm_r (nI_1 _) (nm_r (nI_1 j) ?_)
    have := ih (j + 1) (t :: L) x y d (by omega) (hp_rp_y H (hp_ny_y hj' g) q)
    rw [List.length_cons] at this
    exact this
theorem hp_ycs_o (hm : m ≤ 10) (ok : hp_ok a b c)
    (h1 : ∀ L, hp_rp (hp_S a b c (hp_ty m) (-1)) L → ∀ x y d, post (nI L.length) (hp_Y m P Q x y d bX bY bZ a b c)) :
    ∀ k i L x y d, i + k = 14 → hp_rp (hp_ny a b c m (-1) i 0) L →
    wY_corners_4 post (k + 1) (nI L.length) (nI i) (nI m) (hp_i P) (hp_i Q) x y d bX bY bZ (hp_F a) (hp_F b) (hp_F c) := by
  intro k
  induction k with
  | zero =>
    intro i L x y d hi H
    have e : i = 14 := by omega
    subst e
    exact br_t (nI_le (a := 14) (b := 14) (by omega) (by omega)) (h1 L (hp_rp_c H (fun t => (hp_ny_e t).symm)) _ _ _)
  | succ k ih =>
    intro i L x y d hi H
    refine br_f (nI_ge (b := 14) (by omega) (by omega)) ⟨i + 1, ?_⟩
    exact hp_ycs_i (by omega) hm ok (fun L' H' x y d => ih (i + 1) L' _ _ _ (by omega) H') i 0 L _ _ _ (by omega) H
theorem hp_y_cs (hm : m ≤ 10) (ok : hp_ok a b c)
    (h1 : ∀ L, hp_rp (hp_S a b c (hp_ty m) (-1)) L → ∀ x y d, post (nI L.length) (hp_Y m P Q x y d bX bY bZ a b c)) :
    wpY_corners post (hp_Y m P Q x y d bX bY bZ a b c) :=
  ⟨15, hp_ycs_o hm ok h1 14 0 [] _ _ _ (by omega) (hp_rp_0 hp_ny_0)⟩
end
/-! grid -/
section
variable {post : Int32 → Prop} {x y d bX bY bZ : Int32}
theorem hp_ygr_i {J5 : Int32 → Int32 → Prop} {u : Nat} (hu : u < 41) (hm : m ≤ 10) (ok : hp_ok a b c)
    (hJ : J5 (nI (hp_cs (fun u v => hp_al a b c (hp_ty m) (-1) (hp_gt u v)) (u + 1))) (hp_i (((u + 1 : Nat) : Int) - 20))) :
    ∀ k v, v + k = 41 → wY_grid_14 post J5 (hp_i ((u : Int) - 20)) (nI m) (hp_i P) (hp_i Q) x y d bX bY bZ (hp_F a) (hp_F b) (hp_F c) (k + 1)
      (nI (hp_cs (fun u v => hp_al a b c (hp_ty m) (-1) (hp_gt u v)) u + hp_ct (fun v => hp_al a b c (hp_ty m) (-1) (hp_gt u v)) v)) (hp_i ((v : Int) - 20)) := by
  intro k
  induction k with
  | zero =>
    intro v hv
    have e : v = 41 := by omega
    subst e
    exact br_t (by decide) (nm_r (hp_g1 u) hJ)
  | succ k ih =>
    intro v hv
    have hv' : v < 41 := by omega
    refine hp_klt 20 _ rfl rfl (by decide) (by omega) (fun g => absurd g (by omega)) (fun g => ?_)
    refine hp_yal hm ok (-1) (hp_gt u v) (hp_gd hu hv') (fun y => br_f (by decide) ?_) (fun y => br_t rfl ?_)
    · refine nm_r (nI_1 _) (nm_r (hp_g1 v) ?_)
      have := ih (v + 1) (by omega)
      rw [hp_ct_y (p := fun v => hp_al a b c (hp_ty m) (-1) (hp_gt u v)) y] at this
      exact this
    · refine nm_r (hp_g1 v) ?_
      have := ih (v + 1) (by omega)
      rw [hp_ct_n (p := fun v => hp_al a b c (hp_ty m) (-1) (hp_gt u v)) y] at this
      exact this
theorem hp_ygr_o (hm : m ≤ 10) (ok : hp_ok a b c)
    (h : post (nI (hp_cs (fun u v => hp_al a b c (hp_ty m) (-1) (hp_gt u v)) 41))) :
    ∀ k u, u + k = 41 → wY_grid_5 post (nI m) (hp_i P) (hp_i Q) x y d bX bY bZ (hp_F a) (hp_F b) (hp_F c) (k + 1)
      (nI (hp_cs (fun u v => hp_al a b c (hp_ty m) (-1) (hp_gt u v)) u)) (hp_i ((u : Int) - 20)) := by
  intro k
  induction k with
  | zero =>
    intro u hu
    have e : u = 41 := by omega
    subst e
    exact br_t (by decide) h
  | succ k ih =>
    intro u hu
    refine hp_klt 20 _ rfl rfl (by decide) (by omega) (fun g => absurd g (by omega)) (fun g => ⟨42, ?_⟩)
    exact hp_ygr_i (by omega) hm ok (ih (u + 1) (by omega)) 41 0 (by omega)
theorem hp_y_gr (hm : m ≤ 10) (ok : hp_ok a b c)
    (h : post (nI (hp_cs (fun u v => hp_al a b c (hp_ty m) (-1) (hp_gt u v)) 41))) : wpY_grid post (hp_Y m P Q x y d bX bY bZ a b c) :=
  ⟨42, hp_ygr_o hm ok h 41 0 (by omega)⟩
end
end
end
section
/-! the two sides meet -/
section
variable {m : Nat} {P Q : Int} {a b c : Nat → Int}
theorem hp_gty (hm : m ≤ 10) {s : Nat} (h : s < m + 4) : hp_ty m (hp_g s) := by
  unfold hp_ty hp_g
  repeat' split
  all_goals omega
theorem hp_htx {i : Nat} (h : hp_ty m i) : hp_h i < m + 4 := by
  unfold hp_ty at h
  unfold hp_h
  repeat' split
  all_goals omega
/-- what is left out is the same -/
def hp_ww (m : Nat) (w w' : Int32) : Prop := ∀ s, s < m + 4 → (nI s ≠ w ↔ nI (hp_g s) ≠ w')
theorem hp_ww_1 (hm : m ≤ 10) : hp_ww m (-1) (-1) :=
  fun s hs => ⟨fun _ => hp_m1 _ (hp_gty hm hs).1, fun _ => hp_m1 _ (by omega)⟩
theorem hp_ww_j (hm : m ≤ 10) {j : Nat} (hj : j < m) : hp_ww m (nI (4 + j)) (nI j) := by
  intro s hs
  rw [hp_nn (by omega) (by omega), hp_nn (hp_gty hm hs).1 (by omega)]
  unfold hp_g
  repeat' split
  all_goals omega
theorem hp_al_i {w w' : Int32} (hm : m ≤ 10) (hw : hp_ww m w w') (t : hp_T) :
    hp_al (fun s => a (hp_g s)) (fun s => b (hp_g s)) (fun s => c (hp_g s)) (hp_tx (m + 4)) w t ↔ hp_al a b c (hp_ty m) w' t := by
  constructor
  · intro H i hi hn
    have hx := hp_htx hi
    have e := hp_gh i
    have := H (hp_h i) hx ((hw _ hx).mpr (by rw [e]; exact hn))
    dsimp only at this
    rw [e] at this
    exact this
  · intro H s hs hn
    exact H (hp_g s) (hp_gty hm hs) ((hw s hs).mp hn)
theorem hp_S_i {w w' : Int32} (hm : m ≤ 10) (hw : hp_ww m w w') :
    hp_S (fun s => a (hp_g s)) (fun s => b (hp_g s)) (fun s => c (hp_g s)) (hp_tx (m + 4)) w = hp_S a b c (hp_ty m) w' := by
  funext t
  apply propext
  constructor
  · intro z
    obtain ⟨i, j, ⟨⟨h1, h2, h3, h4, h5⟩, h6⟩, h7⟩ := z
    exact ⟨hp_g i, hp_g j, ⟨⟨hp_gty hm h1, hp_gty hm h2, (hw _ h1).mp h3, (hw _ h2).mp h4, h5⟩, (hp_al_i hm hw _).mp h6⟩, h7⟩
  · intro z
    obtain ⟨i, j, ⟨⟨h1, h2, h3, h4, h5⟩, h6⟩, h7⟩ := z
    have k1 := hp_htx h1
    have k2 := hp_htx h2
    have e1 := hp_gh i
    have e2 := hp_gh j
    have D : ∀ f g : Nat → Int, hp_D (fun s => f (hp_g s)) (fun s => g (hp_g s)) (hp_h i) (hp_h j) = hp_D f g i j := by
      intro f g
      unfold hp_D
      dsimp only
      rw [e1, e2]
    have T : hp_tr (fun s => a (hp_g s)) (fun s => b (hp_g s)) (fun s => c (hp_g s)) (hp_h i) (hp_h j) = hp_tr a b c i j := by
      unfold hp_tr
      rw [D, D, D]
    refine ⟨hp_h i, hp_h j, ⟨⟨k1, k2, (hw _ k1).mpr (by rw [e1]; exact h3), (hw _ k2).mpr (by rw [e2]; exact h4), ?_⟩, ?_⟩, ?_⟩
    · rw [D]; exact h5
    · rw [T]; exact (hp_al_i hm hw _).mpr h6
    · rw [T]; exact h7
theorem hp_two {S : hp_T → Prop} {t t' : hp_T} (h : hp_be P Q S t) (h' : hp_be P Q S t') : hp_v P Q t * t'.2.2 = hp_v P Q t' * t.2.2 ∧ hp_sm t t' :=
  hp_bt_eq (h'.2 t h.1) (h.2 t' h'.1)
theorem hp_ct_c {p q : Nat → Prop} (n : Nat) (h : ∀ i, i < n → (p i ↔ q i)) : hp_ct p n = hp_ct q n := by
  induction n with
  | zero => rfl
  | succ n ih =>
    have e := ih (fun i hi => h i (by omega))
    by_cases z : p n
    · rw [hp_ct_y z, hp_ct_y ((h n (by omega)).mp z), e]
    · rw [hp_ct_n z, hp_ct_n (fun y => z ((h n (by omega)).mpr y)), e]
theorem hp_g4 {i : Nat} (hi : i < 10) : hp_g (4 + i) = i := by
  unfold hp_g
  repeat' split
  all_goals omega
end
/-! bounds of the arguments -/
theorem hp_xw1 {post : Int32 → Prop} {z : Int64} (k : Nat) (hk : k < 2147483648) (h : z.toInt.natAbs ≤ k) (p : post 1) : wpX_isWithin post z (nI k) := by
  unfold wpX_isWithin
  have e1 : (-nI k).toInt64.toInt = -(k : Int) := by rw [Int32.toInt_toInt64, sb_negT hk]
  have e2 : (nI k).toInt64.toInt = (k : Int) := by rw [Int32.toInt_toInt64, nI_toInt hk]
  refine br_f ?_ (br_f ?_ p)
  · rw [Int64.lt_iff_toInt_lt, e1]; omega
  · rw [Int64.lt_iff_toInt_lt, e2]; omega
theorem hp_xw0 {post : Int32 → Prop} {z : Int64} (k : Nat) (hk : k < 2147483648) (h : ¬ z.toInt.natAbs ≤ k) (p : post 0) : wpX_isWithin post z (nI k) := by
  unfold wpX_isWithin
  have e1 : (-nI k).toInt64.toInt = -(k : Int) := by rw [Int32.toInt_toInt64, sb_negT hk]
  have e2 : (nI k).toInt64.toInt = (k : Int) := by rw [Int32.toInt_toInt64, nI_toInt hk]
  refine br_c (fun _ => p) (fun g => br_t ?_ p)
  rw [Int64.lt_iff_toInt_lt, e1] at g
  rw [Int64.lt_iff_toInt_lt, e2]; omega
theorem hp_xv1 {post : Int32 → Prop} {v : Int32} (k : Nat) (hk : k < 2147483648) (h : v.toInt.natAbs ≤ k) (p : post 1) : wpX_isWithin post v.toInt64 (nI k) :=
  hp_xw1 k hk (by rw [Int32.toInt_toInt64]; exact h) p
theorem hp_xv0 {post : Int32 → Prop} {v : Int32} (k : Nat) (hk : k < 2147483648) (h : ¬ v.toInt.natAbs ≤ k) (p : post 0) : wpX_isWithin post v.toInt64 (nI k) :=
  hp_xw0 k hk (by rw [Int32.toInt_toInt64]; exact h) p
theorem hp_yv1 {post : Int32 → Prop} {u : SY} {v : Int32} (k : Nat) (hk : k < 2147483648) (h : v.toInt.natAbs ≤ k) (p : post 0) : wpY_far post u v (nI k) := by
  unfold wpY_far
  refine br_f ?_ (br_t ?_ p)
  · rw [Int32.lt_iff_toInt_lt, sb_negT hk]; omega
  · rw [Int32.le_iff_toInt_le, nI_toInt hk]; omega
theorem hp_yv0 {post : Int32 → Prop} {u : SY} {v : Int32} (k : Nat) (hk : k < 2147483648) (h : ¬ v.toInt.natAbs ≤ k) (p : post 1) : wpY_far post u v (nI k) := by
  unfold wpY_far
  refine br_c (fun _ => p) (fun g => br_f ?_ p)
  rw [Int32.lt_iff_toInt_lt, sb_negT hk] at g
  rw [Int32.le_iff_toInt_le, nI_toInt hk]; omega
section
variable {m : Nat} {P Q : Int} {a b c : Nat → Int}
theorem hp_s4 (m : Nat) : nI (m + 4) - 4 = nI m := by
  have := pk_sub (a := m + 4) (b := 4) (by omega)
  rw [Nat.add_sub_cancel] at this
  exact this
theorem hp_xg0 {post : Int32 → Prop} {v : Int32} (h : v < 0 ∨ nI m ≤ v) (p : post 0) : wpX_isGood post (hp_X (m + 4) P Q a b c) v := by
  unfold wpX_isGood
  dsimp only
  rw [hp_s4]
  refine br_c (fun _ => p) (fun g => br_t ?_ p)
  rcases h with h | h
  · exact absurd h g
  · exact h
theorem hp_xg1 {post : Int32 → Prop} {j : Nat} (hm : m ≤ 10) (h : j < m) (p : post 1) : wpX_isGood post (hp_X (m + 4) P Q a b c) (nI j) := by
  unfold wpX_isGood
  dsimp only
  rw [hp_s4]
  exact br_f (nI_pos (by omega)) (br_f (nI_ge h (by omega)) p)
theorem hp_yb1 {post : Int32 → Prop} {x y d bX bY bZ : Int32} {v : Int32} (h : v < 0 ∨ nI m ≤ v) (p : post 1) : wpY_bad post (hp_Y m P Q x y d bX bY bZ a b c) v := by
  unfold wpY_bad
  dsimp only
  refine br_c (fun _ => p) (fun g => br_t ?_ p)
  rcases h with h | h
  · exact absurd h g
  · exact h
theorem hp_yb0 {post : Int32 → Prop} {x y d bX bY bZ : Int32} {j : Nat} (hm : m ≤ 10) (h : j < m) (p : post 0) : wpY_bad post (hp_Y m P Q x y d bX bY bZ a b c) (nI j) := by
  unfold wpY_bad
  dsimp only
  exact br_f (nI_pos (by omega)) (br_f (nI_ge h (by omega)) (br_t (nI_le (b := 9) (by omega) (by omega)) p))
theorem hp_ix (m : Nat) (hm : m ≤ 10) (v : Int32) : (v < 0 ∨ nI m ≤ v) ∨ ∃ j, j < m ∧ v = nI j := by
  rcases pk_ix v (n := m) (by omega) with h | h | h
  · exact Or.inl (Or.inl h)
  · exact Or.inl (Or.inr h)
  · exact Or.inr h
theorem hp_app {post : SX → Prop} {n : Nat} (hn : n < 14) (x y z : Int) (h : post (hp_X (n + 1) P Q (hp_u a n x) (hp_u b n y) (hp_u c n z))) :
    wpX_append post (hp_X n P Q a b c) (hp_i x) (hp_i y) (hp_i z) := by
  have hi : vp_in (nI n) 14 := vp_in_nI hn (by omega)
  have e : ∀ (f : Nat → Int) (v : Int), upd (hp_F f) (nI n).toNatClampNeg (hp_i v) = hp_F (hp_u f n v) := by
    intro f v
    rw [nI_clamp (by omega)]
    exact hp_uF f n v
  unfold wpX_append
  dsimp only
  exact br_f (nI_ge (b := 14) hn (by omega)) ⟨hi, nm_r (e a x) ⟨hi, nm_r (e b y) ⟨hi, nm_r (e c z) (nm_r (nI_1 n) h)⟩⟩⟩
theorem hp_ok_u (ok : hp_ok a b c) (k : Nat) {x y z : Int} (hx : x.natAbs ≤ 9) (hy : y.natAbs ≤ 9) (hz : z.natAbs ≤ 99) : hp_ok (hp_u a k x) (hp_u b k y) (hp_u c k z) := by
  intro i
  unfold hp_u
  by_cases e : i = k
  · rw [if_pos e, if_pos e, if_pos e]; exact ⟨hx, hy, hz⟩
  · rw [if_neg e, if_neg e, if_neg e]; exact ok i
theorem hp_ok_g (ok : hp_ok a b c) : hp_ok (fun s => a (hp_g s)) (fun s => b (hp_g s)) (fun s => c (hp_g s)) := fun s => ok (hp_g s)
theorem hp_uX (f : Nat → Int) {k : Nat} (hk : k < 10) (v : Int) : upd (hp_F (fun s => f (hp_g s))) (nI (4 + k)).toNatClampNeg (hp_i v) = hp_F (fun s => hp_u f k v (hp_g s)) := by
  rw [nI_clamp (by omega), hp_uF, hp_ug f hk]
theorem hp_uY (f : Nat → Int) {k : Nat} (hk : k < 14) (v : Int) : upd (hp_F f) (nI k).toNatClampNeg (hp_i v) = hp_F (hp_u f k v) := by
  rw [nI_clamp (by omega), hp_uF]
/-- removing, in lockstep -/
theorem hp_rm {x y d bX bY bZ : Int32} (hm : m < 10) : ∀ r j a b c, hp_ok a b c → j + r = m → ∃ a' b' c', hp_ok a' b' c' ∧
    (∀ post : Int32 → SX → Prop, post (nI m) (hp_X (m + 4) P Q (fun s => a' (hp_g s)) (fun s => b' (hp_g s)) (fun s => c' (hp_g s))) →
      wX_remove_14 post (nI (m + 1 + 4)) (hp_i P) (hp_i Q) (r + 1) (nI (4 + j)) (hp_F (fun s => a (hp_g s))) (hp_F (fun s => b (hp_g s))) (hp_F (fun s => c (hp_g s)))) ∧
    (∀ post : Int32 → SY → Prop, post (nI m) (hp_Y m P Q x y d bX bY bZ a' b' c') →
      wY_remove_12 post (nI (m + 1)) (hp_i P) (hp_i Q) x y d bX bY bZ (r + 1) (nI j) (hp_F a) (hp_F b) (hp_F c)) := by
  have e1 : nI (m + 1 + 4) - 1 = nI (m + 4) := nI_pred (m + 4)
  have e2 : nI (m + 1) - 1 = nI m := nI_pred m
  intro r
  induction r with
  | zero =>
    intro j a b c ok hj
    have e : j = m := by omega
    subst e
    refine ⟨a, b, c, ok, fun post h => ?_, fun post h => ?_⟩
    · refine br_t ?_ (nm_r e1 ?_)
      · rw [e1, Nat.add_comm]; exact nI_le (by omega) (by omega)
      · rw [hp_s4]; exact h
    · refine br_t ?_ (nm_r e2 h)
      rw [e2]; exact nI_le (by omega) (by omega)
  | succ r ih =>
    intro j a b c ok hj
    have ok' : hp_ok (hp_u a j (a (j + 1))) (hp_u b j (b (j + 1))) (hp_u c j (c (j + 1))) := hp_ok_u ok j (ok (j + 1)).1 (ok (j + 1)).2.1 (ok (j + 1)).2.2
    obtain ⟨a', b', c', o, hX, hY⟩ := ih (j + 1) _ _ _ ok' (by omega)
    have q1 : ∀ f : Nat → Int, hp_F (fun s => f (hp_g s)) (nI (4 + j) + 1).toNatClampNeg = hp_i (f (j + 1)) := by
      intro f
      rw [nI_1, nI_clamp (by omega)]
      show hp_i (f (hp_g (4 + (j + 1)))) = _
      rw [hp_g4 (by omega)]
    have q2 : ∀ f : Nat → Int, hp_F f (nI j + 1).toNatClampNeg = hp_i (f (j + 1)) := by
      intro f
      rw [nI_1, nI_clamp (by omega)]
      rfl
    have v1 : vp_in (nI (4 + j) + 1) 14 := by rw [nI_1]; exact vp_in_nI (by omega) (by omega)
    have v2 : vp_in (nI (4 + j)) 14 := vp_in_nI (by omega) (by omega)
    have v3 : vp_in (nI j + 1) 14 := by rw [nI_1]; exact vp_in_nI (by omega) (by omega)
    have v4 : vp_in (nI j) 14 := vp_in_nI (by omega) (by omega)
    have s1 : ∀ f : Nat → Int, upd (hp_F (fun s => f (hp_g s))) (nI (4 + j)).toNatClampNeg (hp_F (fun s => f (hp_g s)) (nI (4 + j) + 1).toNatClampNeg) = hp_F (fun s => hp_u f j (f (j + 1)) (hp_g s)) := by
      intro f
      rw [q1, hp_uX f (by omega)]
    have s2 : ∀ f : Nat → Int, upd (hp_F f) (nI j).toNatClampNeg (hp_F f (nI j + 1).toNatClampNeg) = hp_F (hp_u f j (f (j + 1))) := by
      intro f
      rw [q2, hp_uY f (by omega)]
    refine ⟨a', b', c', o, fun post h => ?_, fun post h => ?_⟩
    · refine br_f ?_ ⟨v1, v2, nm_r (s1 a) ⟨v1, v2, nm_r (s1 b) ⟨v1, v2, nm_r (s1 c) (nm_r (nI_1 (4 + j)) (hX post h))⟩⟩⟩
      rw [e1]; exact nI_ge (by omega) (by omega)
    · refine br_f ?_ (br_f (nI_ge (b := 9) (by omega) (by omega)) ⟨v3, v4, nm_r (s2 a) ⟨v3, v4, nm_r (s2 b) ⟨v3, v4, nm_r (s2 c) (nm_r (nI_1 j) (hY post h))⟩⟩⟩)
      rw [e2]; exact nI_ge (by omega) (by omega)
theorem hp_xal2 {post : Int32 → Prop} {n : Nat} (hn : n ≤ 14) (ok : hp_ok a b c) (w : Int32) {x y d : Int32} (bd : hp_bd (x.toInt, y.toInt, d.toInt))
    (h1 : hp_al a b c (hp_tx n) w (x.toInt, y.toInt, d.toInt) → post 1) (h0 : ¬ hp_al a b c (hp_tx n) w (x.toInt, y.toInt, d.toInt) → post 0) :
    wpX_isAllowed post (hp_X n P Q a b c) x y d w := by
  have := hp_xal (P := P) (Q := Q) hn ok w (x.toInt, y.toInt, d.toInt) bd h1 h0
  dsimp only at this
  rw [hp_of, hp_of, hp_of] at this
  exact this
theorem hp_yal2 {post : Int32 → Prop} {x' y' d' bX bY bZ : Int32} (hm : m ≤ 10) (ok : hp_ok a b c) (w : Int32) {x y d : Int32} (bd : hp_bd (x.toInt, y.toInt, d.toInt))
    (h1 : hp_al a b c (hp_ty m) w (x.toInt, y.toInt, d.toInt) → post 1) (h0 : ¬ hp_al a b c (hp_ty m) w (x.toInt, y.toInt, d.toInt) → post 0) :
    wpY_allowed post (hp_Y m P Q x' y' d' bX bY bZ a b c) x y d w := by
  have := hp_yal (P := P) (Q := Q) (x := x') (y := y') (d := d') (bX := bX) (bY := bY) (bZ := bZ) hm ok w (x.toInt, y.toInt, d.toInt) bd h1 h0
  dsimp only at this
  rw [hp_of, hp_of, hp_of] at this
  exact this
end
end
section
/-! the start, and small rows of the calls -/
def hp_La (i : Nat) : Int := if i = 10 then 1 else if i = 11 then -1 else 0
def hp_Lb (i : Nat) : Int := if i = 12 then 1 else if i = 13 then -1 else 0
def hp_Lc (i : Nat) : Int := if i = 10 then 20 else if i = 11 then 20 else if i = 12 then 20 else if i = 13 then 20 else 0
theorem hp_L_ok : hp_ok hp_La hp_Lb hp_Lc := by
  intro i
  unfold hp_La hp_Lb hp_Lc
  refine ⟨?_, ?_, ?_⟩
  all_goals repeat' split
  all_goals decide
theorem hp_La_X : hp_u (hp_u (hp_u (hp_u (fun _ => 0) 0 (-1)) 1 1) 2 0) 3 0 = fun s => hp_La (hp_g s) := by
  funext s
  unfold hp_u hp_La hp_g
  repeat' split
  all_goals (try dsimp only) <;> omega
theorem hp_Lb_X : hp_u (hp_u (hp_u (hp_u (fun _ => 0) 0 0) 1 0) 2 (-1)) 3 1 = fun s => hp_Lb (hp_g s) := by
  funext s
  unfold hp_u hp_Lb hp_g
  repeat' split
  all_goals (try dsimp only) <;> omega
theorem hp_Lc_X : hp_u (hp_u (hp_u (hp_u (fun _ => 0) 0 20) 1 20) 2 20) 3 20 = fun s => hp_Lc (hp_g s) := by
  funext s
  unfold hp_u hp_Lc hp_g
  repeat' split
  all_goals (try dsimp only) <;> omega
theorem hp_F0 : (fun _ => 0 : Nat → Int32) = hp_F (fun _ => 0) := rfl
theorem hp_La_Y : upd (upd (fun _ => 0) 10 1) 11 (-1) = hp_F hp_La := by
  rw [hp_F0, show (1 : Int32) = hp_i 1 from rfl, hp_neg, hp_uF, hp_uF]
  congr 1
  funext s
  unfold hp_u hp_La
  repeat' split
  all_goals (try dsimp only) <;> omega
theorem hp_Lb_Y : upd (upd (fun _ => 0) 12 1) 13 (-1) = hp_F hp_Lb := by
  rw [hp_F0, show (1 : Int32) = hp_i 1 from rfl, hp_neg, hp_uF, hp_uF]
  congr 1
  funext s
  unfold hp_u hp_Lb
  repeat' split
  all_goals (try dsimp only) <;> omega
theorem hp_Lc_Y : hp_u (hp_u (hp_u (hp_u (fun _ => 0) 10 20) 11 20) 12 20) 13 20 = hp_Lc := by
  funext s
  unfold hp_u hp_Lc
  repeat' split
  all_goals (try dsimp only) <;> omega
theorem hp_yin {post : SY → Prop} (h : post (hp_Y 0 0 0 0 0 0 0 0 0 hp_La hp_Lb hp_Lc)) : wpY_init post := by
  unfold wpY_init
  have s : ∀ (f : Nat → Int) (k : Nat), k < 14 → upd (hp_F f) (nI k).toNatClampNeg 20 = hp_F (hp_u f k 20) := fun f k hk => hp_uY f hk 20
  have v : ∀ k, k < 14 → vp_in (nI k) 14 := fun k hk => vp_in_nI hk (by omega)
  have g : ∀ k, k < 14 → ¬ (14 : Int32) ≤ nI k := fun k hk => nI_ge (b := 14) hk (by omega)
  refine nm_e (nm_r hp_La_Y (nm_e (nm_r hp_Lb_Y ⟨5, ?_⟩)))
  refine br_f (g 10 (by omega)) ⟨v 10 (by omega), nm_r (s (fun _ => 0) 10 (by omega)) (nm_r (nI_1 10) ?_)⟩
  refine br_f (g 11 (by omega)) ⟨v 11 (by omega), nm_r (s _ 11 (by omega)) (nm_r (nI_1 11) ?_)⟩
  refine br_f (g 12 (by omega)) ⟨v 12 (by omega), nm_r (s _ 12 (by omega)) (nm_r (nI_1 12) ?_)⟩
  refine br_f (g 13 (by omega)) ⟨v 13 (by omega), nm_r (s _ 13 (by omega)) (nm_r (nI_1 13) ?_)⟩
  refine br_t (nI_le (a := 14) (b := 14) (by omega) (by omega)) ?_
  rw [hp_Lc_Y]
  exact h
theorem hp_sh {c : Int} {v : Int32} {z : Int64} (hz : z = (hp_i c).toInt64 + v.toInt64) (hc : c.natAbs < 1000) : z.toInt = c + v.toInt := by
  have h1 := v.le_toInt
  have h2 := v.toInt_lt
  rw [hz, Int64.toInt_add, Int32.toInt_toInt64, Int32.toInt_toInt64, hp_t (by omega)]
  exact Int.bmod_eq_of_le (by omega) (by omega)
theorem hp_ok_c {a b c : Nat → Int} (ok : hp_ok a b c) {k : Nat} {z : Int} (hz : z.natAbs ≤ 99) : hp_ok a b (hp_u c k z) := by
  intro i
  refine ⟨(ok i).1, (ok i).2.1, ?_⟩
  unfold hp_u
  by_cases e : i = k
  · rw [if_pos e]; exact hz
  · rw [if_neg e]; exact (ok i).2.2
theorem hp_app2 {P Q : Int} {a b c : Nat → Int} {post : SX → Prop} {n : Nat} (hn : n < 14) {x y z : Int32} (h : post (hp_X (n + 1) P Q (hp_u a n x.toInt) (hp_u b n y.toInt) (hp_u c n z.toInt))) :
    wpX_append post (hp_X n P Q a b c) x y z := by
  have := hp_app hn x.toInt y.toInt z.toInt h
  rw [hp_of, hp_of, hp_of] at this
  exact this
end
section
/-! the relation and what is owed -/
def i_Rel (k : Nat) (u : SX) (v : SY) : Prop :=
  ∃ (m : Nat) (P Q : Int) (x y d bX bY bZ : Int32) (a b c : Nat → Int), m ≤ 10 ∧ P.natAbs ≤ 9 ∧ Q.natAbs ≤ 9 ∧ hp_ok a b c ∧
    u = hp_X (m + 4) P Q (fun s => a (hp_g s)) (fun s => b (hp_g s)) (fun s => c (hp_g s)) ∧ v = hp_Y m P Q x y d bX bY bZ a b c
theorem i_up {k : Nat} {u : SX} {v : SY} (h : i_Rel k u v) : i_Rel (k + 4) u v := h
theorem i_vc0 : wpX_init (fun u => wpY_init (fun v => i_Rel 0 u v)) := by
  refine hp_app (n := 0) (P := 0) (Q := 0) (a := fun _ => 0) (b := fun _ => 0) (c := fun _ => 0) (by omega) (-1) 0 20 ?_
  refine hp_app (n := 1) (by omega) 1 0 20 ?_
  refine hp_app (n := 2) (by omega) 0 (-1) 20 ?_
  refine hp_app (n := 3) (by omega) 0 1 20 ?_
  rw [hp_La_X, hp_Lb_X, hp_Lc_X]
  exact hp_yin ⟨0, 0, 0, 0, 0, 0, 0, 0, 0, hp_La, hp_Lb, hp_Lc, by omega, by decide, by decide, hp_L_ok, rfl, rfl⟩
theorem i_vc_lines {k : Nat} {u : SX} {v : SY} (I : i_Rel k u v) (hk : k + 4 ≤ 2048) : wpX_lines (fun r => wpY_lines (fun r' => r' = r ∧ i_Rel (k + 4) u v) v) u := by
  obtain ⟨m, P, Q, x, y, d, bX, bY, bZ, a, b, c, hm, hP, hQ, ok, rfl, rfl⟩ := I
  unfold wpX_lines wpY_lines
  dsimp only
  exact ⟨(hp_s4 m).symm, ⟨m, P, Q, _, _, _, _, _, _, a, b, c, hm, hP, hQ, ok, rfl, rfl⟩⟩
theorem i_vc_goal {k : Nat} {u : SX} {v : SY} (I : i_Rel k u v) (hk : k + 4 ≤ 2048) (v1 : Int32) (v2 : Int32) : wpX_goal (fun r u' => wpY_goal (fun r' v' => r' = r ∧ i_Rel (k + 4) u' v') v v1 v2) u v1 v2 := by
  obtain ⟨m, P, Q, x, y, d, bX, bY, bZ, a, b, c, hm, hP, hQ, ok, rfl, rfl⟩ := I
  unfold wpX_goal wpY_goal
  dsimp only
  by_cases h1 : v1.toInt.natAbs ≤ 9
  · by_cases h2 : v2.toInt.natAbs ≤ 9
    · refine hp_xv1 9 (by omega) h1 (br_f (by decide) (hp_xv1 9 (by omega) h2 (br_f (by decide) ?_)))
      refine hp_yv1 9 (by omega) h1 (br_t rfl (hp_yv1 9 (by omega) h2 (br_t rfl ⟨rfl, ?_⟩)))
      refine ⟨m, v1.toInt, v2.toInt, x, y, d, bX, bY, bZ, a, b, c, hm, h1, h2, ok, ?_, ?_⟩
      · unfold hp_X; rw [hp_of, hp_of]
      · unfold hp_Y; rw [hp_of, hp_of]
    · refine hp_xv1 9 (by omega) h1 (br_f (by decide) (hp_xv0 9 (by omega) h2 (br_t rfl ?_)))
      exact hp_yv1 9 (by omega) h1 (br_t rfl (hp_yv0 9 (by omega) h2 (br_f (by decide) ⟨rfl, ⟨m, P, Q, _, _, _, _, _, _, a, b, c, hm, hP, hQ, ok, rfl, rfl⟩⟩)))
  · refine hp_xv0 9 (by omega) h1 (br_t rfl ?_)
    exact hp_yv0 9 (by omega) h1 (br_f (by decide) ⟨rfl, ⟨m, P, Q, _, _, _, _, _, _, a, b, c, hm, hP, hQ, ok, rfl, rfl⟩⟩)
theorem i_vc_add {k : Nat} {u : SX} {v : SY} (I : i_Rel k u v) (hk : k + 4 ≤ 2048) (v1 : Int32) (v2 : Int32) (v3 : Int32) : wpX_add (fun r u' => wpY_add (fun r' v' => r' = r ∧ i_Rel (k + 4) u' v') v v1 v2 v3) u v1 v2 v3 := by
  obtain ⟨m, P, Q, x, y, d, bX, bY, bZ, a, b, c, hm, hP, hQ, ok, rfl, rfl⟩ := I
  unfold wpX_add wpY_add
  dsimp only
  by_cases h1 : v1.toInt.natAbs ≤ 9
  · by_cases h2 : v2.toInt.natAbs ≤ 9
    · by_cases h3 : v3.toInt.natAbs ≤ 99
      · refine hp_xv1 9 (by omega) h1 (br_f (by decide) (hp_xv1 9 (by omega) h2 (br_f (by decide) (hp_xv1 99 (by omega) h3 (br_f (by decide) ?_)))))
        by_cases h4 : m < 10
        · refine br_t (nI_lt (b := 14) (by omega) (by omega)) ?_
          refine hp_app2 (by omega) ?_
          dsimp only
          have vm : vp_in (nI m) 14 := vp_in_nI (by omega) (by omega)
          have e : ∀ (f : Nat → Int) (v : Int32), upd (hp_F f) (nI m).toNatClampNeg v = hp_F (hp_u f m v.toInt) := fun f v => by
            have := hp_uY f (k := m) (by omega) v.toInt
            rw [hp_of] at this
            exact this
          refine hp_yv1 9 (by omega) h1 (br_t rfl (hp_yv1 9 (by omega) h2 (br_t rfl (hp_yv1 99 (by omega) h3 (br_t rfl ?_)))))
          refine br_t (nI_lt (b := 10) (by omega) (by omega)) ⟨vm, nm_r (e a v1) ⟨vm, nm_r (e b v2) ⟨vm, nm_r (e c v3) (nm_r (nI_1 m) ⟨?_, ?_⟩)⟩⟩⟩
          · rw [show m + 4 + 1 = m + 1 + 4 by omega, hp_s4]
            exact (nI_pred m).symm
          · refine ⟨m + 1, P, Q, x, y, d, bX, bY, bZ, _, _, _, by omega, hP, hQ, hp_ok_u ok m h1 h2 h3, ?_, rfl⟩
            rw [show m + 4 + 1 = m + 1 + 4 by omega, Nat.add_comm m 4, hp_ug a h4, hp_ug b h4, hp_ug c h4]
        · refine br_f (nI_nlt (b := 14) (by omega) (by omega)) ?_
          refine hp_yv1 9 (by omega) h1 (br_t rfl (hp_yv1 9 (by omega) h2 (br_t rfl (hp_yv1 99 (by omega) h3 (br_t rfl ?_)))))
          exact br_f (nI_nlt (b := 10) (by omega) (by omega)) ⟨rfl, ⟨m, P, Q, _, _, _, _, _, _, a, b, c, hm, hP, hQ, ok, rfl, rfl⟩⟩
      · refine hp_xv1 9 (by omega) h1 (br_f (by decide) (hp_xv1 9 (by omega) h2 (br_f (by decide) (hp_xv0 99 (by omega) h3 (br_t rfl ?_)))))
        exact hp_yv1 9 (by omega) h1 (br_t rfl (hp_yv1 9 (by omega) h2 (br_t rfl (hp_yv0 99 (by omega) h3 (br_f (by decide) ⟨rfl, ⟨m, P, Q, _, _, _, _, _, _, a, b, c, hm, hP, hQ, ok, rfl, rfl⟩⟩)))))
    · refine hp_xv1 9 (by omega) h1 (br_f (by decide) (hp_xv0 9 (by omega) h2 (br_t rfl ?_)))
      exact hp_yv1 9 (by omega) h1 (br_t rfl (hp_yv0 9 (by omega) h2 (br_f (by decide) ⟨rfl, ⟨m, P, Q, _, _, _, _, _, _, a, b, c, hm, hP, hQ, ok, rfl, rfl⟩⟩)))
  · refine hp_xv0 9 (by omega) h1 (br_t rfl ?_)
    exact hp_yv0 9 (by omega) h1 (br_f (by decide) ⟨rfl, ⟨m, P, Q, _, _, _, _, _, _, a, b, c, hm, hP, hQ, ok, rfl, rfl⟩⟩)
theorem i_vc_remove {k : Nat} {u : SX} {v : SY} (I : i_Rel k u v) (hk : k + 4 ≤ 2048) (v1 : Int32) : wpX_remove (fun r u' => wpY_remove (fun r' v' => r' = r ∧ i_Rel (k + 4) u' v') v v1) u v1 := by
  obtain ⟨m, P, Q, x, y, d, bX, bY, bZ, a, b, c, hm, hP, hQ, ok, rfl, rfl⟩ := I
  unfold wpX_remove wpY_remove
  dsimp only
  rcases hp_ix m hm v1 with h | ⟨j, hj, rfl⟩
  · exact hp_xg0 h (br_t rfl (hp_yb1 h (br_f (by decide) ⟨rfl, ⟨m, P, Q, _, _, _, _, _, _, a, b, c, hm, hP, hQ, ok, rfl, rfl⟩⟩)))
  · obtain ⟨m', rfl⟩ : ∃ m', m = m' + 1 := ⟨m - 1, by omega⟩
    obtain ⟨a', b', c', o, hX, hY⟩ := hp_rm (P := P) (Q := Q) (x := x) (y := y) (d := d) (bX := bX) (bY := bY) (bZ := bZ) (m := m') (by omega) (m' - j) j a b c ok (by omega)
    refine hp_xg1 hm hj (br_f (by decide) (nm_r (nI_add 4 j) ⟨_, hX _ ?_⟩))
    exact hp_yb0 hm hj (br_t rfl ⟨_, hY _ ⟨rfl, m', P, Q, x, y, d, bX, bY, bZ, a', b', c', by omega, hP, hQ, o, rfl, rfl⟩⟩)
theorem i_vc_shift {k : Nat} {u : SX} {v : SY} (I : i_Rel k u v) (hk : k + 4 ≤ 2048) (v1 : Int32) (v2 : Int32) : wpX_shift (fun r u' => wpY_shift (fun r' v' => r' = r ∧ i_Rel (k + 4) u' v') v v1 v2) u v1 v2 := by
  obtain ⟨m, P, Q, x, y, d, bX, bY, bZ, a, b, c, hm, hP, hQ, ok, rfl, rfl⟩ := I
  unfold wpX_shift wpY_shift
  dsimp only
  rcases hp_ix m hm v1 with h | ⟨j, hj, rfl⟩
  · exact hp_xg0 h (br_t rfl (hp_yb1 h (br_f (by decide) ⟨rfl, ⟨m, P, Q, _, _, _, _, _, _, a, b, c, hm, hP, hQ, ok, rfl, rfl⟩⟩)))
  · have vX : vp_in (4 + nI j) 14 := by
      rw [show (4 : Int32) + nI j = nI (4 + j) from nI_add 4 j]; exact vp_in_nI (by omega) (by omega)
    have vY : vp_in (nI j) 14 := vp_in_nI (by omega) (by omega)
    have eX : hp_F (fun s => c (hp_g s)) (4 + nI j).toNatClampNeg = hp_i (c j) := by
      rw [show (4 : Int32) + nI j = nI (4 + j) from nI_add 4 j, hp_Fc _ (by omega)]
      rw [hp_g4 (by omega)]
    have eY : hp_F c (nI j).toNatClampNeg = hp_i (c j) := hp_Fc c (by omega)
    have bc := (ok j).2.2
    obtain ⟨z, hz⟩ : ∃ z : Int64, z = (hp_i (c j)).toInt64 + v2.toInt64 := ⟨_, rfl⟩
    have tz : z.toInt = c j + v2.toInt := hp_sh hz (by omega)
    have t32 : z.toInt32 = hp_i (c j + v2.toInt) := by rw [← tz]; rfl
    have y1 : v2 < -99 - hp_i (c j) ↔ v2.toInt < -99 - c j := by
      rw [show (-99 : Int32) = hp_i (-99) from rfl, hp_sub, Int32.lt_iff_toInt_lt, hp_t (by omega)]
    have y2 : v2 ≤ 99 - hp_i (c j) ↔ v2.toInt ≤ 99 - c j := by
      rw [show (99 : Int32) = hp_i 99 from rfl, hp_sub, Int32.le_iff_toInt_le, hp_t (by omega)]
    refine hp_xg1 hm hj (br_f (by decide) ⟨vX, nm_r (e' := z) (by rw [eX, hz]) ?_⟩)
    by_cases h2 : (c j + v2.toInt).natAbs ≤ 99
    · refine hp_xw1 99 (by omega) (by rw [tz]; exact h2) (br_f (by decide) ⟨vX, ?_⟩)
      rw [t32, show (4 : Int32) + nI j = nI (4 + j) from nI_add 4 j]
      refine nm_r (hp_uX c (by omega) _) ?_
      refine hp_yb0 hm hj (br_t rfl ⟨vY, ?_⟩)
      rw [eY]
      refine br_f (by rw [y1]; omega) ⟨vY, br_t (by rw [y2]; omega) ⟨vY, vY, ?_⟩⟩
      have e3 : hp_i (c j) + v2 = hp_i (c j + v2.toInt) := by
        rw [← hp_add, hp_of]
      rw [e3]
      refine nm_r (hp_uY c (by omega) _) ⟨vY, ?_, ?_⟩
      · rw [hp_Fc _ (by omega)]
        show hp_i (hp_u c j (c j + v2.toInt) j) = _
        unfold hp_u
        rw [if_pos rfl]
      · exact ⟨m, P, Q, x, y, d, bX, bY, bZ, a, b, hp_u c j (c j + v2.toInt), hm, hP, hQ, hp_ok_c ok h2, rfl, rfl⟩
    · refine hp_xw0 99 (by omega) (by rw [tz]; exact h2) (br_t rfl ?_)
      refine hp_yb0 hm hj (br_t rfl ⟨vY, ?_⟩)
      rw [eY]
      refine br_c (fun _ => ⟨rfl, ⟨m, P, Q, _, _, _, _, _, _, a, b, c, hm, hP, hQ, ok, rfl, rfl⟩⟩) (fun g => ⟨vY, br_f ?_ ⟨rfl, ⟨m, P, Q, _, _, _, _, _, _, a, b, c, hm, hP, hQ, ok, rfl, rfl⟩⟩⟩)
      rw [y1] at g
      rw [y2]
      omega
theorem i_vc_empty {k : Nat} {u : SX} {v : SY} (I : i_Rel k u v) (hk : k + 4 ≤ 2048) : wpX_empty (fun r => wpY_empty (fun r' v' => r' = r ∧ i_Rel (k + 4) u v') v) u := by
  obtain ⟨m, P, Q, x, y, d, bX, bY, bZ, a, b, c, hm, hP, hQ, ok, rfl, rfl⟩ := I
  have eS := hp_S_i (a := a) (b := b) (c := c) hm (hp_ww_1 hm)
  refine hp_x_em (by omega) (hp_ok_g ok) hP hQ (fun h => ?_) (fun t bd h => ?_)
  · rw [eS] at h
    exact hp_y_em hm ok hP hQ (fun h' x y d bX bY bZ => ⟨rfl, ⟨m, P, Q, _, _, _, _, _, _, a, b, c, hm, hP, hQ, ok, rfl, rfl⟩⟩) (fun t' bd' h' => absurd h'.1 (h t'))
  · rw [eS] at h
    exact hp_y_em hm ok hP hQ (fun h' => absurd h.1 (h' t)) (fun t' bd' h' x y d bX bY bZ => ⟨rfl, ⟨m, P, Q, _, _, _, _, _, _, a, b, c, hm, hP, hQ, ok, rfl, rfl⟩⟩)
theorem i_vc_valueTop {k : Nat} {u : SX} {v : SY} (I : i_Rel k u v) (hk : k + 4 ≤ 2048) : wpX_valueTop (fun r => wpY_valueTop (fun r' v' => r' = r ∧ i_Rel (k + 4) u v') v) u := by
  obtain ⟨m, P, Q, x, y, d, bX, bY, bZ, a, b, c, hm, hP, hQ, ok, rfl, rfl⟩ := I
  have eS := hp_S_i (a := a) (b := b) (c := c) hm (hp_ww_1 hm)
  refine hp_x_vt (by omega) (hp_ok_g ok) hP hQ (fun h => ?_) (fun t bd h => ?_)
  · rw [eS] at h
    exact hp_y_vt hm ok hP hQ (fun h' x y d bX bY bZ => ⟨rfl, ⟨m, P, Q, _, _, _, _, _, _, a, b, c, hm, hP, hQ, ok, rfl, rfl⟩⟩) (fun t' bd' h' => absurd h'.1 (h t'))
  · rw [eS] at h
    exact hp_y_vt hm ok hP hQ (fun h' => absurd h.1 (h' t)) (fun t' bd' h' x y d bX bY bZ => ⟨congrArg hp_i (hp_same (hp_S_d h'.1) (hp_S_d h.1) (hp_two h h').1.symm).1, ⟨m, P, Q, _, _, _, _, _, _, a, b, c, hm, hP, hQ, ok, rfl, rfl⟩⟩)
theorem i_vc_valueBottom {k : Nat} {u : SX} {v : SY} (I : i_Rel k u v) (hk : k + 4 ≤ 2048) : wpX_valueBottom (fun r => wpY_valueBottom (fun r' v' => r' = r ∧ i_Rel (k + 4) u v') v) u := by
  obtain ⟨m, P, Q, x, y, d, bX, bY, bZ, a, b, c, hm, hP, hQ, ok, rfl, rfl⟩ := I
  have eS := hp_S_i (a := a) (b := b) (c := c) hm (hp_ww_1 hm)
  refine hp_x_vb (by omega) (hp_ok_g ok) hP hQ (fun h => ?_) (fun t bd h => ?_)
  · rw [eS] at h
    exact hp_y_vb hm ok hP hQ (fun h' x y d bX bY bZ => ⟨rfl, ⟨m, P, Q, _, _, _, _, _, _, a, b, c, hm, hP, hQ, ok, rfl, rfl⟩⟩) (fun t' bd' h' => absurd h'.1 (h t'))
  · rw [eS] at h
    exact hp_y_vb hm ok hP hQ (fun h' => absurd h.1 (h' t)) (fun t' bd' h' x y d bX bY bZ => ⟨congrArg hp_i (hp_same (hp_S_d h'.1) (hp_S_d h.1) (hp_two h h').1.symm).2, ⟨m, P, Q, _, _, _, _, _, _, a, b, c, hm, hP, hQ, ok, rfl, rfl⟩⟩)
theorem i_vc_xTop {k : Nat} {u : SX} {v : SY} (I : i_Rel k u v) (hk : k + 4 ≤ 2048) : wpX_xTop (fun r => wpY_xTop (fun r' v' => r' = r ∧ i_Rel (k + 4) u v') v) u := by
  obtain ⟨m, P, Q, x, y, d, bX, bY, bZ, a, b, c, hm, hP, hQ, ok, rfl, rfl⟩ := I
  have eS := hp_S_i (a := a) (b := b) (c := c) hm (hp_ww_1 hm)
  refine hp_x_xt (by omega) (hp_ok_g ok) hP hQ (fun h => ?_) (fun t bd h => ?_)
  · rw [eS] at h
    exact hp_y_xt hm ok hP hQ (fun h' x y d bX bY bZ => ⟨rfl, ⟨m, P, Q, _, _, _, _, _, _, a, b, c, hm, hP, hQ, ok, rfl, rfl⟩⟩) (fun t' bd' h' => absurd h'.1 (h t'))
  · rw [eS] at h
    exact hp_y_xt hm ok hP hQ (fun h' => absurd h.1 (h' t)) (fun t' bd' h' x y d bX bY bZ => ⟨congrArg hp_i (hp_same (hp_S_d h'.1) (hp_S_d h.1) (hp_two h h').2.1.symm).1, ⟨m, P, Q, _, _, _, _, _, _, a, b, c, hm, hP, hQ, ok, rfl, rfl⟩⟩)
theorem i_vc_xBottom {k : Nat} {u : SX} {v : SY} (I : i_Rel k u v) (hk : k + 4 ≤ 2048) : wpX_xBottom (fun r => wpY_xBottom (fun r' v' => r' = r ∧ i_Rel (k + 4) u v') v) u := by
  obtain ⟨m, P, Q, x, y, d, bX, bY, bZ, a, b, c, hm, hP, hQ, ok, rfl, rfl⟩ := I
  have eS := hp_S_i (a := a) (b := b) (c := c) hm (hp_ww_1 hm)
  refine hp_x_xb (by omega) (hp_ok_g ok) hP hQ (fun h => ?_) (fun t bd h => ?_)
  · rw [eS] at h
    exact hp_y_xb hm ok hP hQ (fun h' x y d bX bY bZ => ⟨rfl, ⟨m, P, Q, _, _, _, _, _, _, a, b, c, hm, hP, hQ, ok, rfl, rfl⟩⟩) (fun t' bd' h' => absurd h'.1 (h t'))
  · rw [eS] at h
    exact hp_y_xb hm ok hP hQ (fun h' => absurd h.1 (h' t)) (fun t' bd' h' x y d bX bY bZ => ⟨congrArg hp_i (hp_same (hp_S_d h'.1) (hp_S_d h.1) (hp_two h h').2.1.symm).2, ⟨m, P, Q, _, _, _, _, _, _, a, b, c, hm, hP, hQ, ok, rfl, rfl⟩⟩)
theorem i_vc_yTop {k : Nat} {u : SX} {v : SY} (I : i_Rel k u v) (hk : k + 4 ≤ 2048) : wpX_yTop (fun r => wpY_yTop (fun r' v' => r' = r ∧ i_Rel (k + 4) u v') v) u := by
  obtain ⟨m, P, Q, x, y, d, bX, bY, bZ, a, b, c, hm, hP, hQ, ok, rfl, rfl⟩ := I
  have eS := hp_S_i (a := a) (b := b) (c := c) hm (hp_ww_1 hm)
  refine hp_x_yt (by omega) (hp_ok_g ok) hP hQ (fun h => ?_) (fun t bd h => ?_)
  · rw [eS] at h
    exact hp_y_yt hm ok hP hQ (fun h' x y d bX bY bZ => ⟨rfl, ⟨m, P, Q, _, _, _, _, _, _, a, b, c, hm, hP, hQ, ok, rfl, rfl⟩⟩) (fun t' bd' h' => absurd h'.1 (h t'))
  · rw [eS] at h
    exact hp_y_yt hm ok hP hQ (fun h' => absurd h.1 (h' t)) (fun t' bd' h' x y d bX bY bZ => ⟨congrArg hp_i (hp_same (hp_S_d h'.1) (hp_S_d h.1) (hp_two h h').2.2.symm).1, ⟨m, P, Q, _, _, _, _, _, _, a, b, c, hm, hP, hQ, ok, rfl, rfl⟩⟩)
theorem i_vc_yBottom {k : Nat} {u : SX} {v : SY} (I : i_Rel k u v) (hk : k + 4 ≤ 2048) : wpX_yBottom (fun r => wpY_yBottom (fun r' v' => r' = r ∧ i_Rel (k + 4) u v') v) u := by
  obtain ⟨m, P, Q, x, y, d, bX, bY, bZ, a, b, c, hm, hP, hQ, ok, rfl, rfl⟩ := I
  have eS := hp_S_i (a := a) (b := b) (c := c) hm (hp_ww_1 hm)
  refine hp_x_yb (by omega) (hp_ok_g ok) hP hQ (fun h => ?_) (fun t bd h => ?_)
  · rw [eS] at h
    exact hp_y_yb hm ok hP hQ (fun h' x y d bX bY bZ => ⟨rfl, ⟨m, P, Q, _, _, _, _, _, _, a, b, c, hm, hP, hQ, ok, rfl, rfl⟩⟩) (fun t' bd' h' => absurd h'.1 (h t'))
  · rw [eS] at h
    exact hp_y_yb hm ok hP hQ (fun h' => absurd h.1 (h' t)) (fun t' bd' h' x y d bX bY bZ => ⟨congrArg hp_i (hp_same (hp_S_d h'.1) (hp_S_d h.1) (hp_two h h').2.2.symm).2, ⟨m, P, Q, _, _, _, _, _, _, a, b, c, hm, hP, hQ, ok, rfl, rfl⟩⟩)
theorem i_vc_tight {k : Nat} {u : SX} {v : SY} (I : i_Rel k u v) (hk : k + 4 ≤ 2048) : wpX_tight (fun r => wpY_tight (fun r' v' => r' = r ∧ i_Rel (k + 4) u v') v) u := by
  obtain ⟨m, P, Q, x, y, d, bX, bY, bZ, a, b, c, hm, hP, hQ, ok, rfl, rfl⟩ := I
  have eS := hp_S_i (a := a) (b := b) (c := c) hm (hp_ww_1 hm)
  refine hp_x_ti (by omega) (by omega) (hp_ok_g ok) hP hQ (fun h => ?_) (fun t bd h => ?_)
  · rw [eS] at h
    exact hp_y_ti hm ok hP hQ (fun h' x y d bX bY bZ => ⟨rfl, ⟨m, P, Q, _, _, _, _, _, _, a, b, c, hm, hP, hQ, ok, rfl, rfl⟩⟩) (fun t' bd' h' => absurd h'.1 (h t'))
  · rw [eS] at h
    refine hp_y_ti hm ok hP hQ (fun h' => absurd h.1 (h' t)) (fun t' bd' h' x y d bX bY bZ => ⟨congrArg nI ?_, ⟨m, P, Q, _, _, _, _, _, _, a, b, c, hm, hP, hQ, ok, rfl, rfl⟩⟩)
    rw [Nat.add_sub_cancel]
    refine hp_ct_c m (fun i hi => ?_)
    unfold hp_ti
    dsimp only
    rw [hp_g4 (by omega)]
    exact hp_sm_eq _ _ _ (hp_S_d h'.1) (hp_S_d h.1) (hp_two h' h).2
theorem i_vc_redundant {k : Nat} {u : SX} {v : SY} (I : i_Rel k u v) (hk : k + 4 ≤ 2048) (v1 : Int32) : wpX_redundant (fun r => wpY_redundant (fun r' v' => r' = r ∧ i_Rel (k + 4) u v') v v1) u v1 := by
  obtain ⟨m, P, Q, x, y, d, bX, bY, bZ, a, b, c, hm, hP, hQ, ok, rfl, rfl⟩ := I
  unfold wpX_redundant wpY_redundant
  dsimp only
  rcases hp_ix m hm v1 with h | ⟨j, hj, rfl⟩
  · exact hp_xg0 h (br_t rfl (hp_yb1 h (br_f (by decide) ⟨rfl, ⟨m, P, Q, _, _, _, _, _, _, a, b, c, hm, hP, hQ, ok, rfl, rfl⟩⟩)))
  · have eS := hp_S_i (a := a) (b := b) (c := c) hm (hp_ww_j hm hj)
    have eC : ∀ t, hp_cu (fun s => a (hp_g s)) (fun s => b (hp_g s)) (fun s => c (hp_g s)) (4 + j) t ↔ hp_cu a b c j t := by
      intro t
      unfold hp_cu
      dsimp only
      rw [hp_g4 (by omega)]
    refine hp_xg1 hm hj (br_f (by decide) (nm_r (nI_add 4 j) (hp_xrd (by omega) (by omega) (hp_ok_g ok) (fun h => ?_) (fun h => ?_))))
    · obtain ⟨t, h1, h2⟩ := h
      rw [eS] at h1
      rw [eC] at h2
      exact hp_yb0 hm hj (br_t rfl (hp_yrd (by omega) hm ok (fun h' x y d bX bY bZ => ⟨rfl, ⟨m, P, Q, _, _, _, _, _, _, a, b, c, hm, hP, hQ, ok, rfl, rfl⟩⟩) (fun h' => absurd h2 (h' t h1))))
    · refine hp_yb0 hm hj (br_t rfl (hp_yrd (by omega) hm ok (fun h' => ?_) (fun h' x y d bX bY bZ => ⟨rfl, ⟨m, P, Q, _, _, _, _, _, _, a, b, c, hm, hP, hQ, ok, rfl, rfl⟩⟩)))
      obtain ⟨t, h1, h2⟩ := h'
      rw [← eS] at h1
      exact absurd ((eC t).mpr h2) (h t h1)
theorem i_vc_corners {k : Nat} {u : SX} {v : SY} (I : i_Rel k u v) (hk : k + 4 ≤ 2048) : wpX_corners (fun r => wpY_corners (fun r' v' => r' = r ∧ i_Rel (k + 4) u v') v) u := by
  obtain ⟨m, P, Q, x, y, d, bX, bY, bZ, a, b, c, hm, hP, hQ, ok, rfl, rfl⟩ := I
  have eS := hp_S_i (a := a) (b := b) (c := c) hm (hp_ww_1 hm)
  refine hp_x_cs (by omega) (hp_ok_g ok) (fun L h => ?_)
  rw [eS] at h
  exact hp_y_cs hm ok (fun L' h' x y d => ⟨congrArg nI (hp_rp_l (fun t z => hp_S_d z) h' h), ⟨m, P, Q, _, _, _, _, _, _, a, b, c, hm, hP, hQ, ok, rfl, rfl⟩⟩)
theorem i_vc_inside {k : Nat} {u : SX} {v : SY} (I : i_Rel k u v) (hk : k + 4 ≤ 2048) (v1 : Int32) (v2 : Int32) (v3 : Int32) : wpX_inside (fun r => wpY_inside (fun r' => r' = r ∧ i_Rel (k + 4) u v) v v1 v2 v3) u v1 v2 v3 := by
  obtain ⟨m, P, Q, x, y, d, bX, bY, bZ, a, b, c, hm, hP, hQ, ok, rfl, rfl⟩ := I
  unfold wpX_inside wpY_inside
  dsimp only
  refine br_c (fun g => br_t g ⟨rfl, ⟨m, P, Q, _, _, _, _, _, _, a, b, c, hm, hP, hQ, ok, rfl, rfl⟩⟩) (fun g => ?_)
  refine br_c (fun g' => ?_) (fun g' => br_f g (br_f g' ⟨rfl, ⟨m, P, Q, _, _, _, _, _, _, a, b, c, hm, hP, hQ, ok, rfl, rfl⟩⟩))
  by_cases h1 : v1.toInt.natAbs ≤ 2000
  · by_cases h2 : v2.toInt.natAbs ≤ 2000
    · have bd : hp_bd (v1.toInt, v2.toInt, v3.toInt) := by
        refine ⟨h1, h2, ?_⟩
        rw [Int32.lt_iff_toInt_lt, show (1 : Int32).toInt = 1 from rfl] at g
        rw [Int32.le_iff_toInt_le, show (50 : Int32).toInt = 50 from rfl] at g'
        show v3.toInt.natAbs ≤ 162
        omega
      have e := hp_al_i (a := a) (b := b) (c := c) hm (hp_ww_1 hm) (v1.toInt, v2.toInt, v3.toInt)
      refine hp_xv1 2000 (by omega) h1 (br_f (by decide) (hp_xv1 2000 (by omega) h2 (br_f (by decide) ?_)))
      refine hp_xal2 (by omega) (hp_ok_g ok) (-1) bd (fun H => br_f (by decide) ?_) (fun H => br_t rfl ?_)
      · rw [e] at H
        refine br_f g (br_t g' (hp_yv1 2000 (by omega) h1 (br_t rfl (hp_yv1 2000 (by omega) h2 (br_t rfl ?_)))))
        exact hp_yal2 hm ok (-1) bd (fun _ => br_f (by decide) ⟨rfl, ⟨m, P, Q, _, _, _, _, _, _, a, b, c, hm, hP, hQ, ok, rfl, rfl⟩⟩) (fun H' => absurd H H')
      · rw [e] at H
        refine br_f g (br_t g' (hp_yv1 2000 (by omega) h1 (br_t rfl (hp_yv1 2000 (by omega) h2 (br_t rfl ?_)))))
        exact hp_yal2 hm ok (-1) bd (fun H' => absurd H' H) (fun _ => br_t rfl ⟨rfl, ⟨m, P, Q, _, _, _, _, _, _, a, b, c, hm, hP, hQ, ok, rfl, rfl⟩⟩)
    · refine hp_xv1 2000 (by omega) h1 (br_f (by decide) (hp_xv0 2000 (by omega) h2 (br_t rfl ?_)))
      exact br_f g (br_t g' (hp_yv1 2000 (by omega) h1 (br_t rfl (hp_yv0 2000 (by omega) h2 (br_f (by decide) ⟨rfl, ⟨m, P, Q, _, _, _, _, _, _, a, b, c, hm, hP, hQ, ok, rfl, rfl⟩⟩)))))
  · refine hp_xv0 2000 (by omega) h1 (br_t rfl ?_)
    exact br_f g (br_t g' (hp_yv0 2000 (by omega) h1 (br_f (by decide) ⟨rfl, ⟨m, P, Q, _, _, _, _, _, _, a, b, c, hm, hP, hQ, ok, rfl, rfl⟩⟩)))
theorem i_vc_grid {k : Nat} {u : SX} {v : SY} (I : i_Rel k u v) (hk : k + 4 ≤ 2048) : wpX_grid (fun r => wpY_grid (fun r' => r' = r ∧ i_Rel (k + 4) u v) v) u := by
  obtain ⟨m, P, Q, x, y, d, bX, bY, bZ, a, b, c, hm, hP, hQ, ok, rfl, rfl⟩ := I
  have e : (fun u v => hp_al (fun s => a (hp_g s)) (fun s => b (hp_g s)) (fun s => c (hp_g s)) (hp_tx (m + 4)) (-1) (hp_gt u v)) = (fun u v => hp_al a b c (hp_ty m) (-1) (hp_gt u v)) := by
    funext u v
    exact propext (hp_al_i hm (hp_ww_1 hm) _)
  refine hp_x_gr (by omega) (hp_ok_g ok) (hp_y_gr hm ok ⟨?_, ⟨m, P, Q, _, _, _, _, _, _, a, b, c, hm, hP, hQ, ok, rfl, rfl⟩⟩)
  rw [e]
end
