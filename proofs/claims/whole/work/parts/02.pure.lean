/-! triples (x, y, d) for the point (x / d, y / d) -/
abbrev hp_T : Type := Int × Int × Int
def hp_D (f g : Nat → Int) (i j : Nat) : Int := f i * g j - f j * g i
theorem hp_Dn (f g : Nat → Int) (i j : Nat) : hp_D f g j i = - hp_D f g i j := by
  unfold hp_D; omega
def hp_tr (a b c : Nat → Int) (i j : Nat) : hp_T := (hp_D c b i j, hp_D a c i j, hp_D a b i j)
def hp_ok (a b c : Nat → Int) : Prop := ∀ i, (a i).natAbs ≤ 9 ∧ (b i).natAbs ≤ 9 ∧ (c i).natAbs ≤ 99
theorem hp_bD {a b c : Nat → Int} (h : hp_ok a b c) (i j : Nat) : (hp_D a b i j).natAbs ≤ 162 :=
  hp_bs (M := 81) (N := 81) (hp_bm (h i).1 (h j).2.1) (hp_bm (h j).1 (h i).2.1)
theorem hp_bX {a b c : Nat → Int} (h : hp_ok a b c) (i j : Nat) : (hp_D c b i j).natAbs ≤ 1782 :=
  hp_bs (M := 891) (N := 891) (hp_bm (h i).2.2 (h j).2.1) (hp_bm (h j).2.2 (h i).2.1)
theorem hp_bY {a b c : Nat → Int} (h : hp_ok a b c) (i j : Nat) : (hp_D a c i j).natAbs ≤ 1782 :=
  hp_bs (M := 891) (N := 891) (hp_bm (h i).1 (h j).2.2) (hp_bm (h j).1 (h i).2.2)
/-- bounds of a triple -/
def hp_bd (t : hp_T) : Prop := t.1.natAbs ≤ 2000 ∧ t.2.1.natAbs ≤ 2000 ∧ t.2.2.natAbs ≤ 162
theorem hp_btr {a b c : Nat → Int} (h : hp_ok a b c) (i j : Nat) : hp_bd (hp_tr a b c i j) :=
  ⟨Nat.le_trans (hp_bX h i j) (by decide), Nat.le_trans (hp_bY h i j) (by decide), hp_bD h i j⟩
def hp_al (a b c : Nat → Int) (th : Nat → Prop) (w : Int32) (t : hp_T) : Prop :=
  ∀ s, th s → nI s ≠ w → a s * t.1 + b s * t.2.1 ≤ c s * t.2.2
def hp_pt (a b : Nat → Int) (th : Nat → Prop) (w : Int32) (i j : Nat) : Prop :=
  th i ∧ th j ∧ nI i ≠ w ∧ nI j ≠ w ∧ 0 < hp_D a b i j
def hp_co (a b c : Nat → Int) (th : Nat → Prop) (w : Int32) (i j : Nat) : Prop :=
  hp_pt a b th w i j ∧ hp_al a b c th w (hp_tr a b c i j)
def hp_S (a b c : Nat → Int) (th : Nat → Prop) (w : Int32) (t : hp_T) : Prop :=
  ∃ i j, hp_co a b c th w i j ∧ t = hp_tr a b c i j
def hp_sm (t t' : hp_T) : Prop := t.1 * t'.2.2 = t'.1 * t.2.2 ∧ t.2.1 * t'.2.2 = t'.2.1 * t.2.2
def hp_v (p q : Int) (t : hp_T) : Int := p * t.1 + q * t.2.1
def hp_bt (p q : Int) (t t' : hp_T) : Prop :=
  hp_v p q t' * t.2.2 < hp_v p q t * t'.2.2 ∨ (hp_v p q t * t'.2.2 = hp_v p q t' * t.2.2 ∧
    (t.1 * t'.2.2 < t'.1 * t.2.2 ∨ (t.1 * t'.2.2 = t'.1 * t.2.2 ∧ t.2.1 * t'.2.2 < t'.2.1 * t.2.2)))
theorem hp_ml {a b k : Int} (hk : 0 < k) : a < b ↔ a * k < b * k := (Int.mul_lt_mul_right hk).symm
theorem hp_me {a b k : Int} (hk : 0 < k) : a = b ↔ a * k = b * k :=
  ⟨fun h => by rw [h], fun h => Int.eq_of_mul_eq_mul_right (by omega) h⟩
theorem hp_btk (p q : Int) (t t' : hp_T) {k : Int} (hk : 0 < k) : hp_bt p q t t' ↔
    (hp_v p q t' * t.2.2 * k < hp_v p q t * t'.2.2 * k ∨ (hp_v p q t * t'.2.2 * k = hp_v p q t' * t.2.2 * k ∧
    (t.1 * t'.2.2 * k < t'.1 * t.2.2 * k ∨ (t.1 * t'.2.2 * k = t'.1 * t.2.2 * k ∧ t.2.1 * t'.2.2 * k < t'.2.1 * t.2.2 * k)))) := by
  unfold hp_bt
  rw [hp_ml (a := hp_v p q t' * t.2.2) hk, hp_me (a := hp_v p q t * t'.2.2) hk, hp_ml (a := t.1 * t'.2.2) hk, hp_me (a := t.1 * t'.2.2) hk, hp_ml (a := t.2.1 * t'.2.2) hk]
theorem hp_lx {v1 v2 v3 x1 x2 x3 y1 y2 y3 : Int}
    (h : v2 < v1 ∨ (v1 = v2 ∧ (x1 < x2 ∨ (x1 = x2 ∧ y1 < y2))))
    (h' : v3 < v2 ∨ (v2 = v3 ∧ (x2 < x3 ∨ (x2 = x3 ∧ y2 < y3)))) :
    v3 < v1 ∨ (v1 = v3 ∧ (x1 < x3 ∨ (x1 = x3 ∧ y1 < y3))) := by omega
theorem hp_bt_tr {p q : Int} {t1 t2 t3 : hp_T} (d1 : 0 < t1.2.2) (d2 : 0 < t2.2.2) (d3 : 0 < t3.2.2)
    (h : hp_bt p q t1 t2) (h' : hp_bt p q t2 t3) : hp_bt p q t1 t3 := by
  rw [hp_btk p q t1 t2 d3] at h
  rw [hp_btk p q t2 t3 d1] at h'
  rw [hp_btk p q t1 t3 d2]
  rw [Int.mul_right_comm _ t1.2.2 t3.2.2, Int.mul_right_comm _ t1.2.2 t3.2.2, Int.mul_right_comm _ t1.2.2 t3.2.2] at h
  rw [Int.mul_right_comm _ t2.2.2 t1.2.2, Int.mul_right_comm _ t2.2.2 t1.2.2, Int.mul_right_comm _ t2.2.2 t1.2.2] at h'
  rw [Int.mul_right_comm _ t3.2.2 t2.2.2, Int.mul_right_comm _ t3.2.2 t2.2.2, Int.mul_right_comm _ t3.2.2 t2.2.2]
  exact hp_lx h h'
/-- neither is better: the same value and the same point -/
theorem hp_bt_eq {p q : Int} {t t' : hp_T} (h : ¬ hp_bt p q t t') (h' : ¬ hp_bt p q t' t) :
    hp_v p q t * t'.2.2 = hp_v p q t' * t.2.2 ∧ hp_sm t t' := by
  unfold hp_bt at h h'
  unfold hp_sm
  generalize hp_v p q t * t'.2.2 = a1 at *
  generalize hp_v p q t' * t.2.2 = a2 at *
  generalize t.1 * t'.2.2 = a3 at *
  generalize t'.1 * t.2.2 = a4 at *
  generalize t.2.1 * t'.2.2 = a5 at *
  generalize t'.2.1 * t.2.2 = a6 at *
  omega
theorem hp_sm_s {t t' : hp_T} (h : hp_sm t t') : hp_sm t' t := ⟨h.1.symm, h.2.symm⟩
theorem hp_sm_1 {x1 x2 x3 d1 d2 d3 : Int} (h : d2 ≠ 0) (h1 : x1 * d2 = x2 * d1) (h2 : x2 * d3 = x3 * d2) : x1 * d3 = x3 * d1 := by
  apply Int.eq_of_mul_eq_mul_right h
  rw [Int.mul_right_comm, h1, Int.mul_right_comm, h2, Int.mul_right_comm]
theorem hp_sm_t {t1 t2 t3 : hp_T} (d2 : 0 < t2.2.2) (h : hp_sm t1 t2) (h' : hp_sm t2 t3) : hp_sm t1 t3 :=
  ⟨hp_sm_1 (by omega) h.1 h'.1, hp_sm_1 (by omega) h.2 h'.2⟩
/-- a half-plane sees the point, not the triple -/
theorem hp_sm_l {t t' : hp_T} (A B : Int) (h : hp_sm t t') : (A * t.1 + B * t.2.1) * t'.2.2 = (A * t'.1 + B * t'.2.1) * t.2.2 := by
  rw [Int.add_mul, Int.add_mul, Int.mul_assoc, Int.mul_assoc, Int.mul_assoc, Int.mul_assoc, h.1, h.2]
theorem hp_sm_le {t t' : hp_T} (A B C : Int) (d : 0 < t.2.2) (d' : 0 < t'.2.2) (h : hp_sm t t') :
    A * t.1 + B * t.2.1 ≤ C * t.2.2 ↔ A * t'.1 + B * t'.2.1 ≤ C * t'.2.2 := by
  rw [← Int.mul_le_mul_right d', hp_sm_l A B h, Int.mul_right_comm, Int.mul_le_mul_right d]
theorem hp_sm_eq {t t' : hp_T} (A B C : Int) (d : 0 < t.2.2) (d' : 0 < t'.2.2) (h : hp_sm t t') :
    A * t.1 + B * t.2.1 = C * t.2.2 ↔ A * t'.1 + B * t'.2.1 = C * t'.2.2 := by
  rw [hp_me d', hp_sm_l A B h, Int.mul_right_comm, ← hp_me d]
theorem hp_sm_al {a b c : Nat → Int} {th : Nat → Prop} {w : Int32} {t t' : hp_T} (d : 0 < t.2.2) (d' : 0 < t'.2.2) (h : hp_sm t t')
    (H : hp_al a b c th w t) : hp_al a b c th w t' :=
  fun s hs hw => (hp_sm_le _ _ _ d d' h).mp (H s hs hw)
theorem hp_S_d {a b c : Nat → Int} {th : Nat → Prop} {w : Int32} {t : hp_T} (h : hp_S a b c th w t) : 0 < t.2.2 := by
  obtain ⟨i, j, h, rfl⟩ := h
  exact h.1.2.2.2.2
/-! the best of a set of triples, as it grows -/
def hp_be (p q : Int) (S : hp_T → Prop) (t : hp_T) : Prop := S t ∧ ∀ t', S t' → ¬ hp_bt p q t' t
theorem hp_be_1 {p q : Int} {S S' : hp_T → Prop} {t0 : hp_T} (d0 : 0 < t0.2.2) (hn : ∀ t, ¬ S t) (h : ∀ t, S' t ↔ S t ∨ t = t0) : hp_be p q S' t0 := by
  refine ⟨(h _).mpr (Or.inr rfl), fun t' ht' hb => ?_⟩
  rcases (h _).mp ht' with z | rfl
  · exact hn _ z
  · unfold hp_bt at hb
    omega
theorem hp_be_y {p q : Int} {S S' : hp_T → Prop} {t0 t : hp_T} (hd : ∀ t, S' t → 0 < t.2.2) (H : hp_be p q S t) (h : ∀ t, S' t ↔ S t ∨ t = t0) (hb : hp_bt p q t0 t) : hp_be p q S' t0 := by
  have d0 := hd t0 ((h _).mpr (Or.inr rfl))
  have d := hd t ((h _).mpr (Or.inl H.1))
  refine ⟨(h _).mpr (Or.inr rfl), fun t' ht' hb' => ?_⟩
  rcases (h _).mp ht' with z | rfl
  · exact H.2 _ z (hp_bt_tr (hd _ ht') d0 d hb' hb)
  · unfold hp_bt at hb'
    omega
theorem hp_be_n {p q : Int} {S S' : hp_T → Prop} {t0 t : hp_T} (H : hp_be p q S t) (h : ∀ t, S' t ↔ S t ∨ t = t0) (hb : ¬ hp_bt p q t0 t) : hp_be p q S' t := by
  refine ⟨(h _).mpr (Or.inl H.1), fun t' ht' hb' => ?_⟩
  rcases (h _).mp ht' with z | rfl
  · exact H.2 _ z hb'
  · exact hb hb'
theorem hp_be_c {p q : Int} {S S' : hp_T → Prop} {t : hp_T} (H : hp_be p q S t) (h : ∀ t, S' t ↔ S t) : hp_be p q S' t :=
  ⟨(h _).mpr H.1, fun t' ht' => H.2 t' ((h _).mp ht')⟩
/-! representatives of a set of triples, as it grows -/
def hp_rp (S : hp_T → Prop) (L : List hp_T) : Prop :=
  (∀ t, t ∈ L → S t) ∧ (∀ t, S t → ∃ t', t' ∈ L ∧ hp_sm t' t) ∧ L.Pairwise (fun t t' => ¬ hp_sm t t')
theorem hp_rp_0 {S : hp_T → Prop} (hn : ∀ t, ¬ S t) : hp_rp S [] :=
  ⟨fun t h => absurd h List.not_mem_nil, fun t h => absurd h (hn t), List.Pairwise.nil⟩
theorem hp_rp_c {S S' : hp_T → Prop} {L : List hp_T} (H : hp_rp S L) (h : ∀ t, S' t ↔ S t) : hp_rp S' L :=
  ⟨fun t ht => (h t).mpr (H.1 t ht), fun t ht => H.2.1 t ((h t).mp ht), H.2.2⟩
theorem hp_rp_y {S S' : hp_T → Prop} {L : List hp_T} {t0 : hp_T} (H : hp_rp S L) (h : ∀ t, S' t ↔ S t ∨ t = t0) (hf : ∀ t, S t → ¬ hp_sm t t0) : hp_rp S' (t0 :: L) := by
  refine ⟨fun t ht => ?_, fun t ht => ?_, ?_⟩
  · rcases List.mem_cons.mp ht with z | z
    · exact (h t).mpr (Or.inr z)
    · exact (h t).mpr (Or.inl (H.1 t z))
  · rcases (h t).mp ht with z | rfl
    · obtain ⟨t', m, e⟩ := H.2.1 t z
      exact ⟨t', List.mem_cons_of_mem _ m, e⟩
    · exact ⟨t, List.mem_cons_self, rfl, rfl⟩
  · exact List.Pairwise.cons (fun t' ht' z => hf t' (H.1 t' ht') (hp_sm_s z)) H.2.2
theorem hp_rp_n {S S' : hp_T → Prop} {L : List hp_T} {t0 : hp_T} (hd : ∀ t, S' t → 0 < t.2.2) (H : hp_rp S L) (h : ∀ t, S' t ↔ S t ∨ t = t0) (hf : ∃ t, S t ∧ hp_sm t t0) : hp_rp S' L := by
  refine ⟨fun t ht => (h t).mpr (Or.inl (H.1 t ht)), fun t ht => ?_, H.2.2⟩
  rcases (h t).mp ht with z | rfl
  · exact H.2.1 t z
  · obtain ⟨t1, s1, e1⟩ := hf
    obtain ⟨t', m, e⟩ := H.2.1 t1 s1
    exact ⟨t', m, hp_sm_t (hd _ ((h _).mpr (Or.inl s1))) e e1⟩
theorem hp_pg (D : List hp_T) : ∀ E : List hp_T, (∀ t, t ∈ E → 0 < t.2.2) → D.Pairwise (fun t t' => ¬ hp_sm t t') → (∀ t, t ∈ D → ∃ e, e ∈ E ∧ hp_sm e t) → D.length ≤ E.length := by
  induction D with
  | nil => intro E _ _ _; exact Nat.zero_le _
  | cons t D ih =>
    intro E hE hp hs
    obtain ⟨e, he, hse⟩ := hs t List.mem_cons_self
    obtain ⟨E1, E2, rfl⟩ := List.append_of_mem he
    have hp' := List.pairwise_cons.mp hp
    have k := ih (E1 ++ E2) (fun t' h' => hE t' (by
        rcases List.mem_append.mp h' with z | z
        · exact List.mem_append.mpr (Or.inl z)
        · exact List.mem_append.mpr (Or.inr (List.mem_cons_of_mem _ z)))) hp'.2 (fun t' h' => by
        obtain ⟨e', he', hs'⟩ := hs t' (List.mem_cons_of_mem _ h')
        rcases List.mem_append.mp he' with z | z
        · exact ⟨e', List.mem_append.mpr (Or.inl z), hs'⟩
        · rcases List.mem_cons.mp z with rfl | z
          · exact absurd (hp_sm_t (hE _ he) (hp_sm_s hse) hs') (hp'.1 t' h')
          · exact ⟨e', List.mem_append.mpr (Or.inr z), hs'⟩)
    rw [List.length_append] at k
    rw [List.length_append, List.length_cons, List.length_cons]
    omega
theorem hp_rp_l {S : hp_T → Prop} {L L' : List hp_T} (hd : ∀ t, S t → 0 < t.2.2) (H : hp_rp S L) (H' : hp_rp S L') : L.length = L'.length := by
  apply Nat.le_antisymm
  · exact hp_pg L L' (fun t h => hd t (H'.1 t h)) H.2.2 (fun t h => H'.2.1 t (H.1 t h))
  · exact hp_pg L' L (fun t h => hd t (H.1 t h)) H'.2.2 (fun t h => H.2.1 t (H'.1 t h))
/-! lowest terms -/
theorem hp_red {u d u' d' : Int} (hd : 0 < d) (hd' : 0 < d') (h : u * d' = u' * d) :
    ∃ a b : Int, u = (Nat.gcd u.natAbs d.natAbs : Nat) * a ∧ d = (Nat.gcd u.natAbs d.natAbs : Nat) * b ∧
      u' = (Nat.gcd u'.natAbs d'.natAbs : Nat) * a ∧ d' = (Nat.gcd u'.natAbs d'.natAbs : Nat) * b := by
  have g0 : 0 < Nat.gcd u.natAbs d.natAbs := Nat.gcd_pos_of_pos_right _ (by omega)
  have g0' : 0 < Nat.gcd u'.natAbs d'.natAbs := Nat.gcd_pos_of_pos_right _ (by omega)
  have e : Nat.gcd u.natAbs d.natAbs * d'.natAbs = Nat.gcd u'.natAbs d'.natAbs * d.natAbs := by
    rw [← Nat.gcd_mul_right, ← Nat.gcd_mul_right, ← Int.natAbs_mul, ← Int.natAbs_mul, h, Int.mul_comm d, Int.natAbs_mul, Int.natAbs_mul]
  obtain ⟨a, ha⟩ := Int.ofNat_dvd_left.mpr (Nat.gcd_dvd_left u.natAbs d.natAbs)
  obtain ⟨b, hb⟩ := Int.ofNat_dvd_left.mpr (Nat.gcd_dvd_right u.natAbs d.natAbs)
  obtain ⟨a', ha'⟩ := Int.ofNat_dvd_left.mpr (Nat.gcd_dvd_left u'.natAbs d'.natAbs)
  obtain ⟨b', hb'⟩ := Int.ofNat_dvd_left.mpr (Nat.gcd_dvd_right u'.natAbs d'.natAbs)
  generalize Nat.gcd u.natAbs d.natAbs = g at *
  generalize Nat.gcd u'.natAbs d'.natAbs = g' at *
  have E : (g : Int) * d' = (g' : Int) * d := by
    have := congrArg (fun n : Nat => (n : Int)) e
    simp only [Int.natCast_mul] at this
    rw [show ((d'.natAbs : Nat) : Int) = d' by omega, show ((d.natAbs : Nat) : Int) = d by omega] at this
    exact this
  have G : (g : Int) ≠ 0 := by omega
  have G' : (g' : Int) ≠ 0 := by omega
  have eb : b = b' := by
    rw [hb, hb', Int.mul_left_comm] at E
    exact (Int.eq_of_mul_eq_mul_left G (Int.eq_of_mul_eq_mul_left G' E)).symm
  have ea : a = a' := by
    have k : (g : Int) * d' ≠ 0 := Int.mul_ne_zero G (by omega)
    apply Int.eq_of_mul_eq_mul_left k
    calc (g : Int) * d' * a = (g : Int) * a * d' := Int.mul_right_comm _ _ _
      _ = u' * d := by rw [← ha]; exact h
      _ = (g' : Int) * a' * d := by rw [← ha']
      _ = (g' : Int) * d * a' := Int.mul_right_comm _ _ _
      _ = (g : Int) * d' * a' := by rw [E]
  subst ea eb
  exact ⟨a, b, ha, hb, ha', hb'⟩
theorem hp_dv {u a : Int} {g : Nat} (h : u = (g : Int) * a) (h0 : 0 < g) (hg : g < 2147483648) (hu : u.natAbs < 2147483648) : hp_i u / nI g = hp_i a := by
  rw [hp_nat]
  have k : a = u.tdiv (g : Int) := by rw [h]; exact (Int.mul_tdiv_cancel_left a (by omega)).symm
  rw [k]
  have m1 : Int32.minValue.toInt = -2147483648 := by decide
  have m2 : Int32.maxValue.toInt = 2147483647 := by decide
  exact (Int32.ofInt_tdiv (by omega) (by omega) (by omega) (by omega)).symm
