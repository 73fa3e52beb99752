/-! numbers against literals, the relation -/
theorem mn_10 : ¬ (1 : Int32) = 0 := by decide
theorem mn_60lt {a : Nat} (h : a < 2 ^ 31) : (60 : Int32) < nI a ↔ 60 < a := nI_ltI (a := 60) (by omega) h
theorem mn_60le {a : Nat} (h : a < 2 ^ 31) : (60 : Int32) ≤ nI a ↔ 60 ≤ a := nI_leI (a := 60) (by omega) h
theorem mn_12le {a : Nat} (h : a < 2 ^ 31) : (12 : Int32) ≤ nI a ↔ 12 ≤ a := nI_leI (a := 12) (by omega) h
theorem mn_12lt {a : Nat} (h : a < 2 ^ 31) : (12 : Int32) < nI a ↔ 12 < a := nI_ltI (a := 12) (by omega) h
theorem mn_4le {a : Nat} (h : a < 2 ^ 31) : (4 : Int32) ≤ nI a ↔ 4 ≤ a := nI_leI (a := 4) (by omega) h
theorem mn_le0 {a : Nat} (h : a < 2 ^ 31) : nI a ≤ 0 ↔ a ≤ 0 := nI_leI (b := 0) h (by omega)
theorem mn_lt0 {a : Nat} (h : a < 2 ^ 31) : nI a < 0 ↔ False := ⟨fun z => nI_pos h z, fun z => z.elim⟩
theorem mn_0le {a : Nat} (h : a < 2 ^ 31) : (0 : Int32) ≤ nI a ↔ True := ⟨fun _ => trivial, fun _ => nI_pos' h⟩
theorem mn_eq0 {a : Nat} (h : a < 2 ^ 31) : nI a = 0 ↔ a = 0 := nI_eq (b := 0) h (by omega)
theorem mn_1le {a : Nat} (h : a < 2 ^ 31) : (1 : Int32) ≤ nI a ↔ 1 ≤ a := nI_leI (a := 1) (by omega) h
theorem mn_lt1 {a : Nat} (h : a < 2 ^ 31) : nI a < 1 ↔ a < 1 := nI_ltI (b := 1) h (by omega)
theorem mn_le60 {a : Nat} (h : a < 2 ^ 31) : nI a ≤ 60 ↔ a ≤ 60 := nI_leI (b := 60) h (by omega)
theorem mn_lt12 {a : Nat} (h : a < 2 ^ 31) : nI a < 12 ↔ a < 12 := nI_ltI (b := 12) h (by omega)
theorem mn_le3 {a : Nat} (h : a < 2 ^ 31) : nI a ≤ 3 ↔ a ≤ 3 := nI_leI (b := 3) h (by omega)
theorem mn_3lt {a : Nat} (h : a < 2 ^ 31) : (3 : Int32) < nI a ↔ 3 < a := nI_ltI (a := 3) (by omega) h
theorem mn_9lt {a : Nat} (h : a < 2 ^ 31) : (9 : Int32) < nI a ↔ 9 < a := nI_ltI (a := 9) (by omega) h
theorem mn_10le {a : Nat} (h : a < 2 ^ 31) : (10 : Int32) ≤ nI a ↔ 10 ≤ a := nI_leI (a := 10) (by omega) h
theorem mn_60s {a : Nat} (h : a ≤ 60) : (60 : Int32) - nI a = nI (60 - a) := pk_sub (a := 60) h
theorem mn_s1 {a : Nat} (h : 1 ≤ a) : nI a - 1 = nI (a - 1) := pk_sub (b := 1) h
/-- an argument: below 0, or n or more, or one of 0 .. n - 1 -/
theorem mn_cs (x : Int32) (n : Nat) (hn : n < 2 ^ 31) : x < 0 ∨ (∃ j : Nat, n ≤ j ∧ j < 2 ^ 31 ∧ x = nI j) ∨ ∃ j : Nat, j < n ∧ x = nI j := by
  by_cases h : x < 0
  · exact Or.inl h
  · obtain ⟨j, hj, e⟩ := nI_of h
    by_cases h2 : j < n
    · exact Or.inr (Or.inr ⟨j, h2, e⟩)
    · exact Or.inr (Or.inl ⟨j, by omega, hj, e⟩)
theorem mn_neg {x : Int32} {a : Nat} (h : x < 0) (ha : a < 2 ^ 31) : x < nI a := by
  rw [Int32.lt_iff_toInt_lt, show (0 : Int32).toInt = 0 from by decide] at h
  rw [Int32.lt_iff_toInt_lt, nI_toInt ha]
  omega
theorem mn_nge {x : Int32} {a : Nat} (h : x < 0) (ha : a < 2 ^ 31) : ¬ nI a ≤ x := by
  have := mn_neg h ha
  rw [Int32.lt_iff_toInt_lt] at this
  rw [Int32.le_iff_toInt_le]
  omega
theorem mn_nlt {x : Int32} {a : Nat} (h : x < 0) (ha : a < 2 ^ 31) : ¬ nI a < x := by
  have := mn_neg h ha
  rw [Int32.lt_iff_toInt_lt] at this
  rw [Int32.lt_iff_toInt_lt]
  omega
theorem mn_le {x : Int32} {a : Nat} (h : x < 0) (ha : a < 2 ^ 31) : x ≤ nI a := by
  have := mn_neg h ha
  rw [Int32.lt_iff_toInt_lt] at this
  rw [Int32.le_iff_toInt_le]
  omega
/-- no letter; no engine -/
def mn_bad (n : Nat) (x : Int32) : Prop := x < 0 ∨ ∃ j : Nat, n ≤ j ∧ j < 2 ^ 31 ∧ x = nI j
theorem mn_lc (x : Int32) (n : Nat) (hn : n < 2 ^ 31) : mn_bad n x ∨ ∃ j : Nat, j < n ∧ x = nI j := by
  rcases mn_cs x n hn with h | h | h
  · exact Or.inl (Or.inl h)
  · exact Or.inl (Or.inr h)
  · exact Or.inr h
theorem xl_t {post : Int32 → Prop} {l : Nat} (hl : l < 4) (h : post 1) : wpX_isLetter post (nI l) := by
  have n4 : ¬ 4 ≤ l := by omega
  unfold wpX_isLetter
  simp (disch := omega) only [n4, forall_eq, nI_leI, nI_ltI, nI_eq, vp_in_nI, nI_clamp, nI_1, nI_add, pk_sub, mn_10, mn_60lt, mn_60le, mn_12le, mn_4le, mn_le0, mn_lt0, mn_0le, mn_eq0, mn_1le, mn_lt1, mn_le60, mn_lt12, mn_12lt, mn_le3, true_implies, forall_const, not_true_eq_false, not_false_eq_true, false_implies, and_true, true_and, implies_true, and_self, if_true, if_false]
  exact h
theorem xl_f {post : Int32 → Prop} {x : Int32} (hx : mn_bad 4 x) (h : post 0) : wpX_isLetter post x := by
  rcases hx with hx | ⟨j, h1, h2, rfl⟩
  · exact br_t hx h
  · unfold wpX_isLetter
    simp (disch := omega) only [h1, forall_eq, nI_leI, nI_ltI, nI_eq, vp_in_nI, nI_clamp, nI_1, nI_add, pk_sub, mn_10, mn_60lt, mn_60le, mn_12le, mn_4le, mn_le0, mn_lt0, mn_0le, mn_eq0, mn_1le, mn_lt1, mn_le60, mn_lt12, mn_12lt, mn_le3, true_implies, forall_const, not_true_eq_false, not_false_eq_true, false_implies, and_true, true_and, implies_true, and_self, if_true, if_false]
    exact h
theorem yl_t {post : Int32 → Prop} {v : SY} {l : Nat} (hl : l < 4) (h : post 1) : wpY_isLetter post v (nI l) := by
  have n4 : ¬ 3 < l := by omega
  unfold wpY_isLetter
  simp (disch := omega) only [n4, mn_3lt, forall_eq, nI_leI, nI_ltI, nI_eq, vp_in_nI, nI_clamp, nI_1, nI_add, pk_sub, mn_10, mn_60lt, mn_60le, mn_12le, mn_4le, mn_le0, mn_lt0, mn_0le, mn_eq0, mn_1le, mn_lt1, mn_le60, mn_lt12, mn_12lt, mn_le3, true_implies, forall_const, not_true_eq_false, not_false_eq_true, false_implies, and_true, true_and, implies_true, and_self, if_true, if_false]
  exact h
theorem yl_f {post : Int32 → Prop} {v : SY} {x : Int32} (hx : mn_bad 4 x) (h : post 0) : wpY_isLetter post v x := by
  rcases hx with hx | ⟨j, h1, h2, rfl⟩
  · exact br_t hx h
  · have n4 : 3 < j := by omega
    unfold wpY_isLetter
    simp (disch := omega) only [n4, mn_3lt, forall_eq, nI_leI, nI_ltI, nI_eq, vp_in_nI, nI_clamp, nI_1, nI_add, pk_sub, mn_10, mn_60lt, mn_60le, mn_12le, mn_4le, mn_le0, mn_lt0, mn_0le, mn_eq0, mn_1le, mn_lt1, mn_le60, mn_lt12, mn_12lt, mn_le3, true_implies, forall_const, not_true_eq_false, not_false_eq_true, false_implies, and_true, true_and, implies_true, and_self, if_true, if_false]
    exact h
theorem xe_t {post : Int32 → Prop} {l : Nat} (hl : l < 10) (h : post 1) : wpX_isEngine post (nI l) := by
  have n4 : ¬ 10 ≤ l := by omega
  unfold wpX_isEngine
  simp (disch := omega) only [n4, mn_10le, forall_eq, nI_leI, nI_ltI, nI_eq, vp_in_nI, nI_clamp, nI_1, nI_add, pk_sub, mn_10, mn_60lt, mn_60le, mn_12le, mn_4le, mn_le0, mn_lt0, mn_0le, mn_eq0, mn_1le, mn_lt1, mn_le60, mn_lt12, mn_12lt, mn_le3, true_implies, forall_const, not_true_eq_false, not_false_eq_true, false_implies, and_true, true_and, implies_true, and_self, if_true, if_false]
  exact h
theorem xe_f {post : Int32 → Prop} {x : Int32} (hx : mn_bad 10 x) (h : post 0) : wpX_isEngine post x := by
  rcases hx with hx | ⟨j, h1, h2, rfl⟩
  · exact br_t hx h
  · unfold wpX_isEngine
    simp (disch := omega) only [h1, mn_10le, forall_eq, nI_leI, nI_ltI, nI_eq, vp_in_nI, nI_clamp, nI_1, nI_add, pk_sub, mn_10, mn_60lt, mn_60le, mn_12le, mn_4le, mn_le0, mn_lt0, mn_0le, mn_eq0, mn_1le, mn_lt1, mn_le60, mn_lt12, mn_12lt, mn_le3, true_implies, forall_const, not_true_eq_false, not_false_eq_true, false_implies, and_true, true_and, implies_true, and_self, if_true, if_false]
    exact h
theorem ye_t {post : Int32 → Prop} {v : SY} {l : Nat} (hl : l < 10) (h : post 1) : wpY_engine post v (nI l) := by
  have n4 : ¬ 9 < l := by omega
  unfold wpY_engine
  simp (disch := omega) only [n4, mn_9lt, forall_eq, nI_leI, nI_ltI, nI_eq, vp_in_nI, nI_clamp, nI_1, nI_add, pk_sub, mn_10, mn_60lt, mn_60le, mn_12le, mn_4le, mn_le0, mn_lt0, mn_0le, mn_eq0, mn_1le, mn_lt1, mn_le60, mn_lt12, mn_12lt, mn_le3, true_implies, forall_const, not_true_eq_false, not_false_eq_true, false_implies, and_true, true_and, implies_true, and_self, if_true, if_false]
  exact h
theorem ye_f {post : Int32 → Prop} {v : SY} {x : Int32} (hx : mn_bad 10 x) (h : post 0) : wpY_engine post v x := by
  rcases hx with hx | ⟨j, h1, h2, rfl⟩
  · exact br_t hx h
  · have n4 : 9 < j := by omega
    unfold wpY_engine
    simp (disch := omega) only [n4, mn_9lt, forall_eq, nI_leI, nI_ltI, nI_eq, vp_in_nI, nI_clamp, nI_1, nI_add, pk_sub, mn_10, mn_60lt, mn_60le, mn_12le, mn_4le, mn_le0, mn_lt0, mn_0le, mn_eq0, mn_1le, mn_lt1, mn_le60, mn_lt12, mn_12lt, mn_le3, true_implies, forall_const, not_true_eq_false, not_false_eq_true, false_implies, and_true, true_and, implies_true, and_self, if_true, if_false]
    exact h
theorem ym_t {post : Int32 → Prop} {v : SY} {l : Nat} (h1 : 1 ≤ l) (hl : l ≤ 60) (h : post 1) : wpY_many post v (nI l) := by
  have n4 : ¬ 60 < l := by omega
  have n1 : ¬ l < 1 := by omega
  unfold wpY_many
  simp (disch := omega) only [n4, n1, forall_eq, nI_leI, nI_ltI, nI_eq, vp_in_nI, nI_clamp, nI_1, nI_add, pk_sub, mn_10, mn_60lt, mn_60le, mn_12le, mn_4le, mn_le0, mn_lt0, mn_0le, mn_eq0, mn_1le, mn_lt1, mn_le60, mn_lt12, mn_12lt, mn_le3, true_implies, forall_const, not_true_eq_false, not_false_eq_true, false_implies, and_true, true_and, implies_true, and_self, if_true, if_false]
  exact h
theorem ym_f {post : Int32 → Prop} {v : SY} {x : Int32} (hx : x < 1 ∨ ∃ j : Nat, 61 ≤ j ∧ j < 2 ^ 31 ∧ x = nI j) (h : post 0) : wpY_many post v x := by
  rcases hx with hx | ⟨j, h1, h2, rfl⟩
  · exact br_t hx h
  · have n4 : 60 < j := by omega
    have n1 : ¬ j < 1 := by omega
    unfold wpY_many
    simp (disch := omega) only [n4, n1, forall_eq, nI_leI, nI_ltI, nI_eq, vp_in_nI, nI_clamp, nI_1, nI_add, pk_sub, mn_10, mn_60lt, mn_60le, mn_12le, mn_4le, mn_le0, mn_lt0, mn_0le, mn_eq0, mn_1le, mn_lt1, mn_le60, mn_lt12, mn_12lt, mn_le3, true_implies, forall_const, not_true_eq_false, not_false_eq_true, false_implies, and_true, true_and, implies_true, and_self, if_true, if_false]
    exact h
/-- THE RELATION: the same text, the same pattern, their lengths, letters alone; the component's tables are free -/
def i_Rel (k : Nat) (u : SX) (v : SY) : Prop := ∃ (m p : Nat) (T P bd jo pl la ss pp tr : Nat → Int32) (tp : Nat → Int64), u = ((nI m), (nI p), T, P, bd, jo, pl, la, ss, pp, tr, tp) ∧ v = ((nI m), (nI p), T, P) ∧ m ≤ 60 ∧ p ≤ 12 ∧ mm_lt T ∧ mm_lt P
theorem i_up {k : Nat} {u : SX} {v : SY} (h : i_Rel k u v) : i_Rel (k + 3) u v := h
theorem mn_R {k m p : Nat} {T P bd jo pl la ss pp tr : Nat → Int32} {tp : Nat → Int64} (hm : m ≤ 60) (hp : p ≤ 12) (hT : mm_lt T) (hP : mm_lt P) : i_Rel k ((nI m), (nI p), T, P, bd, jo, pl, la, ss, pp, tr, tp) ((nI m), (nI p), T, P) := ⟨m, p, T, P, bd, jo, pl, la, ss, pp, tr, tp, rfl, rfl, hm, hp, hT, hP⟩
theorem mm_lt0 : mm_lt (fun _ => 0) := fun _ => ⟨0, by omega, nI_0.symm⟩
theorem mm_ltU {f : Nat → Int32} {k l : Nat} (h : mm_lt f) (hl : l < 4) : mm_lt (upd f k (nI l)) := by
  intro i
  by_cases e : i = k
  · subst e
    exact ⟨l, hl, pk_us⟩
  · rw [pk_un e]
    exact h i
theorem mm_ltV {f : Nat → Int32} {k : Nat} {x : Int32} (h : mm_lt f) (hl : ∃ l, l < 4 ∧ x = nI l) : mm_lt (upd f k x) := by
  obtain ⟨l, h1, rfl⟩ := hl
  exact mm_ltU h h1
theorem i_vc0 : wpX_init (fun u => wpY_init (fun v => i_Rel 0 u v)) := mn_R (k := 0) (m := 0) (p := 0) (by omega) (by omega) mm_lt0 mm_lt0
