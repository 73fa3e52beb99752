/-! the calls that change text and pattern, and shared -/
section
variable {T P bd jo pl la ss pp tr : Nat → Int32} {tp : Nat → Int64} {m p : Nat}
def mw_f (x : Int32) : Nat → Nat → (Nat → Int32) → (Nat → Int32)
  | 0, _, T => T
  | k + 1, s, T => mw_f x k (s + 1) (upd T s x)
theorem mw_fl {l : Nat} (hl : l < 4) : ∀ (k s : Nat) (T : Nat → Int32), mm_lt T → mm_lt (mw_f (nI l) k s T) := by
  intro k
  induction k with
  | zero => intro s T h; exact h
  | succ k ih => intro s T h; exact ih (s + 1) _ (mm_ltU h hl)
theorem mw_xw {post : Int32 → SX → Prop} {x : Int32} {e : Nat} (he : e ≤ 60) : ∀ (k s n : Nat) (T : Nat → Int32), s + k = e → k < n → post (nI e) ((nI e), (nI p), (mw_f x k s T), P, bd, jo, pl, la, ss, pp, tr, tp) → wX_write_47 post x (nI e) (nI m) (nI p) n (nI s) T P bd jo pl la ss pp tr tp := by
  intro k
  induction k with
  | zero =>
    intro s n T h hn hp
    obtain ⟨n, rfl⟩ : ∃ n', n = n' + 1 := ⟨n - 1, by omega⟩
    have c : e ≤ s := by omega
    simp (disch := omega) only [wX_write_47, c, forall_eq, nI_leI, nI_ltI, nI_eq, vp_in_nI, nI_clamp, nI_1, nI_add, pk_sub, mn_10, mn_60lt, mn_60le, mn_12le, mn_4le, mn_le0, mn_lt0, mn_0le, mn_eq0, mn_1le, mn_lt1, mn_le60, mn_lt12, mn_12lt, mn_le3, true_implies, forall_const, not_true_eq_false, not_false_eq_true, false_implies, and_true, true_and, implies_true, and_self, if_true, if_false]
    exact hp
  | succ k ih =>
    intro s n T h hn hp
    obtain ⟨n, rfl⟩ : ∃ n', n = n' + 1 := ⟨n - 1, by omega⟩
    have c : ¬ e ≤ s := by omega
    simp (disch := omega) only [wX_write_47, c, forall_eq, nI_leI, nI_ltI, nI_eq, vp_in_nI, nI_clamp, nI_1, nI_add, pk_sub, mn_10, mn_60lt, mn_60le, mn_12le, mn_4le, mn_le0, mn_lt0, mn_0le, mn_eq0, mn_1le, mn_lt1, mn_le60, mn_lt12, mn_12lt, mn_le3, true_implies, forall_const, not_true_eq_false, not_false_eq_true, false_implies, and_true, true_and, implies_true, and_self, if_true, if_false]
    exact ih (s + 1) n _ (by omega) (by omega) hp
theorem mw_yw {post : Int32 → SY → Prop} {x : Int32} {j : Nat} (he : m + j ≤ 60) : ∀ (k t n : Nat) (T : Nat → Int32), t + k = j → k < n → post (nI (m + j)) ((nI (m + j)), (nI p), (mw_f x k (m + t) T), P) → wY_write_34 post x (nI j) (nI m) (nI p) n (nI t) T P := by
  intro k
  induction k with
  | zero =>
    intro s n T h hn hp
    obtain ⟨n, rfl⟩ : ∃ n', n = n' + 1 := ⟨n - 1, by omega⟩
    have c : j ≤ s := by omega
    simp (disch := omega) only [wY_write_34, c, forall_eq, nI_leI, nI_ltI, nI_eq, vp_in_nI, nI_clamp, nI_1, nI_add, pk_sub, mn_10, mn_60lt, mn_60le, mn_12le, mn_4le, mn_le0, mn_lt0, mn_0le, mn_eq0, mn_1le, mn_lt1, mn_le60, mn_lt12, mn_12lt, mn_le3, true_implies, forall_const, not_true_eq_false, not_false_eq_true, false_implies, and_true, true_and, implies_true, and_self, if_true, if_false]
    exact hp
  | succ k ih =>
    intro s n T h hn hp
    obtain ⟨n, rfl⟩ : ∃ n', n = n' + 1 := ⟨n - 1, by omega⟩
    have c : ¬ j ≤ s := by omega
    simp (disch := omega) only [wY_write_34, c, forall_eq, nI_leI, nI_ltI, nI_eq, vp_in_nI, nI_clamp, nI_1, nI_add, pk_sub, mn_10, mn_60lt, mn_60le, mn_12le, mn_4le, mn_le0, mn_lt0, mn_0le, mn_eq0, mn_1le, mn_lt1, mn_le60, mn_lt12, mn_12lt, mn_le3, true_implies, forall_const, not_true_eq_false, not_false_eq_true, false_implies, and_true, true_and, implies_true, and_self, if_true, if_false]
    exact ih (s + 1) n _ (by omega) (by omega) hp
def mw_g (b : Nat) : Nat → Nat → (Nat → Int32) → (Nat → Int32)
  | 0, _, T => T
  | k + 1, s, T => mw_g b k (s + 1) (upd T s (T (s - b)))
theorem mw_gl {b : Nat} : ∀ (k s : Nat) (T : Nat → Int32), mm_lt T → mm_lt (mw_g b k s T) := by
  intro k
  induction k with
  | zero => intro s T h; exact h
  | succ k ih => intro s T h; exact ih (s + 1) _ (mm_ltV h (h _))
theorem mw_xg {post : Int32 → SX → Prop} {b e : Nat} (he : e ≤ 60) : ∀ (k s n : Nat) (T : Nat → Int32), s + k = e → b ≤ s → k < n → post (nI e) ((nI e), (nI p), (mw_g b k s T), P, bd, jo, pl, la, ss, pp, tr, tp) → wX_again_53 post (nI b) (nI e) (nI m) (nI p) n (nI s) T P bd jo pl la ss pp tr tp := by
  intro k
  induction k with
  | zero =>
    intro s n T h hb hn hp
    obtain ⟨n, rfl⟩ : ∃ n', n = n' + 1 := ⟨n - 1, by omega⟩
    have c : e ≤ s := by omega
    simp (disch := omega) only [wX_again_53, c, forall_eq, nI_leI, nI_ltI, nI_eq, vp_in_nI, nI_clamp, nI_1, nI_add, pk_sub, mn_10, mn_60lt, mn_60le, mn_12le, mn_4le, mn_le0, mn_lt0, mn_0le, mn_eq0, mn_1le, mn_lt1, mn_le60, mn_lt12, mn_12lt, mn_le3, true_implies, forall_const, not_true_eq_false, not_false_eq_true, false_implies, and_true, true_and, implies_true, and_self, if_true, if_false]
    exact hp
  | succ k ih =>
    intro s n T h hb hn hp
    obtain ⟨n, rfl⟩ : ∃ n', n = n' + 1 := ⟨n - 1, by omega⟩
    have c : ¬ e ≤ s := by omega
    simp (disch := omega) only [wX_again_53, c, forall_eq, nI_leI, nI_ltI, nI_eq, vp_in_nI, nI_clamp, nI_1, nI_add, pk_sub, mn_10, mn_60lt, mn_60le, mn_12le, mn_4le, mn_le0, mn_lt0, mn_0le, mn_eq0, mn_1le, mn_lt1, mn_le60, mn_lt12, mn_12lt, mn_le3, true_implies, forall_const, not_true_eq_false, not_false_eq_true, false_implies, and_true, true_and, implies_true, and_self, if_true, if_false]
    exact ih (s + 1) n _ (by omega) (by omega) (by omega) hp
theorem mw_yg {post : Int32 → SY → Prop} {b j : Nat} (hj : j ≤ 60) : ∀ (k t s n : Nat) (T : Nat → Int32), t + k = j → s + k ≤ 60 → b ≤ s → k < n → post (nI (s + k)) ((nI (s + k)), (nI p), (mw_g b k s T), P) → wY_again_39 post (nI b) (nI j) (nI p) n (nI t) (nI s) T P := by
  intro k
  induction k with
  | zero =>
    intro t s n T h h6 hb hn hp
    obtain ⟨n, rfl⟩ : ∃ n', n = n' + 1 := ⟨n - 1, by omega⟩
    have c : j ≤ t := by omega
    simp (disch := omega) only [wY_again_39, c, forall_eq, nI_leI, nI_ltI, nI_eq, vp_in_nI, nI_clamp, nI_1, nI_add, pk_sub, mn_10, mn_60lt, mn_60le, mn_12le, mn_4le, mn_le0, mn_lt0, mn_0le, mn_eq0, mn_1le, mn_lt1, mn_le60, mn_lt12, mn_12lt, mn_le3, true_implies, forall_const, not_true_eq_false, not_false_eq_true, false_implies, and_true, true_and, implies_true, and_self, if_true, if_false]
    exact hp
  | succ k ih =>
    intro t s n T h h6 hb hn hp
    obtain ⟨n, rfl⟩ : ∃ n', n = n' + 1 := ⟨n - 1, by omega⟩
    have c : ¬ j ≤ t := by omega
    simp (disch := omega) only [wY_again_39, c, forall_eq, nI_leI, nI_ltI, nI_eq, vp_in_nI, nI_clamp, nI_1, nI_add, pk_sub, mn_10, mn_60lt, mn_60le, mn_12le, mn_4le, mn_le0, mn_lt0, mn_0le, mn_eq0, mn_1le, mn_lt1, mn_le60, mn_lt12, mn_12lt, mn_le3, true_implies, forall_const, not_true_eq_false, not_false_eq_true, false_implies, and_true, true_and, implies_true, and_self, if_true, if_false]
    refine ih (t + 1) (s + 1) n _ (by omega) (by omega) (by omega) (by omega) ?_
    rw [show s + 1 + k = s + (k + 1) from by omega]
    exact hp
def mw_c (T : Nat → Int32) (i : Nat) : Nat → Nat → (Nat → Int32) → (Nat → Int32)
  | 0, _, P => P
  | k + 1, j, P => mw_c T i k (j + 1) (upd P j (T (i + j)))
theorem mw_cl {i : Nat} (hT : mm_lt T) : ∀ (k s : Nat) (P : Nat → Int32), mm_lt P → mm_lt (mw_c T i k s P) := by
  intro k
  induction k with
  | zero => intro s P h; exact h
  | succ k ih => intro s P h; exact ih (s + 1) _ (mm_ltV h (hT _))
theorem mw_xc {post : Int32 → SX → Prop} {i j : Nat} (he : i + j ≤ 60) (hj : j ≤ 12) : ∀ (k s n : Nat) (P : Nat → Int32), s + k = j → k < n → post 1 ((nI m), (nI j), T, (mw_c T i k s P), bd, jo, pl, la, ss, pp, tr, tp) → wX_copy_28 post (nI i) (nI j) (nI m) (nI p) n (nI s) T P bd jo pl la ss pp tr tp := by
  intro k
  induction k with
  | zero =>
    intro s n P h hn hp
    obtain ⟨n, rfl⟩ : ∃ n', n = n' + 1 := ⟨n - 1, by omega⟩
    have c : j ≤ s := by omega
    simp (disch := omega) only [wX_copy_28, c, forall_eq, nI_leI, nI_ltI, nI_eq, vp_in_nI, nI_clamp, nI_1, nI_add, pk_sub, mn_10, mn_60lt, mn_60le, mn_12le, mn_4le, mn_le0, mn_lt0, mn_0le, mn_eq0, mn_1le, mn_lt1, mn_le60, mn_lt12, mn_12lt, mn_le3, true_implies, forall_const, not_true_eq_false, not_false_eq_true, false_implies, and_true, true_and, implies_true, and_self, if_true, if_false]
    exact hp
  | succ k ih =>
    intro s n P h hn hp
    obtain ⟨n, rfl⟩ : ∃ n', n = n' + 1 := ⟨n - 1, by omega⟩
    have c : ¬ j ≤ s := by omega
    simp (disch := omega) only [wX_copy_28, c, forall_eq, nI_leI, nI_ltI, nI_eq, vp_in_nI, nI_clamp, nI_1, nI_add, pk_sub, mn_10, mn_60lt, mn_60le, mn_12le, mn_4le, mn_le0, mn_lt0, mn_0le, mn_eq0, mn_1le, mn_lt1, mn_le60, mn_lt12, mn_12lt, mn_le3, true_implies, forall_const, not_true_eq_false, not_false_eq_true, false_implies, and_true, true_and, implies_true, and_self, if_true, if_false]
    exact ih (s + 1) n _ (by omega) (by omega) hp
theorem mw_yc {post : Int32 → SY → Prop} {i j : Nat} (he : i + j ≤ 60) (hj : j ≤ 12) : ∀ (k s n : Nat) (P : Nat → Int32), s + k = j → k < n → post 1 ((nI m), (nI j), T, (mw_c T i k s P)) → wY_copy_28 post (nI i) (nI j) (nI m) (nI p) n (nI s) T P := by
  intro k
  induction k with
  | zero =>
    intro s n P h hn hp
    obtain ⟨n, rfl⟩ : ∃ n', n = n' + 1 := ⟨n - 1, by omega⟩
    have c : j ≤ s := by omega
    simp (disch := omega) only [wY_copy_28, c, forall_eq, nI_leI, nI_ltI, nI_eq, vp_in_nI, nI_clamp, nI_1, nI_add, pk_sub, mn_10, mn_60lt, mn_60le, mn_12le, mn_4le, mn_le0, mn_lt0, mn_0le, mn_eq0, mn_1le, mn_lt1, mn_le60, mn_lt12, mn_12lt, mn_le3, true_implies, forall_const, not_true_eq_false, not_false_eq_true, false_implies, and_true, true_and, implies_true, and_self, if_true, if_false]
    exact hp
  | succ k ih =>
    intro s n P h hn hp
    obtain ⟨n, rfl⟩ : ∃ n', n = n' + 1 := ⟨n - 1, by omega⟩
    have c : ¬ j ≤ s := by omega
    simp (disch := omega) only [wY_copy_28, c, forall_eq, nI_leI, nI_ltI, nI_eq, vp_in_nI, nI_clamp, nI_1, nI_add, pk_sub, mn_10, mn_60lt, mn_60le, mn_12le, mn_4le, mn_le0, mn_lt0, mn_0le, mn_eq0, mn_1le, mn_lt1, mn_le60, mn_lt12, mn_12lt, mn_le3, true_implies, forall_const, not_true_eq_false, not_false_eq_true, false_implies, and_true, true_and, implies_true, and_self, if_true, if_false]
    exact ih (s + 1) n _ (by omega) (by omega) hp
/-- how many: below 1, above 60, or between -/
theorem mn_n60 (x : Int32) : x < 1 ∨ (∃ j : Nat, 61 ≤ j ∧ j < 2 ^ 31 ∧ x = nI j) ∨ ∃ j : Nat, 1 ≤ j ∧ j ≤ 60 ∧ x = nI j := by
  by_cases h : x < 1
  · exact Or.inl h
  · rcases mn_cs x 61 (by omega) with z | z | ⟨j, h1, h2⟩
    · exact absurd (mn_neg z (a := 1) (by omega)) h
    · exact Or.inr (Or.inl z)
    · refine Or.inr (Or.inr ⟨j, ?_, by omega, h2⟩)
      rw [h2, mn_lt1 (by omega)] at h
      omega
theorem i_vc_write {k : Nat} {u : SX} {v : SY} (I : i_Rel k u v) (hk : k + 3 ≤ 1536) (v1 : Int32) (v2 : Int32) : wpX_write (fun r u' => wpY_write (fun r' v' => r' = r ∧ i_Rel (k + 3) u' v') v v1 v2) u v1 v2 := by
  obtain ⟨m, p, T, P, bd, jo, pl, la, ss, pp, tr, tp, rfl, rfl, hm, hp, hT, hP⟩ := I
  unfold wpX_write wpY_write
  dsimp only
  rcases mn_lc v1 4 (by omega) with hb | ⟨l, hl, rfl⟩
  · exact xl_f hb (br_t rfl (yl_f hb (br_t rfl ⟨rfl, mn_R hm hp hT hP⟩)))
  · refine xl_t hl (br_f mn_10 ?_)
    rcases mn_n60 v2 with h | ⟨j, h1, h2, rfl⟩ | ⟨j, h1, h2, rfl⟩
    · exact br_t h (yl_t hl (br_f mn_10 (ym_f (Or.inl h) (br_t rfl ⟨rfl, mn_R hm hp hT hP⟩))))
    · have c1 : ¬ nI j < 1 := by rw [mn_lt1 (by omega)]; omega
      have c2 : ¬ nI j ≤ 60 := by rw [mn_le60 (by omega)]; omega
      exact br_f c1 (br_f c2 (yl_t hl (br_f mn_10 (ym_f (Or.inr ⟨j, h1, h2, rfl⟩) (br_t rfl ⟨rfl, mn_R hm hp hT hP⟩)))))
    · have c1 : ¬ nI j < 1 := by rw [mn_lt1 (by omega)]; omega
      have c2 : nI j ≤ 60 := by rw [mn_le60 (by omega)]; omega
      refine br_f c1 (br_t c2 ?_)
      by_cases c : m + j ≤ 60
      · have c3 : nI j ≤ 60 - nI m := by rw [mn_60s hm, nI_leI (by omega) (by omega)]; omega
        have c4 : nI m + nI j ≤ 60 := by rw [nI_add, mn_le60 (by omega)]; omega
        refine br_t c3 (nm_r (nI_add m j) ⟨j + 1, mw_xw c j m (j + 1) T rfl (by omega) ?_⟩)
        exact yl_t hl (br_f mn_10 (ym_t h1 h2 (br_f mn_10 (br_t c4 ⟨j + 1, mw_yw c j 0 (j + 1) T (by omega) (by omega) ⟨rfl, mn_R c hp (mw_fl hl j m T hT) hP⟩⟩))))
      · have c3 : ¬ nI j ≤ 60 - nI m := by rw [mn_60s hm, nI_leI (by omega) (by omega)]; omega
        have c4 : ¬ nI m + nI j ≤ 60 := by rw [nI_add, mn_le60 (by omega)]; omega
        exact br_f c3 (yl_t hl (br_f mn_10 (ym_t h1 h2 (br_f mn_10 (br_f c4 ⟨rfl, mn_R hm hp hT hP⟩)))))
theorem i_vc_again {k : Nat} {u : SX} {v : SY} (I : i_Rel k u v) (hk : k + 3 ≤ 1536) (v1 : Int32) (v2 : Int32) : wpX_again (fun r u' => wpY_again (fun r' v' => r' = r ∧ i_Rel (k + 3) u' v') v v1 v2) u v1 v2 := by
  obtain ⟨m, p, T, P, bd, jo, pl, la, ss, pp, tr, tp, rfl, rfl, hm, hp, hT, hP⟩ := I
  unfold wpX_again wpY_again
  dsimp only
  by_cases a1 : v1 < 1
  · exact br_t a1 (br_t a1 ⟨rfl, mn_R hm hp hT hP⟩)
  · refine br_f a1 ?_
    by_cases a2 : nI m < v1
    · exact br_t a2 (br_f a1 (br_t a2 ⟨rfl, mn_R hm hp hT hP⟩))
    · refine br_f a2 ?_
      obtain ⟨b, b1, b2, rfl⟩ : ∃ b : Nat, 1 ≤ b ∧ b ≤ m ∧ v1 = nI b := by
        rcases mn_cs v1 (m + 1) (by omega) with z | ⟨j, z1, z2, z3⟩ | ⟨j, z1, z2⟩
        · exact absurd (mn_neg z (a := 1) (by omega)) a1
        · rw [z3, nI_ltI (by omega) z2] at a2
          omega
        · rw [z2, mn_lt1 (by omega)] at a1
          exact ⟨j, by omega, by omega, z2⟩
      rcases mn_n60 v2 with h | ⟨j, h1, h2, rfl⟩ | ⟨j, h1, h2, rfl⟩
      · exact br_t h (br_f a1 (br_f a2 (ym_f (Or.inl h) (br_t rfl ⟨rfl, mn_R hm hp hT hP⟩))))
      · have c1 : ¬ nI j < 1 := by rw [mn_lt1 (by omega)]; omega
        have c2 : ¬ nI j ≤ 60 := by rw [mn_le60 (by omega)]; omega
        exact br_f c1 (br_f c2 (br_f a1 (br_f a2 (ym_f (Or.inr ⟨j, h1, h2, rfl⟩) (br_t rfl ⟨rfl, mn_R hm hp hT hP⟩)))))
      · have c1 : ¬ nI j < 1 := by rw [mn_lt1 (by omega)]; omega
        have c2 : nI j ≤ 60 := by rw [mn_le60 (by omega)]; omega
        refine br_f c1 (br_t c2 ?_)
        by_cases c : m + j ≤ 60
        · have c3 : nI j ≤ 60 - nI m := by rw [mn_60s hm, nI_leI (by omega) (by omega)]; omega
          have c4 : nI m + nI j ≤ 60 := by rw [nI_add, mn_le60 (by omega)]; omega
          refine br_t c3 (nm_r (nI_add m j) ⟨j + 1, mw_xg c j m (j + 1) T rfl b2 (by omega) ?_⟩)
          exact br_f a1 (br_f a2 (ym_t h1 h2 (br_f mn_10 (br_t c4 ⟨j + 1, mw_yg h2 j 0 m (j + 1) T (by omega) c b2 (by omega) ⟨rfl, mn_R c hp (mw_gl j m T hT) hP⟩⟩))))
        · have c3 : ¬ nI j ≤ 60 - nI m := by rw [mn_60s hm, nI_leI (by omega) (by omega)]; omega
          have c4 : ¬ nI m + nI j ≤ 60 := by rw [nI_add, mn_le60 (by omega)]; omega
          exact br_f c3 (br_f a1 (br_f a2 (ym_t h1 h2 (br_f mn_10 (br_f c4 ⟨rfl, mn_R hm hp hT hP⟩)))))
theorem i_vc_cut {k : Nat} {u : SX} {v : SY} (I : i_Rel k u v) (hk : k + 3 ≤ 1536) (v1 : Int32) : wpX_cut (fun r u' => wpY_cut (fun r' v' => r' = r ∧ i_Rel (k + 3) u' v') v v1) u v1 := by
  obtain ⟨m, p, T, P, bd, jo, pl, la, ss, pp, tr, tp, rfl, rfl, hm, hp, hT, hP⟩ := I
  unfold wpX_cut wpY_cut
  dsimp only
  by_cases a1 : v1 < 0
  · exact br_t a1 (br_t a1 ⟨rfl, mn_R hm hp hT hP⟩)
  · refine br_f a1 ?_
    by_cases a2 : v1 ≤ 60
    · refine br_t a2 ?_
      obtain ⟨j, hj, rfl⟩ := nI_of a1
      by_cases c : m ≤ j
      · have c3 : nI m ≤ nI j := nI_le c hj
        exact br_t c3 (br_f a1 (br_t a2 (br_t c3 ⟨rfl, mn_R (m := 0) (by omega) hp hT hP⟩)))
      · have c3 : ¬ nI m ≤ nI j := nI_ge (by omega) (by omega)
        exact br_f c3 (nm_r (pk_sub (by omega)) (br_f a1 (br_t a2 (br_f c3 (nm_r (pk_sub (by omega)) ⟨rfl, mn_R (by omega) hp hT hP⟩)))))
    · exact br_f a2 (br_f a1 (br_f a2 ⟨rfl, mn_R hm hp hT hP⟩))
theorem i_vc_change {k : Nat} {u : SX} {v : SY} (I : i_Rel k u v) (hk : k + 3 ≤ 1536) (v1 : Int32) (v2 : Int32) : wpX_change (fun r u' => wpY_change (fun r' v' => r' = r ∧ i_Rel (k + 3) u' v') v v1 v2) u v1 v2 := by
  obtain ⟨m, p, T, P, bd, jo, pl, la, ss, pp, tr, tp, rfl, rfl, hm, hp, hT, hP⟩ := I
  unfold wpX_change wpY_change
  dsimp only
  by_cases a1 : v1 < 0
  · exact br_t a1 (br_t a1 ⟨rfl, mn_R hm hp hT hP⟩)
  · refine br_f a1 ?_
    by_cases a2 : nI m ≤ v1
    · exact br_t a2 (br_f a1 (br_t a2 ⟨rfl, mn_R hm hp hT hP⟩))
    · refine br_f a2 ?_
      rcases mn_lc v2 4 (by omega) with hb | ⟨l, hl, rfl⟩
      · exact xl_f hb (br_t rfl (br_f a1 (br_f a2 (yl_f hb (br_t rfl ⟨rfl, mn_R hm hp hT hP⟩)))))
      · obtain ⟨j, hj, rfl⟩ := nI_of a1
        have hjm : j < m := by
          rw [nI_leI (by omega) hj] at a2
          omega
        have hi : vp_in (nI j) 60 := vp_in_nI (by omega) (by omega)
        refine xl_t hl (br_f mn_10 ⟨hi, fun x ex => ⟨hi, fun a ea => ?_⟩⟩)
        refine br_f a1 (br_f a2 (yl_t hl (br_f mn_10 ⟨hi, fun y ey => ⟨hi, fun b eb => ⟨ey.trans ex.symm, ?_⟩⟩⟩)))
        rw [ea, eb]
        exact mn_R hm hp (mm_ltU hT hl) hP
theorem i_vc_extend {k : Nat} {u : SX} {v : SY} (I : i_Rel k u v) (hk : k + 3 ≤ 1536) (v1 : Int32) : wpX_extend (fun r u' => wpY_extend (fun r' v' => r' = r ∧ i_Rel (k + 3) u' v') v v1) u v1 := by
  obtain ⟨m, p, T, P, bd, jo, pl, la, ss, pp, tr, tp, rfl, rfl, hm, hp, hT, hP⟩ := I
  unfold wpX_extend wpY_extend
  dsimp only
  rcases mn_lc v1 4 (by omega) with hb | ⟨l, hl, rfl⟩
  · exact xl_f hb (br_t rfl (yl_f hb (br_t rfl ⟨rfl, mn_R hm hp hT hP⟩)))
  · refine xl_t hl (br_f mn_10 ?_)
    by_cases c : p < 12
    · have c1 : nI p < 12 := by rw [mn_lt12 (by omega)]; exact c
      have hi : vp_in (nI p) 12 := vp_in_nI c (by omega)
      refine br_t c1 ⟨hi, fun a ea => nm_r (nI_1 p) ?_⟩
      refine yl_t hl (br_f mn_10 (br_t c1 ⟨hi, fun b eb => nm_r (nI_1 p) ⟨rfl, ?_⟩⟩))
      rw [ea, eb]
      exact mn_R hm c hT (mm_ltU hP hl)
    · have c1 : ¬ nI p < 12 := by rw [mn_lt12 (by omega)]; exact c
      exact br_f c1 (yl_t hl (br_f mn_10 (br_f c1 ⟨rfl, mn_R hm hp hT hP⟩)))
theorem i_vc_shorten {k : Nat} {u : SX} {v : SY} (I : i_Rel k u v) (hk : k + 3 ≤ 1536) : wpX_shorten (fun r u' => wpY_shorten (fun r' v' => r' = r ∧ i_Rel (k + 3) u' v') v) u := by
  obtain ⟨m, p, T, P, bd, jo, pl, la, ss, pp, tr, tp, rfl, rfl, hm, hp, hT, hP⟩ := I
  unfold wpX_shorten wpY_shorten
  dsimp only
  by_cases c : 1 ≤ p
  · have c1 : 1 ≤ nI p := by rw [mn_1le (by omega)]; exact c
    have c2 : ¬ nI p = 0 := by rw [mn_eq0 (by omega)]; omega
    have hi : vp_in (nI (p - 1)) 12 := vp_in_nI (by omega) (by omega)
    exact br_t c1 (nm_r (mn_s1 c) ⟨hi, br_f c2 (nm_r (mn_s1 c) ⟨hi, rfl, mn_R hm (by omega) hT hP⟩)⟩)
  · have c1 : ¬ 1 ≤ nI p := by rw [mn_1le (by omega)]; exact c
    have c2 : nI p = 0 := by rw [mn_eq0 (by omega)]; omega
    exact br_f c1 (br_t c2 ⟨rfl, mn_R hm hp hT hP⟩)
theorem i_vc_copy {k : Nat} {u : SX} {v : SY} (I : i_Rel k u v) (hk : k + 3 ≤ 1536) (v1 : Int32) (v2 : Int32) : wpX_copy (fun r u' => wpY_copy (fun r' v' => r' = r ∧ i_Rel (k + 3) u' v') v v1 v2) u v1 v2 := by
  obtain ⟨m, p, T, P, bd, jo, pl, la, ss, pp, tr, tp, rfl, rfl, hm, hp, hT, hP⟩ := I
  unfold wpX_copy wpY_copy
  dsimp only
  by_cases a1 : v2 < 0
  · exact br_t a1 (br_t a1 ⟨rfl, mn_R hm hp hT hP⟩)
  · refine br_f a1 ?_
    by_cases a2 : 12 < v2
    · exact br_t a2 (br_f a1 (br_t a2 ⟨rfl, mn_R hm hp hT hP⟩))
    · refine br_f a2 ?_
      by_cases a3 : v1 < 0
      · exact br_t a3 (br_f a1 (br_f a2 (br_t a3 ⟨rfl, mn_R hm hp hT hP⟩)))
      · refine br_f a3 ?_
        by_cases a4 : v1 ≤ nI m - v2
        · refine br_t a4 ?_
          obtain ⟨j, hj, rfl⟩ := nI_of a1
          obtain ⟨i, hi, rfl⟩ := nI_of a3
          have hj12 : j ≤ 12 := by
            rw [mn_12lt hj] at a2
            omega
          have hij : i + j ≤ m := by
            rw [Int32.le_iff_toInt_le, pk_sub_toInt (by omega) (by omega), nI_toInt hi] at a4
            omega
          refine ⟨j + 1, mw_xc (by omega) hj12 j 0 (j + 1) P (by omega) (by omega) ?_⟩
          exact br_f a1 (br_f a2 (br_f a3 (br_t a4 ⟨j + 1, mw_yc (by omega) hj12 j 0 (j + 1) P (by omega) (by omega) ⟨rfl, mn_R hm hj12 hT (mw_cl hT j 0 P hP)⟩⟩)))
        · exact br_f a4 (br_f a1 (br_f a2 (br_f a3 (br_f a4 ⟨rfl, mn_R hm hp hT hP⟩))))
theorem mw_sh {i : Nat} (hm : m ≤ 60) (hp : p ≤ 12) (hi : i ≤ m) : ∀ (d s : Nat), s + d = p → ∃ r : Int32, (∀ (n : Nat) (post : Int32 → Prop), d ≤ n → post r → wX_shared_16 post (nI i) (nI m) (nI p) T P bd jo pl la ss pp tr tp (n + 1) (nI s)) ∧ (∀ (n : Nat) (post : Int32 → Prop), d ≤ n → post r → wY_shared_16 post (nI i) (nI m) (nI p) T P (n + 1) (nI s)) := by
  intro d
  induction d with
  | zero =>
    intro s h
    have c : p ≤ s := by omega
    by_cases c2 : m ≤ i + s
    · exact ⟨nI s, fun n post hn hq => by simp (disch := omega) only [wX_shared_16, c, c2, forall_eq, nI_leI, nI_ltI, nI_eq, vp_in_nI, nI_clamp, nI_1, nI_add, pk_sub, mn_10, mn_60lt, mn_60le, mn_12le, mn_4le, mn_le0, mn_lt0, mn_0le, mn_eq0, mn_1le, mn_lt1, mn_le60, mn_lt12, mn_12lt, mn_le3, true_implies, forall_const, not_true_eq_false, not_false_eq_true, false_implies, and_true, true_and, implies_true, and_self, if_true, if_false]; exact hq, fun n post hn hq => by simp (disch := omega) only [wY_shared_16, c, c2, forall_eq, nI_leI, nI_ltI, nI_eq, vp_in_nI, nI_clamp, nI_1, nI_add, pk_sub, mn_10, mn_60lt, mn_60le, mn_12le, mn_4le, mn_le0, mn_lt0, mn_0le, mn_eq0, mn_1le, mn_lt1, mn_le60, mn_lt12, mn_12lt, mn_le3, true_implies, forall_const, not_true_eq_false, not_false_eq_true, false_implies, and_true, true_and, implies_true, and_self, if_true, if_false]; exact hq⟩
    · exact ⟨nI s, fun n post hn hq => by simp (disch := omega) only [wX_shared_16, c, c2, forall_eq, nI_leI, nI_ltI, nI_eq, vp_in_nI, nI_clamp, nI_1, nI_add, pk_sub, mn_10, mn_60lt, mn_60le, mn_12le, mn_4le, mn_le0, mn_lt0, mn_0le, mn_eq0, mn_1le, mn_lt1, mn_le60, mn_lt12, mn_12lt, mn_le3, true_implies, forall_const, not_true_eq_false, not_false_eq_true, false_implies, and_true, true_and, implies_true, and_self, if_true, if_false]; exact hq, fun n post hn hq => by simp (disch := omega) only [wY_shared_16, c, c2, forall_eq, nI_leI, nI_ltI, nI_eq, vp_in_nI, nI_clamp, nI_1, nI_add, pk_sub, mn_10, mn_60lt, mn_60le, mn_12le, mn_4le, mn_le0, mn_lt0, mn_0le, mn_eq0, mn_1le, mn_lt1, mn_le60, mn_lt12, mn_12lt, mn_le3, true_implies, forall_const, not_true_eq_false, not_false_eq_true, false_implies, and_true, true_and, implies_true, and_self, if_true, if_false]; exact hq⟩
  | succ d ih =>
    intro s h
    have c : ¬ p ≤ s := by omega
    by_cases c2 : m ≤ i + s
    · exact ⟨nI s, fun n post hn hq => by simp (disch := omega) only [wX_shared_16, c, c2, forall_eq, nI_leI, nI_ltI, nI_eq, vp_in_nI, nI_clamp, nI_1, nI_add, pk_sub, mn_10, mn_60lt, mn_60le, mn_12le, mn_4le, mn_le0, mn_lt0, mn_0le, mn_eq0, mn_1le, mn_lt1, mn_le60, mn_lt12, mn_12lt, mn_le3, true_implies, forall_const, not_true_eq_false, not_false_eq_true, false_implies, and_true, true_and, implies_true, and_self, if_true, if_false]; exact hq, fun n post hn hq => by simp (disch := omega) only [wY_shared_16, c, c2, forall_eq, nI_leI, nI_ltI, nI_eq, vp_in_nI, nI_clamp, nI_1, nI_add, pk_sub, mn_10, mn_60lt, mn_60le, mn_12le, mn_4le, mn_le0, mn_lt0, mn_0le, mn_eq0, mn_1le, mn_lt1, mn_le60, mn_lt12, mn_12lt, mn_le3, true_implies, forall_const, not_true_eq_false, not_false_eq_true, false_implies, and_true, true_and, implies_true, and_self, if_true, if_false]; exact hq⟩
    · by_cases c3 : T (i + s) = P s
      · obtain ⟨r, hX, hY⟩ := ih (s + 1) (by omega)
        refine ⟨r, fun n post hn hq => ?_, fun n post hn hq => ?_⟩
        · have H := hX (n - 1) post (by omega) hq
          rw [show n - 1 + 1 = n from by omega] at H
          simp (disch := omega) only [wX_shared_16, c, c2, c3, forall_eq, nI_leI, nI_ltI, nI_eq, vp_in_nI, nI_clamp, nI_1, nI_add, pk_sub, mn_10, mn_60lt, mn_60le, mn_12le, mn_4le, mn_le0, mn_lt0, mn_0le, mn_eq0, mn_1le, mn_lt1, mn_le60, mn_lt12, mn_12lt, mn_le3, true_implies, forall_const, not_true_eq_false, not_false_eq_true, false_implies, and_true, true_and, implies_true, and_self, if_true, if_false]
          exact H
        · have H := hY (n - 1) post (by omega) hq
          rw [show n - 1 + 1 = n from by omega] at H
          simp (disch := omega) only [wY_shared_16, c, c2, c3, forall_eq, nI_leI, nI_ltI, nI_eq, vp_in_nI, nI_clamp, nI_1, nI_add, pk_sub, mn_10, mn_60lt, mn_60le, mn_12le, mn_4le, mn_le0, mn_lt0, mn_0le, mn_eq0, mn_1le, mn_lt1, mn_le60, mn_lt12, mn_12lt, mn_le3, true_implies, forall_const, not_true_eq_false, not_false_eq_true, false_implies, and_true, true_and, implies_true, and_self, if_true, if_false]
          exact H
      · exact ⟨nI s, fun n post hn hq => by simp (disch := omega) only [wX_shared_16, c, c2, c3, forall_eq, nI_leI, nI_ltI, nI_eq, vp_in_nI, nI_clamp, nI_1, nI_add, pk_sub, mn_10, mn_60lt, mn_60le, mn_12le, mn_4le, mn_le0, mn_lt0, mn_0le, mn_eq0, mn_1le, mn_lt1, mn_le60, mn_lt12, mn_12lt, mn_le3, true_implies, forall_const, not_true_eq_false, not_false_eq_true, false_implies, and_true, true_and, implies_true, and_self, if_true, if_false]; exact hq, fun n post hn hq => by simp (disch := omega) only [wY_shared_16, c, c2, c3, forall_eq, nI_leI, nI_ltI, nI_eq, vp_in_nI, nI_clamp, nI_1, nI_add, pk_sub, mn_10, mn_60lt, mn_60le, mn_12le, mn_4le, mn_le0, mn_lt0, mn_0le, mn_eq0, mn_1le, mn_lt1, mn_le60, mn_lt12, mn_12lt, mn_le3, true_implies, forall_const, not_true_eq_false, not_false_eq_true, false_implies, and_true, true_and, implies_true, and_self, if_true, if_false]; exact hq⟩
theorem i_vc_shared {k : Nat} {u : SX} {v : SY} (I : i_Rel k u v) (hk : k + 3 ≤ 1536) (v1 : Int32) : wpX_shared (fun r => wpY_shared (fun r' => r' = r ∧ i_Rel (k + 3) u v) v v1) u v1 := by
  obtain ⟨m, p, T, P, bd, jo, pl, la, ss, pp, tr, tp, rfl, rfl, hm, hp, hT, hP⟩ := I
  unfold wpX_shared wpY_shared
  dsimp only
  by_cases a1 : v1 < 0
  · exact br_t a1 (br_t a1 ⟨rfl, mn_R hm hp hT hP⟩)
  · refine br_f a1 ?_
    by_cases a2 : v1 ≤ nI m
    · refine br_t a2 ?_
      obtain ⟨i, hi, rfl⟩ := nI_of a1
      have him : i ≤ m := by
        rw [nI_leI hi (by omega)] at a2
        exact a2
      obtain ⟨r, hX, hY⟩ := mw_sh (T := T) (P := P) (bd := bd) (jo := jo) (pl := pl) (la := la) (ss := ss) (pp := pp) (tr := tr) (tp := tp) hm hp him p 0 (by omega)
      exact ⟨p + 1, hX p _ (by omega) (br_f a1 (br_t a2 ⟨p + 1, hY p _ (by omega) ⟨rfl, mn_R hm hp hT hP⟩⟩))⟩
    · exact br_f a2 (br_f a1 (br_f a2 ⟨rfl, mn_R hm hp hT hP⟩))
end
