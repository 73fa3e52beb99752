/-! the reference's searches against the pure answers -/
section
variable {T P : Nat → Int32} {m p : Nat}
theorem yy_wl {post : Int32 → Prop} {i : Nat} (hm : m ≤ 60) (hp : p ≤ 12) (hi : i + p ≤ m) : ∀ (d s n : Nat), s + d = p → d < n → post (nI (mm_df T P i p)) → wY_wrong_24 post (nI i) (nI m) (nI p) T P n (nI (mm_df T P i s)) (nI s) := by
  intro d
  induction d with
  | zero =>
    intro s n h hn hq
    obtain ⟨n, rfl⟩ : ∃ n', n = n' + 1 := ⟨n - 1, by omega⟩
    have e : s = p := by omega
    subst e
    simp (disch := omega) only [wY_wrong_24, Nat.le_refl, forall_eq, nI_leI, nI_ltI, nI_eq, vp_in_nI, nI_clamp, nI_1, nI_add, pk_sub, mn_10, mn_60lt, mn_60le, mn_12le, mn_4le, mn_le0, mn_lt0, mn_0le, mn_eq0, mn_1le, mn_lt1, mn_le60, mn_lt12, mn_12lt, mn_le3, true_implies, forall_const, not_true_eq_false, not_false_eq_true, false_implies, and_true, true_and, implies_true, and_self, if_true, if_false]
    exact hq
  | succ d ih =>
    intro s n h hn hq
    obtain ⟨n, rfl⟩ : ∃ n', n = n' + 1 := ⟨n - 1, by omega⟩
    have c : ¬ p ≤ s := by omega
    have H := ih (s + 1) n (by omega) (by omega) hq
    by_cases c3 : T (i + s) = P s
    · rw [mm_dfT c3] at H
      simp (disch := omega) only [wY_wrong_24, c, c3, forall_eq, nI_leI, nI_ltI, nI_eq, vp_in_nI, nI_clamp, nI_1, nI_add, pk_sub, mn_10, mn_60lt, mn_60le, mn_12le, mn_4le, mn_le0, mn_lt0, mn_0le, mn_eq0, mn_1le, mn_lt1, mn_le60, mn_lt12, mn_12lt, mn_le3, true_implies, forall_const, not_true_eq_false, not_false_eq_true, false_implies, and_true, true_and, implies_true, and_self, if_true, if_false]
      exact H
    · rw [mm_dfF c3] at H
      simp (disch := omega) only [wY_wrong_24, c, c3, forall_eq, nI_leI, nI_ltI, nI_eq, vp_in_nI, nI_clamp, nI_1, nI_add, pk_sub, mn_10, mn_60lt, mn_60le, mn_12le, mn_4le, mn_le0, mn_lt0, mn_0le, mn_eq0, mn_1le, mn_lt1, mn_le60, mn_lt12, mn_12lt, mn_le3, true_implies, forall_const, not_true_eq_false, not_false_eq_true, false_implies, and_true, true_and, implies_true, and_self, if_true, if_false]
      exact H
theorem yy_w {post : Int32 → Prop} {i : Nat} (hm : m ≤ 60) (hp : p ≤ 12) (hi : i ≤ 60) (hq : post (nI (mm_wr T P m p i))) : wpY_wrong post ((nI m), (nI p), T, P) (nI i) := by
  unfold wpY_wrong
  by_cases c : i + p ≤ m
  · rw [mm_wrT c] at hq
    simp (disch := omega) only [c, forall_eq, nI_leI, nI_ltI, nI_eq, vp_in_nI, nI_clamp, nI_1, nI_add, pk_sub, mn_10, mn_60lt, mn_60le, mn_12le, mn_4le, mn_le0, mn_lt0, mn_0le, mn_eq0, mn_1le, mn_lt1, mn_le60, mn_lt12, mn_12lt, mn_le3, true_implies, forall_const, not_true_eq_false, not_false_eq_true, false_implies, and_true, true_and, implies_true, and_self, if_true, if_false]
    exact ⟨p + 1, yy_wl hm hp c p 0 (p + 1) (by omega) (by omega) hq⟩
  · rw [mm_wrF c] at hq
    simp (disch := omega) only [c, forall_eq, nI_leI, nI_ltI, nI_eq, vp_in_nI, nI_clamp, nI_1, nI_add, pk_sub, mn_10, mn_60lt, mn_60le, mn_12le, mn_4le, mn_le0, mn_lt0, mn_0le, mn_eq0, mn_1le, mn_lt1, mn_le60, mn_lt12, mn_12lt, mn_le3, true_implies, forall_const, not_true_eq_false, not_false_eq_true, false_implies, and_true, true_and, implies_true, and_self, if_true, if_false]
    exact hq
theorem yy_nl {post : Int32 → Prop} {e : Nat} (hm : m ≤ 60) (hp : p ≤ 12) (he : e ≤ 3) : ∀ (d s n : Nat), s + d = m + 1 → d < n → post (nI (mm_cn (mm_f T P m p e) (m + 1))) → wY_near_15 post (nI e) (nI m) (nI p) T P n (nI (mm_cn (mm_f T P m p e) s)) (nI s) := by
  intro d
  induction d with
  | zero =>
    intro s n h hn hq
    obtain ⟨n, rfl⟩ : ∃ n', n = n' + 1 := ⟨n - 1, by omega⟩
    have e : s = m + 1 := by omega
    subst e
    simp (disch := omega) only [wY_near_15, Nat.lt_succ_self, forall_eq, nI_leI, nI_ltI, nI_eq, vp_in_nI, nI_clamp, nI_1, nI_add, pk_sub, mn_10, mn_60lt, mn_60le, mn_12le, mn_4le, mn_le0, mn_lt0, mn_0le, mn_eq0, mn_1le, mn_lt1, mn_le60, mn_lt12, mn_12lt, mn_le3, true_implies, forall_const, not_true_eq_false, not_false_eq_true, false_implies, and_true, true_and, implies_true, and_self, if_true, if_false]
    exact hq
  | succ d ih =>
    intro s n h hn hq
    obtain ⟨n, rfl⟩ : ∃ n', n = n' + 1 := ⟨n - 1, by omega⟩
    have c : ¬ m < s := by omega
    have H := ih (s + 1) n (by omega) (by omega) hq
    have w := mm_wrL (T := T) (P := P) (m := m) (i := s) hp
    simp (disch := omega) only [wY_near_15, c, forall_eq, nI_leI, nI_ltI, nI_eq, vp_in_nI, nI_clamp, nI_1, nI_add, pk_sub, mn_10, mn_60lt, mn_60le, mn_12le, mn_4le, mn_le0, mn_lt0, mn_0le, mn_eq0, mn_1le, mn_lt1, mn_le60, mn_lt12, mn_12lt, mn_le3, true_implies, forall_const, not_true_eq_false, not_false_eq_true, false_implies, and_true, true_and, implies_true, and_self, if_true, if_false]
    refine yy_w hm hp (by omega) ?_
    by_cases c3 : e < mm_wr T P m p s
    · rw [mm_cnF (by rw [mm_fT]; omega)] at H
      exact br_t (nI_lt c3 (by omega)) H
    · rw [mm_cnT (by rw [mm_fT]; omega)] at H
      exact br_f (nI_nlt (by omega) (by omega)) H
theorem yy_near {post : Int32 → Prop} {e : Nat} (hm : m ≤ 60) (hp : p ≤ 12) (he : e ≤ 3) (hq : post (nI (mm_cn (mm_f T P m p e) (m + 1)))) : wpY_near post ((nI m), (nI p), T, P) (nI e) := by
  unfold wpY_near
  simp (disch := omega) only [he, forall_eq, nI_leI, nI_ltI, nI_eq, vp_in_nI, nI_clamp, nI_1, nI_add, pk_sub, mn_10, mn_60lt, mn_60le, mn_12le, mn_4le, mn_le0, mn_lt0, mn_0le, mn_eq0, mn_1le, mn_lt1, mn_le60, mn_lt12, mn_12lt, mn_le3, true_implies, forall_const, not_true_eq_false, not_false_eq_true, false_implies, and_true, true_and, implies_true, and_self, if_true, if_false]
  exact ⟨m + 2, yy_nl hm hp he (m + 1) 0 (m + 2) (by omega) (by omega) hq⟩
theorem yy_count {post : Int32 → Prop} {g : Nat} (hm : m ≤ 60) (hp : p ≤ 12) (hg : g < 10) (hq : post (nI (mm_cn (mm_f T P m p 0) (m + 1)))) : wpY_count post ((nI m), (nI p), T, P) (nI g) := by
  unfold wpY_count
  dsimp only
  exact ye_t hg (br_f mn_10 (yy_near (e := 0) hm hp (by omega) hq))
theorem yy_xl {post : Int32 → Prop} {g a : Nat} {x2 : Int32} (hm : m ≤ 60) (hp : p ≤ 12) (hg : g < 10) (hx : ∀ s, s ≤ 60 → (nI s < x2 ↔ s < a)) (hq : ∀ r, mm_nx (mm_f T P m p 0) a r → post r) : ∀ (d s n : Nat), s + d = m + 1 → d < n → (∀ j, a ≤ j → j < s → ¬ mm_f T P m p 0 j = true) → wY_next_2 post (nI g) x2 (nI m) (nI p) T P n (nI s) := by
  intro d
  induction d with
  | zero =>
    intro s n h hn hj
    obtain ⟨n, rfl⟩ : ∃ n', n = n' + 1 := ⟨n - 1, by omega⟩
    have c : m < s := by omega
    simp (disch := omega) only [wY_next_2, c, forall_eq, nI_leI, nI_ltI, nI_eq, vp_in_nI, nI_clamp, nI_1, nI_add, pk_sub, mn_10, mn_60lt, mn_60le, mn_12le, mn_4le, mn_le0, mn_lt0, mn_0le, mn_eq0, mn_1le, mn_lt1, mn_le60, mn_lt12, mn_12lt, mn_le3, true_implies, forall_const, not_true_eq_false, not_false_eq_true, false_implies, and_true, true_and, implies_true, and_self, if_true, if_false]
    refine hq _ (Or.inr ⟨rfl, fun j h1 => ?_⟩)
    by_cases z : j < s
    · exact hj j h1 z
    · rw [mm_fB (by omega) (by omega)]
      decide
  | succ d ih =>
    intro s n h hn hj
    obtain ⟨n, rfl⟩ : ∃ n', n = n' + 1 := ⟨n - 1, by omega⟩
    have c : ¬ m < s := by omega
    have w := mm_wrL (T := T) (P := P) (m := m) (i := s) hp
    simp (disch := omega) only [wY_next_2, c, forall_eq, nI_leI, nI_ltI, nI_eq, vp_in_nI, nI_clamp, nI_1, nI_add, pk_sub, mn_10, mn_60lt, mn_60le, mn_12le, mn_4le, mn_le0, mn_lt0, mn_0le, mn_eq0, mn_1le, mn_lt1, mn_le60, mn_lt12, mn_12lt, mn_le3, true_implies, forall_const, not_true_eq_false, not_false_eq_true, false_implies, and_true, true_and, implies_true, and_self, if_true, if_false]
    refine ye_t hg (br_f mn_10 ?_)
    by_cases c2 : s < a
    · exact br_t ((hx s (by omega)).mpr c2) (ih (s + 1) n (by omega) (by omega) (fun j h1 h2 => by omega))
    · refine br_f (fun z => c2 ((hx s (by omega)).mp z)) (yy_w hm hp (by omega) ?_)
      by_cases c3 : mm_wr T P m p s = 0
      · refine br_t (by rw [c3]; rfl) (hq _ (Or.inl ⟨s, by omega, rfl, by omega, by rw [mm_fT]; omega, hj⟩))
      · refine br_f (by rw [mn_eq0 (by omega)]; exact c3) (ih (s + 1) n (by omega) (by omega) (fun j h1 h2 => ?_))
        by_cases z : j < s
        · exact hj j h1 z
        · have e : j = s := by omega
          rw [e, mm_fT]
          omega
theorem yy_next {post : Int32 → Prop} {g a : Nat} {x2 : Int32} (hm : m ≤ 60) (hp : p ≤ 12) (hg : g < 10) (hx : ∀ s, s ≤ 60 → (nI s < x2 ↔ s < a)) (hq : ∀ r, mm_nx (mm_f T P m p 0) a r → post r) : wpY_next post ((nI m), (nI p), T, P) (nI g) x2 := by
  unfold wpY_next
  exact ⟨m + 2, yy_xl hm hp hg hx hq (m + 1) 0 (m + 2) (by omega) (by omega) (fun j h1 h2 => by omega)⟩
theorem yy_nextF {post : Int32 → Prop} {x1 x2 : Int32} (hm : m ≤ 60) (hx : mn_bad 10 x1) (hq : post (-1)) : wpY_next post ((nI m), (nI p), T, P) x1 x2 := by
  unfold wpY_next
  refine ⟨1, ?_⟩
  simp (disch := omega) only [wY_next_2, forall_eq, nI_leI, nI_ltI, nI_eq, vp_in_nI, nI_clamp, nI_1, nI_add, pk_sub, mn_10, mn_60lt, mn_60le, mn_12le, mn_4le, mn_le0, mn_lt0, mn_0le, mn_eq0, mn_1le, mn_lt1, mn_le60, mn_lt12, mn_12lt, mn_le3, true_implies, forall_const, not_true_eq_false, not_false_eq_true, false_implies, and_true, true_and, implies_true, and_self, if_true, if_false]
  exact ye_f hx (br_t rfl hq)
theorem mn_m0 : nI 0 + (-1) < 0 := by decide
theorem yy_ll {post : Int32 → Prop} {g a : Nat} {x2 : Int32} (hm : m ≤ 60) (hp : p ≤ 12) (hg : g < 10) (hx : ∀ s, s ≤ 60 → (x2 < nI s ↔ a ≤ s)) (hq : ∀ r, mm_ls (mm_f T P m p 0) a r → post r) : ∀ (k n : Nat), k ≤ m + 1 → k < n → (∀ j, k ≤ j → j < a → ¬ mm_f T P m p 0 j = true) → wY_last_5 post (nI g) x2 (nI m) (nI p) T P n (nI k + (-1)) := by
  intro k
  induction k with
  | zero =>
    intro n h hn hj
    obtain ⟨n, rfl⟩ : ∃ n', n = n' + 1 := ⟨n - 1, by omega⟩
    exact br_t mn_m0 (hq _ (Or.inr ⟨rfl, fun j h1 => hj j (by omega) h1⟩))
  | succ k ih =>
    intro n h hn hj
    obtain ⟨n, rfl⟩ : ∃ n', n = n' + 1 := ⟨n - 1, by omega⟩
    have w := mm_wrL (T := T) (P := P) (m := m) (i := k) hp
    rw [pk_m1]
    simp (disch := omega) only [wY_last_5, forall_eq, nI_leI, nI_ltI, nI_eq, vp_in_nI, nI_clamp, nI_1, nI_add, pk_sub, mn_10, mn_60lt, mn_60le, mn_12le, mn_4le, mn_le0, mn_lt0, mn_0le, mn_eq0, mn_1le, mn_lt1, mn_le60, mn_lt12, mn_12lt, mn_le3, true_implies, forall_const, not_true_eq_false, not_false_eq_true, false_implies, and_true, true_and, implies_true, and_self, if_true, if_false]
    refine ye_t hg (br_f mn_10 ?_)
    by_cases c2 : a ≤ k
    · exact br_t ((hx k (by omega)).mpr c2) (ih n (by omega) (by omega) (fun j h1 h2 => by omega))
    · refine br_f (fun z => c2 ((hx k (by omega)).mp z)) (yy_w hm hp (by omega) ?_)
      by_cases c3 : mm_wr T P m p k = 0
      · exact br_t (by rw [c3]; rfl) (hq _ (Or.inl ⟨k, rfl, by omega, by rw [mm_fT]; omega, fun j h1 h2 => hj j (by omega) h2⟩))
      · refine br_f (by rw [mn_eq0 (by omega)]; exact c3) (ih n (by omega) (by omega) (fun j h1 h2 => ?_))
        by_cases z : j = k
        · rw [z, mm_fT]
          omega
        · exact hj j (by omega) h2
theorem yy_last {post : Int32 → Prop} {g a : Nat} {x2 : Int32} (hm : m ≤ 60) (hp : p ≤ 12) (hg : g < 10) (hx : ∀ s, s ≤ 60 → (x2 < nI s ↔ a ≤ s)) (hq : ∀ r, mm_ls (mm_f T P m p 0) a r → post r) : wpY_last post ((nI m), (nI p), T, P) (nI g) x2 := by
  unfold wpY_last
  dsimp only
  have H := yy_ll hm hp hg hx hq (m + 1) (m + 2) (by omega) (by omega) (fun j h1 h2 => by rw [mm_fB (by omega) (by omega)]; decide)
  rw [pk_m1] at H
  exact ⟨m + 2, H⟩
theorem yy_lastF {post : Int32 → Prop} {x1 x2 : Int32} (hm : m ≤ 60) (hx : mn_bad 10 x1) (hq : post (-1)) : wpY_last post ((nI m), (nI p), T, P) x1 x2 := by
  unfold wpY_last
  refine ⟨1, ?_⟩
  simp (disch := omega) only [wY_last_5, forall_eq, nI_leI, nI_ltI, nI_eq, vp_in_nI, nI_clamp, nI_1, nI_add, pk_sub, mn_10, mn_60lt, mn_60le, mn_12le, mn_4le, mn_le0, mn_lt0, mn_0le, mn_eq0, mn_1le, mn_lt1, mn_le60, mn_lt12, mn_12lt, mn_le3, true_implies, forall_const, not_true_eq_false, not_false_eq_true, false_implies, and_true, true_and, implies_true, and_self, if_true, if_false]
  exact ye_f hx (br_t rfl hq)
theorem yy_kl {post : Int32 → Prop} {g : Nat} {x2 : Int32} (hm : m ≤ 60) (hp : p ≤ 12) (hg : g < 10) (hq : ∀ r, mm_kt (mm_f T P m p 0) x2 r → post r) : ∀ (d s n : Nat), s + d = m + 1 → d < n → (∀ j, j < s → mm_f T P m p 0 j = true → ¬ nI (mm_cn (mm_f T P m p 0) j) = x2) → wY_kth_5 post (nI g) x2 (nI m) (nI p) T P n (nI (mm_cn (mm_f T P m p 0) s)) (nI s) := by
  intro d
  induction d with
  | zero =>
    intro s n h hn hj
    obtain ⟨n, rfl⟩ : ∃ n', n = n' + 1 := ⟨n - 1, by omega⟩
    have c : m < s := by omega
    simp (disch := omega) only [wY_kth_5, c, forall_eq, nI_leI, nI_ltI, nI_eq, vp_in_nI, nI_clamp, nI_1, nI_add, pk_sub, mn_10, mn_60lt, mn_60le, mn_12le, mn_4le, mn_le0, mn_lt0, mn_0le, mn_eq0, mn_1le, mn_lt1, mn_le60, mn_lt12, mn_12lt, mn_le3, true_implies, forall_const, not_true_eq_false, not_false_eq_true, false_implies, and_true, true_and, implies_true, and_self, if_true, if_false]
    refine hq _ (Or.inr ⟨rfl, fun j h1 => ?_⟩)
    by_cases z : j < s
    · exact hj j z h1
    · rw [mm_fB (by omega) (by omega)] at h1
      exact absurd h1 (by decide)
  | succ d ih =>
    intro s n h hn hj
    obtain ⟨n, rfl⟩ : ∃ n', n = n' + 1 := ⟨n - 1, by omega⟩
    have c : ¬ m < s := by omega
    have w := mm_wrL (T := T) (P := P) (m := m) (i := s) hp
    simp (disch := omega) only [wY_kth_5, c, forall_eq, nI_leI, nI_ltI, nI_eq, vp_in_nI, nI_clamp, nI_1, nI_add, pk_sub, mn_10, mn_60lt, mn_60le, mn_12le, mn_4le, mn_le0, mn_lt0, mn_0le, mn_eq0, mn_1le, mn_lt1, mn_le60, mn_lt12, mn_12lt, mn_le3, true_implies, forall_const, not_true_eq_false, not_false_eq_true, false_implies, and_true, true_and, implies_true, and_self, if_true, if_false]
    refine ye_t hg (br_f mn_10 (yy_w hm hp (by omega) ?_))
    by_cases c3 : mm_wr T P m p s = 0
    · have hf : mm_f T P m p 0 s = true := by rw [mm_fT]; omega
      refine br_t (by rw [c3]; rfl) ?_
      by_cases c4 : nI (mm_cn (mm_f T P m p 0) s) = x2
      · exact br_t c4 (hq _ (Or.inl ⟨s, by omega, rfl, hf, c4⟩))
      · have H := ih (s + 1) n (by omega) (by omega) (fun j h1 h2 => by
          by_cases z : j < s
          · exact hj j z h2
          · have e : j = s := by omega
            rw [e]
            exact c4)
        rw [mm_cnT hf] at H
        exact br_f c4 H
    · have hf : ¬ mm_f T P m p 0 s = true := by rw [mm_fT]; omega
      have H := ih (s + 1) n (by omega) (by omega) (fun j h1 h2 => by
          by_cases z : j < s
          · exact hj j z h2
          · have e : j = s := by omega
            rw [e] at h2
            exact absurd h2 hf)
      rw [mm_cnF hf] at H
      exact br_f (by rw [mn_eq0 (by omega)]; exact c3) H
theorem yy_kth {post : Int32 → Prop} {g : Nat} {x2 : Int32} (hm : m ≤ 60) (hp : p ≤ 12) (hg : g < 10) (hq : ∀ r, mm_kt (mm_f T P m p 0) x2 r → post r) : wpY_kth post ((nI m), (nI p), T, P) (nI g) x2 := by
  unfold wpY_kth
  exact ⟨m + 2, yy_kl hm hp hg hq (m + 1) 0 (m + 2) (by omega) (by omega) (fun j h1 h2 => by omega)⟩
theorem yy_kthF {post : Int32 → Prop} {x1 x2 : Int32} (hm : m ≤ 60) (hx : mn_bad 10 x1) (hq : post (-1)) : wpY_kth post ((nI m), (nI p), T, P) x1 x2 := by
  unfold wpY_kth
  refine ⟨1, ?_⟩
  simp (disch := omega) only [wY_kth_5, forall_eq, nI_leI, nI_ltI, nI_eq, vp_in_nI, nI_clamp, nI_1, nI_add, pk_sub, mn_10, mn_60lt, mn_60le, mn_12le, mn_4le, mn_le0, mn_lt0, mn_0le, mn_eq0, mn_1le, mn_lt1, mn_le60, mn_lt12, mn_12lt, mn_le3, true_implies, forall_const, not_true_eq_false, not_false_eq_true, false_implies, and_true, true_and, implies_true, and_self, if_true, if_false]
  exact ye_f hx (br_t rfl hq)
theorem yy_al {post : Int32 → Prop} {x1 : Int32} {D : Nat} (hm : m ≤ 60) (hp : p ≤ 12) (hD : D = p ∨ p = 0 ∧ D = 1) (hq : wpY_engine (fun r => (r = 0 → post (-1)) ∧ (¬ r = 0 → post (nI (mm_ga (mm_f T P m p 0) D (m + 1)).1))) ((nI m), (nI p), T, P) x1) : ∀ (d s n fr : Nat), s + d = m + 1 → d < n → fr ≤ 100 → (fr = (mm_ga (mm_f T P m p 0) D s).2 ∨ fr ≤ s ∧ (mm_ga (mm_f T P m p 0) D s).2 ≤ s) → wY_apart_7 post x1 (nI m) (nI p) T P n (nI (mm_ga (mm_f T P m p 0) D s).1) (nI fr) (nI s) := by
  intro d
  induction d with
  | zero =>
    intro s n fr h hn hf hj
    obtain ⟨n, rfl⟩ : ∃ n', n = n' + 1 := ⟨n - 1, by omega⟩
    have e : s = m + 1 := by omega
    subst e
    simp (disch := omega) only [wY_apart_7, Nat.lt_succ_self, forall_eq, nI_leI, nI_ltI, nI_eq, vp_in_nI, nI_clamp, nI_1, nI_add, pk_sub, mn_10, mn_60lt, mn_60le, mn_12le, mn_4le, mn_le0, mn_lt0, mn_0le, mn_eq0, mn_1le, mn_lt1, mn_le60, mn_lt12, mn_12lt, mn_le3, true_implies, forall_const, not_true_eq_false, not_false_eq_true, false_implies, and_true, true_and, implies_true, and_self, if_true, if_false]
    exact hq
  | succ d ih =>
    intro s n fr h hn hf hj
    obtain ⟨n, rfl⟩ : ∃ n', n = n' + 1 := ⟨n - 1, by omega⟩
    have c : ¬ m < s := by omega
    have w := mm_wrL (T := T) (P := P) (m := m) (i := s) hp
    by_cases c2 : s < fr
    · have e : mm_ga (mm_f T P m p 0) D (s + 1) = mm_ga (mm_f T P m p 0) D s := mm_gaF (fun z => by omega)
      have H := ih (s + 1) n fr (by omega) (by omega) hf (by rw [e]; omega)
      rw [e] at H
      simp (disch := omega) only [wY_apart_7, c, c2, forall_eq, nI_leI, nI_ltI, nI_eq, vp_in_nI, nI_clamp, nI_1, nI_add, pk_sub, mn_10, mn_60lt, mn_60le, mn_12le, mn_4le, mn_le0, mn_lt0, mn_0le, mn_eq0, mn_1le, mn_lt1, mn_le60, mn_lt12, mn_12lt, mn_le3, true_implies, forall_const, not_true_eq_false, not_false_eq_true, false_implies, and_true, true_and, implies_true, and_self, if_true, if_false]
      exact H
    · simp (disch := omega) only [wY_apart_7, c, c2, forall_eq, nI_leI, nI_ltI, nI_eq, vp_in_nI, nI_clamp, nI_1, nI_add, pk_sub, mn_10, mn_60lt, mn_60le, mn_12le, mn_4le, mn_le0, mn_lt0, mn_0le, mn_eq0, mn_1le, mn_lt1, mn_le60, mn_lt12, mn_12lt, mn_le3, true_implies, forall_const, not_true_eq_false, not_false_eq_true, false_implies, and_true, true_and, implies_true, and_self, if_true, if_false]
      refine yy_w hm hp (by omega) ?_
      by_cases c3 : mm_wr T P m p s = 0
      · have hff : mm_f T P m p 0 s = true := by rw [mm_fT]; omega
        have e : mm_ga (mm_f T P m p 0) D (s + 1) = ((mm_ga (mm_f T P m p 0) D s).1 + 1, s + D) := mm_gaT (by omega) hff
        have H := ih (s + 1) n (s + p) (by omega) (by omega) (by omega) (by rw [e]; dsimp only; omega)
        rw [e] at H
        exact br_t (by rw [c3]; rfl) H
      · have hff : ¬ mm_f T P m p 0 s = true := by rw [mm_fT]; omega
        have e : mm_ga (mm_f T P m p 0) D (s + 1) = mm_ga (mm_f T P m p 0) D s := mm_gaF (fun z => hff z.2)
        have H := ih (s + 1) n fr (by omega) (by omega) hf (by rw [e]; omega)
        rw [e] at H
        exact br_f (by rw [mn_eq0 (by omega)]; exact c3) H
theorem yy_apart {post : Int32 → Prop} {x1 : Int32} {D : Nat} (hm : m ≤ 60) (hp : p ≤ 12) (hD : D = p ∨ p = 0 ∧ D = 1) (hq : wpY_engine (fun r => (r = 0 → post (-1)) ∧ (¬ r = 0 → post (nI (mm_ga (mm_f T P m p 0) D (m + 1)).1))) ((nI m), (nI p), T, P) x1) : wpY_apart post ((nI m), (nI p), T, P) x1 := by
  unfold wpY_apart
  exact ⟨m + 2, yy_al hm hp hD hq (m + 1) 0 (m + 2) 0 (by omega) (by omega) (by omega) (Or.inl rfl)⟩
theorem yy_bi {post : Int32 → Prop} {J : Int32 → Prop} {b : Nat} (hp : p ≤ 12) (hb : b < p) (k1 : mm_su P P p b → post (nI b)) (k2 : ¬ mm_su P P p b → J (nI b + (-1))) : ∀ (d k n : Nat) (z : Int32), k + d = b → d < n → (z = 1 ∧ (∀ j, j < k → P j = P (p - b + j)) ∨ z = 0 ∧ ¬ mm_su P P p b) → wY_border_15 post J (nI b) (nI m) (nI p) T P n z (nI k) := by
  intro d
  induction d with
  | zero =>
    intro k n z h hn hz
    obtain ⟨n, rfl⟩ : ∃ n', n = n' + 1 := ⟨n - 1, by omega⟩
    have c : b ≤ k := by omega
    rcases hz with ⟨rfl, h2⟩ | ⟨rfl, h2⟩
    · simp (disch := omega) only [wY_border_15, c, forall_eq, nI_leI, nI_ltI, nI_eq, vp_in_nI, nI_clamp, nI_1, nI_add, pk_sub, mn_10, mn_60lt, mn_60le, mn_12le, mn_4le, mn_le0, mn_lt0, mn_0le, mn_eq0, mn_1le, mn_lt1, mn_le60, mn_lt12, mn_12lt, mn_le3, true_implies, forall_const, not_true_eq_false, not_false_eq_true, false_implies, and_true, true_and, implies_true, and_self, if_true, if_false]
      exact k1 ⟨p - b, by omega, fun j hj => (h2 j (by omega)).symm⟩
    · simp (disch := omega) only [wY_border_15, c, forall_eq, nI_leI, nI_ltI, nI_eq, vp_in_nI, nI_clamp, nI_1, nI_add, pk_sub, mn_10, mn_60lt, mn_60le, mn_12le, mn_4le, mn_le0, mn_lt0, mn_0le, mn_eq0, mn_1le, mn_lt1, mn_le60, mn_lt12, mn_12lt, mn_le3, true_implies, forall_const, not_true_eq_false, not_false_eq_true, false_implies, and_true, true_and, implies_true, and_self, if_true, if_false]
      exact k2 h2
  | succ d ih =>
    intro k n z h hn hz
    obtain ⟨n, rfl⟩ : ∃ n', n = n' + 1 := ⟨n - 1, by omega⟩
    have c : ¬ b ≤ k := by omega
    rcases hz with ⟨rfl, h2⟩ | ⟨rfl, h2⟩
    · by_cases c3 : P k = P (p - b + k)
      · simp (disch := omega) only [wY_border_15, c, forall_eq, nI_leI, nI_ltI, nI_eq, vp_in_nI, nI_clamp, nI_1, nI_add, pk_sub, mn_10, mn_60lt, mn_60le, mn_12le, mn_4le, mn_le0, mn_lt0, mn_0le, mn_eq0, mn_1le, mn_lt1, mn_le60, mn_lt12, mn_12lt, mn_le3, true_implies, forall_const, not_true_eq_false, not_false_eq_true, false_implies, and_true, true_and, implies_true, and_self, if_true, if_false]
        exact br_t c3 (ih (k + 1) n 1 (by omega) (by omega) (Or.inl ⟨rfl, lt_s h2 c3⟩))
      · simp (disch := omega) only [wY_border_15, c, forall_eq, nI_leI, nI_ltI, nI_eq, vp_in_nI, nI_clamp, nI_1, nI_add, pk_sub, mn_10, mn_60lt, mn_60le, mn_12le, mn_4le, mn_le0, mn_lt0, mn_0le, mn_eq0, mn_1le, mn_lt1, mn_le60, mn_lt12, mn_12lt, mn_le3, true_implies, forall_const, not_true_eq_false, not_false_eq_true, false_implies, and_true, true_and, implies_true, and_self, if_true, if_false]
        refine br_f c3 (ih (k + 1) n 0 (by omega) (by omega) (Or.inr ⟨rfl, ?_⟩))
        rintro ⟨s, hs, g⟩
        have e : s = p - b := by omega
        rw [e] at g
        exact c3 (g k (by omega)).symm
    · simp (disch := omega) only [wY_border_15, c, forall_eq, nI_leI, nI_ltI, nI_eq, vp_in_nI, nI_clamp, nI_1, nI_add, pk_sub, mn_10, mn_60lt, mn_60le, mn_12le, mn_4le, mn_le0, mn_lt0, mn_0le, mn_eq0, mn_1le, mn_lt1, mn_le60, mn_lt12, mn_12lt, mn_le3, true_implies, forall_const, not_true_eq_false, not_false_eq_true, false_implies, and_true, true_and, implies_true, and_self, if_true, if_false]
      exact ih (k + 1) n 0 (by omega) (by omega) (Or.inr ⟨rfl, h2⟩)
theorem yy_bl {post : Int32 → Prop} (hp : p ≤ 12) (hp0 : 0 < p) (hq : ∀ r, mm_gr P P p (p - 1) r → post (nI r)) : ∀ (b n : Nat), b < p → b < n → (∀ q, mm_su P P p q → q ≤ p - 1 → q ≤ b) → wY_border_7 post (nI m) (nI p) T P n (nI b) := by
  intro b
  induction b with
  | zero =>
    intro n h hn hj
    obtain ⟨n, rfl⟩ : ∃ n', n = n' + 1 := ⟨n - 1, by omega⟩
    simp (disch := omega) only [wY_border_7, forall_eq, nI_leI, nI_ltI, nI_eq, vp_in_nI, nI_clamp, nI_1, nI_add, pk_sub, mn_10, mn_60lt, mn_60le, mn_12le, mn_4le, mn_le0, mn_lt0, mn_0le, mn_eq0, mn_1le, mn_lt1, mn_le60, mn_lt12, mn_12lt, mn_le3, true_implies, forall_const, not_true_eq_false, not_false_eq_true, false_implies, and_true, true_and, implies_true, and_self, if_true, if_false]
    exact ⟨1, yy_bi hp h (fun z => hq 0 ⟨z, by omega, hj⟩) (fun z => absurd (mm_su0 P P p) z) 0 0 1 1 (by omega) (by omega) (Or.inl ⟨rfl, fun j hj => by omega⟩)⟩
  | succ b ih =>
    intro n h hn hj
    obtain ⟨n, rfl⟩ : ∃ n', n = n' + 1 := ⟨n - 1, by omega⟩
    simp (disch := omega) only [wY_border_7, forall_eq, nI_leI, nI_ltI, nI_eq, vp_in_nI, nI_clamp, nI_1, nI_add, pk_sub, mn_10, mn_60lt, mn_60le, mn_12le, mn_4le, mn_le0, mn_lt0, mn_0le, mn_eq0, mn_1le, mn_lt1, mn_le60, mn_lt12, mn_12lt, mn_le3, true_implies, forall_const, not_true_eq_false, not_false_eq_true, false_implies, and_true, true_and, implies_true, and_self, if_true, if_false]
    refine ⟨b + 2, yy_bi hp h (fun z => hq (b + 1) ⟨z, by omega, hj⟩) (fun z => ?_) (b + 1) 0 (b + 2) 1 (by omega) (by omega) (Or.inl ⟨rfl, fun j hj => by omega⟩)⟩
    rw [pk_m1]
    refine ih n (by omega) (by omega) (fun q h1 h2 => ?_)
    have h3 := hj q h1 h2
    have h4 : q ≠ b + 1 := fun e => z (e ▸ h1)
    omega
theorem yy_border {post : Int32 → Prop} (hp : p ≤ 12) (hp0 : 0 < p) (hq : ∀ r, mm_gr P P p (p - 1) r → post (nI r)) : wpY_border post ((nI m), (nI p), T, P) := by
  unfold wpY_border
  dsimp only
  exact nm_r (mn_s1 hp0) ⟨p, yy_bl hp hp0 hq (p - 1) p (by omega) (by omega) (fun q h1 h2 => h2)⟩
theorem yy_border0 {post : Int32 → Prop} (hq : post (-1)) : wpY_border post ((nI m), (nI 0), T, P) := by
  unfold wpY_border
  dsimp only
  exact nm_e ⟨1, br_t (by decide) hq⟩
end
