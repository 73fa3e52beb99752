/-! last places, shifts of suffixes: Boyer and Moore, Horspool, Sunday -/
section
variable {T P bd jo pl la ss pp tr : Nat → Int32} {tp : Nat → Int64} {m p : Nat}
theorem xl_22 {post : SX → Prop} {N : Nat} (hN : N ≤ 12) (hP : mm_lt P) (hq : ∀ l, mm_la P l N → post ((nI m), (nI p), T, P, bd, jo, pl, l, ss, pp, tr, tp)) : ∀ (d s n : Nat) (la : Nat → Int32), s + d = N → d < n → mm_la P la s → wX_fillLastPlaces_22 post (nI N) (nI m) (nI p) n (nI s) T P bd jo pl la ss pp tr tp := by
  intro d
  induction d with
  | zero =>
    intro s n la h hn hl
    obtain ⟨n, rfl⟩ : ∃ n', n = n' + 1 := ⟨n - 1, by omega⟩
    have e : s = N := by omega
    subst e
    simp (disch := omega) only [wX_fillLastPlaces_22, Nat.le_refl, forall_eq, nI_leI, nI_ltI, nI_eq, vp_in_nI, nI_clamp, nI_1, nI_add, pk_sub, mn_10, mn_60lt, mn_60le, mn_12le, mn_4le, mn_le0, mn_lt0, mn_0le, mn_eq0, mn_1le, mn_lt1, mn_le60, mn_lt12, mn_12lt, mn_le3, true_implies, forall_const, not_true_eq_false, not_false_eq_true, false_implies, and_true, true_and, implies_true, and_self, if_true, if_false]
    exact hq la hl
  | succ d ih =>
    intro s n la h hn hl
    obtain ⟨n, rfl⟩ : ∃ n', n = n' + 1 := ⟨n - 1, by omega⟩
    have c : ¬ N ≤ s := by omega
    obtain ⟨l, l1, l2⟩ := hP s
    simp (disch := omega) only [wX_fillLastPlaces_22, c, l2, forall_eq, nI_leI, nI_ltI, nI_eq, vp_in_nI, nI_clamp, nI_1, nI_add, pk_sub, mn_10, mn_60lt, mn_60le, mn_12le, mn_4le, mn_le0, mn_lt0, mn_0le, mn_eq0, mn_1le, mn_lt1, mn_le60, mn_lt12, mn_12lt, mn_le3, true_implies, forall_const, not_true_eq_false, not_false_eq_true, false_implies, and_true, true_and, implies_true, and_self, if_true, if_false]
    exact ih (s + 1) n _ (by omega) (by omega) (mm_laS hl l2 l1)
theorem xl_2 {post : SX → Prop} {N : Nat} (hN : N ≤ 12) (hP : mm_lt P) (hq : ∀ l, mm_la P l N → post ((nI m), (nI p), T, P, bd, jo, pl, l, ss, pp, tr, tp)) : ∀ (d s n : Nat) (la : Nat → Int32), s + d = 4 → d < n → (∀ c, c < s → la c = -1) → wX_fillLastPlaces_2 post (nI N) (nI m) (nI p) n (nI s) T P bd jo pl la ss pp tr tp := by
  intro d
  induction d with
  | zero =>
    intro s n la h hn hl
    obtain ⟨n, rfl⟩ : ∃ n', n = n' + 1 := ⟨n - 1, by omega⟩
    have c : 4 ≤ s := by omega
    simp (disch := omega) only [wX_fillLastPlaces_2, c, forall_eq, nI_leI, nI_ltI, nI_eq, vp_in_nI, nI_clamp, nI_1, nI_add, pk_sub, mn_10, mn_60lt, mn_60le, mn_12le, mn_4le, mn_le0, mn_lt0, mn_0le, mn_eq0, mn_1le, mn_lt1, mn_le60, mn_lt12, mn_12lt, mn_le3, true_implies, forall_const, not_true_eq_false, not_false_eq_true, false_implies, and_true, true_and, implies_true, and_self, if_true, if_false]
    exact ⟨N + 1, xl_22 hN hP hq N 0 (N + 1) la (by omega) (by omega) (mm_la0 (fun j hj => hl j (by omega)))⟩
  | succ d ih =>
    intro s n la h hn hl
    obtain ⟨n, rfl⟩ : ∃ n', n = n' + 1 := ⟨n - 1, by omega⟩
    have c : ¬ 4 ≤ s := by omega
    simp (disch := omega) only [wX_fillLastPlaces_2, c, forall_eq, nI_leI, nI_ltI, nI_eq, vp_in_nI, nI_clamp, nI_1, nI_add, pk_sub, mn_10, mn_60lt, mn_60le, mn_12le, mn_4le, mn_le0, mn_lt0, mn_0le, mn_eq0, mn_1le, mn_lt1, mn_le60, mn_lt12, mn_12lt, mn_le3, true_implies, forall_const, not_true_eq_false, not_false_eq_true, false_implies, and_true, true_and, implies_true, and_self, if_true, if_false]
    refine ih (s + 1) n _ (by omega) (by omega) (lt_s (fun j hj => ?_) pk_us)
    rw [pk_un (by omega)]
    exact hl j hj
theorem xl {post : SX → Prop} {N : Nat} (hN : N ≤ 12) (hP : mm_lt P) (hq : ∀ l, mm_la P l N → post ((nI m), (nI p), T, P, bd, jo, pl, l, ss, pp, tr, tp)) : wpX_fillLastPlaces post ((nI m), (nI p), T, P, bd, jo, pl, la, ss, pp, tr, tp) (nI N) := by
  unfold wpX_fillLastPlaces
  exact ⟨5, xl_2 hN hP hq 4 0 5 la (by omega) (by omega) (fun j hj => by omega)⟩
/-! Horspool -/
theorem xh_l {post : Int64 → SX → Prop} (hm : m ≤ 60) (hp : p ≤ 12) (hp0 : 0 < p) (hpm : p ≤ m) (hT : mm_lt T) (hl : mm_la P la (p - 1)) (hq : ∀ w, mm_pl T P m p w → post w ((nI m), (nI p), T, P, bd, jo, pl, la, ss, pp, tr, tp)) : ∀ (n b st : Nat) (w : Int64), m + 1 - b < n → b ≤ m + 1 → st ≤ b → mm_pt T P m p b w → wX_findByLetterAtEnd_20 post (nI (p - 1)) (nI m) (nI p) T P bd jo pl la ss pp tr tp n w (nI b) (nI st) := by
  intro n
  induction n with
  | zero => intro b st w h; omega
  | succ n ih =>
    intro b st w h hb hs hw
    by_cases c : b + p ≤ m
    · have c1 : ¬ 60 < st := by omega
      have c2 : ¬ m - p < b := by omega
      obtain ⟨l, l1, l2⟩ := hT (b + (p - 1))
      obtain ⟨L, L1, L2, L3⟩ := hl l l1
      have B : ∀ w, mm_pt T P m p (b + 1) w → wX_findByLetterAtEnd_57 post (wX_findByLetterAtEnd_20 post (nI (p - 1)) (nI m) (nI p) T P bd jo pl la ss pp tr tp n) (nI (p - 1)) w (nI b) (nI st) (nI m) (nI p) T P bd jo pl la ss pp tr tp := by
        intro w hw
        unfold wX_findByLetterAtEnd_57
        simp (disch := omega) only [l2, L2, mm_sh1, forall_eq, nI_leI, nI_ltI, nI_eq, vp_in_nI, nI_clamp, nI_1, nI_add, pk_sub, mn_10, mn_60lt, mn_60le, mn_12le, mn_4le, mn_le0, mn_lt0, mn_0le, mn_eq0, mn_1le, mn_lt1, mn_le60, mn_lt12, mn_12lt, mn_le3, true_implies, forall_const, not_true_eq_false, not_false_eq_true, false_implies, and_true, true_and, implies_true, and_self, if_true, if_false]
        refine ih _ (st + 1) w (by omega) (by omega) (by omega) (mm_ptK hw (by omega) (fun q h1 h2 => ?_))
        obtain ⟨t, rfl⟩ : ∃ t, q = b + t := ⟨q - b, by omega⟩
        exact mm_skip l2 (fun j h3 _ h4 => L3 j (by omega) h4) (by omega) (by omega) (by omega)
      simp (disch := omega) only [wX_findByLetterAtEnd_20, c1, c2, forall_eq, nI_leI, nI_ltI, nI_eq, vp_in_nI, nI_clamp, nI_1, nI_add, pk_sub, mn_10, mn_60lt, mn_60le, mn_12le, mn_4le, mn_le0, mn_lt0, mn_0le, mn_eq0, mn_1le, mn_lt1, mn_le60, mn_lt12, mn_12lt, mn_le3, true_implies, forall_const, not_true_eq_false, not_false_eq_true, false_implies, and_true, true_and, implies_true, and_self, if_true, if_false]
      exact xa hm hp c (fun z => br_f mn_10 (B _ (mm_ptS hw (by omega) z))) (fun z => br_t rfl (B _ (mm_ptN hw z)))
    · have c2 : m - p < b := by omega
      have Q := hq w (mm_ptE hw (by omega))
      by_cases c1 : 60 < st
      · simp (disch := omega) only [wX_findByLetterAtEnd_20, c1, forall_eq, nI_leI, nI_ltI, nI_eq, vp_in_nI, nI_clamp, nI_1, nI_add, pk_sub, mn_10, mn_60lt, mn_60le, mn_12le, mn_4le, mn_le0, mn_lt0, mn_0le, mn_eq0, mn_1le, mn_lt1, mn_le60, mn_lt12, mn_12lt, mn_le3, true_implies, forall_const, not_true_eq_false, not_false_eq_true, false_implies, and_true, true_and, implies_true, and_self, if_true, if_false]
        exact Q
      · simp (disch := omega) only [wX_findByLetterAtEnd_20, c1, c2, forall_eq, nI_leI, nI_ltI, nI_eq, vp_in_nI, nI_clamp, nI_1, nI_add, pk_sub, mn_10, mn_60lt, mn_60le, mn_12le, mn_4le, mn_le0, mn_lt0, mn_0le, mn_eq0, mn_1le, mn_lt1, mn_le60, mn_lt12, mn_12lt, mn_le3, true_implies, forall_const, not_true_eq_false, not_false_eq_true, false_implies, and_true, true_and, implies_true, and_self, if_true, if_false]
        exact Q
theorem xe4 {post : Int64 → SX → Prop} (hm : m ≤ 60) (hp : p ≤ 12) (hp0 : 0 < p) (hpm : p ≤ m) (hT : mm_lt T) (hP : mm_lt P) (hq : ∀ w l, mm_pl T P m p w → post w ((nI m), (nI p), T, P, bd, jo, pl, l, ss, pp, tr, tp)) : wpX_findByLetterAtEnd post ((nI m), (nI p), T, P, bd, jo, pl, la, ss, pp, tr, tp) := by
  unfold wpX_findByLetterAtEnd
  dsimp only
  refine nm_r (mn_s1 hp0) (xl (by omega) hP (fun l hl => ?_))
  exact ⟨m + 2, xh_l hm hp hp0 hpm hT hl (fun w hw => hq w l hw) (m + 2) 0 0 0 (by omega) (by omega) (by omega) mm_pt0⟩
/-! Sunday -/
theorem xs_l {post : Int64 → SX → Prop} (hm : m ≤ 60) (hp : p ≤ 12) (hp0 : 0 < p) (hpm : p ≤ m) (hT : mm_lt T) (hl : mm_la P la p) (hq : ∀ w, mm_pl T P m p w → post w ((nI m), (nI p), T, P, bd, jo, pl, la, ss, pp, tr, tp)) : ∀ (n b st : Nat) (w : Int64), m + 1 - b < n → b ≤ m + 1 → st ≤ b → mm_pt T P m p b w → wX_findByLetterBehindEnd_15 post (nI m) (nI p) T P bd jo pl la ss pp tr tp n w (nI b) (nI st) := by
  intro n
  induction n with
  | zero => intro b st w h; omega
  | succ n ih =>
    intro b st w h hb hs hw
    by_cases c : b + p ≤ m
    · have c1 : ¬ 60 < st := by omega
      have c2 : ¬ m - p < b := by omega
      obtain ⟨l, l1, l2⟩ := hT (b + p)
      obtain ⟨L, L1, L2, L3⟩ := hl l l1
      have B : ∀ w, mm_pt T P m p (b + 1) w → wX_findByLetterBehindEnd_49 post (wX_findByLetterBehindEnd_15 post (nI m) (nI p) T P bd jo pl la ss pp tr tp n) w (nI b) (nI st) (nI m) (nI p) T P bd jo pl la ss pp tr tp := by
        intro w hw
        unfold wX_findByLetterBehindEnd_49
        by_cases c3 : m ≤ b + p
        · simp (disch := omega) only [c3, forall_eq, nI_leI, nI_ltI, nI_eq, vp_in_nI, nI_clamp, nI_1, nI_add, pk_sub, mn_10, mn_60lt, mn_60le, mn_12le, mn_4le, mn_le0, mn_lt0, mn_0le, mn_eq0, mn_1le, mn_lt1, mn_le60, mn_lt12, mn_12lt, mn_le3, true_implies, forall_const, not_true_eq_false, not_false_eq_true, false_implies, and_true, true_and, implies_true, and_self, if_true, if_false]
          exact ih (b + 1) (st + 1) w (by omega) (by omega) (by omega) hw
        · simp (disch := omega) only [c3, l2, L2, mm_sh1, forall_eq, nI_leI, nI_ltI, nI_eq, vp_in_nI, nI_clamp, nI_1, nI_add, pk_sub, mn_10, mn_60lt, mn_60le, mn_12le, mn_4le, mn_le0, mn_lt0, mn_0le, mn_eq0, mn_1le, mn_lt1, mn_le60, mn_lt12, mn_12lt, mn_le3, true_implies, forall_const, not_true_eq_false, not_false_eq_true, false_implies, and_true, true_and, implies_true, and_self, if_true, if_false]
          refine ih _ (st + 1) w (by omega) (by omega) (by omega) (mm_ptK hw (by omega) (fun q h1 h2 => ?_))
          obtain ⟨t, rfl⟩ : ∃ t, q = b + t := ⟨q - b, by omega⟩
          exact mm_skip l2 (fun j h3 h5 h4 => L3 j h5 h4) (by omega) (by omega) (by omega)
      simp (disch := omega) only [wX_findByLetterBehindEnd_15, c1, c2, forall_eq, nI_leI, nI_ltI, nI_eq, vp_in_nI, nI_clamp, nI_1, nI_add, pk_sub, mn_10, mn_60lt, mn_60le, mn_12le, mn_4le, mn_le0, mn_lt0, mn_0le, mn_eq0, mn_1le, mn_lt1, mn_le60, mn_lt12, mn_12lt, mn_le3, true_implies, forall_const, not_true_eq_false, not_false_eq_true, false_implies, and_true, true_and, implies_true, and_self, if_true, if_false]
      exact xa hm hp c (fun z => br_f mn_10 (B _ (mm_ptS hw (by omega) z))) (fun z => br_t rfl (B _ (mm_ptN hw z)))
    · have c2 : m - p < b := by omega
      have Q := hq w (mm_ptE hw (by omega))
      by_cases c1 : 60 < st
      · simp (disch := omega) only [wX_findByLetterBehindEnd_15, c1, forall_eq, nI_leI, nI_ltI, nI_eq, vp_in_nI, nI_clamp, nI_1, nI_add, pk_sub, mn_10, mn_60lt, mn_60le, mn_12le, mn_4le, mn_le0, mn_lt0, mn_0le, mn_eq0, mn_1le, mn_lt1, mn_le60, mn_lt12, mn_12lt, mn_le3, true_implies, forall_const, not_true_eq_false, not_false_eq_true, false_implies, and_true, true_and, implies_true, and_self, if_true, if_false]
        exact Q
      · simp (disch := omega) only [wX_findByLetterBehindEnd_15, c1, c2, forall_eq, nI_leI, nI_ltI, nI_eq, vp_in_nI, nI_clamp, nI_1, nI_add, pk_sub, mn_10, mn_60lt, mn_60le, mn_12le, mn_4le, mn_le0, mn_lt0, mn_0le, mn_eq0, mn_1le, mn_lt1, mn_le60, mn_lt12, mn_12lt, mn_le3, true_implies, forall_const, not_true_eq_false, not_false_eq_true, false_implies, and_true, true_and, implies_true, and_self, if_true, if_false]
        exact Q
theorem xe5 {post : Int64 → SX → Prop} (hm : m ≤ 60) (hp : p ≤ 12) (hp0 : 0 < p) (hpm : p ≤ m) (hT : mm_lt T) (hP : mm_lt P) (hq : ∀ w l, mm_pl T P m p w → post w ((nI m), (nI p), T, P, bd, jo, pl, l, ss, pp, tr, tp)) : wpX_findByLetterBehindEnd post ((nI m), (nI p), T, P, bd, jo, pl, la, ss, pp, tr, tp) := by
  unfold wpX_findByLetterBehindEnd
  dsimp only
  refine xl hp hP (fun l hl => ?_)
  exact ⟨m + 2, xs_l hm hp hp0 hpm hT hl (fun w hw => hq w l hw) (m + 2) 0 0 0 (by omega) (by omega) (by omega) mm_pt0⟩
/-! the shifts of the suffixes -/
theorem mn_p1 (a : Nat) : nI a - 1 + 1 = nI a := by
  generalize nI a = x
  grind
theorem mn_pm (a : Nat) : nI a + (-1) + 1 = nI a := by
  generalize nI a = x
  grind
theorem mn_sm (a : Nat) : nI a - 1 = nI a + (-1) := by
  generalize nI a = x
  grind
theorem mn_01 : nI 0 - 1 = -1 := by decide
theorem mn_01p : nI 0 + (-1) = -1 := by decide
theorem xg_28 {post : Int32 → Prop} {j1 t : Nat} (hp : p ≤ 12) (h1 : (∀ k, j1 ≤ k → k < p → t ≤ k → P (k - t) = P k) → post 1) (h0 : ¬ (∀ k, j1 ≤ k → k < p → t ≤ k → P (k - t) = P k) → post 0) (ht : t ≤ 12) : ∀ (d k n : Nat), k + d = p → d < n → (∀ i, j1 ≤ i → i < k → t ≤ i → P (i - t) = P i) → j1 ≤ k → wX_isSuffixShift_28 post (nI t) (nI m) (nI p) T P bd jo pl la ss pp tr tp n (nI k) := by
  intro d
  induction d with
  | zero =>
    intro k n h hn hk hj
    obtain ⟨n, rfl⟩ : ∃ n', n = n' + 1 := ⟨n - 1, by omega⟩
    have c : p ≤ k := by omega
    simp (disch := omega) only [wX_isSuffixShift_28, c, forall_eq, nI_leI, nI_ltI, nI_eq, vp_in_nI, nI_clamp, nI_1, nI_add, pk_sub, mn_10, mn_60lt, mn_60le, mn_12le, mn_4le, mn_le0, mn_lt0, mn_0le, mn_eq0, mn_1le, mn_lt1, mn_le60, mn_lt12, mn_12lt, mn_le3, true_implies, forall_const, not_true_eq_false, not_false_eq_true, false_implies, and_true, true_and, implies_true, and_self, if_true, if_false]
    exact h1 (fun i a b => hk i a (by omega))
  | succ d ih =>
    intro k n h hn hk hj
    obtain ⟨n, rfl⟩ : ∃ n', n = n' + 1 := ⟨n - 1, by omega⟩
    have c : ¬ p ≤ k := by omega
    have S : (t ≤ k → P (k - t) = P k) → ∀ i, j1 ≤ i → i < k + 1 → t ≤ i → P (i - t) = P i := by
      intro z i a b e
      by_cases y : i < k
      · exact hk i a y e
      · have y2 : i = k := by omega
        rw [y2] at e ⊢
        exact z e
    by_cases c2 : k < t
    · simp (disch := omega) only [wX_isSuffixShift_28, c, c2, forall_eq, nI_leI, nI_ltI, nI_eq, vp_in_nI, nI_clamp, nI_1, nI_add, pk_sub, mn_10, mn_60lt, mn_60le, mn_12le, mn_4le, mn_le0, mn_lt0, mn_0le, mn_eq0, mn_1le, mn_lt1, mn_le60, mn_lt12, mn_12lt, mn_le3, true_implies, forall_const, not_true_eq_false, not_false_eq_true, false_implies, and_true, true_and, implies_true, and_self, if_true, if_false]
      exact ih (k + 1) n (by omega) (by omega) (S (fun z => by omega)) (by omega)
    · by_cases c3 : P (k - t) = P k
      · simp (disch := omega) only [wX_isSuffixShift_28, c, c2, c3, forall_eq, nI_leI, nI_ltI, nI_eq, vp_in_nI, nI_clamp, nI_1, nI_add, pk_sub, mn_10, mn_60lt, mn_60le, mn_12le, mn_4le, mn_le0, mn_lt0, mn_0le, mn_eq0, mn_1le, mn_lt1, mn_le60, mn_lt12, mn_12lt, mn_le3, true_implies, forall_const, not_true_eq_false, not_false_eq_true, false_implies, and_true, true_and, implies_true, and_self, if_true, if_false]
        exact ih (k + 1) n (by omega) (by omega) (S (fun _ => c3)) (by omega)
      · simp (disch := omega) only [wX_isSuffixShift_28, c, c2, c3, forall_eq, nI_leI, nI_ltI, nI_eq, vp_in_nI, nI_clamp, nI_1, nI_add, pk_sub, mn_10, mn_60lt, mn_60le, mn_12le, mn_4le, mn_le0, mn_lt0, mn_0le, mn_eq0, mn_1le, mn_lt1, mn_le60, mn_lt12, mn_12lt, mn_le3, true_implies, forall_const, not_true_eq_false, not_false_eq_true, false_implies, and_true, true_and, implies_true, and_self, if_true, if_false]
        exact h0 (fun z => c3 (z k hj (by omega) (by omega)))
theorem xg {post : Int32 → Prop} {j1 t : Nat} (hp : p ≤ 12) (hj : j1 ≤ p) (ht : t ≤ 12) (h1 : mm_gd P p j1 t → post 1) (h0 : ¬ mm_gd P p j1 t → post 0) : wpX_isSuffixShift post ((nI m), (nI p), T, P, bd, jo, pl, la, ss, pp, tr, tp) (nI j1 - 1) (nI t) := by
  unfold wpX_isSuffixShift
  cases j1 with
  | zero =>
    rw [mn_01]
    refine br_t (mn_neg (by decide) (by omega)) (nm_r (show (-1 : Int32) + 1 = nI 0 from by decide) ⟨p + 1, xg_28 (j1 := 0) hp (fun z => h1 ⟨fun j e => by omega, z⟩) (fun z => h0 (fun y => z y.2)) ht p 0 (p + 1) (by omega) (by omega) (fun i a b => by omega) (by omega)⟩)
  | succ j =>
    rw [nI_pred]
    by_cases c : j < t
    · simp (disch := omega) only [c, forall_eq, nI_leI, nI_ltI, nI_eq, vp_in_nI, nI_clamp, nI_1, nI_add, pk_sub, mn_10, mn_60lt, mn_60le, mn_12le, mn_4le, mn_le0, mn_lt0, mn_0le, mn_eq0, mn_1le, mn_lt1, mn_le60, mn_lt12, mn_12lt, mn_le3, true_implies, forall_const, not_true_eq_false, not_false_eq_true, false_implies, and_true, true_and, implies_true, and_self, if_true, if_false]
      exact ⟨p + 1, xg_28 (j1 := j + 1) hp (fun z => h1 ⟨fun i e a => by omega, z⟩) (fun z => h0 (fun y => z y.2)) ht (p - (j + 1)) (j + 1) (p + 1) (by omega) (by omega) (fun i a b => by omega) (by omega)⟩
    · by_cases c3 : P (j - t) = P j
      · simp (disch := omega) only [c, c3, forall_eq, nI_leI, nI_ltI, nI_eq, vp_in_nI, nI_clamp, nI_1, nI_add, pk_sub, mn_10, mn_60lt, mn_60le, mn_12le, mn_4le, mn_le0, mn_lt0, mn_0le, mn_eq0, mn_1le, mn_lt1, mn_le60, mn_lt12, mn_12lt, mn_le3, true_implies, forall_const, not_true_eq_false, not_false_eq_true, false_implies, and_true, true_and, implies_true, and_self, if_true, if_false]
        exact h0 (fun y => y.1 j rfl (by omega) c3)
      · simp (disch := omega) only [c, c3, forall_eq, nI_leI, nI_ltI, nI_eq, vp_in_nI, nI_clamp, nI_1, nI_add, pk_sub, mn_10, mn_60lt, mn_60le, mn_12le, mn_4le, mn_le0, mn_lt0, mn_0le, mn_eq0, mn_1le, mn_lt1, mn_le60, mn_lt12, mn_12lt, mn_le3, true_implies, forall_const, not_true_eq_false, not_false_eq_true, false_implies, and_true, true_and, implies_true, and_self, if_true, if_false]
        refine ⟨p + 1, xg_28 (j1 := j + 1) hp (fun z => h1 ⟨fun i e a => ?_, z⟩) (fun z => h0 (fun y => z y.2)) ht (p - (j + 1)) (j + 1) (p + 1) (by omega) (by omega) (fun i a b => by omega) (by omega)⟩
        have e2 : i = j := by omega
        rw [e2]
        exact c3
theorem xf_12 {post : SX → Prop} {J : Int32 → (Nat → Int32) → (Nat → Int32) → (Nat → Int32) → (Nat → Int32) → (Nat → Int32) → (Nat → Int32) → (Nat → Int32) → (Nat → Int32) → (Nat → Int32) → (Nat → Int64) → Prop} {j1 : Nat} (hp : p ≤ 12) (hj : j1 ≤ p) (hq : ∀ d, mm_sd P p j1 d → wX_fillSuffixShifts_35 post J (nI j1 - 1) (nI d) (nI m) (nI p) T P bd jo pl la ss pp tr tp) : ∀ (d t n : Nat), t + d = p → d < n → 1 ≤ t → (∀ i, 1 ≤ i → i < t → ¬ mm_gd P p j1 i) → wX_fillSuffixShifts_12 post J (nI j1 - 1) (nI m) (nI p) T P bd jo pl la ss pp tr tp n (nI t) := by
  intro d
  induction d with
  | zero =>
    intro t n h hn h1 hk
    obtain ⟨n, rfl⟩ : ∃ n', n = n' + 1 := ⟨n - 1, by omega⟩
    have c : p ≤ t := by omega
    simp (disch := omega) only [wX_fillSuffixShifts_12, c, forall_eq, nI_leI, nI_ltI, nI_eq, vp_in_nI, nI_clamp, nI_1, nI_add, pk_sub, mn_10, mn_60lt, mn_60le, mn_12le, mn_4le, mn_le0, mn_lt0, mn_0le, mn_eq0, mn_1le, mn_lt1, mn_le60, mn_lt12, mn_12lt, mn_le3, true_implies, forall_const, not_true_eq_false, not_false_eq_true, false_implies, and_true, true_and, implies_true, and_self, if_true, if_false]
    exact hq t ⟨h1, by omega, hk⟩
  | succ d ih =>
    intro t n h hn h1 hk
    obtain ⟨n, rfl⟩ : ∃ n', n = n' + 1 := ⟨n - 1, by omega⟩
    have c : ¬ p ≤ t := by omega
    simp (disch := omega) only [wX_fillSuffixShifts_12, c, forall_eq, nI_leI, nI_ltI, nI_eq, vp_in_nI, nI_clamp, nI_1, nI_add, pk_sub, mn_10, mn_60lt, mn_60le, mn_12le, mn_4le, mn_le0, mn_lt0, mn_0le, mn_eq0, mn_1le, mn_lt1, mn_le60, mn_lt12, mn_12lt, mn_le3, true_implies, forall_const, not_true_eq_false, not_false_eq_true, false_implies, and_true, true_and, implies_true, and_self, if_true, if_false]
    refine xg hp hj (by omega) (fun z => br_f mn_10 (hq t ⟨h1, by omega, hk⟩)) (fun z => br_t rfl (ih (t + 1) n (by omega) (by omega) (by omega) (fun i a b => ?_)))
    by_cases y : i < t
    · exact hk i a y
    · have e : i = t := by omega
      rw [e]
      exact z
theorem xf_2 {post : SX → Prop} (hp : p ≤ 12) (hp0 : 0 < p) (hq : ∀ s, mm_ss P s p (p + 1) → post ((nI m), (nI p), T, P, bd, jo, pl, la, s, pp, tr, tp)) : ∀ (d j1 n : Nat) (ss : Nat → Int32), j1 + d = p + 1 → d < n → mm_ss P ss p j1 → wX_fillSuffixShifts_2 post (nI m) (nI p) n (nI j1 - 1) T P bd jo pl la ss pp tr tp := by
  intro d
  induction d with
  | zero =>
    intro j1 n ss h hn hs
    obtain ⟨n, rfl⟩ : ∃ n', n = n' + 1 := ⟨n - 1, by omega⟩
    have e : j1 = p + 1 := by omega
    subst e
    rw [nI_pred]
    simp (disch := omega) only [wX_fillSuffixShifts_2, Nat.le_refl, forall_eq, nI_leI, nI_ltI, nI_eq, vp_in_nI, nI_clamp, nI_1, nI_add, pk_sub, mn_10, mn_60lt, mn_60le, mn_12le, mn_4le, mn_le0, mn_lt0, mn_0le, mn_eq0, mn_1le, mn_lt1, mn_le60, mn_lt12, mn_12lt, mn_le3, true_implies, forall_const, not_true_eq_false, not_false_eq_true, false_implies, and_true, true_and, implies_true, and_self, if_true, if_false]
    exact hq ss hs
  | succ d ih =>
    intro j1 n ss h hn hs
    obtain ⟨n, rfl⟩ : ∃ n', n = n' + 1 := ⟨n - 1, by omega⟩
    have c : ¬ nI p ≤ nI j1 - 1 := by
      cases j1 with
      | zero =>
        rw [mn_01]
        exact mn_nge (by decide) (by omega)
      | succ j =>
        rw [nI_pred, nI_leI (by omega) (by omega)]
        omega
    refine br_f c ⟨p, xf_12 hp (by omega) (fun z hz => ?_) (p - 1) 1 p (by omega) (by omega) (by omega) (fun i a b => by omega)⟩
    have H := ih (j1 + 1) n _ (by omega) (by omega) (mm_ssS hs hz)
    rw [nI_pred] at H
    unfold wX_fillSuffixShifts_35
    simp (disch := omega) only [mn_p1, forall_eq, nI_leI, nI_ltI, nI_eq, vp_in_nI, nI_clamp, nI_1, nI_add, pk_sub, mn_10, mn_60lt, mn_60le, mn_12le, mn_4le, mn_le0, mn_lt0, mn_0le, mn_eq0, mn_1le, mn_lt1, mn_le60, mn_lt12, mn_12lt, mn_le3, true_implies, forall_const, not_true_eq_false, not_false_eq_true, false_implies, and_true, true_and, implies_true, and_self, if_true, if_false]
    exact H
theorem xf {post : SX → Prop} (hp : p ≤ 12) (hp0 : 0 < p) (hq : ∀ s, mm_ss P s p (p + 1) → post ((nI m), (nI p), T, P, bd, jo, pl, la, s, pp, tr, tp)) : wpX_fillSuffixShifts post ((nI m), (nI p), T, P, bd, jo, pl, la, ss, pp, tr, tp) := by
  unfold wpX_fillSuffixShifts
  dsimp only
  rw [← mn_01]
  exact ⟨p + 2, xf_2 hp hp0 hq (p + 1) 0 (p + 2) ss (by omega) (by omega) (fun j hj => by omega)⟩
theorem xd_7 {post : Int32 → Prop} {i : Nat} (hm : m ≤ 60) (hp : p ≤ 12) (hi : i + p ≤ m) (hq : ∀ j1, j1 ≤ p → (∀ t, j1 ≤ t → t < p → T (i + t) = P t) → (∀ j, j1 = j + 1 → T (i + j) ≠ P j) → post (nI j1 + (-1))) : ∀ (k n : Nat), k ≤ p → k < n → (∀ t, k ≤ t → t < p → T (i + t) = P t) → wX_lastDifferenceAt_7 post (nI i) (nI m) (nI p) T P bd jo pl la ss pp tr tp n (nI k + (-1)) := by
  intro k
  induction k with
  | zero =>
    intro n h hn hk
    obtain ⟨n, rfl⟩ : ∃ n', n = n' + 1 := ⟨n - 1, by omega⟩
    exact br_t mn_m0 (hq 0 h hk (fun j e => by omega))
  | succ k ih =>
    intro n h hn hk
    obtain ⟨n, rfl⟩ : ∃ n', n = n' + 1 := ⟨n - 1, by omega⟩
    have H := hq (k + 1) h hk
    rw [pk_m1] at H ⊢
    by_cases c3 : T (i + k) = P k
    · simp (disch := omega) only [wX_lastDifferenceAt_7, c3, forall_eq, nI_leI, nI_ltI, nI_eq, vp_in_nI, nI_clamp, nI_1, nI_add, pk_sub, mn_10, mn_60lt, mn_60le, mn_12le, mn_4le, mn_le0, mn_lt0, mn_0le, mn_eq0, mn_1le, mn_lt1, mn_le60, mn_lt12, mn_12lt, mn_le3, true_implies, forall_const, not_true_eq_false, not_false_eq_true, false_implies, and_true, true_and, implies_true, and_self, if_true, if_false]
      refine ih n (by omega) (by omega) (fun t a b => ?_)
      by_cases y : t = k
      · rw [y]
        exact c3
      · exact hk t (by omega) b
    · simp (disch := omega) only [wX_lastDifferenceAt_7, c3, forall_eq, nI_leI, nI_ltI, nI_eq, vp_in_nI, nI_clamp, nI_1, nI_add, pk_sub, mn_10, mn_60lt, mn_60le, mn_12le, mn_4le, mn_le0, mn_lt0, mn_0le, mn_eq0, mn_1le, mn_lt1, mn_le60, mn_lt12, mn_12lt, mn_le3, true_implies, forall_const, not_true_eq_false, not_false_eq_true, false_implies, and_true, true_and, implies_true, and_self, if_true, if_false]
      refine H (fun j e => ?_)
      have e2 : j = k := by omega
      rw [e2]
      exact c3
theorem xd {post : Int32 → Prop} {i : Nat} (hm : m ≤ 60) (hp : p ≤ 12) (hi : i + p ≤ m) (hq : ∀ j1, j1 ≤ p → (∀ t, j1 ≤ t → t < p → T (i + t) = P t) → (∀ j, j1 = j + 1 → T (i + j) ≠ P j) → post (nI j1 + (-1))) : wpX_lastDifferenceAt post ((nI m), (nI p), T, P, bd, jo, pl, la, ss, pp, tr, tp) (nI i) := by
  unfold wpX_lastDifferenceAt
  dsimp only
  exact nm_r (mn_sm p) ⟨p + 1, xd_7 hm hp hi hq p (p + 1) (by omega) (by omega) (fun t a b => by omega)⟩
theorem xq_l {post : Int64 → SX → Prop} (hm : m ≤ 60) (hp : p ≤ 12) (hp0 : 0 < p) (hpm : p ≤ m) (hT : mm_lt T) (hl : mm_la P la p) (hs : mm_ss P ss p (p + 1)) (hq : ∀ w, mm_pl T P m p w → post w ((nI m), (nI p), T, P, bd, jo, pl, la, ss, pp, tr, tp)) : ∀ (n b st : Nat) (w : Int64), m + 1 - b < n → b ≤ m + 1 → st ≤ b → mm_pt T P m p b w → wX_findByLastPlacesAndSuffixes_19 post (nI m) (nI p) T P bd jo pl la ss pp tr tp n w (nI b) (nI st) := by
  intro n
  induction n with
  | zero => intro b st w h; omega
  | succ n ih =>
    intro b st w h hb hst hw
    by_cases c : b + p ≤ m
    · have c1 : ¬ 60 < st := by omega
      have c2 : ¬ m - p < b := by omega
      simp (disch := omega) only [wX_findByLastPlacesAndSuffixes_19, c1, c2, forall_eq, nI_leI, nI_ltI, nI_eq, vp_in_nI, nI_clamp, nI_1, nI_add, pk_sub, mn_10, mn_60lt, mn_60le, mn_12le, mn_4le, mn_le0, mn_lt0, mn_0le, mn_eq0, mn_1le, mn_lt1, mn_le60, mn_lt12, mn_12lt, mn_le3, true_implies, forall_const, not_true_eq_false, not_false_eq_true, false_implies, and_true, true_and, implies_true, and_self, if_true, if_false]
      refine xd hm hp c (fun j1 a1 a2 a3 => ?_)
      obtain ⟨d, d1, d2⟩ := hs j1 (by omega)
      have d3 := d2.1
      have d4 := d2.2.1
      have SK : ∀ w, mm_pt T P m p (b + 1) w → mm_pt T P m p (b + d) w := by
        intro w hw
        refine mm_ptK hw (by omega) (fun q h1 h2 => ?_)
        obtain ⟨t, rfl⟩ : ∃ t, q = b + t := ⟨q - b, by omega⟩
        exact fun o => d2.2.2 t (by omega) (by omega) (mm_gdS a1 a2 a3 o)
      cases j1 with
      | zero =>
        have n0 : ¬ (0 : Int32) ≤ -1 := by decide
        have z1 : (-1 : Int32) + 1 = nI 0 := by decide
        rw [mn_01p]
        simp (disch := omega) only [z1, d1, n0, forall_eq, nI_leI, nI_ltI, nI_eq, vp_in_nI, nI_clamp, nI_1, nI_add, pk_sub, mn_10, mn_60lt, mn_60le, mn_12le, mn_4le, mn_le0, mn_lt0, mn_0le, mn_eq0, mn_1le, mn_lt1, mn_le60, mn_lt12, mn_12lt, mn_le3, true_implies, forall_const, not_true_eq_false, not_false_eq_true, false_implies, and_true, true_and, implies_true, and_self, if_true, if_false]
        exact ih (b + d) (st + 1) _ (by omega) (by omega) (by omega) (SK _ (mm_ptS hw (by omega) ⟨c, fun j hj => a2 j (by omega) hj⟩))
      | succ j =>
        obtain ⟨l, l1, l2⟩ := hT (b + j)
        obtain ⟨L, L1, L2, L3⟩ := hl l l1
        have no : ¬ mm_oc T P m p b := fun o => a3 j rfl (o.2 j (by omega))
        rw [pk_m1]
        by_cases cL : L ≤ j + 1
        · by_cases cd : j + 1 - L ≤ d
          · simp (disch := omega) only [d1, l2, L2, mm_sh1, cd, forall_eq, nI_leI, nI_ltI, nI_eq, vp_in_nI, nI_clamp, nI_1, nI_add, pk_sub, mn_10, mn_60lt, mn_60le, mn_12le, mn_4le, mn_le0, mn_lt0, mn_0le, mn_eq0, mn_1le, mn_lt1, mn_le60, mn_lt12, mn_12lt, mn_le3, true_implies, forall_const, not_true_eq_false, not_false_eq_true, false_implies, and_true, true_and, implies_true, and_self, if_true, if_false]
            exact ih (b + d) (st + 1) _ (by omega) (by omega) (by omega) (SK _ (mm_ptN hw no))
          · simp (disch := omega) only [d1, l2, L2, mm_sh1, cd, forall_eq, nI_leI, nI_ltI, nI_eq, vp_in_nI, nI_clamp, nI_1, nI_add, pk_sub, mn_10, mn_60lt, mn_60le, mn_12le, mn_4le, mn_le0, mn_lt0, mn_0le, mn_eq0, mn_1le, mn_lt1, mn_le60, mn_lt12, mn_12lt, mn_le3, true_implies, forall_const, not_true_eq_false, not_false_eq_true, false_implies, and_true, true_and, implies_true, and_self, if_true, if_false]
            refine ih (b + (j + 1 - L)) (st + 1) _ (by omega) (by omega) (by omega) (mm_ptK (mm_ptN hw no) (by omega) (fun q h1 h2 => ?_))
            obtain ⟨t, rfl⟩ : ∃ t, q = b + t := ⟨q - b, by omega⟩
            exact mm_skip l2 (fun i h3 h5 h4 => L3 i h5 h4) (by omega) (by omega) (by omega)
        · have cn : nI j - (nI L - 1) ≤ nI d := by
            rw [mm_ring, nI_1]
            exact mn_le (pk_sneg (by omega) (by omega)) (by omega)
          simp (disch := omega) only [d1, l2, L2, cn, forall_eq, nI_leI, nI_ltI, nI_eq, vp_in_nI, nI_clamp, nI_1, nI_add, pk_sub, mn_10, mn_60lt, mn_60le, mn_12le, mn_4le, mn_le0, mn_lt0, mn_0le, mn_eq0, mn_1le, mn_lt1, mn_le60, mn_lt12, mn_12lt, mn_le3, true_implies, forall_const, not_true_eq_false, not_false_eq_true, false_implies, and_true, true_and, implies_true, and_self, if_true, if_false]
          exact ih (b + d) (st + 1) _ (by omega) (by omega) (by omega) (SK _ (mm_ptN hw no))
    · have c2 : m - p < b := by omega
      have Q := hq w (mm_ptE hw (by omega))
      by_cases c1 : 60 < st
      · simp (disch := omega) only [wX_findByLastPlacesAndSuffixes_19, c1, forall_eq, nI_leI, nI_ltI, nI_eq, vp_in_nI, nI_clamp, nI_1, nI_add, pk_sub, mn_10, mn_60lt, mn_60le, mn_12le, mn_4le, mn_le0, mn_lt0, mn_0le, mn_eq0, mn_1le, mn_lt1, mn_le60, mn_lt12, mn_12lt, mn_le3, true_implies, forall_const, not_true_eq_false, not_false_eq_true, false_implies, and_true, true_and, implies_true, and_self, if_true, if_false]
        exact Q
      · simp (disch := omega) only [wX_findByLastPlacesAndSuffixes_19, c1, c2, forall_eq, nI_leI, nI_ltI, nI_eq, vp_in_nI, nI_clamp, nI_1, nI_add, pk_sub, mn_10, mn_60lt, mn_60le, mn_12le, mn_4le, mn_le0, mn_lt0, mn_0le, mn_eq0, mn_1le, mn_lt1, mn_le60, mn_lt12, mn_12lt, mn_le3, true_implies, forall_const, not_true_eq_false, not_false_eq_true, false_implies, and_true, true_and, implies_true, and_self, if_true, if_false]
        exact Q
theorem xe3 {post : Int64 → SX → Prop} (hm : m ≤ 60) (hp : p ≤ 12) (hp0 : 0 < p) (hpm : p ≤ m) (hT : mm_lt T) (hP : mm_lt P) (hq : ∀ w l s, mm_pl T P m p w → post w ((nI m), (nI p), T, P, bd, jo, pl, l, s, pp, tr, tp)) : wpX_findByLastPlacesAndSuffixes post ((nI m), (nI p), T, P, bd, jo, pl, la, ss, pp, tr, tp) := by
  unfold wpX_findByLastPlacesAndSuffixes
  dsimp only
  refine xl hp hP (fun l hl => ?_)
  dsimp only
  refine xf hp hp0 (fun s hs => ?_)
  exact ⟨m + 2, xq_l hm hp hp0 hpm hT hl hs (fun w hw => hq w l s hw) (m + 2) 0 0 0 (by omega) (by omega) (by omega) mm_pt0⟩
end
