/-! all engines find the occurrences; the loops over the set -/
section
variable {T P bd jo pl la ss pp tr : Nat → Int32} {tp : Nat → Int64} {m p : Nat}
theorem xP {post : Int64 → SX → Prop} {g : Nat} (hm : m ≤ 60) (hp : p ≤ 12) (hT : mm_lt T) (hP : mm_lt P) (hg : g < 10) (hq : ∀ (w : Int64) (bd jo pl la ss pp tr : Nat → Int32) (tp : Nat → Int64), mm_pl T P m p w → post w ((nI m), (nI p), T, P, bd, jo, pl, la, ss, pp, tr, tp)) : wpX_findPlaces post ((nI m), (nI p), T, P, bd, jo, pl, la, ss, pp, tr, tp) (nI g) := by
  unfold wpX_findPlaces
  dsimp only
  by_cases c0 : p = 0
  · subst c0
    refine br_t rfl ?_
    rw [nI_1]
    exact hq _ bd jo pl la ss pp tr tp (mm_plE hm)
  · have hp0 : 0 < p := by omega
    refine br_f (by rw [mn_eq0 (by omega)]; exact c0) ?_
    by_cases c1 : p ≤ m
    · refine br_t (nI_le c1 (by omega)) ?_
      rcases (by omega : g = 0 ∨ g = 1 ∨ g = 2 ∨ g = 3 ∨ g = 4 ∨ g = 5 ∨ g = 6 ∨ g = 7 ∨ g = 8 ∨ g = 9) with e | e | e | e | e | e | e | e | e | e
      · subst e
        exact br_f (by decide) (br_f (by decide) (br_t (by decide) (xe0 hm hp c1 (fun w hw => hq w bd jo pl la ss pp tr tp hw))))
      · subst e
        exact br_f (by decide) (br_f (by decide) (br_f (by decide) (br_t (by decide) (xe1 hm hp hp0 (fun w b hw => hq w b jo pl la ss pp tr tp hw)))))
      · subst e
        exact br_f (by decide) (br_f (by decide) (br_f (by decide) (br_f (by decide) (br_t (by decide) (xe2 hm hp hp0 c1 hT hP (fun w J l hw => hq w bd J l la ss pp tr tp hw))))))
      · subst e
        exact br_f (by decide) (br_f (by decide) (br_f (by decide) (br_f (by decide) (br_f (by decide) (br_t (by decide) (xe3 hm hp hp0 c1 hT hP (fun w l s hw => hq w bd jo pl l s pp tr tp hw)))))))
      · subst e
        exact br_f (by decide) (br_f (by decide) (br_f (by decide) (br_f (by decide) (br_f (by decide) (br_f (by decide) (br_t (by decide) (xe4 hm hp hp0 c1 hT hP (fun w l hw => hq w bd jo pl l ss pp tr tp hw))))))))
      · subst e
        exact br_f (by decide) (br_f (by decide) (br_f (by decide) (br_f (by decide) (br_f (by decide) (br_f (by decide) (br_f (by decide) (br_t (by decide) (xe5 hm hp hp0 c1 hT hP (fun w l hw => hq w bd jo pl l ss pp tr tp hw)))))))))
      · subst e
        exact br_f (by decide) (br_f (by decide) (br_f (by decide) (br_f (by decide) (br_f (by decide) (br_f (by decide) (br_f (by decide) (br_f (by decide) (br_t (by decide) (xe6 hm hp hp0 hT hP (fun w hw => hq w bd jo pl la ss pp tr tp hw))))))))))
      · subst e
        exact br_f (by decide) (br_f (by decide) (br_f (by decide) (br_f (by decide) (br_f (by decide) (br_f (by decide) (br_f (by decide) (br_f (by decide) (br_f (by decide) (br_t (by decide) (xe7 hm hp hp0 hT hP (fun w q hw => hq w bd jo pl la ss q tr tp hw)))))))))))
      · subst e
        exact br_f (by decide) (br_f (by decide) (br_f (by decide) (br_f (by decide) (br_f (by decide) (br_f (by decide) (br_f (by decide) (br_f (by decide) (br_f (by decide) (br_f (by decide) (br_t (by decide) (xe8 hm hp hp0 hT hP (fun w t hw => hq w bd jo pl la ss pp t tp hw))))))))))))
      · subst e
        exact br_f (by decide) (br_t (by decide) (xe9 hm hp hp0 hT hP (fun w q hw => hq w bd jo pl la ss pp tr q hw)))
    · exact br_f (by rw [nI_leI (by omega) (by omega)]; exact c1) (hq 0 bd jo pl la ss pp tr tp (mm_plZ (by omega)))
theorem xH {post : Int32 → Prop} {w : Int64} {i : Nat} (hw : mm_pl T P m p w) (hi : i < 64) (h1 : mm_f T P m p 0 i = true → post 1) (h0 : ¬ mm_f T P m p 0 i = true → post 0) : wpX_hasPlace post w (nI i) := by
  unfold wpX_hasPlace
  by_cases c : mm_f T P m p 0 i = true
  · have b : mm_bl w i = true := (hw i hi).mpr (mm_f0.mp c)
    exact br_f (fun z => (mm_has hi).mp z b) (h1 c)
  · have b : ¬ mm_bl w i = true := fun z => c (mm_f0.mpr ((hw i hi).mp z))
    exact br_t ((mm_has hi).mpr b) (h0 c)
theorem xF {i : Nat} (h : m < i) : ¬ mm_f T P m p 0 i = true := by
  rw [mm_fB (by omega) (by omega)]
  decide
theorem xc_l {post : Int32 → SX → Prop} {w : Int64} (hw : mm_pl T P m p w) (hq : post (nI (mm_cn (mm_f T P m p 0) 61)) ((nI m), (nI p), T, P, bd, jo, pl, la, ss, pp, tr, tp)) : ∀ (d s n : Nat), s + d = 61 → d < n → wX_count_21 post w (nI m) (nI p) T P bd jo pl la ss pp tr tp n (nI (mm_cn (mm_f T P m p 0) s)) (nI s) := by
  intro d
  induction d with
  | zero =>
    intro s n h hn
    obtain ⟨n, rfl⟩ : ∃ n', n = n' + 1 := ⟨n - 1, by omega⟩
    have e : s = 61 := by omega
    subst e
    exact br_t (by decide) hq
  | succ d ih =>
    intro s n h hn
    obtain ⟨n, rfl⟩ : ∃ n', n = n' + 1 := ⟨n - 1, by omega⟩
    have c : ¬ 60 < s := by omega
    have H := ih (s + 1) n (by omega) (by omega)
    simp (disch := omega) only [wX_count_21, c, forall_eq, nI_leI, nI_ltI, nI_eq, vp_in_nI, nI_clamp, nI_1, nI_add, pk_sub, mn_10, mn_60lt, mn_60le, mn_12le, mn_4le, mn_le0, mn_lt0, mn_0le, mn_eq0, mn_1le, mn_lt1, mn_le60, mn_lt12, mn_12lt, mn_le3, true_implies, forall_const, not_true_eq_false, not_false_eq_true, false_implies, and_true, true_and, implies_true, and_self, if_true, if_false]
    refine xH hw (by omega) (fun z => br_f mn_10 ?_) (fun z => br_t rfl ?_)
    · rw [mm_cnT z] at H
      exact H
    · rw [mm_cnF z] at H
      exact H
theorem xn_l {post : Int32 → SX → Prop} {w : Int64} {a : Nat} (hm : m ≤ 60) (hw : mm_pl T P m p w) (hq : ∀ r, mm_nx (mm_f T P m p 0) a r → post r ((nI m), (nI p), T, P, bd, jo, pl, la, ss, pp, tr, tp)) : ∀ (d s n : Nat), s + d = 61 → d < n → a ≤ s → (∀ j, a ≤ j → j < s → ¬ mm_f T P m p 0 j = true) → wX_next_30 post w (nI m) (nI p) T P bd jo pl la ss pp tr tp n (nI s) := by
  intro d
  induction d with
  | zero =>
    intro s n h hn ha hj
    obtain ⟨n, rfl⟩ : ∃ n', n = n' + 1 := ⟨n - 1, by omega⟩
    have e : s = 61 := by omega
    subst e
    refine br_t (by decide) (hq _ (Or.inr ⟨rfl, fun j h1 => ?_⟩))
    by_cases y : j < 61
    · exact hj j h1 y
    · exact xF (by omega)
  | succ d ih =>
    intro s n h hn ha hj
    obtain ⟨n, rfl⟩ : ∃ n', n = n' + 1 := ⟨n - 1, by omega⟩
    have c : ¬ 60 < s := by omega
    simp (disch := omega) only [wX_next_30, c, forall_eq, nI_leI, nI_ltI, nI_eq, vp_in_nI, nI_clamp, nI_1, nI_add, pk_sub, mn_10, mn_60lt, mn_60le, mn_12le, mn_4le, mn_le0, mn_lt0, mn_0le, mn_eq0, mn_1le, mn_lt1, mn_le60, mn_lt12, mn_12lt, mn_le3, true_implies, forall_const, not_true_eq_false, not_false_eq_true, false_implies, and_true, true_and, implies_true, and_self, if_true, if_false]
    refine xH hw (by omega) (fun z => br_f mn_10 ?_) (fun z => br_t rfl ?_)
    · exact hq _ (Or.inl ⟨s, by omega, rfl, ha, z, hj⟩)
    · refine ih (s + 1) n (by omega) (by omega) (by omega) (fun j h1 h2 => ?_)
      by_cases y : j < s
      · exact hj j h1 y
      · have e : j = s := by omega
        rw [e]
        exact z
theorem xl_l {post : Int32 → SX → Prop} {w : Int64} {a : Nat} (hm : m ≤ 60) (hw : mm_pl T P m p w) (hq : ∀ r, mm_ls (mm_f T P m p 0) a r → post r ((nI m), (nI p), T, P, bd, jo, pl, la, ss, pp, tr, tp)) : ∀ (k n : Nat), k ≤ 61 → k < n → k ≤ a → (∀ j, k ≤ j → j < a → ¬ mm_f T P m p 0 j = true) → wX_last_33 post w (nI m) (nI p) T P bd jo pl la ss pp tr tp n (nI k + (-1)) := by
  intro k
  induction k with
  | zero =>
    intro n h hn ha hj
    obtain ⟨n, rfl⟩ : ∃ n', n = n' + 1 := ⟨n - 1, by omega⟩
    exact br_t mn_m0 (hq _ (Or.inr ⟨rfl, fun j h1 => hj j (by omega) h1⟩))
  | succ k ih =>
    intro n h hn ha hj
    obtain ⟨n, rfl⟩ : ∃ n', n = n' + 1 := ⟨n - 1, by omega⟩
    rw [pk_m1]
    simp (disch := omega) only [wX_last_33, forall_eq, nI_leI, nI_ltI, nI_eq, vp_in_nI, nI_clamp, nI_1, nI_add, pk_sub, mn_10, mn_60lt, mn_60le, mn_12le, mn_4le, mn_le0, mn_lt0, mn_0le, mn_eq0, mn_1le, mn_lt1, mn_le60, mn_lt12, mn_12lt, mn_le3, true_implies, forall_const, not_true_eq_false, not_false_eq_true, false_implies, and_true, true_and, implies_true, and_self, if_true, if_false]
    refine xH hw (by omega) (fun z => br_f mn_10 ?_) (fun z => br_t rfl ?_)
    · exact hq _ (Or.inl ⟨k, rfl, by omega, z, fun j h1 h2 => hj j (by omega) h2⟩)
    · refine ih n (by omega) (by omega) (by omega) (fun j h1 h2 => ?_)
      by_cases y : j = k
      · rw [y]
        exact z
      · exact hj j (by omega) h2
theorem xk_l2 {post : Int32 → SX → Prop} {w : Int64} {x2 : Int32} (hm : m ≤ 60) (hw : mm_pl T P m p w) (hq : ∀ r, mm_kt (mm_f T P m p 0) x2 r → post r ((nI m), (nI p), T, P, bd, jo, pl, la, ss, pp, tr, tp)) : ∀ (d s n : Nat), s + d = 61 → d < n → (∀ j, j < s → mm_f T P m p 0 j = true → ¬ nI (mm_cn (mm_f T P m p 0) j) = x2) → wX_kth_21 post x2 w (nI m) (nI p) T P bd jo pl la ss pp tr tp n (nI (mm_cn (mm_f T P m p 0) s)) (nI s) := by
  intro d
  induction d with
  | zero =>
    intro s n h hn hj
    obtain ⟨n, rfl⟩ : ∃ n', n = n' + 1 := ⟨n - 1, by omega⟩
    have e : s = 61 := by omega
    subst e
    refine br_t (by decide) (hq _ (Or.inr ⟨rfl, fun j h1 => ?_⟩))
    by_cases y : j < 61
    · exact hj j y h1
    · exact absurd h1 (xF (by omega))
  | succ d ih =>
    intro s n h hn hj
    obtain ⟨n, rfl⟩ : ∃ n', n = n' + 1 := ⟨n - 1, by omega⟩
    have c : ¬ 60 < s := by omega
    simp (disch := omega) only [wX_kth_21, c, forall_eq, nI_leI, nI_ltI, nI_eq, vp_in_nI, nI_clamp, nI_1, nI_add, pk_sub, mn_10, mn_60lt, mn_60le, mn_12le, mn_4le, mn_le0, mn_lt0, mn_0le, mn_eq0, mn_1le, mn_lt1, mn_le60, mn_lt12, mn_12lt, mn_le3, true_implies, forall_const, not_true_eq_false, not_false_eq_true, false_implies, and_true, true_and, implies_true, and_self, if_true, if_false]
    refine xH hw (by omega) (fun z => br_f mn_10 ?_) (fun z => br_t rfl ?_)
    · by_cases c4 : nI (mm_cn (mm_f T P m p 0) s) = x2
      · exact br_t c4 (hq _ (Or.inl ⟨s, by omega, rfl, z, c4⟩))
      · have H := ih (s + 1) n (by omega) (by omega) (fun j h1 h2 => by
          by_cases y : j < s
          · exact hj j y h2
          · have e : j = s := by omega
            rw [e]
            exact c4)
        rw [mm_cnT z] at H
        exact br_f c4 H
    · have H := ih (s + 1) n (by omega) (by omega) (fun j h1 h2 => by
          by_cases y : j < s
          · exact hj j y h2
          · have e : j = s := by omega
            rw [e] at h2
            exact absurd h2 z)
      rw [mm_cnF z] at H
      exact H
theorem xa_l2 {post : Int32 → SX → Prop} {w : Int64} {D : Nat} (hD : D ≤ 12) (hw : mm_pl T P m p w) (hq : post (nI (mm_ga (mm_f T P m p 0) D 61).1) ((nI m), (nI p), T, P, bd, jo, pl, la, ss, pp, tr, tp)) : ∀ (d s n : Nat), s + d = 61 → d < n → wX_apart_42 post w (nI D) (nI m) (nI p) T P bd jo pl la ss pp tr tp n (nI (mm_ga (mm_f T P m p 0) D s).1) (nI (mm_ga (mm_f T P m p 0) D s).2) (nI s) := by
  intro d
  induction d with
  | zero =>
    intro s n h hn
    obtain ⟨n, rfl⟩ : ∃ n', n = n' + 1 := ⟨n - 1, by omega⟩
    have e : s = 61 := by omega
    subst e
    exact br_t (by decide) hq
  | succ d ih =>
    intro s n h hn
    obtain ⟨n, rfl⟩ : ∃ n', n = n' + 1 := ⟨n - 1, by omega⟩
    have c : ¬ 60 < s := by omega
    have B := mm_gaL (mm_f T P m p 0) D s
    have H := ih (s + 1) n (by omega) (by omega)
    by_cases c2 : s < (mm_ga (mm_f T P m p 0) D s).2
    · rw [mm_gaF (fun z => by omega)] at H
      simp (disch := omega) only [wX_apart_42, c, c2, forall_eq, nI_leI, nI_ltI, nI_eq, vp_in_nI, nI_clamp, nI_1, nI_add, pk_sub, mn_10, mn_60lt, mn_60le, mn_12le, mn_4le, mn_le0, mn_lt0, mn_0le, mn_eq0, mn_1le, mn_lt1, mn_le60, mn_lt12, mn_12lt, mn_le3, true_implies, forall_const, not_true_eq_false, not_false_eq_true, false_implies, and_true, true_and, implies_true, and_self, if_true, if_false]
      exact H
    · simp (disch := omega) only [wX_apart_42, c, c2, forall_eq, nI_leI, nI_ltI, nI_eq, vp_in_nI, nI_clamp, nI_1, nI_add, pk_sub, mn_10, mn_60lt, mn_60le, mn_12le, mn_4le, mn_le0, mn_lt0, mn_0le, mn_eq0, mn_1le, mn_lt1, mn_le60, mn_lt12, mn_12lt, mn_le3, true_implies, forall_const, not_true_eq_false, not_false_eq_true, false_implies, and_true, true_and, implies_true, and_self, if_true, if_false]
      refine xH hw (by omega) (fun z => br_f mn_10 ?_) (fun z => br_t rfl ?_)
      · rw [mm_gaT (by omega) z] at H
        exact H
      · rw [mm_gaF (fun y => z y.2)] at H
        exact H
/-! near -/
theorem xd_l {post : Int32 → Prop} {i : Nat} (hm : m ≤ 60) (hp : p ≤ 12) (hi : i + p ≤ m) : ∀ (d s n : Nat), s + d = p → d < n → post (nI (mm_df T P i p)) → wX_differencesAt_4 post (nI i) (nI m) (nI p) T P bd jo pl la ss pp tr tp n (nI (mm_df T P i s)) (nI s) := by
  intro d
  induction d with
  | zero =>
    intro s n h hn hq
    obtain ⟨n, rfl⟩ : ∃ n', n = n' + 1 := ⟨n - 1, by omega⟩
    have e : s = p := by omega
    subst e
    simp (disch := omega) only [wX_differencesAt_4, Nat.le_refl, forall_eq, nI_leI, nI_ltI, nI_eq, vp_in_nI, nI_clamp, nI_1, nI_add, pk_sub, mn_10, mn_60lt, mn_60le, mn_12le, mn_4le, mn_le0, mn_lt0, mn_0le, mn_eq0, mn_1le, mn_lt1, mn_le60, mn_lt12, mn_12lt, mn_le3, true_implies, forall_const, not_true_eq_false, not_false_eq_true, false_implies, and_true, true_and, implies_true, and_self, if_true, if_false]
    exact hq
  | succ d ih =>
    intro s n h hn hq
    obtain ⟨n, rfl⟩ : ∃ n', n = n' + 1 := ⟨n - 1, by omega⟩
    have c : ¬ p ≤ s := by omega
    have H := ih (s + 1) n (by omega) (by omega) hq
    by_cases c3 : T (i + s) = P s
    · rw [mm_dfT c3] at H
      simp (disch := omega) only [wX_differencesAt_4, c, c3, forall_eq, nI_leI, nI_ltI, nI_eq, vp_in_nI, nI_clamp, nI_1, nI_add, pk_sub, mn_10, mn_60lt, mn_60le, mn_12le, mn_4le, mn_le0, mn_lt0, mn_0le, mn_eq0, mn_1le, mn_lt1, mn_le60, mn_lt12, mn_12lt, mn_le3, true_implies, forall_const, not_true_eq_false, not_false_eq_true, false_implies, and_true, true_and, implies_true, and_self, if_true, if_false]
      exact H
    · rw [mm_dfF c3] at H
      simp (disch := omega) only [wX_differencesAt_4, c, c3, forall_eq, nI_leI, nI_ltI, nI_eq, vp_in_nI, nI_clamp, nI_1, nI_add, pk_sub, mn_10, mn_60lt, mn_60le, mn_12le, mn_4le, mn_le0, mn_lt0, mn_0le, mn_eq0, mn_1le, mn_lt1, mn_le60, mn_lt12, mn_12lt, mn_le3, true_implies, forall_const, not_true_eq_false, not_false_eq_true, false_implies, and_true, true_and, implies_true, and_self, if_true, if_false]
      exact H
theorem xD {post : Int32 → Prop} {i : Nat} (hm : m ≤ 60) (hp : p ≤ 12) (hi : i + p ≤ m) (hq : post (nI (mm_df T P i p))) : wpX_differencesAt post ((nI m), (nI p), T, P, bd, jo, pl, la, ss, pp, tr, tp) (nI i) := by
  unfold wpX_differencesAt
  exact ⟨p + 1, xd_l hm hp hi p 0 (p + 1) (by omega) (by omega) hq⟩
theorem mn_dl {a b s : Nat} (ha : a ≤ 60) (hb : b ≤ 60) (hs : s ≤ 100) : nI a - nI b < nI s ↔ a < s + b := by
  rw [Int32.lt_iff_toInt_lt, pk_sub_toInt (by omega) (by omega), nI_toInt (by omega)]
  omega
theorem xn_15 {post : Int32 → Prop} {e : Nat} (hm : m ≤ 60) (hp : p ≤ 12) (he : e ≤ 3) (hq : post (nI (mm_cn (mm_f T P m p e) (m + 1 - p)))) : ∀ (d s n : Nat), s + d = m + 1 - p → d < n → wX_near_15 post (nI e) (nI m) (nI p) T P bd jo pl la ss pp tr tp n (nI (mm_cn (mm_f T P m p e) s)) (nI s) := by
  intro d
  induction d with
  | zero =>
    intro s n h hn
    obtain ⟨n, rfl⟩ : ∃ n', n = n' + 1 := ⟨n - 1, by omega⟩
    have e : s = m + 1 - p := by omega
    subst e
    exact br_t ((mn_dl hm (by omega) (by omega)).mpr (by omega)) hq
  | succ d ih =>
    intro s n h hn
    obtain ⟨n, rfl⟩ : ∃ n', n = n' + 1 := ⟨n - 1, by omega⟩
    have c : ¬ nI m - nI p < nI s := by
      rw [mn_dl hm (by omega) (by omega)]
      omega
    have H := ih (s + 1) n (by omega) (by omega)
    have B := mm_dfL T P s p
    have E := mm_wrT (T := T) (P := P) (m := m) (p := p) (i := s) (by omega)
    refine br_f c (xD hm hp (by omega) ?_)
    by_cases c3 : e < mm_df T P s p
    · rw [mm_cnF (by rw [mm_fT]; omega)] at H
      exact br_t (nI_lt c3 (by omega)) (nm_r (nI_1 s) H)
    · rw [mm_cnT (by rw [mm_fT]; omega)] at H
      exact br_f (nI_nlt (by omega) (by omega)) (nm_r (nI_1 _) (nm_r (nI_1 s) H))
theorem xn_eq {e : Nat} (hp : p ≤ 12) (he : e ≤ 3) : mm_cn (mm_f T P m p e) (m + 1) = mm_cn (mm_f T P m p e) (m + 1 - p) := by
  have F : ∀ i, m + 1 - p ≤ i → ¬ mm_f T P m p e i = true := by
    intro i hi
    rw [mm_fB he (by omega)]
    decide
  by_cases c : p ≤ m + 1
  · have K := mm_cnK F p
    rw [show m + 1 - p + p = m + 1 from by omega] at K
    exact K
  · have K := mm_cnK F (m + 1)
    rw [show m + 1 - p + (m + 1) = m + 1 from by omega] at K
    exact K
theorem xn_61 (hm : m ≤ 60) : mm_cn (mm_f T P m p 0) 61 = mm_cn (mm_f T P m p 0) (m + 1) := by
  have K := mm_cnK (f := mm_f T P m p 0) (a := m + 1) (fun i hi => xF (by omega)) (60 - m)
  rw [show m + 1 + (60 - m) = 61 from by omega] at K
  exact K
theorem xg_61 {D : Nat} (hm : m ≤ 60) : mm_ga (mm_f T P m p 0) D 61 = mm_ga (mm_f T P m p 0) D (m + 1) := by
  have K := mm_gaK (f := mm_f T P m p 0) (e := D) (a := m + 1) (fun i hi => xF (by omega)) (60 - m)
  rw [show m + 1 + (60 - m) = 61 from by omega] at K
  exact K
end
