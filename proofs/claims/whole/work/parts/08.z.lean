/-! pattern and text joined, and their prefix lengths -/
section
variable {T P bd jo pl la ss pp tr : Nat → Int32} {tp : Nat → Int64} {m p : Nat}
def xj_J (T P : Nat → Int32) (m p : Nat) (J : Nat → Int32) : Prop := (∀ j, j < p → J j = P j) ∧ J p = 4 ∧ ∀ j, j < m → J (p + 1 + j) = T j
theorem xj_l40 {post : SX → Prop} (hm : m ≤ 60) (hp : p ≤ 12) (hq : ∀ J, xj_J T P m p J → post ((nI m), (nI p), T, P, bd, J, pl, la, ss, pp, tr, tp)) : ∀ (d s n : Nat) (jo : Nat → Int32), s + d = m → d < n → (∀ j, j < p → jo j = P j) → jo p = 4 → (∀ j, j < s → jo (p + 1 + j) = T j) → wX_joinPatternAndText_40 post (nI m) (nI p) n (nI s) T P bd jo pl la ss pp tr tp := by
  intro d
  induction d with
  | zero =>
    intro s n jo h hn h1 h2 h3
    obtain ⟨n, rfl⟩ : ∃ n', n = n' + 1 := ⟨n - 1, by omega⟩
    have e : s = m := by omega
    subst e
    simp (disch := omega) only [wX_joinPatternAndText_40, Nat.le_refl, forall_eq, nI_leI, nI_ltI, nI_eq, vp_in_nI, nI_clamp, nI_1, nI_add, pk_sub, mn_10, mn_60lt, mn_60le, mn_12le, mn_4le, mn_le0, mn_lt0, mn_0le, mn_eq0, mn_1le, mn_lt1, mn_le60, mn_lt12, mn_12lt, mn_le3, true_implies, forall_const, not_true_eq_false, not_false_eq_true, false_implies, and_true, true_and, implies_true, and_self, if_true, if_false]
    exact hq jo ⟨h1, h2, h3⟩
  | succ d ih =>
    intro s n jo h hn h1 h2 h3
    obtain ⟨n, rfl⟩ : ∃ n', n = n' + 1 := ⟨n - 1, by omega⟩
    have c : ¬ m ≤ s := by omega
    simp (disch := omega) only [wX_joinPatternAndText_40, c, forall_eq, nI_leI, nI_ltI, nI_eq, vp_in_nI, nI_clamp, nI_1, nI_add, pk_sub, mn_10, mn_60lt, mn_60le, mn_12le, mn_4le, mn_le0, mn_lt0, mn_0le, mn_eq0, mn_1le, mn_lt1, mn_le60, mn_lt12, mn_12lt, mn_le3, true_implies, forall_const, not_true_eq_false, not_false_eq_true, false_implies, and_true, true_and, implies_true, and_self, if_true, if_false]
    refine ih (s + 1) n _ (by omega) (by omega) (fun j hj => ?_) ?_ (lt_s (fun j hj => ?_) ?_)
    · rw [pk_un (by omega)]
      exact h1 j hj
    · rw [pk_un (by omega)]
      exact h2
    · rw [pk_un (by omega)]
      exact h3 j hj
    · exact pk_us
theorem xj_l2 {post : SX → Prop} (hm : m ≤ 60) (hp : p ≤ 12) (hq : ∀ J, xj_J T P m p J → post ((nI m), (nI p), T, P, bd, J, pl, la, ss, pp, tr, tp)) : ∀ (d s n : Nat) (jo : Nat → Int32), s + d = p → d < n → (∀ j, j < s → jo j = P j) → wX_joinPatternAndText_2 post (nI m) (nI p) n (nI s) T P bd jo pl la ss pp tr tp := by
  intro d
  induction d with
  | zero =>
    intro s n jo h hn h1
    obtain ⟨n, rfl⟩ : ∃ n', n = n' + 1 := ⟨n - 1, by omega⟩
    have e : s = p := by omega
    subst e
    simp (disch := omega) only [wX_joinPatternAndText_2, Nat.le_refl, forall_eq, nI_leI, nI_ltI, nI_eq, vp_in_nI, nI_clamp, nI_1, nI_add, pk_sub, mn_10, mn_60lt, mn_60le, mn_12le, mn_4le, mn_le0, mn_lt0, mn_0le, mn_eq0, mn_1le, mn_lt1, mn_le60, mn_lt12, mn_12lt, mn_le3, true_implies, forall_const, not_true_eq_false, not_false_eq_true, false_implies, and_true, true_and, implies_true, and_self, if_true, if_false]
    refine ⟨m + 1, xj_l40 hm hp hq m 0 (m + 1) _ (by omega) (by omega) (fun j hj => ?_) pk_us (fun j hj => by omega)⟩
    rw [pk_un (by omega)]
    exact h1 j hj
  | succ d ih =>
    intro s n jo h hn h1
    obtain ⟨n, rfl⟩ : ∃ n', n = n' + 1 := ⟨n - 1, by omega⟩
    have c : ¬ p ≤ s := by omega
    simp (disch := omega) only [wX_joinPatternAndText_2, c, forall_eq, nI_leI, nI_ltI, nI_eq, vp_in_nI, nI_clamp, nI_1, nI_add, pk_sub, mn_10, mn_60lt, mn_60le, mn_12le, mn_4le, mn_le0, mn_lt0, mn_0le, mn_eq0, mn_1le, mn_lt1, mn_le60, mn_lt12, mn_12lt, mn_le3, true_implies, forall_const, not_true_eq_false, not_false_eq_true, false_implies, and_true, true_and, implies_true, and_self, if_true, if_false]
    refine ih (s + 1) n _ (by omega) (by omega) (lt_s (fun j hj => ?_) pk_us)
    rw [pk_un (by omega)]
    exact h1 j hj
theorem xj {post : SX → Prop} (hm : m ≤ 60) (hp : p ≤ 12) (hq : ∀ J, xj_J T P m p J → post ((nI m), (nI p), T, P, bd, J, pl, la, ss, pp, tr, tp)) : wpX_joinPatternAndText post ((nI m), (nI p), T, P, bd, jo, pl, la, ss, pp, tr, tp) := by
  unfold wpX_joinPatternAndText
  exact ⟨p + 1, xj_l2 hm hp hq p 0 (p + 1) jo (by omega) (by omega) (fun j hj => by omega)⟩
theorem xz_65 {post : SX → Prop} {J : Int32 → Int32 → Int32 → (Nat → Int32) → (Nat → Int32) → (Nat → Int32) → (Nat → Int32) → (Nat → Int32) → (Nat → Int32) → (Nat → Int32) → (Nat → Int32) → (Nat → Int32) → (Nat → Int64) → Prop} {x2 x3 : Int32} {N i : Nat} (hN : N ≤ 73) (hq : ∀ z, mm_zv jo N i z → wX_fillPrefixLengths_100 post J (nI N) x2 x3 (nI i) (nI z) (nI m) (nI p) T P bd jo pl la ss pp tr tp) : ∀ (d t n : Nat), i + t + d = N → d < n → (∀ j, j < t → jo j = jo (i + j)) → wX_fillPrefixLengths_65 post J (nI N) x2 x3 (nI i) (nI m) (nI p) T P bd jo pl la ss pp tr tp n (nI t) := by
  intro d
  induction d with
  | zero =>
    intro t n h hn h1
    obtain ⟨n, rfl⟩ : ∃ n', n = n' + 1 := ⟨n - 1, by omega⟩
    have c : N ≤ i + t := by omega
    simp (disch := omega) only [wX_fillPrefixLengths_65, c, forall_eq, nI_leI, nI_ltI, nI_eq, vp_in_nI, nI_clamp, nI_1, nI_add, pk_sub, mn_10, mn_60lt, mn_60le, mn_12le, mn_4le, mn_le0, mn_lt0, mn_0le, mn_eq0, mn_1le, mn_lt1, mn_le60, mn_lt12, mn_12lt, mn_le3, true_implies, forall_const, not_true_eq_false, not_false_eq_true, false_implies, and_true, true_and, implies_true, and_self, if_true, if_false]
    exact hq t ⟨by omega, h1, fun z => by omega⟩
  | succ d ih =>
    intro t n h hn h1
    obtain ⟨n, rfl⟩ : ∃ n', n = n' + 1 := ⟨n - 1, by omega⟩
    have c : ¬ N ≤ i + t := by omega
    by_cases c3 : jo t = jo (i + t)
    · simp (disch := omega) only [wX_fillPrefixLengths_65, c, forall_eq, nI_leI, nI_ltI, nI_eq, vp_in_nI, nI_clamp, nI_1, nI_add, pk_sub, mn_10, mn_60lt, mn_60le, mn_12le, mn_4le, mn_le0, mn_lt0, mn_0le, mn_eq0, mn_1le, mn_lt1, mn_le60, mn_lt12, mn_12lt, mn_le3, true_implies, forall_const, not_true_eq_false, not_false_eq_true, false_implies, and_true, true_and, implies_true, and_self, if_true, if_false]
      exact br_t c3 (ih (t + 1) n (by omega) (by omega) (lt_s h1 c3))
    · simp (disch := omega) only [wX_fillPrefixLengths_65, c, forall_eq, nI_leI, nI_ltI, nI_eq, vp_in_nI, nI_clamp, nI_1, nI_add, pk_sub, mn_10, mn_60lt, mn_60le, mn_12le, mn_4le, mn_le0, mn_lt0, mn_0le, mn_eq0, mn_1le, mn_lt1, mn_le60, mn_lt12, mn_12lt, mn_le3, true_implies, forall_const, not_true_eq_false, not_false_eq_true, false_implies, and_true, true_and, implies_true, and_self, if_true, if_false]
      exact br_f c3 (hq t ⟨by omega, h1, fun _ => c3⟩)
def xz_Z (J pl : Nat → Int32) (N i : Nat) : Prop := ∀ j, 1 ≤ j → j < i → ∃ z, pl j = nI z ∧ mm_zv J N j z
theorem xz_ZS {J pl : Nat → Int32} {N i z : Nat} (h : xz_Z J pl N i) (hz : mm_zv J N i z) : xz_Z J (upd pl i (nI z)) N (i + 1) := by
  intro j h1 h2
  by_cases e : j = i
  · subst e
    exact ⟨z, pk_us, hz⟩
  · rw [pk_un e]
    exact h j h1 (by omega)
def xz_K (J : Nat → Int32) (N i s e : Nat) : Prop := e = 0 ∨ 1 ≤ s ∧ s < i ∧ e ≤ N ∧ ∀ j, j < e - s → J j = J (s + j)
theorem xz_19 {post : SX → Prop} {N : Nat} (hN : N ≤ 73) (hq : ∀ l, xz_Z jo l N N → post ((nI m), (nI p), T, P, bd, jo, l, la, ss, pp, tr, tp)) : ∀ (d i n s e : Nat) (pl : Nat → Int32), i + d = N → d < n → 1 ≤ i → s < 73 → e ≤ 73 → xz_Z jo pl N i → xz_K jo N i s e → wX_fillPrefixLengths_19 post (nI N) (nI m) (nI p) n (nI s) (nI e) (nI i) T P bd jo pl la ss pp tr tp := by
  intro d
  induction d with
  | zero =>
    intro i n s e pl h hn h1 hs he hz hk
    obtain ⟨n, rfl⟩ : ∃ n', n = n' + 1 := ⟨n - 1, by omega⟩
    have e2 : i = N := by omega
    subst e2
    simp (disch := omega) only [wX_fillPrefixLengths_19, Nat.le_refl, forall_eq, nI_leI, nI_ltI, nI_eq, vp_in_nI, nI_clamp, nI_1, nI_add, pk_sub, mn_10, mn_60lt, mn_60le, mn_12le, mn_4le, mn_le0, mn_lt0, mn_0le, mn_eq0, mn_1le, mn_lt1, mn_le60, mn_lt12, mn_12lt, mn_le3, true_implies, forall_const, not_true_eq_false, not_false_eq_true, false_implies, and_true, true_and, implies_true, and_self, if_true, if_false]
    exact hq pl hz
  | succ d ih =>
    intro i n s e pl h hn h1 hs he hz hk
    obtain ⟨n, rfl⟩ : ∃ n', n = n' + 1 := ⟨n - 1, by omega⟩
    have c : ¬ N ≤ i := by omega
    have B : ∀ z, mm_zv jo N i z → wX_fillPrefixLengths_100 post (wX_fillPrefixLengths_19 post (nI N) (nI m) (nI p) n) (nI N) (nI s) (nI e) (nI i) (nI z) (nI m) (nI p) T P bd jo pl la ss pp tr tp := by
      intro z zv
      have z1 := zv.1
      unfold wX_fillPrefixLengths_100
      by_cases c4 : i + z ≤ e
      · simp (disch := omega) only [c4, forall_eq, nI_leI, nI_ltI, nI_eq, vp_in_nI, nI_clamp, nI_1, nI_add, pk_sub, mn_10, mn_60lt, mn_60le, mn_12le, mn_4le, mn_le0, mn_lt0, mn_0le, mn_eq0, mn_1le, mn_lt1, mn_le60, mn_lt12, mn_12lt, mn_le3, true_implies, forall_const, not_true_eq_false, not_false_eq_true, false_implies, and_true, true_and, implies_true, and_self, if_true, if_false]
        refine ih (i + 1) n s e _ (by omega) (by omega) (by omega) hs he (xz_ZS hz zv) ?_
        rcases hk with k | k
        · exact Or.inl k
        · exact Or.inr ⟨k.1, by omega, k.2.2⟩
      · simp (disch := omega) only [c4, forall_eq, nI_leI, nI_ltI, nI_eq, vp_in_nI, nI_clamp, nI_1, nI_add, pk_sub, mn_10, mn_60lt, mn_60le, mn_12le, mn_4le, mn_le0, mn_lt0, mn_0le, mn_eq0, mn_1le, mn_lt1, mn_le60, mn_lt12, mn_12lt, mn_le3, true_implies, forall_const, not_true_eq_false, not_false_eq_true, false_implies, and_true, true_and, implies_true, and_self, if_true, if_false]
        refine ih (i + 1) n i (i + z) _ (by omega) (by omega) (by omega) (by omega) (by omega) (xz_ZS hz zv) (Or.inr ⟨h1, by omega, z1, fun j hj => zv.2.1 j (by omega)⟩)
    by_cases c2 : e ≤ i
    · simp (disch := omega) only [wX_fillPrefixLengths_19, c, c2, forall_eq, nI_leI, nI_ltI, nI_eq, vp_in_nI, nI_clamp, nI_1, nI_add, pk_sub, mn_10, mn_60lt, mn_60le, mn_12le, mn_4le, mn_le0, mn_lt0, mn_0le, mn_eq0, mn_1le, mn_lt1, mn_le60, mn_lt12, mn_12lt, mn_le3, true_implies, forall_const, not_true_eq_false, not_false_eq_true, false_implies, and_true, true_and, implies_true, and_self, if_true, if_false]
      exact ⟨N - i + 1, xz_65 hN B (N - i) 0 (N - i + 1) (by omega) (by omega) (fun j hj => by omega)⟩
    · obtain ⟨k1, k2, k3, k4⟩ : 1 ≤ s ∧ s < i ∧ e ≤ N ∧ ∀ j, j < e - s → jo j = jo (s + j) := by
        rcases hk with k | k
        · omega
        · exact k
      obtain ⟨z, e1, zv⟩ := hz (i - s) (by omega) (by omega)
      have z1 := zv.1
      by_cases c5 : e - i ≤ z
      · simp (disch := omega) only [wX_fillPrefixLengths_19, c, c2, e1, c5, forall_eq, nI_leI, nI_ltI, nI_eq, vp_in_nI, nI_clamp, nI_1, nI_add, pk_sub, mn_10, mn_60lt, mn_60le, mn_12le, mn_4le, mn_le0, mn_lt0, mn_0le, mn_eq0, mn_1le, mn_lt1, mn_le60, mn_lt12, mn_12lt, mn_le3, true_implies, forall_const, not_true_eq_false, not_false_eq_true, false_implies, and_true, true_and, implies_true, and_self, if_true, if_false]
        exact ⟨N - (i + (e - i)) + 1, xz_65 hN B (N - (i + (e - i))) (e - i) _ (by omega) (by omega) (mm_zIn k2 (by omega) k4 zv (e - i) c5 (by omega))⟩
      · simp (disch := omega) only [wX_fillPrefixLengths_19, c, c2, e1, c5, forall_eq, nI_leI, nI_ltI, nI_eq, vp_in_nI, nI_clamp, nI_1, nI_add, pk_sub, mn_10, mn_60lt, mn_60le, mn_12le, mn_4le, mn_le0, mn_lt0, mn_0le, mn_eq0, mn_1le, mn_lt1, mn_le60, mn_lt12, mn_12lt, mn_le3, true_implies, forall_const, not_true_eq_false, not_false_eq_true, false_implies, and_true, true_and, implies_true, and_self, if_true, if_false]
        exact ⟨N - (i + z) + 1, xz_65 hN B (N - (i + z)) z _ (by omega) (by omega) (mm_zIn k2 (by omega) k4 zv z (by omega) (by omega))⟩
theorem xz {post : SX → Prop} (hm : m ≤ 60) (hp : p ≤ 12) (hp0 : 0 < p) (hq : ∀ l, xz_Z jo l (p + 1 + m) (p + 1 + m) → post ((nI m), (nI p), T, P, bd, jo, l, la, ss, pp, tr, tp)) : wpX_fillPrefixLengths post ((nI m), (nI p), T, P, bd, jo, pl, la, ss, pp, tr, tp) := by
  unfold wpX_fillPrefixLengths
  simp (disch := omega) only [forall_eq, nI_leI, nI_ltI, nI_eq, vp_in_nI, nI_clamp, nI_1, nI_add, pk_sub, mn_10, mn_60lt, mn_60le, mn_12le, mn_4le, mn_le0, mn_lt0, mn_0le, mn_eq0, mn_1le, mn_lt1, mn_le60, mn_lt12, mn_12lt, mn_le3, true_implies, forall_const, not_true_eq_false, not_false_eq_true, false_implies, and_true, true_and, implies_true, and_self, if_true, if_false]
  exact ⟨p + 1 + m, xz_19 (by omega) hq (p + m) 1 (p + 1 + m) 0 0 pl (by omega) (by omega) (by omega) (by omega) (by omega) (fun j h1 h2 => by omega) (Or.inl rfl)⟩
theorem xp_l {post : Int64 → SX → Prop} (hm : m ≤ 60) (hp : p ≤ 12) (hp0 : 0 < p) (hpm : p ≤ m) (hT : mm_lt T) (hP : mm_lt P) (hJ : xj_J T P m p jo) (hZ : xz_Z jo pl (p + 1 + m) (p + 1 + m)) (hq : ∀ w, mm_pl T P m p w → post w ((nI m), (nI p), T, P, bd, jo, pl, la, ss, pp, tr, tp)) : ∀ (d s n : Nat) (w : Int64), s + d = m - p + 1 → d < n → mm_pt T P m p s w → wX_findByPrefixLengths_12 post (nI m) (nI p) T P bd jo pl la ss pp tr tp n w (nI s) := by
  intro d
  induction d with
  | zero =>
    intro s n w h hn hw
    obtain ⟨n, rfl⟩ : ∃ n', n = n' + 1 := ⟨n - 1, by omega⟩
    have c : m - p < s := by omega
    simp (disch := omega) only [wX_findByPrefixLengths_12, c, forall_eq, nI_leI, nI_ltI, nI_eq, vp_in_nI, nI_clamp, nI_1, nI_add, pk_sub, mn_10, mn_60lt, mn_60le, mn_12le, mn_4le, mn_le0, mn_lt0, mn_0le, mn_eq0, mn_1le, mn_lt1, mn_le60, mn_lt12, mn_12lt, mn_le3, true_implies, forall_const, not_true_eq_false, not_false_eq_true, false_implies, and_true, true_and, implies_true, and_self, if_true, if_false]
    exact hq w (mm_ptE hw (by omega))
  | succ d ih =>
    intro s n w h hn hw
    obtain ⟨n, rfl⟩ : ∃ n', n = n' + 1 := ⟨n - 1, by omega⟩
    have c : ¬ m - p < s := by omega
    obtain ⟨z, e1, zv⟩ := hZ (p + 1 + s) (by omega) (by omega)
    have z1 := zv.1
    have zo := mm_zoc hT hP hJ.1 hJ.2.1 hJ.2.2 (by omega) zv
    by_cases c3 : z = p
    · simp (disch := omega) only [wX_findByPrefixLengths_12, c, e1, c3, forall_eq, nI_leI, nI_ltI, nI_eq, vp_in_nI, nI_clamp, nI_1, nI_add, pk_sub, mn_10, mn_60lt, mn_60le, mn_12le, mn_4le, mn_le0, mn_lt0, mn_0le, mn_eq0, mn_1le, mn_lt1, mn_le60, mn_lt12, mn_12lt, mn_le3, true_implies, forall_const, not_true_eq_false, not_false_eq_true, false_implies, and_true, true_and, implies_true, and_self, if_true, if_false]
      exact ih (s + 1) n _ (by omega) (by omega) (mm_ptS hw (by omega) (zo.mp c3))
    · simp (disch := omega) only [wX_findByPrefixLengths_12, c, e1, c3, forall_eq, nI_leI, nI_ltI, nI_eq, vp_in_nI, nI_clamp, nI_1, nI_add, pk_sub, mn_10, mn_60lt, mn_60le, mn_12le, mn_4le, mn_le0, mn_lt0, mn_0le, mn_eq0, mn_1le, mn_lt1, mn_le60, mn_lt12, mn_12lt, mn_le3, true_implies, forall_const, not_true_eq_false, not_false_eq_true, false_implies, and_true, true_and, implies_true, and_self, if_true, if_false]
      exact ih (s + 1) n _ (by omega) (by omega) (mm_ptN hw (fun y => c3 (zo.mpr y)))
theorem xe2 {post : Int64 → SX → Prop} (hm : m ≤ 60) (hp : p ≤ 12) (hp0 : 0 < p) (hpm : p ≤ m) (hT : mm_lt T) (hP : mm_lt P) (hq : ∀ w J l, mm_pl T P m p w → post w ((nI m), (nI p), T, P, bd, J, l, la, ss, pp, tr, tp)) : wpX_findByPrefixLengths post ((nI m), (nI p), T, P, bd, jo, pl, la, ss, pp, tr, tp) := by
  unfold wpX_findByPrefixLengths
  dsimp only
  refine xj hm hp (fun J hJ => ?_)
  dsimp only
  refine xz hm hp hp0 (fun l hl => ?_)
  exact ⟨m - p + 2, xp_l hm hp hp0 hpm hT hP hJ hl (fun w hw => hq w J l hw) (m - p + 1) 0 (m - p + 2) 0 (by omega) (by omega) mm_pt0⟩
end
