/-! every place tried; Knuth, Morris and Pratt -/
section
variable {T P bd jo pl la ss pp tr : Nat → Int32} {tp : Nat → Int64} {m p : Nat}
theorem xa_l {post : Int32 → Prop} {i : Nat} (hm : m ≤ 60) (hp : p ≤ 12) (hi : i + p ≤ m) (h1 : mm_oc T P m p i → post 1) (h0 : ¬ mm_oc T P m p i → post 0) : ∀ (d s n : Nat), s + d = p → d < n → (∀ j, j < s → T (i + j) = P j) → wX_matchesAt_2 post (nI i) (nI m) (nI p) T P bd jo pl la ss pp tr tp n (nI s) := by
  intro d
  induction d with
  | zero =>
    intro s n h hn hj
    obtain ⟨n, rfl⟩ : ∃ n', n = n' + 1 := ⟨n - 1, by omega⟩
    have c : p ≤ s := by omega
    simp (disch := omega) only [wX_matchesAt_2, c, forall_eq, nI_leI, nI_ltI, nI_eq, vp_in_nI, nI_clamp, nI_1, nI_add, pk_sub, mn_10, mn_60lt, mn_60le, mn_12le, mn_4le, mn_le0, mn_lt0, mn_0le, mn_eq0, mn_1le, mn_lt1, mn_le60, mn_lt12, mn_12lt, mn_le3, true_implies, forall_const, not_true_eq_false, not_false_eq_true, false_implies, and_true, true_and, implies_true, and_self, if_true, if_false]
    exact h1 ⟨hi, fun j z => hj j (by omega)⟩
  | succ d ih =>
    intro s n h hn hj
    obtain ⟨n, rfl⟩ : ∃ n', n = n' + 1 := ⟨n - 1, by omega⟩
    have c : ¬ p ≤ s := by omega
    by_cases c3 : T (i + s) = P s
    · simp (disch := omega) only [wX_matchesAt_2, c, c3, forall_eq, nI_leI, nI_ltI, nI_eq, vp_in_nI, nI_clamp, nI_1, nI_add, pk_sub, mn_10, mn_60lt, mn_60le, mn_12le, mn_4le, mn_le0, mn_lt0, mn_0le, mn_eq0, mn_1le, mn_lt1, mn_le60, mn_lt12, mn_12lt, mn_le3, true_implies, forall_const, not_true_eq_false, not_false_eq_true, false_implies, and_true, true_and, implies_true, and_self, if_true, if_false]
      exact ih (s + 1) n (by omega) (by omega) (lt_s hj c3)
    · simp (disch := omega) only [wX_matchesAt_2, c, c3, forall_eq, nI_leI, nI_ltI, nI_eq, vp_in_nI, nI_clamp, nI_1, nI_add, pk_sub, mn_10, mn_60lt, mn_60le, mn_12le, mn_4le, mn_le0, mn_lt0, mn_0le, mn_eq0, mn_1le, mn_lt1, mn_le60, mn_lt12, mn_12lt, mn_le3, true_implies, forall_const, not_true_eq_false, not_false_eq_true, false_implies, and_true, true_and, implies_true, and_self, if_true, if_false]
      exact h0 (fun z => c3 (z.2 s (by omega)))
theorem xa {post : Int32 → Prop} {i : Nat} (hm : m ≤ 60) (hp : p ≤ 12) (hi : i + p ≤ m) (h1 : mm_oc T P m p i → post 1) (h0 : ¬ mm_oc T P m p i → post 0) : wpX_matchesAt post ((nI m), (nI p), T, P, bd, jo, pl, la, ss, pp, tr, tp) (nI i) := by
  unfold wpX_matchesAt
  exact ⟨p + 1, xa_l hm hp hi h1 h0 p 0 (p + 1) (by omega) (by omega) (fun j hj => by omega)⟩
theorem xt_l {post : Int64 → Prop} (hm : m ≤ 60) (hp : p ≤ 12) (hpm : p ≤ m) (hq : ∀ w, mm_pl T P m p w → post w) : ∀ (d s n : Nat) (w : Int64), s + d = m - p + 1 → d < n → mm_pt T P m p s w → wX_findByTrying_4 post (nI m) (nI p) T P bd jo pl la ss pp tr tp n w (nI s) := by
  intro d
  induction d with
  | zero =>
    intro s n w h hn hw
    obtain ⟨n, rfl⟩ : ∃ n', n = n' + 1 := ⟨n - 1, by omega⟩
    have c : m - p < s := by omega
    simp (disch := omega) only [wX_findByTrying_4, c, forall_eq, nI_leI, nI_ltI, nI_eq, vp_in_nI, nI_clamp, nI_1, nI_add, pk_sub, mn_10, mn_60lt, mn_60le, mn_12le, mn_4le, mn_le0, mn_lt0, mn_0le, mn_eq0, mn_1le, mn_lt1, mn_le60, mn_lt12, mn_12lt, mn_le3, true_implies, forall_const, not_true_eq_false, not_false_eq_true, false_implies, and_true, true_and, implies_true, and_self, if_true, if_false]
    exact hq w (mm_ptE hw (by omega))
  | succ d ih =>
    intro s n w h hn hw
    obtain ⟨n, rfl⟩ : ∃ n', n = n' + 1 := ⟨n - 1, by omega⟩
    have c : ¬ m - p < s := by omega
    simp (disch := omega) only [wX_findByTrying_4, c, forall_eq, nI_leI, nI_ltI, nI_eq, vp_in_nI, nI_clamp, nI_1, nI_add, pk_sub, mn_10, mn_60lt, mn_60le, mn_12le, mn_4le, mn_le0, mn_lt0, mn_0le, mn_eq0, mn_1le, mn_lt1, mn_le60, mn_lt12, mn_12lt, mn_le3, true_implies, forall_const, not_true_eq_false, not_false_eq_true, false_implies, and_true, true_and, implies_true, and_self, if_true, if_false]
    exact xa hm hp (by omega) (fun z => br_f mn_10 (ih (s + 1) n _ (by omega) (by omega) (mm_ptS hw (by omega) z))) (fun z => br_t rfl (ih (s + 1) n _ (by omega) (by omega) (mm_ptN hw z)))
theorem xe0 {post : Int64 → Prop} (hm : m ≤ 60) (hp : p ≤ 12) (hpm : p ≤ m) (hq : ∀ w, mm_pl T P m p w → post w) : wpX_findByTrying post ((nI m), (nI p), T, P, bd, jo, pl, la, ss, pp, tr, tp) := by
  unfold wpX_findByTrying
  exact ⟨m - p + 2, xt_l hm hp hpm hq (m - p + 1) 0 (m - p + 2) 0 (by omega) (by omega) mm_pt0⟩
theorem xm_41 {post : Int32 → Prop} {x : Nat → Int32} {i k0 k : Nat} {c : Int32} (hk : k < 12) (hz : k = 0 ∨ P k = c) (hx : x i = c) (h : mm_ki x P i k0 c k) (hq : ∀ r, mm_gr x P (i + 1) (k0 + 1) r → post (nI r)) : wX_matchedWith_41 post c (nI k) (nI m) (nI p) T P bd jo pl la ss pp tr tp := by
  unfold wX_matchedWith_41
  by_cases c3 : P k = c
  · simp (disch := omega) only [c3, forall_eq, nI_leI, nI_ltI, nI_eq, vp_in_nI, nI_clamp, nI_1, nI_add, pk_sub, mn_10, mn_60lt, mn_60le, mn_12le, mn_4le, mn_le0, mn_lt0, mn_0le, mn_eq0, mn_1le, mn_lt1, mn_le60, mn_lt12, mn_12lt, mn_le3, true_implies, forall_const, not_true_eq_false, not_false_eq_true, false_implies, and_true, true_and, implies_true, and_self, if_true, if_false]
    exact hq _ (mm_kit h hx c3)
  · simp (disch := omega) only [c3, forall_eq, nI_leI, nI_ltI, nI_eq, vp_in_nI, nI_clamp, nI_1, nI_add, pk_sub, mn_10, mn_60lt, mn_60le, mn_12le, mn_4le, mn_le0, mn_lt0, mn_0le, mn_eq0, mn_1le, mn_lt1, mn_le60, mn_lt12, mn_12lt, mn_le3, true_implies, forall_const, not_true_eq_false, not_false_eq_true, false_implies, and_true, true_and, implies_true, and_self, if_true, if_false]
    have e : k = 0 := by
      rcases hz with z | z
      · exact z
      · exact absurd z c3
    subst e
    exact hq 0 (mm_kif h hx c3)
theorem xm_l {post : Int32 → Prop} {x : Nat → Int32} {i k0 : Nat} {c : Int32} (hp : p ≤ 12) (hk : k0 < p) (hx : x i = c) (hb : mm_bo P bd k0) (hq : ∀ r, mm_gr x P (i + 1) (k0 + 1) r → post (nI r)) : ∀ (n k st : Nat), k < n → st + k ≤ k0 → mm_ki x P i k0 c k → wX_matchedWith_5 post c (nI m) (nI p) T P bd jo pl la ss pp tr tp n (nI k) (nI st) := by
  intro n
  induction n with
  | zero => intro k st h; omega
  | succ n ih =>
    intro k st h hs hi
    have c1 : ¬ 12 ≤ st := by omega
    by_cases c2 : k ≤ 0
    · simp (disch := omega) only [wX_matchedWith_5, c1, c2, forall_eq, nI_leI, nI_ltI, nI_eq, vp_in_nI, nI_clamp, nI_1, nI_add, pk_sub, mn_10, mn_60lt, mn_60le, mn_12le, mn_4le, mn_le0, mn_lt0, mn_0le, mn_eq0, mn_1le, mn_lt1, mn_le60, mn_lt12, mn_12lt, mn_le3, true_implies, forall_const, not_true_eq_false, not_false_eq_true, false_implies, and_true, true_and, implies_true, and_self, if_true, if_false]
      exact xm_41 (by omega) (Or.inl (by omega)) hx hi hq
    · by_cases c3 : P k = c
      · simp (disch := omega) only [wX_matchedWith_5, c1, c2, c3, forall_eq, nI_leI, nI_ltI, nI_eq, vp_in_nI, nI_clamp, nI_1, nI_add, pk_sub, mn_10, mn_60lt, mn_60le, mn_12le, mn_4le, mn_le0, mn_lt0, mn_0le, mn_eq0, mn_1le, mn_lt1, mn_le60, mn_lt12, mn_12lt, mn_le3, true_implies, forall_const, not_true_eq_false, not_false_eq_true, false_implies, and_true, true_and, implies_true, and_self, if_true, if_false]
        exact xm_41 (by omega) (Or.inr c3) hx hi hq
      · obtain ⟨b, e1, g⟩ := hb (k - 1) (by omega)
        rw [show k - 1 + 1 = k from by omega] at g
        have g2 := g.2.1
        simp (disch := omega) only [wX_matchedWith_5, c1, c2, c3, mn_s1, e1, forall_eq, nI_leI, nI_ltI, nI_eq, vp_in_nI, nI_clamp, nI_1, nI_add, pk_sub, mn_10, mn_60lt, mn_60le, mn_12le, mn_4le, mn_le0, mn_lt0, mn_0le, mn_eq0, mn_1le, mn_lt1, mn_le60, mn_lt12, mn_12lt, mn_le3, true_implies, forall_const, not_true_eq_false, not_false_eq_true, false_implies, and_true, true_and, implies_true, and_self, if_true, if_false]
        exact ih b (st + 1) (by omega) (by omega) (mm_kis hi c3 g)
theorem xm {post : Int32 → Prop} {x : Nat → Int32} {i k0 : Nat} {c : Int32} (hp : p ≤ 12) (hk : k0 < p) (hs : mm_su x P i k0) (hx : x i = c) (hb : mm_bo P bd k0) (hq : ∀ r, mm_gr x P (i + 1) (k0 + 1) r → post (nI r)) : wpX_matchedWith post ((nI m), (nI p), T, P, bd, jo, pl, la, ss, pp, tr, tp) (nI k0) c := by
  unfold wpX_matchedWith
  exact ⟨k0 + 1, xm_l hp hk hx hb hq (k0 + 1) k0 0 (by omega) (by omega) (mm_ki0 hs)⟩
theorem xb_l {post : SX → Prop} (hp : p ≤ 12) (hq : ∀ b, mm_bo P b p → post ((nI m), (nI p), T, P, b, jo, pl, la, ss, pp, tr, tp)) : ∀ (d s n : Nat) (bd : Nat → Int32), s + d = p → d < n → 1 ≤ s → mm_bo P bd s → wX_fillBorders_9 post (nI m) (nI p) n (nI s) T P bd jo pl la ss pp tr tp := by
  intro d
  induction d with
  | zero =>
    intro s n bd h hn h1 hb
    obtain ⟨n, rfl⟩ : ∃ n', n = n' + 1 := ⟨n - 1, by omega⟩
    have e : s = p := by omega
    subst e
    simp (disch := omega) only [wX_fillBorders_9, Nat.le_refl, forall_eq, nI_leI, nI_ltI, nI_eq, vp_in_nI, nI_clamp, nI_1, nI_add, pk_sub, mn_10, mn_60lt, mn_60le, mn_12le, mn_4le, mn_le0, mn_lt0, mn_0le, mn_eq0, mn_1le, mn_lt1, mn_le60, mn_lt12, mn_12lt, mn_le3, true_implies, forall_const, not_true_eq_false, not_false_eq_true, false_implies, and_true, true_and, implies_true, and_self, if_true, if_false]
    exact hq bd hb
  | succ d ih =>
    intro s n bd h hn h1 hb
    obtain ⟨n, rfl⟩ : ∃ n', n = n' + 1 := ⟨n - 1, by omega⟩
    have c : ¬ p ≤ s := by omega
    obtain ⟨b, e1, g⟩ := hb (s - 1) (by omega)
    rw [show s - 1 + 1 = s from by omega] at g
    have g2 := g.2.1
    simp (disch := omega) only [wX_fillBorders_9, c, mn_s1, e1, forall_eq, nI_leI, nI_ltI, nI_eq, vp_in_nI, nI_clamp, nI_1, nI_add, pk_sub, mn_10, mn_60lt, mn_60le, mn_12le, mn_4le, mn_le0, mn_lt0, mn_0le, mn_eq0, mn_1le, mn_lt1, mn_le60, mn_lt12, mn_12lt, mn_le3, true_implies, forall_const, not_true_eq_false, not_false_eq_true, false_implies, and_true, true_and, implies_true, and_self, if_true, if_false]
    refine xm hp (by omega) g.1 rfl (fun j hj => hb j (by omega)) (fun r hr => ?_)
    exact ih (s + 1) n _ (by omega) (by omega) (by omega) (mm_boS hb h1 g hr)
theorem xb {post : SX → Prop} (hp : p ≤ 12) (hp0 : 0 < p) (hq : ∀ b, mm_bo P b p → post ((nI m), (nI p), T, P, b, jo, pl, la, ss, pp, tr, tp)) : wpX_fillBorders post ((nI m), (nI p), T, P, bd, jo, pl, la, ss, pp, tr, tp) := by
  unfold wpX_fillBorders
  dsimp only
  exact nm_e ⟨p, xb_l hp hq (p - 1) 1 p _ (by omega) (by omega) (by omega) mm_bo1⟩
theorem xk_l {post : Int64 → SX → Prop} (hm : m ≤ 60) (hp : p ≤ 12) (hp0 : 0 < p) (hb : mm_bo P bd p) (hq : ∀ w, mm_pl T P m p w → post w ((nI m), (nI p), T, P, bd, jo, pl, la, ss, pp, tr, tp)) : ∀ (d s n k : Nat) (w : Int64), s + d = m → d < n → mm_pl T P s p w → mm_gr T P s (p - 1) k → wX_findByBorders_11 post (nI m) (nI p) T P bd jo pl la ss pp tr tp n w (nI k) (nI s) := by
  intro d
  induction d with
  | zero =>
    intro s n k w h hn hw hg
    obtain ⟨n, rfl⟩ : ∃ n', n = n' + 1 := ⟨n - 1, by omega⟩
    have e : s = m := by omega
    subst e
    simp (disch := omega) only [wX_findByBorders_11, Nat.le_refl, forall_eq, nI_leI, nI_ltI, nI_eq, vp_in_nI, nI_clamp, nI_1, nI_add, pk_sub, mn_10, mn_60lt, mn_60le, mn_12le, mn_4le, mn_le0, mn_lt0, mn_0le, mn_eq0, mn_1le, mn_lt1, mn_le60, mn_lt12, mn_12lt, mn_le3, true_implies, forall_const, not_true_eq_false, not_false_eq_true, false_implies, and_true, true_and, implies_true, and_self, if_true, if_false]
    exact hq w hw
  | succ d ih =>
    intro s n k w h hn hw hg
    obtain ⟨n, rfl⟩ : ∃ n', n = n' + 1 := ⟨n - 1, by omega⟩
    have c : ¬ m ≤ s := by omega
    have g2 := hg.2.1
    obtain ⟨b, e1, g⟩ := hb (p - 1) (by omega)
    rw [show p - 1 + 1 = p from by omega] at g
    simp (disch := omega) only [wX_findByBorders_11, c, mn_s1, e1, forall_eq, nI_leI, nI_ltI, nI_eq, vp_in_nI, nI_clamp, nI_1, nI_add, pk_sub, mn_10, mn_60lt, mn_60le, mn_12le, mn_4le, mn_le0, mn_lt0, mn_0le, mn_eq0, mn_1le, mn_lt1, mn_le60, mn_lt12, mn_12lt, mn_le3, true_implies, forall_const, not_true_eq_false, not_false_eq_true, false_implies, and_true, true_and, implies_true, and_self, if_true, if_false]
    refine xm hp (by omega) hg.1 rfl (fun j hj => hb j (by omega)) (fun r hr => ?_)
    have hu := mm_up hp0 hg hr
    by_cases z : r = p
    · rw [z] at hu ⊢
      have hl := mm_suL hu.1
      refine br_t rfl ?_
      simp (disch := omega) only [forall_eq, nI_leI, nI_ltI, nI_eq, vp_in_nI, nI_clamp, nI_1, nI_add, pk_sub, mn_10, mn_60lt, mn_60le, mn_12le, mn_4le, mn_le0, mn_lt0, mn_0le, mn_eq0, mn_1le, mn_lt1, mn_le60, mn_lt12, mn_12lt, mn_le3, true_implies, forall_const, not_true_eq_false, not_false_eq_true, false_implies, and_true, true_and, implies_true, and_self, if_true, if_false]
      exact ih (s + 1) n b _ (by omega) (by omega) (mm_plS hw (by omega) hp0 hu.1) (mm_greq hu.1 g)
    · have hn2 := mm_grne hu z
      have hr2 := hu.2.1
      exact br_f (by rw [nI_eq (by omega) (by omega)]; exact z) (ih (s + 1) n r w (by omega) (by omega) (mm_plN hw hn2.2) hn2.1)
theorem xe1 {post : Int64 → SX → Prop} (hm : m ≤ 60) (hp : p ≤ 12) (hp0 : 0 < p) (hq : ∀ w b, mm_pl T P m p w → post w ((nI m), (nI p), T, P, b, jo, pl, la, ss, pp, tr, tp)) : wpX_findByBorders post ((nI m), (nI p), T, P, bd, jo, pl, la, ss, pp, tr, tp) := by
  unfold wpX_findByBorders
  dsimp only
  refine xb hp hp0 (fun b hb => ?_)
  exact ⟨m + 1, xk_l hm hp hp0 hb (fun w hw => hq w b hw) m 0 (m + 1) 0 0 (by omega) (by omega) (mm_pl0 hp0) ⟨mm_su0 _ _ _, by omega, fun q h1 _ => mm_suL h1⟩⟩
end
