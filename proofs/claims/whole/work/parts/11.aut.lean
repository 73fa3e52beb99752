/-! the automaton; the letters' places -/
section
variable {T P bd jo pl la ss pp tr : Nat → Int32} {tp : Nat → Int64} {m p : Nat}
theorem mn_m4 (a : Nat) : nI a * 4 = nI (a * 4) := pk_mul a 4
/-- all rows below s -/
def xo_R (P : Nat → Int32) (p : Nat) (tr : Nat → Int32) (s : Nat) : Prop := ∀ k, k < s → mm_D P p tr k
theorem xo_RU {tr : Nat → Int32} {s c : Nat} {x : Int32} (h : xo_R P p tr s) : xo_R P p (upd tr (s * 4 + c) x) s := by
  intro k hk c2 hc
  rw [pk_un (by omega)]
  exact h k hk c2 hc
theorem xo_46 {post : SX → Prop} {J : Int32 → Int32 → (Nat → Int32) → (Nat → Int32) → (Nat → Int32) → (Nat → Int32) → (Nat → Int32) → (Nat → Int32) → (Nat → Int32) → (Nat → Int32) → (Nat → Int32) → (Nat → Int64) → Prop} {x s : Nat} (hp : p ≤ 12) (hs0 : 1 ≤ s) (hs : s ≤ p) (hx : x < s) (hP : mm_lt P) (hg : mm_gr P P s (s - 1) x) (hq : ∀ (tr : Nat → Int32) (x : Nat), xo_R P p tr (s + 1) → x < s + 1 → (s < p → mm_gr P P (s + 1) s x) → J (nI x) (nI (s + 1)) T P bd jo pl la ss pp tr tp) : ∀ (d t n : Nat) (tr : Nat → Int32), t + d = 4 → d < n → xo_R P p tr s → (∀ c, c < t → ∃ r, tr (s * 4 + c) = nI r ∧ mm_dl P p x c r) → wX_fillTransitions_46 post J (nI x) (nI s) (nI m) (nI p) n (nI t) T P bd jo pl la ss pp tr tp := by
  intro d
  induction d with
  | zero =>
    intro t n tr h hn hr hc
    obtain ⟨n, rfl⟩ : ∃ n', n = n' + 1 := ⟨n - 1, by omega⟩
    have c : 4 ≤ t := by omega
    by_cases c2 : p ≤ s
    · simp (disch := omega) only [wX_fillTransitions_46, c, c2, forall_eq, nI_leI, nI_ltI, nI_eq, vp_in_nI, nI_clamp, nI_1, nI_add, pk_sub, mn_10, mn_60lt, mn_60le, mn_12le, mn_4le, mn_le0, mn_lt0, mn_0le, mn_eq0, mn_1le, mn_lt1, mn_le60, mn_lt12, mn_12lt, mn_le3, true_implies, forall_const, not_true_eq_false, not_false_eq_true, false_implies, and_true, true_and, implies_true, and_self, if_true, if_false]
      refine hq tr x (fun k hk => ?_) (by omega) (fun z => by omega)
      by_cases y : k < s
      · exact hr k y
      · have e : k = s := by omega
        subst e
        intro c3 hc3
        obtain ⟨r, r1, r2⟩ := hc c3 (by omega)
        exact ⟨r, r1, mm_dlF hs hs0 hg r2 (fun z => by omega)⟩
    · obtain ⟨l, l1, l2⟩ := hP s
      obtain ⟨r, r1, r2⟩ := hr x hx l l1
      have e1 : upd tr (s * 4 + l) (nI (s + 1)) (x * 4 + l) = nI r := by
        rw [pk_un (by omega)]
        exact r1
      simp (disch := omega) only [wX_fillTransitions_46, c, c2, l2, mn_m4, e1, forall_eq, nI_leI, nI_ltI, nI_eq, vp_in_nI, nI_clamp, nI_1, nI_add, pk_sub, mn_10, mn_60lt, mn_60le, mn_12le, mn_4le, mn_le0, mn_lt0, mn_0le, mn_eq0, mn_1le, mn_lt1, mn_le60, mn_lt12, mn_12lt, mn_le3, true_implies, forall_const, not_true_eq_false, not_false_eq_true, false_implies, and_true, true_and, implies_true, and_self, if_true, if_false]
      refine hq _ r (fun k hk => ?_) (by have := mm_dlL r2; omega) (fun z => mm_dlX z hs0 hg r2 l2)
      by_cases y : k < s
      · exact xo_RU hr k y
      · have e : k = s := by omega
        subst e
        intro c3 hc3
        by_cases y3 : c3 = l
        · subst y3
          exact ⟨k + 1, pk_us, mm_dlT (by omega) l2⟩
        · obtain ⟨q, q1, q2⟩ := hc c3 (by omega)
          refine ⟨q, by rw [pk_un (by omega)]; exact q1, mm_dlF hs hs0 hg q2 (fun _ z => ?_)⟩
          rw [l2] at z
          exact y3 ((nI_eq (by omega) (by omega)).mp z).symm
  | succ d ih =>
    intro t n tr h hn hr hc
    obtain ⟨n, rfl⟩ : ∃ n', n = n' + 1 := ⟨n - 1, by omega⟩
    have c : ¬ 4 ≤ t := by omega
    obtain ⟨r, r1, r2⟩ := hr x hx t (by omega)
    simp (disch := omega) only [wX_fillTransitions_46, c, mn_m4, r1, forall_eq, nI_leI, nI_ltI, nI_eq, vp_in_nI, nI_clamp, nI_1, nI_add, pk_sub, mn_10, mn_60lt, mn_60le, mn_12le, mn_4le, mn_le0, mn_lt0, mn_0le, mn_eq0, mn_1le, mn_lt1, mn_le60, mn_lt12, mn_12lt, mn_le3, true_implies, forall_const, not_true_eq_false, not_false_eq_true, false_implies, and_true, true_and, implies_true, and_self, if_true, if_false]
    refine ih (t + 1) n _ (by omega) (by omega) (xo_RU hr) (lt_s (fun j hj => ?_) ⟨r, pk_us, r2⟩)
    rw [pk_un (by omega)]
    exact hc j hj
theorem xo_36 {post : SX → Prop} (hp : p ≤ 12) (hP : mm_lt P) (hq : ∀ t, xo_R P p t (p + 1) → post ((nI m), (nI p), T, P, bd, jo, pl, la, ss, pp, t, tp)) : ∀ (d s n x : Nat) (tr : Nat → Int32), s + d = p + 1 → d < n → 1 ≤ s → x < s → xo_R P p tr s → (s ≤ p → mm_gr P P s (s - 1) x) → wX_fillTransitions_36 post (nI m) (nI p) n (nI x) (nI s) T P bd jo pl la ss pp tr tp := by
  intro d
  induction d with
  | zero =>
    intro s n x tr h hn h1 hx hr hg
    obtain ⟨n, rfl⟩ : ∃ n', n = n' + 1 := ⟨n - 1, by omega⟩
    have e : s = p + 1 := by omega
    subst e
    simp (disch := omega) only [wX_fillTransitions_36, Nat.lt_succ_self, forall_eq, nI_leI, nI_ltI, nI_eq, vp_in_nI, nI_clamp, nI_1, nI_add, pk_sub, mn_10, mn_60lt, mn_60le, mn_12le, mn_4le, mn_le0, mn_lt0, mn_0le, mn_eq0, mn_1le, mn_lt1, mn_le60, mn_lt12, mn_12lt, mn_le3, true_implies, forall_const, not_true_eq_false, not_false_eq_true, false_implies, and_true, true_and, implies_true, and_self, if_true, if_false]
    exact hq tr hr
  | succ d ih =>
    intro s n x tr h hn h1 hx hr hg
    obtain ⟨n, rfl⟩ : ∃ n', n = n' + 1 := ⟨n - 1, by omega⟩
    have c : ¬ p < s := by omega
    simp (disch := omega) only [wX_fillTransitions_36, c, forall_eq, nI_leI, nI_ltI, nI_eq, vp_in_nI, nI_clamp, nI_1, nI_add, pk_sub, mn_10, mn_60lt, mn_60le, mn_12le, mn_4le, mn_le0, mn_lt0, mn_0le, mn_eq0, mn_1le, mn_lt1, mn_le60, mn_lt12, mn_12lt, mn_le3, true_implies, forall_const, not_true_eq_false, not_false_eq_true, false_implies, and_true, true_and, implies_true, and_self, if_true, if_false]
    refine ⟨5, xo_46 hp h1 (by omega) hx hP (hg (by omega)) (fun t y a1 a2 a3 => ?_) 4 0 5 tr (by omega) (by omega) hr (fun j hj => by omega)⟩
    exact ih (s + 1) n y t (by omega) (by omega) (by omega) a2 a1 (fun z => a3 (by omega))
theorem xo_2 {post : SX → Prop} (hp : p ≤ 12) (hp0 : 0 < p) (hP : mm_lt P) (hq : ∀ t, xo_R P p t (p + 1) → post ((nI m), (nI p), T, P, bd, jo, pl, la, ss, pp, t, tp)) : ∀ (d s n : Nat) (tr : Nat → Int32), s + d = 4 → d < n → (∀ c, c < s → tr c = 0) → wX_fillTransitions_2 post (nI m) (nI p) n (nI s) T P bd jo pl la ss pp tr tp := by
  intro d
  induction d with
  | zero =>
    intro s n tr h hn hc
    obtain ⟨n, rfl⟩ : ∃ n', n = n' + 1 := ⟨n - 1, by omega⟩
    have c : 4 ≤ s := by omega
    obtain ⟨l, l1, l2⟩ := hP 0
    simp (disch := omega) only [wX_fillTransitions_2, c, l2, forall_eq, nI_leI, nI_ltI, nI_eq, vp_in_nI, nI_clamp, nI_1, nI_add, pk_sub, mn_10, mn_60lt, mn_60le, mn_12le, mn_4le, mn_le0, mn_lt0, mn_0le, mn_eq0, mn_1le, mn_lt1, mn_le60, mn_lt12, mn_12lt, mn_le3, true_implies, forall_const, not_true_eq_false, not_false_eq_true, false_implies, and_true, true_and, implies_true, and_self, if_true, if_false]
    refine ⟨p + 1, xo_36 hp hP hq p 1 (p + 1) 0 _ (by omega) (by omega) (by omega) (by omega) (fun k hk => ?_) (fun _ => ⟨mm_su0 _ _ _, by omega, fun q _ z => z⟩)⟩
    have e : k = 0 := by omega
    subst e
    intro c3 hc3
    rw [show 0 * 4 + c3 = c3 from by omega]
    by_cases y : c3 = l
    · subst y
      exact ⟨1, pk_us, mm_dlT hp0 l2⟩
    · refine ⟨0, by rw [pk_un y, hc c3 (by omega)]; rfl, mm_dl0 (fun z => ?_)⟩
      rw [l2] at z
      exact y ((nI_eq (by omega) (by omega)).mp z).symm
  | succ d ih =>
    intro s n tr h hn hc
    obtain ⟨n, rfl⟩ : ∃ n', n = n' + 1 := ⟨n - 1, by omega⟩
    have c : ¬ 4 ≤ s := by omega
    simp (disch := omega) only [wX_fillTransitions_2, c, forall_eq, nI_leI, nI_ltI, nI_eq, vp_in_nI, nI_clamp, nI_1, nI_add, pk_sub, mn_10, mn_60lt, mn_60le, mn_12le, mn_4le, mn_le0, mn_lt0, mn_0le, mn_eq0, mn_1le, mn_lt1, mn_le60, mn_lt12, mn_12lt, mn_le3, true_implies, forall_const, not_true_eq_false, not_false_eq_true, false_implies, and_true, true_and, implies_true, and_self, if_true, if_false]
    refine ih (s + 1) n _ (by omega) (by omega) (lt_s (fun j hj => ?_) pk_us)
    rw [pk_un (by omega)]
    exact hc j hj
theorem xo {post : SX → Prop} (hp : p ≤ 12) (hp0 : 0 < p) (hP : mm_lt P) (hq : ∀ t, xo_R P p t (p + 1) → post ((nI m), (nI p), T, P, bd, jo, pl, la, ss, pp, t, tp)) : wpX_fillTransitions post ((nI m), (nI p), T, P, bd, jo, pl, la, ss, pp, tr, tp) := by
  unfold wpX_fillTransitions
  exact ⟨5, xo_2 hp hp0 hP hq 4 0 5 tr (by omega) (by omega) (fun j hj => by omega)⟩
theorem xv_l {post : Int64 → SX → Prop} (hm : m ≤ 60) (hp : p ≤ 12) (hp0 : 0 < p) (hT : mm_lt T) (hr : xo_R P p tr (p + 1)) (hq : ∀ w, mm_pl T P m p w → post w ((nI m), (nI p), T, P, bd, jo, pl, la, ss, pp, tr, tp)) : ∀ (d s n k : Nat) (w : Int64), s + d = m → d < n → mm_pl T P s p w → mm_gr T P s p k → wX_findByAutomaton_11 post (nI m) (nI p) T P bd jo pl la ss pp tr tp n w (nI k) (nI s) := by
  intro d
  induction d with
  | zero =>
    intro s n k w h hn hw hg
    obtain ⟨n, rfl⟩ : ∃ n', n = n' + 1 := ⟨n - 1, by omega⟩
    have e : s = m := by omega
    subst e
    simp (disch := omega) only [wX_findByAutomaton_11, Nat.le_refl, forall_eq, nI_leI, nI_ltI, nI_eq, vp_in_nI, nI_clamp, nI_1, nI_add, pk_sub, mn_10, mn_60lt, mn_60le, mn_12le, mn_4le, mn_le0, mn_lt0, mn_0le, mn_eq0, mn_1le, mn_lt1, mn_le60, mn_lt12, mn_12lt, mn_le3, true_implies, forall_const, not_true_eq_false, not_false_eq_true, false_implies, and_true, true_and, implies_true, and_self, if_true, if_false]
    exact hq w hw
  | succ d ih =>
    intro s n k w h hn hw hg
    obtain ⟨n, rfl⟩ : ∃ n', n = n' + 1 := ⟨n - 1, by omega⟩
    have c : ¬ m ≤ s := by omega
    have g2 := hg.2.1
    obtain ⟨l, l1, l2⟩ := hT s
    obtain ⟨r, r1, r2⟩ := hr k (by omega) l l1
    have hu := mm_dlN hg r2 l2
    have hu2 := hu.2.1
    by_cases z : r = p
    · rw [z] at hu r1
      have hl := mm_suL hu.1
      simp (disch := omega) only [wX_findByAutomaton_11, c, l2, mn_m4, r1, forall_eq, nI_leI, nI_ltI, nI_eq, vp_in_nI, nI_clamp, nI_1, nI_add, pk_sub, mn_10, mn_60lt, mn_60le, mn_12le, mn_4le, mn_le0, mn_lt0, mn_0le, mn_eq0, mn_1le, mn_lt1, mn_le60, mn_lt12, mn_12lt, mn_le3, true_implies, forall_const, not_true_eq_false, not_false_eq_true, false_implies, and_true, true_and, implies_true, and_self, if_true, if_false]
      exact ih (s + 1) n p _ (by omega) (by omega) (mm_plS hw (by omega) hp0 hu.1) hu
    · simp (disch := omega) only [wX_findByAutomaton_11, c, l2, mn_m4, r1, z, forall_eq, nI_leI, nI_ltI, nI_eq, vp_in_nI, nI_clamp, nI_1, nI_add, pk_sub, mn_10, mn_60lt, mn_60le, mn_12le, mn_4le, mn_le0, mn_lt0, mn_0le, mn_eq0, mn_1le, mn_lt1, mn_le60, mn_lt12, mn_12lt, mn_le3, true_implies, forall_const, not_true_eq_false, not_false_eq_true, false_implies, and_true, true_and, implies_true, and_self, if_true, if_false]
      exact ih (s + 1) n r w (by omega) (by omega) (mm_plN hw (mm_grne hu z).2) hu
theorem xe8 {post : Int64 → SX → Prop} (hm : m ≤ 60) (hp : p ≤ 12) (hp0 : 0 < p) (hT : mm_lt T) (hP : mm_lt P) (hq : ∀ w t, mm_pl T P m p w → post w ((nI m), (nI p), T, P, bd, jo, pl, la, ss, pp, t, tp)) : wpX_findByAutomaton post ((nI m), (nI p), T, P, bd, jo, pl, la, ss, pp, tr, tp) := by
  unfold wpX_findByAutomaton
  dsimp only
  refine xo hp hp0 hP (fun t ht => ?_)
  exact ⟨m + 1, xv_l hm hp hp0 hT ht (fun w hw => hq w t hw) m 0 (m + 1) 0 0 (by omega) (by omega) (mm_pl0 hp0) ⟨mm_su0 _ _ _, by omega, fun q z _ => mm_suL z⟩⟩
/-! the letters' places -/
theorem xx_22 {post : SX → Prop} (hm : m ≤ 60) (hT : mm_lt T) (hq : ∀ q, mm_tp T q m → post ((nI m), (nI p), T, P, bd, jo, pl, la, ss, pp, tr, q)) : ∀ (d s n : Nat) (tp : Nat → Int64), s + d = m → d < n → mm_tp T tp s → wX_fillTextPlaces_22 post (nI m) (nI p) n (nI s) T P bd jo pl la ss pp tr tp := by
  intro d
  induction d with
  | zero =>
    intro s n tp h hn hl
    obtain ⟨n, rfl⟩ : ∃ n', n = n' + 1 := ⟨n - 1, by omega⟩
    have e : s = m := by omega
    subst e
    simp (disch := omega) only [wX_fillTextPlaces_22, Nat.le_refl, forall_eq, nI_leI, nI_ltI, nI_eq, vp_in_nI, nI_clamp, nI_1, nI_add, pk_sub, mn_10, mn_60lt, mn_60le, mn_12le, mn_4le, mn_le0, mn_lt0, mn_0le, mn_eq0, mn_1le, mn_lt1, mn_le60, mn_lt12, mn_12lt, mn_le3, true_implies, forall_const, not_true_eq_false, not_false_eq_true, false_implies, and_true, true_and, implies_true, and_self, if_true, if_false]
    exact hq tp hl
  | succ d ih =>
    intro s n tp h hn hl
    obtain ⟨n, rfl⟩ : ∃ n', n = n' + 1 := ⟨n - 1, by omega⟩
    have c : ¬ m ≤ s := by omega
    obtain ⟨l, l1, l2⟩ := hT s
    simp (disch := omega) only [wX_fillTextPlaces_22, c, l2, forall_eq, nI_leI, nI_ltI, nI_eq, vp_in_nI, nI_clamp, nI_1, nI_add, pk_sub, mn_10, mn_60lt, mn_60le, mn_12le, mn_4le, mn_le0, mn_lt0, mn_0le, mn_eq0, mn_1le, mn_lt1, mn_le60, mn_lt12, mn_12lt, mn_le3, true_implies, forall_const, not_true_eq_false, not_false_eq_true, false_implies, and_true, true_and, implies_true, and_self, if_true, if_false]
    exact ih (s + 1) n _ (by omega) (by omega) (mm_tpS hl (by omega) l1 l2)
theorem xx_2 {post : SX → Prop} (hm : m ≤ 60) (hT : mm_lt T) (hq : ∀ q, mm_tp T q m → post ((nI m), (nI p), T, P, bd, jo, pl, la, ss, pp, tr, q)) : ∀ (d s n : Nat) (tp : Nat → Int64), s + d = 4 → d < n → (∀ c, c < s → tp c = 0) → wX_fillTextPlaces_2 post (nI m) (nI p) n (nI s) T P bd jo pl la ss pp tr tp := by
  intro d
  induction d with
  | zero =>
    intro s n tp h hn hl
    obtain ⟨n, rfl⟩ : ∃ n', n = n' + 1 := ⟨n - 1, by omega⟩
    have c : 4 ≤ s := by omega
    simp (disch := omega) only [wX_fillTextPlaces_2, c, forall_eq, nI_leI, nI_ltI, nI_eq, vp_in_nI, nI_clamp, nI_1, nI_add, pk_sub, mn_10, mn_60lt, mn_60le, mn_12le, mn_4le, mn_le0, mn_lt0, mn_0le, mn_eq0, mn_1le, mn_lt1, mn_le60, mn_lt12, mn_12lt, mn_le3, true_implies, forall_const, not_true_eq_false, not_false_eq_true, false_implies, and_true, true_and, implies_true, and_self, if_true, if_false]
    exact ⟨m + 1, xx_22 hm hT hq m 0 (m + 1) tp (by omega) (by omega) (mm_tp0 (fun j hj => hl j (by omega)))⟩
  | succ d ih =>
    intro s n tp h hn hl
    obtain ⟨n, rfl⟩ : ∃ n', n = n' + 1 := ⟨n - 1, by omega⟩
    have c : ¬ 4 ≤ s := by omega
    simp (disch := omega) only [wX_fillTextPlaces_2, c, forall_eq, nI_leI, nI_ltI, nI_eq, vp_in_nI, nI_clamp, nI_1, nI_add, pk_sub, mn_10, mn_60lt, mn_60le, mn_12le, mn_4le, mn_le0, mn_lt0, mn_0le, mn_eq0, mn_1le, mn_lt1, mn_le60, mn_lt12, mn_12lt, mn_le3, true_implies, forall_const, not_true_eq_false, not_false_eq_true, false_implies, and_true, true_and, implies_true, and_self, if_true, if_false]
    refine ih (s + 1) n _ (by omega) (by omega) (lt_s (fun j hj => ?_) pk_uLs)
    rw [pk_uLn (by omega)]
    exact hl j hj
theorem xx {post : SX → Prop} (hm : m ≤ 60) (hT : mm_lt T) (hq : ∀ q, mm_tp T q m → post ((nI m), (nI p), T, P, bd, jo, pl, la, ss, pp, tr, q)) : wpX_fillTextPlaces post ((nI m), (nI p), T, P, bd, jo, pl, la, ss, pp, tr, tp) := by
  unfold wpX_fillTextPlaces
  exact ⟨5, xx_2 hm hT hq 4 0 5 tp (by omega) (by omega) (fun j hj => by omega)⟩
theorem xy_l {post : Int64 → SX → Prop} (hm : m ≤ 60) (hp : p ≤ 12) (hp0 : 0 < p) (hP : mm_lt P) (ht : mm_tp T tp m) (hq : ∀ w, mm_pl T P m p w → post w ((nI m), (nI p), T, P, bd, jo, pl, la, ss, pp, tr, tp)) : ∀ (d s n : Nat) (w : Int64), s + d = p → d < n → mm_tw T P m s w → wX_findByTextPlaces_18 post (nI m) (nI p) T P bd jo pl la ss pp tr tp n w (nI s) := by
  intro d
  induction d with
  | zero =>
    intro s n w h hn hw
    obtain ⟨n, rfl⟩ : ∃ n', n = n' + 1 := ⟨n - 1, by omega⟩
    have e : s = p := by omega
    subst e
    simp (disch := omega) only [wX_findByTextPlaces_18, Nat.le_refl, forall_eq, nI_leI, nI_ltI, nI_eq, vp_in_nI, nI_clamp, nI_1, nI_add, pk_sub, mn_10, mn_60lt, mn_60le, mn_12le, mn_4le, mn_le0, mn_lt0, mn_0le, mn_eq0, mn_1le, mn_lt1, mn_le60, mn_lt12, mn_12lt, mn_le3, true_implies, forall_const, not_true_eq_false, not_false_eq_true, false_implies, and_true, true_and, implies_true, and_self, if_true, if_false]
    exact hq w (mm_twE hp0 hw)
  | succ d ih =>
    intro s n w h hn hw
    obtain ⟨n, rfl⟩ : ∃ n', n = n' + 1 := ⟨n - 1, by omega⟩
    have c : ¬ p ≤ s := by omega
    obtain ⟨l, l1, l2⟩ := hP s
    simp (disch := omega) only [wX_findByTextPlaces_18, c, l2, forall_eq, nI_leI, nI_ltI, nI_eq, vp_in_nI, nI_clamp, nI_1, nI_add, pk_sub, mn_10, mn_60lt, mn_60le, mn_12le, mn_4le, mn_le0, mn_lt0, mn_0le, mn_eq0, mn_1le, mn_lt1, mn_le60, mn_lt12, mn_12lt, mn_le3, true_implies, forall_const, not_true_eq_false, not_false_eq_true, false_implies, and_true, true_and, implies_true, and_self, if_true, if_false]
    exact ih (s + 1) n _ (by omega) (by omega) (mm_twS hw ht hm (by omega) l1 l2)
theorem xe9 {post : Int64 → SX → Prop} (hm : m ≤ 60) (hp : p ≤ 12) (hp0 : 0 < p) (hT : mm_lt T) (hP : mm_lt P) (hq : ∀ w q, mm_pl T P m p w → post w ((nI m), (nI p), T, P, bd, jo, pl, la, ss, pp, tr, q)) : wpX_findByTextPlaces post ((nI m), (nI p), T, P, bd, jo, pl, la, ss, pp, tr, tp) := by
  unfold wpX_findByTextPlaces
  dsimp only
  refine xx hm hT (fun q ht => ?_)
  obtain ⟨l, l1, l2⟩ := hP 0
  simp (disch := omega) only [l2, forall_eq, nI_leI, nI_ltI, nI_eq, vp_in_nI, nI_clamp, nI_1, nI_add, pk_sub, mn_10, mn_60lt, mn_60le, mn_12le, mn_4le, mn_le0, mn_lt0, mn_0le, mn_eq0, mn_1le, mn_lt1, mn_le60, mn_lt12, mn_12lt, mn_le3, true_implies, forall_const, not_true_eq_false, not_false_eq_true, false_implies, and_true, true_and, implies_true, and_self, if_true, if_false]
  exact ⟨p, xy_l hm hp hp0 hP ht (fun w hw => hq w q hw) (p - 1) 1 p _ (by omega) (by omega) (mm_tw1 ht l1 l2)⟩
end
