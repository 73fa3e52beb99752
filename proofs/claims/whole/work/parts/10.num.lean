/-! Karp and Rabin; shift-and -/
section
variable {T P bd jo pl la ss pp tr : Nat → Int32} {tp : Nat → Int64} {m p : Nat}
theorem mn_or (a b : Nat) : nI a ||| nI b = nI (a ||| b) := by
  apply Int32.toBitVec_inj.1
  show BitVec.ofNat 32 a ||| BitVec.ofNat 32 b = BitVec.ofNat 32 (a ||| b)
  apply BitVec.eq_of_getLsbD_eq
  intro i hi
  simp [hi]
theorem mn_or4 {v l : Nat} (h : l < 4) : v * 4 ||| l = 4 * v + l := by
  have e := Nat.shiftLeft_add_eq_or_of_lt (i := 2) (b := l) (by omega) v
  rw [Nat.shiftLeft_eq] at e
  rw [show v * 4 = v * 2 ^ 2 from rfl, ← e]
  omega
theorem mn_sl2 {v l : Nat} (hv : v < 4 ^ 12) (h : l < 4) : (nI v <<< ((2 : Int32) &&& 31)) ||| nI l = nI (4 * v + l) := by
  have h12 : (4 : Nat) ^ 12 = 16777216 := by decide
  rw [pk_shlN _ 2 (by decide) (by omega), mn_or, show v * 2 ^ 2 = v * 4 from rfl, mn_or4 h]
theorem mn_mask : ∀ p, p < 13 → (((1 : Int32) <<< ((2 * nI p) &&& 31)) - 1).toBitVec.toNat = 2 ^ (2 * p) - 1 := by decide +kernel
theorem mn_4p (p : Nat) : 2 ^ (2 * p) = 4 ^ p := by rw [Nat.pow_mul]
theorem mn_and {v p : Nat} (hp : p < 13) (hv : v < 2 ^ 32) : nI v &&& (((1 : Int32) <<< ((2 * nI p) &&& 31)) - 1) = nI (v % 4 ^ p) := by
  rw [pk_andN hv (2 * p) (mn_mask p hp), mn_4p]
theorem mn_p12 {p : Nat} (hp : p ≤ 12) : 4 ^ p ≤ 4 ^ 12 := Nat.pow_le_pow_right (by omega) hp
theorem xn_48 {post : Int64 → Prop} (hm : m ≤ 60) (hp : p ≤ 12) (hp0 : 0 < p) (hT : mm_lt T) (hP : mm_lt P) (hq : ∀ w, mm_pl T P m p w → post w) : ∀ (d s n : Nat) (w : Int64), s + d = m → d < n → mm_pl T P s p w → wX_findByNumber_48 post (nI (mm_V P 0 p)) (((1 : Int32) <<< ((2 * nI p) &&& 31)) - 1) (nI m) (nI p) T P bd jo pl la ss pp tr tp n w (nI (mm_V T 0 s % 4 ^ p)) (nI s) := by
  intro d
  induction d with
  | zero =>
    intro s n w h hn hw
    obtain ⟨n, rfl⟩ : ∃ n', n = n' + 1 := ⟨n - 1, by omega⟩
    have e : s = m := by omega
    subst e
    simp (disch := omega) only [wX_findByNumber_48, Nat.le_refl, forall_eq, nI_leI, nI_ltI, nI_eq, vp_in_nI, nI_clamp, nI_1, nI_add, pk_sub, mn_10, mn_60lt, mn_60le, mn_12le, mn_4le, mn_le0, mn_lt0, mn_0le, mn_eq0, mn_1le, mn_lt1, mn_le60, mn_lt12, mn_12lt, mn_le3, true_implies, forall_const, not_true_eq_false, not_false_eq_true, false_implies, and_true, true_and, implies_true, and_self, if_true, if_false]
    exact hq w hw
  | succ d ih =>
    intro s n w h hn hw
    obtain ⟨n, rfl⟩ : ∃ n', n = n' + 1 := ⟨n - 1, by omega⟩
    have c : ¬ nI m ≤ nI s := nI_ge (by omega) (by omega)
    have h12 : (4 : Nat) ^ 12 = 16777216 := by decide
    have hp12 := mn_p12 hp
    have hpos : 0 < 4 ^ p := Nat.pow_pos (by omega)
    have hlt := Nat.mod_lt (mm_V T 0 s) hpos
    have hlt2 := Nat.mod_lt (mm_V T 0 (s + 1)) hpos
    have hv := mm_v4 hT s
    have hV := mm_Vlt hP 0 p
    have en : ((nI (mm_V T 0 s % 4 ^ p) <<< ((2 : Int32) &&& 31)) ||| T (nI s).toNatClampNeg) &&& (((1 : Int32) <<< ((2 * nI p) &&& 31)) - 1) = nI (mm_V T 0 (s + 1) % 4 ^ p) := by
      rw [nI_clamp (by omega), hv.2, mn_sl2 (by omega) hv.1, mn_and (by omega) (by omega), mm_Vmod]
    refine br_f c ⟨vp_in_nI (by omega) (by omega), nm_r en ?_⟩
    rw [nI_1]
    by_cases c2 : s + 1 < p
    · refine br_t (nI_lt c2 (by omega)) (nm_e (ih (s + 1) n w (by omega) (by omega) (mm_plN hw (fun z => ?_))))
      have := mm_suL z
      omega
    · refine br_f (nI_nlt (by omega) (by omega)) ?_
      have vs := mm_Vsu hT hP (i := s + 1) (p := p) (by omega)
      by_cases c3 : mm_V T 0 (s + 1) % 4 ^ p = mm_V P 0 p
      · refine br_t (congrArg nI c3) (nm_e (nm_e ?_))
        rw [pk_sub (by omega)]
        exact ih (s + 1) n _ (by omega) (by omega) (mm_plS hw (by omega) hp0 (vs.mp c3))
      · refine br_f (by rw [nI_eq (by omega) (by omega)]; exact c3) (nm_e ?_)
        exact ih (s + 1) n w (by omega) (by omega) (mm_plN hw (fun z => c3 (vs.mpr z)))
theorem xn_4 {post : Int64 → Prop} (hm : m ≤ 60) (hp : p ≤ 12) (hp0 : 0 < p) (hT : mm_lt T) (hP : mm_lt P) (hq : ∀ w, mm_pl T P m p w → post w) : ∀ (d s n : Nat), s + d = p → d < n → wX_findByNumber_4 post (nI m) (nI p) T P bd jo pl la ss pp tr tp n (nI (mm_V P 0 s)) (nI s) := by
  intro d
  induction d with
  | zero =>
    intro s n h hn
    obtain ⟨n, rfl⟩ : ∃ n', n = n' + 1 := ⟨n - 1, by omega⟩
    have e : s = p := by omega
    subst e
    have z : mm_V T 0 0 % 4 ^ s = 0 := Nat.zero_mod _
    have H := xn_48 (bd := bd) (jo := jo) (pl := pl) (la := la) (ss := ss) (pp := pp) (tr := tr) (tp := tp) hm hp hp0 hT hP hq m 0 (m + 1) 0 (by omega) (by omega) (mm_pl0 hp0)
    rw [z] at H
    exact br_t (nI_le (Nat.le_refl _) (by omega)) (nm_e ⟨m + 1, H⟩)
  | succ d ih =>
    intro s n h hn
    obtain ⟨n, rfl⟩ : ∃ n', n = n' + 1 := ⟨n - 1, by omega⟩
    have c : ¬ nI p ≤ nI s := nI_ge (by omega) (by omega)
    have h12 : (4 : Nat) ^ 12 = 16777216 := by decide
    have hp12 := mn_p12 (p := s) (by omega)
    have hv := mm_v4 hP s
    have hV := mm_Vlt hP 0 s
    have en : (nI (mm_V P 0 s) <<< ((2 : Int32) &&& 31)) ||| P (nI s).toNatClampNeg = nI (mm_V P 0 (s + 1)) := by
      rw [nI_clamp (by omega), hv.2, mn_sl2 (by omega) hv.1]
      show _ = nI (4 * mm_V P 0 s + mm_v (P (0 + s)))
      rw [Nat.zero_add]
    refine br_f c ⟨vp_in_nI (by omega) (by omega), nm_r en (nm_r (nI_1 s) ?_)⟩
    exact ih (s + 1) n (by omega) (by omega)
theorem xe6 {post : Int64 → Prop} (hm : m ≤ 60) (hp : p ≤ 12) (hp0 : 0 < p) (hT : mm_lt T) (hP : mm_lt P) (hq : ∀ w, mm_pl T P m p w → post w) : wpX_findByNumber post ((nI m), (nI p), T, P, bd, jo, pl, la, ss, pp, tr, tp) := by
  unfold wpX_findByNumber
  exact ⟨p + 1, xn_4 hm hp hp0 hT hP hq p 0 (p + 1) (by omega) (by omega)⟩
/-! shift-and -/
theorem xr_22 {post : SX → Prop} (hp : p ≤ 12) (hP : mm_lt P) (hq : ∀ q, mm_pp P q p → post ((nI m), (nI p), T, P, bd, jo, pl, la, ss, q, tr, tp)) : ∀ (d s n : Nat) (pp : Nat → Int32), s + d = p → d < n → mm_pp P pp s → wX_fillPatternPlaces_22 post (nI m) (nI p) n (nI s) T P bd jo pl la ss pp tr tp := by
  intro d
  induction d with
  | zero =>
    intro s n pp h hn hl
    obtain ⟨n, rfl⟩ : ∃ n', n = n' + 1 := ⟨n - 1, by omega⟩
    have e : s = p := by omega
    subst e
    simp (disch := omega) only [wX_fillPatternPlaces_22, Nat.le_refl, forall_eq, nI_leI, nI_ltI, nI_eq, vp_in_nI, nI_clamp, nI_1, nI_add, pk_sub, mn_10, mn_60lt, mn_60le, mn_12le, mn_4le, mn_le0, mn_lt0, mn_0le, mn_eq0, mn_1le, mn_lt1, mn_le60, mn_lt12, mn_12lt, mn_le3, true_implies, forall_const, not_true_eq_false, not_false_eq_true, false_implies, and_true, true_and, implies_true, and_self, if_true, if_false]
    exact hq pp hl
  | succ d ih =>
    intro s n pp h hn hl
    obtain ⟨n, rfl⟩ : ∃ n', n = n' + 1 := ⟨n - 1, by omega⟩
    have c : ¬ p ≤ s := by omega
    obtain ⟨l, l1, l2⟩ := hP s
    simp (disch := omega) only [wX_fillPatternPlaces_22, c, l2, forall_eq, nI_leI, nI_ltI, nI_eq, vp_in_nI, nI_clamp, nI_1, nI_add, pk_sub, mn_10, mn_60lt, mn_60le, mn_12le, mn_4le, mn_le0, mn_lt0, mn_0le, mn_eq0, mn_1le, mn_lt1, mn_le60, mn_lt12, mn_12lt, mn_le3, true_implies, forall_const, not_true_eq_false, not_false_eq_true, false_implies, and_true, true_and, implies_true, and_self, if_true, if_false]
    exact ih (s + 1) n _ (by omega) (by omega) (mm_ppS hl (by omega) l1 l2)
theorem xr_2 {post : SX → Prop} (hp : p ≤ 12) (hP : mm_lt P) (hq : ∀ q, mm_pp P q p → post ((nI m), (nI p), T, P, bd, jo, pl, la, ss, q, tr, tp)) : ∀ (d s n : Nat) (pp : Nat → Int32), s + d = 4 → d < n → (∀ c, c < s → pp c = 0) → wX_fillPatternPlaces_2 post (nI m) (nI p) n (nI s) T P bd jo pl la ss pp tr tp := by
  intro d
  induction d with
  | zero =>
    intro s n pp h hn hl
    obtain ⟨n, rfl⟩ : ∃ n', n = n' + 1 := ⟨n - 1, by omega⟩
    have c : 4 ≤ s := by omega
    simp (disch := omega) only [wX_fillPatternPlaces_2, c, forall_eq, nI_leI, nI_ltI, nI_eq, vp_in_nI, nI_clamp, nI_1, nI_add, pk_sub, mn_10, mn_60lt, mn_60le, mn_12le, mn_4le, mn_le0, mn_lt0, mn_0le, mn_eq0, mn_1le, mn_lt1, mn_le60, mn_lt12, mn_12lt, mn_le3, true_implies, forall_const, not_true_eq_false, not_false_eq_true, false_implies, and_true, true_and, implies_true, and_self, if_true, if_false]
    exact ⟨p + 1, xr_22 hp hP hq p 0 (p + 1) pp (by omega) (by omega) (mm_pp0 (fun j hj => hl j (by omega)))⟩
  | succ d ih =>
    intro s n pp h hn hl
    obtain ⟨n, rfl⟩ : ∃ n', n = n' + 1 := ⟨n - 1, by omega⟩
    have c : ¬ 4 ≤ s := by omega
    simp (disch := omega) only [wX_fillPatternPlaces_2, c, forall_eq, nI_leI, nI_ltI, nI_eq, vp_in_nI, nI_clamp, nI_1, nI_add, pk_sub, mn_10, mn_60lt, mn_60le, mn_12le, mn_4le, mn_le0, mn_lt0, mn_0le, mn_eq0, mn_1le, mn_lt1, mn_le60, mn_lt12, mn_12lt, mn_le3, true_implies, forall_const, not_true_eq_false, not_false_eq_true, false_implies, and_true, true_and, implies_true, and_self, if_true, if_false]
    refine ih (s + 1) n _ (by omega) (by omega) (lt_s (fun j hj => ?_) pk_us)
    rw [pk_un (by omega)]
    exact hl j hj
theorem xr {post : SX → Prop} (hp : p ≤ 12) (hP : mm_lt P) (hq : ∀ q, mm_pp P q p → post ((nI m), (nI p), T, P, bd, jo, pl, la, ss, q, tr, tp)) : wpX_fillPatternPlaces post ((nI m), (nI p), T, P, bd, jo, pl, la, ss, pp, tr, tp) := by
  unfold wpX_fillPatternPlaces
  exact ⟨5, xr_2 hp hP hq 4 0 5 pp (by omega) (by omega) (fun j hj => by omega)⟩
theorem xu_l {post : Int64 → SX → Prop} (hm : m ≤ 60) (hp : p ≤ 12) (hp0 : 0 < p) (hT : mm_lt T) (hpp : mm_pp P pp p) (hq : ∀ w, mm_pl T P m p w → post w ((nI m), (nI p), T, P, bd, jo, pl, la, ss, pp, tr, tp)) : ∀ (d s n : Nat) (w : Int64) (R : Int32), s + d = m → d < n → mm_pl T P s p w → mm_rp T P p s R → wX_findByRunningPrefixes_21 post ((1 : Int32) <<< (nI (p - 1) &&& 31)) (nI m) (nI p) T P bd jo pl la ss pp tr tp n w R (nI s) := by
  intro d
  induction d with
  | zero =>
    intro s n w R h hn hw hR
    obtain ⟨n, rfl⟩ : ∃ n', n = n' + 1 := ⟨n - 1, by omega⟩
    have e : s = m := by omega
    subst e
    simp (disch := omega) only [wX_findByRunningPrefixes_21, Nat.le_refl, forall_eq, nI_leI, nI_ltI, nI_eq, vp_in_nI, nI_clamp, nI_1, nI_add, pk_sub, mn_10, mn_60lt, mn_60le, mn_12le, mn_4le, mn_le0, mn_lt0, mn_0le, mn_eq0, mn_1le, mn_lt1, mn_le60, mn_lt12, mn_12lt, mn_le3, true_implies, forall_const, not_true_eq_false, not_false_eq_true, false_implies, and_true, true_and, implies_true, and_self, if_true, if_false]
    exact hq w hw
  | succ d ih =>
    intro s n w R h hn hw hR
    obtain ⟨n, rfl⟩ : ∃ n', n = n' + 1 := ⟨n - 1, by omega⟩
    have c : ¬ nI m ≤ nI s := nI_ge (by omega) (by omega)
    obtain ⟨l, l1, l2⟩ := hT s
    have R2 := mm_rpS hR hpp l1 l2
    have e1 : T (nI s).toNatClampNeg = nI l := by rw [nI_clamp (by omega)]; exact l2
    have e2 : (nI l).toNatClampNeg = l := nI_clamp (by omega)
    have W := mm_btW (x := ((R <<< ((1 : Int32) &&& 31)) ||| 1) &&& pp l) (l := p - 1) (by omega)
    have V := R2 (p - 1) (by omega)
    rw [show p - 1 + 1 = p from by omega] at V
    refine br_f c ⟨vp_in_nI (by omega) (by omega), ?_⟩
    rw [e1, e2, nI_1]
    refine ⟨vp_in_nI l1 (by omega), nm_e ?_⟩
    by_cases c3 : mm_su T P (s + 1) p
    · have hl := mm_suL c3
      refine br_f (fun z => W.mp z (V.mpr ⟨by omega, c3⟩)) (nm_e (nm_e ?_))
      rw [pk_sub hl]
      exact ih (s + 1) n _ _ (by omega) (by omega) (mm_plS hw (by omega) hp0 c3) R2
    · exact br_t (W.mpr (fun z => c3 (V.mp z).2)) (nm_e (ih (s + 1) n _ _ (by omega) (by omega) (mm_plN hw c3) R2))
theorem xe7 {post : Int64 → SX → Prop} (hm : m ≤ 60) (hp : p ≤ 12) (hp0 : 0 < p) (hT : mm_lt T) (hP : mm_lt P) (hq : ∀ w q, mm_pl T P m p w → post w ((nI m), (nI p), T, P, bd, jo, pl, la, ss, q, tr, tp)) : wpX_findByRunningPrefixes post ((nI m), (nI p), T, P, bd, jo, pl, la, ss, pp, tr, tp) := by
  unfold wpX_findByRunningPrefixes
  dsimp only
  refine xr hp hP (fun q hl => ?_)
  dsimp only
  rw [mn_s1 hp0]
  exact nm_e ⟨m + 1, xu_l hm hp hp0 hT hl (fun w hw => hq w q hw) m 0 (m + 1) 0 0 (by omega) (by omega) (mm_pl0 hp0) mm_rp0⟩
end
