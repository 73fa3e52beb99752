/-! the calls that ask -/
theorem i_vc_count {k : Nat} {u : SX} {v : SY} (I : i_Rel k u v) (hk : k + 3 ≤ 1536) (v1 : Int32) : wpX_count (fun r u' => wpY_count (fun r' => r' = r ∧ i_Rel (k + 3) u' v) v v1) u v1 := by
  obtain ⟨m, p, T, P, bd, jo, pl, la, ss, pp, tr, tp, rfl, rfl, hm, hp, hT, hP⟩ := I
  unfold wpX_count
  dsimp only
  rcases mn_lc v1 10 (by omega) with hb | ⟨g, hg, rfl⟩
  · refine xe_f hb (br_t rfl ?_)
    unfold wpY_count
    dsimp only
    exact ye_f hb (br_t rfl ⟨rfl, mn_R hm hp hT hP⟩)
  · refine xe_t hg (br_f mn_10 (xP hm hp hT hP hg (fun w bd jo pl la ss pp tr tp hw => ?_)))
    refine ⟨62, xc_l hw ?_ 61 0 62 (by omega) (by omega)⟩
    rw [xn_61 hm]
    exact yy_count hm hp hg ⟨rfl, mn_R hm hp hT hP⟩
theorem i_vc_next {k : Nat} {u : SX} {v : SY} (I : i_Rel k u v) (hk : k + 3 ≤ 1536) (v1 : Int32) (v2 : Int32) : wpX_next (fun r u' => wpY_next (fun r' => r' = r ∧ i_Rel (k + 3) u' v) v v1 v2) u v1 v2 := by
  obtain ⟨m, p, T, P, bd, jo, pl, la, ss, pp, tr, tp, rfl, rfl, hm, hp, hT, hP⟩ := I
  unfold wpX_next
  dsimp only
  rcases mn_lc v1 10 (by omega) with hb | ⟨g, hg, rfl⟩
  · exact xe_f hb (br_t rfl (yy_nextF hm hb ⟨rfl, mn_R hm hp hT hP⟩))
  · refine xe_t hg (br_f mn_10 (xP hm hp hT hP hg (fun w bd jo pl la ss pp tr tp hw => ?_)))
    dsimp only
    by_cases c : v2 < 0
    · refine br_f (mn_nge (a := 0) c (by omega)) ⟨62, xn_l (a := 0) hm hw (fun r hr => ?_) 61 0 62 (by omega) (by omega) (by omega) (fun j h1 h2 => by omega)⟩
      exact yy_next (a := 0) hm hp hg (fun s hs => ⟨fun z => absurd z (mn_nlt c (by omega)), fun z => by omega⟩) (fun r2 hr2 => ⟨mm_nxU hr hr2, mn_R hm hp hT hP⟩)
    · obtain ⟨a, ha, rfl⟩ := nI_of c
      have hY : ∀ s, s ≤ 60 → (nI s < nI a ↔ s < a) := fun s hs => nI_ltI (by omega) ha
      refine br_t (nI_pos' ha) ?_
      by_cases c6 : a ≤ 61
      · refine ⟨62, xn_l (a := a) hm hw (fun r hr => ?_) (61 - a) a 62 (by omega) (by omega) (by omega) (fun j h1 h2 => by omega)⟩
        exact yy_next (a := a) hm hp hg hY (fun r2 hr2 => ⟨mm_nxU hr hr2, mn_R hm hp hT hP⟩)
      · refine ⟨1, br_t ((mn_60lt ha).mpr (by omega)) ?_⟩
        exact yy_next (a := a) hm hp hg hY (fun r2 hr2 => ⟨mm_nxU (Or.inr ⟨rfl, fun j h1 => xF (by omega)⟩) hr2, mn_R hm hp hT hP⟩)
theorem i_vc_last {k : Nat} {u : SX} {v : SY} (I : i_Rel k u v) (hk : k + 3 ≤ 1536) (v1 : Int32) (v2 : Int32) : wpX_last (fun r u' => wpY_last (fun r' => r' = r ∧ i_Rel (k + 3) u' v) v v1 v2) u v1 v2 := by
  obtain ⟨m, p, T, P, bd, jo, pl, la, ss, pp, tr, tp, rfl, rfl, hm, hp, hT, hP⟩ := I
  unfold wpX_last
  dsimp only
  rcases mn_lc v1 10 (by omega) with hb | ⟨g, hg, rfl⟩
  · exact xe_f hb (br_t rfl (yy_lastF hm hb ⟨rfl, mn_R hm hp hT hP⟩))
  · refine xe_t hg (br_f mn_10 (xP hm hp hT hP hg (fun w bd jo pl la ss pp tr tp hw => ?_)))
    dsimp only
    by_cases c : v2 < 0
    · refine br_t (mn_le (a := 60) c (by omega)) ⟨1, br_t c ?_⟩
      exact yy_last (a := 0) hm hp hg (fun s hs => ⟨fun _ => by omega, fun _ => mn_neg c (by omega)⟩) (fun r2 hr2 => ⟨mm_lsU (Or.inr ⟨rfl, fun j h1 => by omega⟩) hr2, mn_R hm hp hT hP⟩)
    · obtain ⟨t, ht, rfl⟩ := nI_of c
      have hY : ∀ s, s ≤ 60 → (nI t < nI s ↔ t + 1 ≤ s) := fun s hs => nI_ltI ht (by omega)
      by_cases c6 : t ≤ 60
      · refine br_t ((mn_le60 ht).mpr c6) ?_
        have H := xl_l (post := fun r u' => wpY_last (fun r' => r' = r ∧ i_Rel (k + 3) u' ((nI m), (nI p), T, P)) ((nI m), (nI p), T, P) (nI g) (nI t)) (bd := bd) (jo := jo) (pl := pl) (la := la) (ss := ss) (pp := pp) (tr := tr) (tp := tp) (a := t + 1) hm hw (fun r hr => yy_last (a := t + 1) hm hp hg hY (fun r2 hr2 => ⟨mm_lsU hr hr2, mn_R hm hp hT hP⟩)) (t + 1) 62 (by omega) (by omega) (by omega) (fun j h1 h2 => by omega)
        rw [pk_m1] at H
        exact ⟨62, H⟩
      · refine br_f (by rw [mn_le60 ht]; exact c6) ?_
        have H := xl_l (post := fun r u' => wpY_last (fun r' => r' = r ∧ i_Rel (k + 3) u' ((nI m), (nI p), T, P)) ((nI m), (nI p), T, P) (nI g) (nI t)) (bd := bd) (jo := jo) (pl := pl) (la := la) (ss := ss) (pp := pp) (tr := tr) (tp := tp) (a := t + 1) hm hw (fun r hr => yy_last (a := t + 1) hm hp hg hY (fun r2 hr2 => ⟨mm_lsU hr hr2, mn_R hm hp hT hP⟩)) 61 62 (by omega) (by omega) (by omega) (fun j h1 h2 => xF (by omega))
        rw [pk_m1] at H
        exact ⟨62, H⟩
theorem i_vc_kth {k : Nat} {u : SX} {v : SY} (I : i_Rel k u v) (hk : k + 3 ≤ 1536) (v1 : Int32) (v2 : Int32) : wpX_kth (fun r u' => wpY_kth (fun r' => r' = r ∧ i_Rel (k + 3) u' v) v v1 v2) u v1 v2 := by
  obtain ⟨m, p, T, P, bd, jo, pl, la, ss, pp, tr, tp, rfl, rfl, hm, hp, hT, hP⟩ := I
  unfold wpX_kth
  dsimp only
  rcases mn_lc v1 10 (by omega) with hb | ⟨g, hg, rfl⟩
  · exact xe_f hb (br_t rfl (yy_kthF hm hb ⟨rfl, mn_R hm hp hT hP⟩))
  · refine xe_t hg (br_f mn_10 (xP hm hp hT hP hg (fun w bd jo pl la ss pp tr tp hw => ?_)))
    refine ⟨62, xk_l2 hm hw (fun r hr => ?_) 61 0 62 (by omega) (by omega) (fun j h1 h2 => by omega)⟩
    exact yy_kth hm hp hg (fun r2 hr2 => ⟨mm_ktU hr hr2, mn_R hm hp hT hP⟩)
theorem i_vc_apart {k : Nat} {u : SX} {v : SY} (I : i_Rel k u v) (hk : k + 3 ≤ 1536) (v1 : Int32) : wpX_apart (fun r u' => wpY_apart (fun r' => r' = r ∧ i_Rel (k + 3) u' v) v v1) u v1 := by
  obtain ⟨m, p, T, P, bd, jo, pl, la, ss, pp, tr, tp, rfl, rfl, hm, hp, hT, hP⟩ := I
  unfold wpX_apart
  dsimp only
  rcases mn_lc v1 10 (by omega) with hb | ⟨g, hg, rfl⟩
  · refine xe_f hb (br_t rfl ?_)
    by_cases c : 1 ≤ p
    · exact yy_apart (D := p) hm hp (Or.inl rfl) (ye_f hb (br_t rfl ⟨rfl, mn_R hm hp hT hP⟩))
    · exact yy_apart (D := 1) hm hp (Or.inr ⟨by omega, rfl⟩) (ye_f hb (br_t rfl ⟨rfl, mn_R hm hp hT hP⟩))
  · refine xe_t hg (br_f mn_10 (xP hm hp hT hP hg (fun w bd jo pl la ss pp tr tp hw => ?_)))
    dsimp only
    by_cases c : 1 ≤ p
    · refine br_t ((mn_1le (by omega)).mpr c) ⟨62, xa_l2 (D := p) hp hw ?_ 61 0 62 (by omega) (by omega)⟩
      rw [xg_61 hm]
      exact yy_apart (D := p) hm hp (Or.inl rfl) (ye_t hg (br_f mn_10 ⟨rfl, mn_R hm hp hT hP⟩))
    · refine br_f (by rw [mn_1le (by omega)]; exact c) ⟨62, xa_l2 (D := 1) (by omega) hw ?_ 61 0 62 (by omega) (by omega)⟩
      rw [xg_61 hm]
      exact yy_apart (D := 1) hm hp (Or.inr ⟨by omega, rfl⟩) (ye_t hg (br_f mn_10 ⟨rfl, mn_R hm hp hT hP⟩))
theorem i_vc_agree {k : Nat} {u : SX} {v : SY} (I : i_Rel k u v) (hk : k + 3 ≤ 1536) (v1 : Int32) (v2 : Int32) : wpX_agree (fun r u' => wpY_agree (fun r' => r' = r ∧ i_Rel (k + 3) u' v) v v1 v2) u v1 v2 := by
  obtain ⟨m, p, T, P, bd, jo, pl, la, ss, pp, tr, tp, rfl, rfl, hm, hp, hT, hP⟩ := I
  unfold wpX_agree wpY_agree
  dsimp only
  rcases mn_lc v1 10 (by omega) with hb | ⟨g, hg, rfl⟩
  · exact xe_f hb (br_t rfl (ye_f hb (br_t rfl ⟨rfl, mn_R hm hp hT hP⟩)))
  · refine xe_t hg (br_f mn_10 ?_)
    rcases mn_lc v2 10 (by omega) with hb | ⟨g2, hg2, rfl⟩
    · exact xe_f hb (br_t rfl (ye_t hg (br_f mn_10 (ye_f hb (br_t rfl ⟨rfl, mn_R hm hp hT hP⟩)))))
    · refine xe_t hg2 (br_f mn_10 (xP hm hp hT hP hg (fun w bd jo pl la ss pp tr tp hw => ?_)))
      dsimp only
      refine xP hm hp hT hP hg2 (fun w2 bd jo pl la ss pp tr tp hw2 => ?_)
      exact br_t (mm_plU hw hw2) (ye_t hg (br_f mn_10 (ye_t hg2 (br_f mn_10 ⟨rfl, mn_R hm hp hT hP⟩))))
theorem i_vc_border {k : Nat} {u : SX} {v : SY} (I : i_Rel k u v) (hk : k + 3 ≤ 1536) : wpX_border (fun r u' => wpY_border (fun r' => r' = r ∧ i_Rel (k + 3) u' v) v) u := by
  obtain ⟨m, p, T, P, bd, jo, pl, la, ss, pp, tr, tp, rfl, rfl, hm, hp, hT, hP⟩ := I
  unfold wpX_border
  dsimp only
  by_cases c : 1 ≤ p
  · refine br_t ((mn_1le (by omega)).mpr c) (xb hp c (fun b hb => ?_))
    dsimp only
    obtain ⟨q, e1, g⟩ := hb (p - 1) (by omega)
    rw [show p - 1 + 1 = p from by omega] at g
    rw [mn_s1 c, nI_clamp (by omega), e1]
    exact ⟨vp_in_nI (by omega) (by omega), yy_border hp c (fun r hr => ⟨congrArg nI (mm_grU hr g), mn_R hm hp hT hP⟩)⟩
  · have e : p = 0 := by omega
    subst e
    exact br_f (by decide) (yy_border0 ⟨rfl, mn_R hm hp hT hP⟩)
theorem i_vc_near {k : Nat} {u : SX} {v : SY} (I : i_Rel k u v) (hk : k + 3 ≤ 1536) (v1 : Int32) : wpX_near (fun r => wpY_near (fun r' => r' = r ∧ i_Rel (k + 3) u v) v v1) u v1 := by
  obtain ⟨m, p, T, P, bd, jo, pl, la, ss, pp, tr, tp, rfl, rfl, hm, hp, hT, hP⟩ := I
  unfold wpX_near
  dsimp only
  by_cases c : v1 < 0
  · refine br_t c ?_
    unfold wpY_near
    exact br_t c ⟨rfl, mn_R hm hp hT hP⟩
  · refine br_f c ?_
    by_cases c2 : v1 ≤ 3
    · obtain ⟨e, he, rfl⟩ := nI_of c
      have he3 : e ≤ 3 := (mn_le3 he).mp c2
      refine br_t c2 ⟨m + 2, xn_15 hm hp he3 ?_ (m + 1 - p) 0 (m + 2) (by omega) (by omega)⟩
      rw [← xn_eq hp he3]
      exact yy_near hm hp he3 ⟨rfl, mn_R hm hp hT hP⟩
    · refine br_f c2 ?_
      unfold wpY_near
      exact br_f c (br_f c2 ⟨rfl, mn_R hm hp hT hP⟩)
