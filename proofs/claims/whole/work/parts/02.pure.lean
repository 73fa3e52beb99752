/-! the mathematics, part 1: suffixes, borders, sets of places -/
/-- the first k letters of P are the last k of the first i letters of x -/
def mm_su (x P : Nat → Int32) (i k : Nat) : Prop := ∃ s, s + k = i ∧ ∀ j, j < k → x (s + j) = P j
theorem mm_su0 (x P : Nat → Int32) (i : Nat) : mm_su x P i 0 := ⟨i, rfl, fun j hj => absurd hj (Nat.not_lt_zero j)⟩
theorem mm_suL {x P : Nat → Int32} {i k : Nat} (h : mm_su x P i k) : k ≤ i := by
  obtain ⟨s, hs, _⟩ := h
  omega
theorem mm_suR (P : Nat → Int32) (i : Nat) : mm_su P P i i := ⟨0, Nat.zero_add i, fun j _ => by rw [Nat.zero_add]⟩
theorem mm_suS {x P : Nat → Int32} {i k : Nat} : mm_su x P (i + 1) (k + 1) ↔ mm_su x P i k ∧ x i = P k := by
  constructor
  · rintro ⟨s, hs, h⟩
    have e : s + k = i := by omega
    refine ⟨⟨s, e, fun j hj => h j (by omega)⟩, ?_⟩
    rw [← e]
    exact h k (by omega)
  · rintro ⟨⟨s, hs, h⟩, e⟩
    refine ⟨s, by omega, fun j hj => ?_⟩
    by_cases z : j < k
    · exact h j z
    · have z2 : j = k := by omega
      rw [z2, hs]
      exact e
theorem mm_suC {x P : Nat → Int32} {i q k : Nat} (h : mm_su x P i q) (hk : k ≤ q) : mm_su x P i k ↔ mm_su P P q k := by
  obtain ⟨s, hs, h⟩ := h
  constructor
  · rintro ⟨t, ht, g⟩
    refine ⟨q - k, by omega, fun j hj => ?_⟩
    rw [← h (q - k + j) (by omega), ← g j hj]
    exact congrArg x (by omega)
  · rintro ⟨r, hr, g⟩
    refine ⟨s + r, by omega, fun j hj => ?_⟩
    rw [← g j hj, ← h (r + j) (by omega), Nat.add_assoc]
/-- k is the greatest up to b -/
def mm_gr (x P : Nat → Int32) (i b k : Nat) : Prop := mm_su x P i k ∧ k ≤ b ∧ ∀ q, mm_su x P i q → q ≤ b → q ≤ k
theorem mm_grU {x P : Nat → Int32} {i b k l : Nat} (h : mm_gr x P i b k) (g : mm_gr x P i b l) : k = l := by
  have h1 := h.2.2 l g.1 g.2.1
  have h2 := g.2.2 k h.1 h.2.1
  omega
/-- bd holds the greatest borders of the first 1 .. q letters -/
def mm_bo (P bd : Nat → Int32) (q : Nat) : Prop := ∀ j, j < q → ∃ b, bd j = nI b ∧ mm_gr P P (j + 1) j b
def mm_ki (x P : Nat → Int32) (i k0 : Nat) (c : Int32) (k : Nat) : Prop := mm_su x P i k ∧ k ≤ k0 ∧ ∀ q, mm_su x P i q → q ≤ k0 → P q = c → q ≤ k
theorem mm_ki0 {x P : Nat → Int32} {i k0 : Nat} {c : Int32} (h : mm_su x P i k0) : mm_ki x P i k0 c k0 := ⟨h, Nat.le_refl _, fun _ _ g _ => g⟩
theorem mm_kis {x P : Nat → Int32} {i k0 k b : Nat} {c : Int32} (h : mm_ki x P i k0 c k) (hc : ¬ P k = c) (g : mm_gr P P k (k - 1) b) : mm_ki x P i k0 c b := by
  have hb : b ≤ k := by have := g.2.1; omega
  refine ⟨(mm_suC h.1 hb).mpr g.1, by have := h.2.1; omega, fun q h1 h2 h3 => ?_⟩
  have h4 := h.2.2 q h1 h2 h3
  have h5 : q ≠ k := fun e => hc (e ▸ h3)
  exact g.2.2 q ((mm_suC h.1 h4).mp h1) (by omega)
theorem mm_kit {x P : Nat → Int32} {i k0 k : Nat} {c : Int32} (h : mm_ki x P i k0 c k) (hx : x i = c) (hc : P k = c) : mm_gr x P (i + 1) (k0 + 1) (k + 1) := by
  refine ⟨mm_suS.mpr ⟨h.1, hx.trans hc.symm⟩, by have := h.2.1; omega, fun q h1 h2 => ?_⟩
  cases q with
  | zero => omega
  | succ q =>
    have h3 := mm_suS.mp h1
    have h4 := h.2.2 q h3.1 (by omega) (h3.2.symm.trans hx)
    omega
theorem mm_kif {x P : Nat → Int32} {i k0 : Nat} {c : Int32} (h : mm_ki x P i k0 c 0) (hx : x i = c) (hc : ¬ P 0 = c) : mm_gr x P (i + 1) (k0 + 1) 0 := by
  refine ⟨mm_su0 _ _ _, by omega, fun q h1 h2 => ?_⟩
  cases q with
  | zero => omega
  | succ q =>
    have h3 := mm_suS.mp h1
    have h4 := h.2.2 q h3.1 (by omega) (h3.2.symm.trans hx)
    have h5 : q = 0 := by omega
    rw [h5] at h3
    exact absurd (h3.2.symm.trans hx) hc
theorem mm_up {x P : Nat → Int32} {i p k r : Nat} (hp : 0 < p) (h : mm_gr x P i (p - 1) k) (g : mm_gr x P (i + 1) (k + 1) r) : mm_gr x P (i + 1) p r := by
  have hk := h.2.1
  refine ⟨g.1, by have := g.2.1; omega, fun q h1 h2 => ?_⟩
  cases q with
  | zero => omega
  | succ q =>
    have h3 := h.2.2 q (mm_suS.mp h1).1 (by omega)
    exact g.2.2 (q + 1) h1 (by omega)
theorem mm_grne {x P : Nat → Int32} {i p r : Nat} (h : mm_gr x P i p r) (hn : r ≠ p) : mm_gr x P i (p - 1) r ∧ ¬ mm_su x P i p := by
  have h1 := h.2.1
  refine ⟨⟨h.1, by omega, fun q h2 h3 => h.2.2 q h2 (by omega)⟩, fun h2 => ?_⟩
  have h3 := h.2.2 p h2 (Nat.le_refl _)
  omega
theorem mm_greq {x P : Nat → Int32} {i p b : Nat} (h : mm_su x P i p) (g : mm_gr P P p (p - 1) b) : mm_gr x P i (p - 1) b := by
  have h1 := g.2.1
  refine ⟨(mm_suC h (by omega)).mpr g.1, h1, fun q h2 h3 => g.2.2 q ((mm_suC h (by omega)).mp h2) h3⟩
theorem mm_boS {P bd : Nat → Int32} {j b r : Nat} (h : mm_bo P bd j) (hj : 0 < j) (g : mm_gr P P j (j - 1) b) (gr : mm_gr P P (j + 1) (b + 1) r) : mm_bo P (upd bd j (nI r)) (j + 1) := by
  intro t ht
  by_cases e : t = j
  · subst e
    exact ⟨r, pk_us, mm_up hj g gr⟩
  · rw [pk_un e]
    exact h t (by omega)
theorem mm_bo1 {P bd : Nat → Int32} : mm_bo P (upd bd 0 0) 1 := by
  intro t ht
  have e : t = 0 := by omega
  subst e
  exact ⟨0, pk_us, mm_su0 _ _ _, Nat.le_refl _, fun q _ h => h⟩
/-! occurrences, and sets of them -/
def mm_oc (T P : Nat → Int32) (m p i : Nat) : Prop := i + p ≤ m ∧ ∀ j, j < p → T (i + j) = P j
def mm_bl (w : Int64) (i : Nat) : Bool := w.toBitVec.getLsbD i
def mm_pl (T P : Nat → Int32) (m p : Nat) (w : Int64) : Prop := ∀ q, q < 64 → (mm_bl w q = true ↔ mm_oc T P m p q)
def mm_pt (T P : Nat → Int32) (m p b : Nat) (w : Int64) : Prop := ∀ q, q < 64 → (mm_bl w q = true ↔ q < b ∧ mm_oc T P m p q)
theorem mm_bl0 (i : Nat) : ¬ mm_bl 0 i = true := by
  have h : mm_bl 0 i = false := BitVec.getLsbD_zero
  rw [h]
  decide
theorem mm_sh : ∀ l, l < 64 → ((1 : Int64) <<< ((nI l).toInt64 &&& 63)).toBitVec = BitVec.twoPow 64 l := by decide +kernel
theorem mm_blO {w : Int64} {k q : Nat} (hk : k < 64) : mm_bl (w ||| ((1 : Int64) <<< ((nI k).toInt64 &&& 63))) q = true ↔ mm_bl w q = true ∨ k = q := by
  unfold mm_bl
  rw [Int64.toBitVec_or, BitVec.getLsbD_or, mm_sh k hk, BitVec.getLsbD_twoPow, Bool.or_eq_true, Bool.and_eq_true, decide_eq_true_eq, decide_eq_true_eq]
  constructor
  · rintro (h | h)
    · exact Or.inl h
    · exact Or.inr h.2
  · rintro (h | h)
    · exact Or.inl h
    · exact Or.inr ⟨hk, h⟩
theorem mm_plU {T P : Nat → Int32} {m p : Nat} {w z : Int64} (h : mm_pl T P m p w) (g : mm_pl T P m p z) : w = z := by
  apply Int64.toBitVec_inj.mp
  apply BitVec.eq_of_getLsbD_eq
  intro i hi
  exact Bool.eq_iff_iff.mpr ((h i hi).trans (g i hi).symm)
theorem mm_pl0 {T P : Nat → Int32} {p : Nat} (hp : 0 < p) : mm_pl T P 0 p 0 := fun q _ => ⟨fun h => absurd h (mm_bl0 q), fun h => by have := h.1; omega⟩
theorem mm_plS {T P : Nat → Int32} {i p : Nat} {w : Int64} (h : mm_pl T P i p w) (hi : i < 63) (hp : 0 < p) (s : mm_su T P (i + 1) p) : mm_pl T P (i + 1) p (w ||| ((1 : Int64) <<< ((nI (i + 1 - p)).toInt64 &&& 63))) := by
  obtain ⟨t, ht, g⟩ := s
  have e : i + 1 - p = t := by omega
  rw [e]
  intro q hq
  rw [mm_blO (by omega), h q hq]
  constructor
  · rintro (z | z)
    · exact ⟨by have := z.1; omega, z.2⟩
    · subst z
      exact ⟨by omega, g⟩
  · intro z
    by_cases y : q + p ≤ i
    · exact Or.inl ⟨y, z.2⟩
    · exact Or.inr (by have := z.1; omega)
theorem mm_plN {T P : Nat → Int32} {i p : Nat} {w : Int64} (h : mm_pl T P i p w) (s : ¬ mm_su T P (i + 1) p) : mm_pl T P (i + 1) p w := by
  intro q hq
  rw [h q hq]
  constructor
  · intro z
    exact ⟨by have := z.1; omega, z.2⟩
  · intro z
    by_cases y : q + p ≤ i
    · exact ⟨y, z.2⟩
    · exact absurd ⟨q, by have := z.1; omega, z.2⟩ s
theorem mm_pt0 {T P : Nat → Int32} {m p : Nat} : mm_pt T P m p 0 0 := fun q _ => ⟨fun h => absurd h (mm_bl0 q), fun h => by have := h.1; omega⟩
theorem mm_ptS {T P : Nat → Int32} {m p b : Nat} {w : Int64} (h : mm_pt T P m p b w) (hb : b < 64) (s : mm_oc T P m p b) : mm_pt T P m p (b + 1) (w ||| ((1 : Int64) <<< ((nI b).toInt64 &&& 63))) := by
  intro q hq
  rw [mm_blO hb, h q hq]
  constructor
  · rintro (z | z)
    · exact ⟨by omega, z.2⟩
    · subst z
      exact ⟨by omega, s⟩
  · intro z
    by_cases y : q < b
    · exact Or.inl ⟨y, z.2⟩
    · exact Or.inr (by have := z.1; omega)
theorem mm_ptK {T P : Nat → Int32} {m p b c : Nat} {w : Int64} (h : mm_pt T P m p b w) (hc : b ≤ c) (s : ∀ q, b ≤ q → q < c → ¬ mm_oc T P m p q) : mm_pt T P m p c w := by
  intro q hq
  rw [h q hq]
  constructor
  · intro z
    exact ⟨by omega, z.2⟩
  · intro z
    by_cases y : q < b
    · exact ⟨y, z.2⟩
    · exact absurd z.2 (s q (by omega) z.1)
theorem mm_ptN {T P : Nat → Int32} {m p b : Nat} {w : Int64} (h : mm_pt T P m p b w) (s : ¬ mm_oc T P m p b) : mm_pt T P m p (b + 1) w :=
  mm_ptK h (by omega) (fun q h1 h2 => by have e : q = b := by omega
                                         rw [e]; exact s)
theorem mm_ptE {T P : Nat → Int32} {m p b : Nat} {w : Int64} (h : mm_pt T P m p b w) (hb : m < b + p) : mm_pl T P m p w := by
  intro q hq
  rw [h q hq]
  exact ⟨fun z => z.2, fun z => ⟨by have := z.1; omega, z⟩⟩
theorem mm_has {w : Int64} {i : Nat} (hi : i < 64) : (((w.toUInt64 >>> ((nI i).toInt64.toUInt64 &&& Int64.toUInt64 63)).toInt64) &&& 1) = 0 ↔ ¬ mm_bl w i = true := by
  rw [wb_cu i hi, ts_bit hi (show (UInt64.ofNat i).toNat = i from by
    show (BitVec.ofNat 64 i).toNat = i
    rw [BitVec.toNat_ofNat, Nat.mod_eq_of_lt (by omega)])]
  unfold mm_bl
  rw [Bool.not_eq_true]
theorem mm_blsr {w : Int64} {k q : Nat} (hk : k < 64) : mm_bl ((w.toUInt64 >>> ((nI k).toInt64.toUInt64 &&& Int64.toUInt64 63)).toInt64) q = mm_bl w (k + q) := by
  rw [wb_cu k hk]
  have hs : (UInt64.ofNat k).toNat = k := by
    show (BitVec.ofNat 64 k).toNat = k
    rw [BitVec.toNat_ofNat, Nat.mod_eq_of_lt (by omega)]
  have e : (w.toUInt64 >>> UInt64.ofNat k).toInt64.toBitVec = w.toBitVec >>> k := by
    apply BitVec.eq_of_toNat_eq
    show (w.toUInt64 >>> UInt64.ofNat k).toNat = _
    rw [UInt64.toNat_shiftRight, hs, Nat.mod_eq_of_lt hk, BitVec.toNat_ushiftRight]
    rfl
  unfold mm_bl
  rw [e, BitVec.getLsbD_ushiftRight]
theorem mm_blA {w z : Int64} {q : Nat} : mm_bl (w &&& z) q = true ↔ mm_bl w q = true ∧ mm_bl z q = true := by
  unfold mm_bl
  rw [Int64.toBitVec_and, BitVec.getLsbD_and, Bool.and_eq_true]
theorem mm_allT : ∀ m, m < 61 → ∀ q, q < 64 → (mm_bl (((1 : Int64) <<< ((nI (m + 1)).toInt64 &&& 63)) - 1) q = decide (q ≤ m)) := by decide +kernel
theorem mm_plE {T P : Nat → Int32} {m : Nat} (hm : m ≤ 60) : mm_pl T P m 0 (((1 : Int64) <<< ((nI (m + 1)).toInt64 &&& 63)) - 1) := by
  intro q hq
  rw [mm_allT m (by omega) q hq, decide_eq_true_eq]
  exact ⟨fun h => ⟨h, fun j hj => absurd hj (Nat.not_lt_zero j)⟩, fun h => h.1⟩
theorem mm_plZ {T P : Nat → Int32} {m p : Nat} (h : m < p) : mm_pl T P m p 0 := fun q _ => ⟨fun h => absurd h (mm_bl0 q), fun h => by have := h.1; omega⟩
