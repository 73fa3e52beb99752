/-! the mathematics, part 2: shifts, numbers, running prefixes, the automaton, counting -/
/-- letters alone -/
def mm_lt (f : Nat → Int32) : Prop := ∀ i, ∃ l, l < 4 ∧ f i = nI l
/-- la holds bounds on the last places among the first n letters -/
def mm_la (P la : Nat → Int32) (n : Nat) : Prop := ∀ c, c < 4 → ∃ L, L ≤ n ∧ la c = nI L - 1 ∧ ∀ j, j < n → P j = nI c → j < L
theorem mm_la0 {P la : Nat → Int32} (h : ∀ c, c < 4 → la c = -1) : mm_la P la 0 := fun c hc => ⟨0, Nat.le_refl _, (h c hc).trans (by decide), fun j hj => absurd hj (Nat.not_lt_zero j)⟩
theorem mm_laS {P la : Nat → Int32} {n l : Nat} (h : mm_la P la n) (hl : P n = nI l) (hl4 : l < 4) : mm_la P (upd la l (nI n)) (n + 1) := by
  intro c hc
  by_cases e : c = l
  · subst e
    exact ⟨n + 1, Nat.le_refl _, by rw [pk_us, nI_pred], fun j hj _ => hj⟩
  · obtain ⟨L, h1, h2, h3⟩ := h c hc
    refine ⟨L, by omega, by rw [pk_un e]; exact h2, fun j hj g => ?_⟩
    by_cases z : j < n
    · exact h3 j z g
    · have z2 : j = n := by omega
      rw [z2, hl] at g
      exact absurd ((nI_eq (by omega) (by omega)).mp g).symm e
theorem mm_ring (a b : Int32) : a - (b - 1) = a + 1 - b := by grind
theorem mm_sh1 {e L : Nat} (h : L ≤ e + 1) : nI e - (nI L - 1) = nI (e + 1 - L) := by
  rw [mm_ring, nI_1, pk_sub h]
/-- the shift by the letter at place e of the pattern -/
theorem mm_skip {T P : Nat → Int32} {m p e b d L : Nat} {c : Nat} (hT : T (b + e) = nI c) (hL : ∀ j, j < e → j < p → P j = nI c → j < L) (h0 : 0 < d) (hd : d < e + 1 - L) (hp : e ≤ p) : ¬ mm_oc T P m p (b + d) := by
  intro h
  have h1 := h.2 (e - d) (by omega)
  have h2 : b + d + (e - d) = b + e := by omega
  rw [h2, hT] at h1
  have h3 := hL (e - d) (by omega) (by omega) h1.symm
  omega
/-- the good shifts when all from j1 on matched, and the one before did not -/
def mm_gd (P : Nat → Int32) (p j1 d : Nat) : Prop := (∀ j, j1 = j + 1 → d ≤ j → P (j - d) ≠ P j) ∧ ∀ k, j1 ≤ k → k < p → d ≤ k → P (k - d) = P k
theorem mm_gdS {T P : Nat → Int32} {m p j1 d b : Nat} (hj : j1 ≤ p) (hm : ∀ k, j1 ≤ k → k < p → T (b + k) = P k) (hn : ∀ j, j1 = j + 1 → T (b + j) ≠ P j) (h : mm_oc T P m p (b + d)) : mm_gd P p j1 d := by
  refine ⟨fun j e hd z => hn j e ?_, fun k h1 h2 h3 => ?_⟩
  · rw [← z, ← h.2 (j - d) (by omega)]
    exact congrArg T (by omega)
  · rw [← hm k h1 h2, ← h.2 (k - d) (by omega)]
    exact congrArg T (by omega)
/-- shifts of the suffixes -/
def mm_sd (P : Nat → Int32) (p j1 d : Nat) : Prop := 1 ≤ d ∧ d ≤ p ∧ ∀ t, 1 ≤ t → t < d → ¬ mm_gd P p j1 t
def mm_ss (P ss : Nat → Int32) (p n : Nat) : Prop := ∀ j1, j1 < n → ∃ d, ss j1 = nI d ∧ mm_sd P p j1 d
theorem mm_ssS {P ss : Nat → Int32} {p n d : Nat} (h : mm_ss P ss p n) (g : mm_sd P p n d) : mm_ss P (upd ss n (nI d)) p (n + 1) := by
  intro j1 hj
  by_cases e : j1 = n
  · subst e
    exact ⟨d, pk_us, g⟩
  · rw [pk_un e]
    exact h j1 (by omega)
/-! numbers of letters -/
def mm_v (x : Int32) : Nat := x.toNatClampNeg
theorem mm_vI {l : Nat} (h : l < 4) : mm_v (nI l) = l := nI_clamp (by omega)
theorem mm_v4 {f : Nat → Int32} (h : mm_lt f) (i : Nat) : mm_v (f i) < 4 ∧ f i = nI (mm_v (f i)) := by
  obtain ⟨l, h1, h2⟩ := h i
  rw [h2, mm_vI h1]
  exact ⟨h1, rfl⟩
def mm_V (f : Nat → Int32) (s : Nat) : Nat → Nat
  | 0 => 0
  | n + 1 => 4 * mm_V f s n + mm_v (f (s + n))
theorem mm_Vlt {f : Nat → Int32} (h : mm_lt f) (s : Nat) : ∀ n, mm_V f s n < 4 ^ n := by
  intro n
  induction n with
  | zero => exact Nat.one_pos
  | succ n ih =>
    have h1 := (mm_v4 h (s + n)).1
    show 4 * mm_V f s n + mm_v (f (s + n)) < 4 ^ (n + 1)
    rw [Nat.pow_succ]
    omega
theorem mm_Vinj {f g : Nat → Int32} (hf : mm_lt f) (hg : mm_lt g) (s t : Nat) : ∀ n, mm_V f s n = mm_V g t n ↔ ∀ j, j < n → f (s + j) = g (t + j) := by
  intro n
  induction n with
  | zero => exact ⟨fun _ j hj => absurd hj (Nat.not_lt_zero j), fun _ => rfl⟩
  | succ n ih =>
    have h1 := mm_v4 hf (s + n)
    have h2 := mm_v4 hg (t + n)
    show 4 * mm_V f s n + mm_v (f (s + n)) = 4 * mm_V g t n + mm_v (g (t + n)) ↔ _
    constructor
    · intro h j hj
      by_cases z : j < n
      · exact ih.mp (by omega) j z
      · have z2 : j = n := by omega
        rw [z2, h1.2, h2.2]
        exact congrArg nI (by omega)
    · intro h
      rw [ih.mpr (fun j hj => h j (by omega)), h n (by omega)]
theorem mm_Vadd (f : Nat → Int32) (s a : Nat) : ∀ b, mm_V f s (a + b) = mm_V f s a * 4 ^ b + mm_V f (s + a) b := by
  intro b
  induction b with
  | zero => show mm_V f s a = mm_V f s a * 4 ^ 0 + 0; rw [Nat.pow_zero, Nat.mul_one, Nat.add_zero]
  | succ b ih =>
    show 4 * mm_V f s (a + b) + mm_v (f (s + (a + b))) = mm_V f s a * 4 ^ (b + 1) + (4 * mm_V f (s + a) b + mm_v (f (s + a + b)))
    rw [ih, Nat.pow_succ, ← Nat.mul_assoc, Nat.add_assoc s a b]
    generalize mm_V f s a * 4 ^ b = y
    omega
theorem mm_Vsu {T P : Nat → Int32} (hT : mm_lt T) (hP : mm_lt P) {i p : Nat} (h : p ≤ i) : mm_V T 0 i % 4 ^ p = mm_V P 0 p ↔ mm_su T P i p := by
  obtain ⟨a, rfl⟩ : ∃ a, i = a + p := ⟨i - p, by omega⟩
  rw [mm_Vadd, Nat.zero_add, Nat.add_comm, Nat.add_mul_mod_self_right, Nat.mod_eq_of_lt (mm_Vlt hT a p), mm_Vinj hT hP]
  constructor
  · intro h
    exact ⟨a, by omega, fun j hj => by rw [h j hj, Nat.zero_add]⟩
  · rintro ⟨s, hs, h⟩ j hj
    have e : s = a := by omega
    rw [Nat.zero_add, ← h j hj, e]
theorem mm_Vmod {f : Nat → Int32} {i p : Nat} : (4 * (mm_V f 0 i % 4 ^ p) + mm_v (f i)) % 4 ^ p = mm_V f 0 (i + 1) % 4 ^ p := by
  show _ = (4 * mm_V f 0 i + mm_v (f (0 + i))) % 4 ^ p
  rw [Nat.zero_add, Nat.add_mod, Nat.mul_mod, Nat.mod_mod, ← Nat.mul_mod, ← Nat.add_mod]
/-! running prefixes -/
def mm_rp (T P : Nat → Int32) (p i : Nat) (R : Int32) : Prop := ∀ j, j < 32 → (bt R j = true ↔ j < p ∧ mm_su T P i (j + 1))
def mm_pp (P pp : Nat → Int32) (n : Nat) : Prop := ∀ c, c < 4 → ∀ j, j < 32 → (bt (pp c) j = true ↔ j < n ∧ P j = nI c)
theorem mm_rp0 {T P : Nat → Int32} {p : Nat} : mm_rp T P p 0 0 := fun j _ => ⟨fun h => by rw [b_0] at h; exact absurd h (by decide), fun h => by have := mm_suL h.2; omega⟩
theorem mm_b1 : ∀ j, j < 32 → bt 1 j = decide (j = 0) := by decide +kernel
theorem mm_rpS {T P pp : Nat → Int32} {p i c : Nat} {R : Int32} (h : mm_rp T P p i R) (hp : mm_pp P pp p) (hc : c < 4) (hT : T i = nI c) : mm_rp T P p (i + 1) (((R <<< ((1 : Int32) &&& 31)) ||| 1) &&& pp c) := by
  intro j hj
  have hs : bt (R <<< ((1 : Int32) &&& 31)) j = (decide (1 ≤ j) && bt R (j - 1)) := b_shl 1 (by omega) R hj
  rw [b_and, b_or, hs, mm_b1 j hj, Bool.and_eq_true, Bool.or_eq_true, Bool.and_eq_true, decide_eq_true_eq, decide_eq_true_eq, hp c hc j hj, mm_suS, hT]
  constructor
  · rintro ⟨h1, h2, h3⟩
    refine ⟨h2, ?_, h3.symm⟩
    rcases h1 with h1 | h1
    · have h4 := ((h (j - 1) (by omega)).mp h1.2).2
      have e : j - 1 + 1 = j := by omega
      rw [e] at h4
      exact h4
    · rw [h1]
      exact mm_su0 _ _ _
  · rintro ⟨h1, h2, h3⟩
    refine ⟨?_, h1, h3.symm⟩
    by_cases z : j = 0
    · exact Or.inr z
    · refine Or.inl ⟨by omega, (h (j - 1) (by omega)).mpr ⟨by omega, ?_⟩⟩
      have e : j - 1 + 1 = j := by omega
      rw [e]
      exact h2
theorem mm_pp0 {P pp : Nat → Int32} (h : ∀ c, c < 4 → pp c = 0) : mm_pp P pp 0 := fun c hc j _ => ⟨fun g => by rw [h c hc, b_0] at g; exact absurd g (by decide), fun g => absurd g.1 (Nat.not_lt_zero j)⟩
theorem mm_btO {x : Int32} {k j : Nat} (hk : k < 32) : bt (x ||| ((1 : Int32) <<< (nI k &&& 31))) j = true ↔ bt x j = true ∨ k = j := by
  rw [b_or, Bool.or_eq_true]
  have e : bt ((1 : Int32) <<< (nI k &&& 31)) j = true ↔ k = j := by
    unfold bt
    rw [nf_sh k hk, BitVec.getLsbD_twoPow, Bool.and_eq_true, decide_eq_true_eq, decide_eq_true_eq]
    exact ⟨fun h => h.2, fun h => ⟨hk, h⟩⟩
  rw [e]
theorem mm_ppS {P pp : Nat → Int32} {n l : Nat} (h : mm_pp P pp n) (hn : n < 32) (hl : l < 4) (hP : P n = nI l) : mm_pp P (upd pp l (pp l ||| ((1 : Int32) <<< (nI n &&& 31)))) (n + 1) := by
  intro c hc j hj
  by_cases e : c = l
  · subst e
    rw [pk_us, mm_btO hn, h c hc j hj]
    constructor
    · rintro (z | z)
      · exact ⟨by omega, z.2⟩
      · subst z
        exact ⟨by omega, hP⟩
    · intro z
      by_cases y : j < n
      · exact Or.inl ⟨y, z.2⟩
      · exact Or.inr (by omega)
  · rw [pk_un e, h c hc j hj]
    constructor
    · intro z
      exact ⟨by omega, z.2⟩
    · intro z
      refine ⟨?_, z.2⟩
      by_cases y : j = n
      · rw [y, hP] at z
        exact absurd ((nI_eq (by omega) (by omega)).mp z.2).symm e
      · omega
theorem mm_btW {x : Int32} {l : Nat} (hl : l < 32) : (x &&& ((1 : Int32) <<< (nI l &&& 31))) = 0 ↔ ¬ bt x l = true := by
  unfold bt
  rw [← Int32.toBitVec_inj, Int32.toBitVec_and, nf_sh l hl, BitVec.and_twoPow]
  show _ = 0#32 ↔ _
  cases hb : x.toBitVec.getLsbD l
  · simp
  · simp only [if_true, not_true_eq_false, iff_false]
    exact (by decide +kernel : ∀ l, l < 32 → BitVec.twoPow 32 l ≠ 0#32) l hl
/-! the automaton -/
def mm_dl (P : Nat → Int32) (p k c r : Nat) : Prop := (r = 0 ∨ ∃ q, r = q + 1 ∧ q < p ∧ mm_su P P k q ∧ P q = nI c) ∧ ∀ q, q < p → mm_su P P k q → P q = nI c → q + 1 ≤ r
def mm_D (P : Nat → Int32) (p : Nat) (tr : Nat → Int32) (k : Nat) : Prop := ∀ c, c < 4 → ∃ r, tr (k * 4 + c) = nI r ∧ mm_dl P p k c r
theorem mm_dlL {P : Nat → Int32} {p k c r : Nat} (h : mm_dl P p k c r) : r ≤ p ∧ r ≤ k + 1 := by
  rcases h.1 with h | ⟨q, h1, h2, h3, _⟩
  · omega
  · have := mm_suL h3
    omega
theorem mm_dl0 {P : Nat → Int32} {p c : Nat} (h : ¬ P 0 = nI c) : mm_dl P p 0 c 0 := ⟨Or.inl rfl, fun q _ h2 h3 => by
  have e : q = 0 := by have := mm_suL h2; omega
  rw [e] at h3
  exact absurd h3 h⟩
theorem mm_dlT {P : Nat → Int32} {p k c : Nat} (hk : k < p) (h : P k = nI c) : mm_dl P p k c (k + 1) := ⟨Or.inr ⟨k, rfl, hk, mm_suR P k, h⟩, fun q _ h2 _ => by have := mm_suL h2; omega⟩
theorem mm_dlF {P : Nat → Int32} {p k c x r : Nat} (hk : k ≤ p) (hk0 : 0 < k) (g : mm_gr P P k (k - 1) x) (h : mm_dl P p x c r) (hn : k < p → ¬ P k = nI c) : mm_dl P p k c r := by
  have hx := g.2.1
  refine ⟨?_, fun q h1 h2 h3 => ?_⟩
  · rcases h.1 with z | ⟨q, h1, h2, h3, h4⟩
    · exact Or.inl z
    · exact Or.inr ⟨q, h1, h2, (mm_suC g.1 (mm_suL h3)).mpr h3, h4⟩
  · have h4 := mm_suL h2
    have h5 : q ≠ k := by
      intro e
      rw [e] at h1 h3
      exact hn h1 h3
    have h6 := g.2.2 q h2 (by omega)
    exact h.2 q h1 ((mm_suC g.1 h6).mp h2) h3
theorem mm_dlX {P : Nat → Int32} {p k c x r : Nat} (hk : k < p) (hk0 : 0 < k) (g : mm_gr P P k (k - 1) x) (h : mm_dl P p x c r) (hP : P k = nI c) : mm_gr P P (k + 1) k r := by
  have hx := g.2.1
  refine ⟨?_, ?_, fun q h1 h2 => ?_⟩
  · rcases h.1 with z | ⟨q, h1, h2, h3, h4⟩
    · rw [z]
      exact mm_su0 _ _ _
    · rw [h1]
      exact mm_suS.mpr ⟨(mm_suC g.1 (mm_suL h3)).mpr h3, hP.trans h4.symm⟩
  · have := mm_dlL h
    omega
  · cases q with
    | zero => omega
    | succ q =>
      have h3 := mm_suS.mp h1
      have h4 := g.2.2 q h3.1 (by omega)
      exact h.2 q (by omega) ((mm_suC g.1 h4).mp h3.1) (h3.2.symm.trans hP)
theorem mm_dlN {T P : Nat → Int32} {p i c s r : Nat} (g : mm_gr T P i p s) (h : mm_dl P p s c r) (hT : T i = nI c) : mm_gr T P (i + 1) p r := by
  refine ⟨?_, (mm_dlL h).1, fun q h1 h2 => ?_⟩
  · rcases h.1 with z | ⟨q, h1, h2, h3, h4⟩
    · rw [z]
      exact mm_su0 _ _ _
    · rw [h1]
      exact mm_suS.mpr ⟨(mm_suC g.1 (mm_suL h3)).mpr h3, hT.trans h4.symm⟩
  · cases q with
    | zero => omega
    | succ q =>
      have h3 := mm_suS.mp h1
      have h4 := g.2.2 q h3.1 (by omega)
      exact h.2 q (by omega) ((mm_suC g.1 h4).mp h3.1) (h3.2.symm.trans hT)
/-! the letters' places in the text -/
def mm_tp (T : Nat → Int32) (tp : Nat → Int64) (n : Nat) : Prop := ∀ c, c < 4 → ∀ q, q < 64 → (mm_bl (tp c) q = true ↔ q < n ∧ T q = nI c)
theorem mm_tp0 {T : Nat → Int32} {tp : Nat → Int64} (h : ∀ c, c < 4 → tp c = 0) : mm_tp T tp 0 := fun c hc j _ => ⟨fun g => by rw [h c hc] at g; exact absurd g (mm_bl0 j), fun g => absurd g.1 (Nat.not_lt_zero j)⟩
theorem mm_tpS {T : Nat → Int32} {tp : Nat → Int64} {n l : Nat} (h : mm_tp T tp n) (hn : n < 64) (hl : l < 4) (hT : T n = nI l) : mm_tp T (vp_updL tp l (tp l ||| ((1 : Int64) <<< ((nI n).toInt64 &&& 63)))) (n + 1) := by
  intro c hc j hj
  by_cases e : c = l
  · subst e
    rw [pk_uLs, mm_blO hn, h c hc j hj]
    constructor
    · rintro (z | z)
      · exact ⟨by omega, z.2⟩
      · subst z
        exact ⟨by omega, hT⟩
    · intro z
      by_cases y : j < n
      · exact Or.inl ⟨y, z.2⟩
      · exact Or.inr (by omega)
  · rw [pk_uLn e, h c hc j hj]
    constructor
    · intro z
      exact ⟨by omega, z.2⟩
    · intro z
      refine ⟨?_, z.2⟩
      by_cases y : j = n
      · rw [y, hT] at z
        exact absurd ((nI_eq (by omega) (by omega)).mp z.2).symm e
      · omega
def mm_tw (T P : Nat → Int32) (m j : Nat) (w : Int64) : Prop := ∀ q, q < 64 → (mm_bl w q = true ↔ ∀ t, t < j → q + t < m ∧ T (q + t) = P t)
theorem mm_tw1 {T P : Nat → Int32} {tp : Nat → Int64} {m l : Nat} (h : mm_tp T tp m) (hl : l < 4) (hP : P 0 = nI l) : mm_tw T P m 1 (tp l) := by
  intro q hq
  rw [h l hl q hq]
  constructor
  · intro z t ht
    have e : t = 0 := by omega
    rw [e, hP]
    exact z
  · intro z
    have := z 0 (by omega)
    rw [hP] at this
    exact this
theorem mm_twS {T P : Nat → Int32} {tp : Nat → Int64} {m j l : Nat} {w : Int64} (h : mm_tw T P m j w) (ht : mm_tp T tp m) (hm : m ≤ 60) (hj : j < 64) (hl : l < 4) (hP : P j = nI l) : mm_tw T P m (j + 1) (w &&& ((tp l).toUInt64 >>> ((nI j).toInt64.toUInt64 &&& Int64.toUInt64 63)).toInt64) := by
  intro q hq
  rw [mm_blA, h q hq, mm_blsr hj]
  have hb : mm_bl (tp l) (j + q) = true ↔ q + j < m ∧ T (q + j) = P j := by
    by_cases z : j + q < 64
    · rw [ht l hl _ z, hP, Nat.add_comm j q]
    · have e : mm_bl (tp l) (j + q) = false := BitVec.getLsbD_of_ge _ _ (by omega)
      rw [e]
      exact ⟨fun h => absurd h (by decide), fun h => by omega⟩
  rw [hb]
  constructor
  · rintro ⟨h1, h2⟩ t ht
    by_cases y : t < j
    · exact h1 t y
    · have e : t = j := by omega
      rw [e]
      exact h2
  · intro z
    exact ⟨fun t ht => z t (by omega), z j (by omega)⟩
theorem mm_twE {T P : Nat → Int32} {m p : Nat} {w : Int64} (hp : 0 < p) (h : mm_tw T P m p w) : mm_pl T P m p w := by
  intro q hq
  rw [h q hq]
  constructor
  · intro z
    have := z (p - 1) (by omega)
    exact ⟨by omega, fun j hj => (z j hj).2⟩
  · intro z t ht
    exact ⟨by have := z.1; omega, z.2 t ht⟩
/-! prefix lengths -/
def mm_zv (J : Nat → Int32) (N i z : Nat) : Prop := i + z ≤ N ∧ (∀ j, j < z → J j = J (i + j)) ∧ (i + z < N → ¬ J z = J (i + z))
theorem mm_zIn {J : Nat → Int32} {N i s e z : Nat} (h1 : s < i) (h2 : i < e) (hs : ∀ j, j < e - s → J j = J (s + j)) (hz : mm_zv J N (i - s) z) (t : Nat) (ht : t ≤ z) (ht2 : t ≤ e - i) : ∀ j, j < t → J j = J (i + j) := by
  intro j hj
  rw [hz.2.1 j (by omega), hs (i - s + j) (by omega)]
  exact congrArg J (by omega)
theorem mm_zoc {T P J : Nat → Int32} {m p i z : Nat} (hT : mm_lt T) (hP : mm_lt P) (j1 : ∀ j, j < p → J j = P j) (j2 : J p = 4) (j3 : ∀ j, j < m → J (p + 1 + j) = T j) (hi : i + p ≤ m) (hz : mm_zv J (p + 1 + m) (p + 1 + i) z) : z = p ↔ mm_oc T P m p i := by
  have h4 : ∀ l, l < 4 → ¬ (4 : Int32) = nI l := by
    intro l hl e
    have := (nI_eq (a := 4) (b := l) (by omega) (by omega)).mp e
    omega
  constructor
  · intro e
    subst e
    refine ⟨hi, fun j hj => ?_⟩
    rw [← j1 j hj, hz.2.1 j hj, ← j3 (i + j) (by omega)]
    exact congrArg J (by omega)
  · intro h
    have h1 : ¬ z < p := by
      intro h1
      refine hz.2.2 (by omega) ?_
      rw [j1 z h1, ← h.2 z h1, ← j3 (i + z) (by omega)]
      exact congrArg J (by omega)
    have h2 : ¬ p < z := by
      intro h2
      have h3 := hz.2.1 p h2
      have h5 := hz.1
      obtain ⟨l, l1, l2⟩ := hT (i + p)
      rw [j2, show p + 1 + i + p = p + 1 + (i + p) from by omega, j3 (i + p) (by omega), l2] at h3
      exact h4 l l1 h3
    omega
/-! differences, counting -/
def mm_df (T P : Nat → Int32) (i : Nat) : Nat → Nat
  | 0 => 0
  | k + 1 => mm_df T P i k + (if T (i + k) = P k then 0 else 1)
theorem mm_dfT {T P : Nat → Int32} {i k : Nat} (h : T (i + k) = P k) : mm_df T P i (k + 1) = mm_df T P i k := by
  show mm_df T P i k + _ = _
  rw [if_pos h]
  rfl
theorem mm_dfF {T P : Nat → Int32} {i k : Nat} (h : ¬ T (i + k) = P k) : mm_df T P i (k + 1) = mm_df T P i k + 1 := by
  show mm_df T P i k + _ = _
  rw [if_neg h]
theorem mm_dfL (T P : Nat → Int32) (i : Nat) : ∀ k, mm_df T P i k ≤ k := by
  intro k
  induction k with
  | zero => exact Nat.le_refl _
  | succ k ih =>
    by_cases h : T (i + k) = P k
    · rw [mm_dfT h]; omega
    · rw [mm_dfF h]; omega
theorem mm_df0 {T P : Nat → Int32} {i : Nat} : ∀ k, mm_df T P i k = 0 ↔ ∀ j, j < k → T (i + j) = P j := by
  intro k
  induction k with
  | zero => exact ⟨fun _ j hj => absurd hj (Nat.not_lt_zero j), fun _ => rfl⟩
  | succ k ih =>
    by_cases h : T (i + k) = P k
    · rw [mm_dfT h, ih]
      exact ⟨fun z => lt_s z h, fun z j hj => z j (by omega)⟩
    · rw [mm_dfF h]
      exact ⟨fun z => by omega, fun z => absurd (z k (by omega)) h⟩
def mm_wr (T P : Nat → Int32) (m p i : Nat) : Nat := if i + p ≤ m then mm_df T P i p else 100
theorem mm_wrT {T P : Nat → Int32} {m p i : Nat} (h : i + p ≤ m) : mm_wr T P m p i = mm_df T P i p := if_pos h
theorem mm_wrF {T P : Nat → Int32} {m p i : Nat} (h : ¬ i + p ≤ m) : mm_wr T P m p i = 100 := if_neg h
theorem mm_wr0 {T P : Nat → Int32} {m p i : Nat} : mm_wr T P m p i = 0 ↔ mm_oc T P m p i := by
  by_cases h : i + p ≤ m
  · rw [mm_wrT h, mm_df0]
    exact ⟨fun z => ⟨h, z⟩, fun z => z.2⟩
  · rw [mm_wrF h]
    exact ⟨fun z => by omega, fun z => absurd z.1 h⟩
theorem mm_wrL {T P : Nat → Int32} {m p i : Nat} (hp : p ≤ 12) : mm_wr T P m p i ≤ 100 := by
  by_cases h : i + p ≤ m
  · rw [mm_wrT h]
    have := mm_dfL T P i p
    omega
  · rw [mm_wrF h]
    omega
def mm_f (T P : Nat → Int32) (m p e : Nat) (i : Nat) : Bool := decide (mm_wr T P m p i ≤ e)
theorem mm_fT {T P : Nat → Int32} {m p e i : Nat} : mm_f T P m p e i = true ↔ mm_wr T P m p i ≤ e := decide_eq_true_iff
theorem mm_f0 {T P : Nat → Int32} {m p i : Nat} : mm_f T P m p 0 i = true ↔ mm_oc T P m p i := by
  rw [mm_fT, Nat.le_zero, mm_wr0]
theorem mm_fB {T P : Nat → Int32} {m p e i : Nat} (he : e ≤ 3) (h : m < i + p) : mm_f T P m p e i = false := by
  apply ts_nt
  rw [mm_fT, mm_wrF (by omega)]
  omega
def mm_cn (f : Nat → Bool) : Nat → Nat
  | 0 => 0
  | n + 1 => mm_cn f n + (if f n = true then 1 else 0)
theorem mm_cnT {f : Nat → Bool} {n : Nat} (h : f n = true) : mm_cn f (n + 1) = mm_cn f n + 1 := by
  show mm_cn f n + _ = _
  rw [if_pos h]
theorem mm_cnF {f : Nat → Bool} {n : Nat} (h : ¬ f n = true) : mm_cn f (n + 1) = mm_cn f n := by
  show mm_cn f n + _ = _
  rw [if_neg h]
  rfl
theorem mm_cnL (f : Nat → Bool) : ∀ n, mm_cn f n ≤ n := by
  intro n
  induction n with
  | zero => exact Nat.le_refl _
  | succ n ih =>
    by_cases h : f n = true
    · rw [mm_cnT h]; omega
    · rw [mm_cnF h]; omega
theorem mm_cnK {f : Nat → Bool} {a : Nat} (h : ∀ i, a ≤ i → ¬ f i = true) : ∀ d, mm_cn f (a + d) = mm_cn f a := by
  intro d
  induction d with
  | zero => rfl
  | succ d ih => exact (mm_cnF (h (a + d) (by omega))).trans ih
theorem mm_cnM (f : Nat → Bool) (a : Nat) : ∀ d, mm_cn f a ≤ mm_cn f (a + d) := by
  intro d
  induction d with
  | zero => exact Nat.le_refl _
  | succ d ih =>
    by_cases h : f (a + d) = true
    · rw [show a + (d + 1) = a + d + 1 from rfl, mm_cnT h]; omega
    · rw [show a + (d + 1) = a + d + 1 from rfl, mm_cnF h]; exact ih
theorem mm_cnI {f : Nat → Bool} {a b : Nat} (ha : f a = true) (hb : f b = true) (h : mm_cn f a = mm_cn f b) : a = b := by
  have H : ∀ x y, x < y → f x = true → mm_cn f x < mm_cn f y := by
    intro x y hxy hx
    have h1 := mm_cnT hx
    have h2 := mm_cnM f (x + 1) (y - (x + 1))
    rw [show x + 1 + (y - (x + 1)) = y from by omega] at h2
    omega
  rcases Nat.lt_trichotomy a b with z | z | z
  · have := H a b z ha
    omega
  · exact z
  · have := H b a z hb
    omega
def mm_ga (f : Nat → Bool) (d : Nat) : Nat → Nat × Nat
  | 0 => (0, 0)
  | n + 1 => if (mm_ga f d n).2 ≤ n ∧ f n = true then ((mm_ga f d n).1 + 1, n + d) else mm_ga f d n
theorem mm_gaT {f : Nat → Bool} {d n : Nat} (h : (mm_ga f d n).2 ≤ n) (hf : f n = true) : mm_ga f d (n + 1) = ((mm_ga f d n).1 + 1, n + d) := if_pos ⟨h, hf⟩
theorem mm_gaF {f : Nat → Bool} {d n : Nat} (h : ¬ ((mm_ga f d n).2 ≤ n ∧ f n = true)) : mm_ga f d (n + 1) = mm_ga f d n := if_neg h
theorem mm_gaK {f : Nat → Bool} {e a : Nat} (h : ∀ i, a ≤ i → ¬ f i = true) : ∀ d, mm_ga f e (a + d) = mm_ga f e a := by
  intro d
  induction d with
  | zero => rfl
  | succ d ih => exact (mm_gaF (fun z => h (a + d) (by omega) z.2)).trans ih
theorem mm_gaL (f : Nat → Bool) (d : Nat) : ∀ n, (mm_ga f d n).1 ≤ n ∧ (mm_ga f d n).2 ≤ n + d := by
  intro n
  induction n with
  | zero => exact ⟨Nat.le_refl _, Nat.zero_le _⟩
  | succ n ih =>
    by_cases h : (mm_ga f d n).2 ≤ n ∧ f n = true
    · rw [mm_gaT h.1 h.2]
      exact ⟨by show (mm_ga f d n).1 + 1 ≤ n + 1; omega, by show n + d ≤ n + 1 + d; omega⟩
    · rw [mm_gaF h]
      omega
/-- the least from a on, or -1 -/
def mm_nx (f : Nat → Bool) (a : Nat) (r : Int32) : Prop := (∃ i, i ≤ 60 ∧ r = nI i ∧ a ≤ i ∧ f i = true ∧ ∀ j, a ≤ j → j < i → ¬ f j = true) ∨ (r = -1 ∧ ∀ j, a ≤ j → ¬ f j = true)
theorem mm_nxU {f : Nat → Bool} {a : Nat} {r s : Int32} (h : mm_nx f a r) (g : mm_nx f a s) : s = r := by
  rcases h with ⟨i, h0, h1, h2, h3, h4⟩ | ⟨h1, h2⟩
  · rcases g with ⟨j, g0, g1, g2, g3, g4⟩ | ⟨g1, g2⟩
    · have e : j = i := by
        rcases Nat.lt_trichotomy i j with z | z | z
        · exact absurd h3 (g4 i h2 z)
        · exact z.symm
        · exact absurd g3 (h4 j g2 z)
      rw [h1, g1, e]
    · exact absurd h3 (g2 i h2)
  · rcases g with ⟨j, g0, g1, g2, g3, g4⟩ | ⟨g1, g2⟩
    · exact absurd g3 (h2 j g2)
    · rw [h1, g1]
/-- the greatest below a, or -1 -/
def mm_ls (f : Nat → Bool) (a : Nat) (r : Int32) : Prop := (∃ i, r = nI i ∧ i < a ∧ f i = true ∧ ∀ j, i < j → j < a → ¬ f j = true) ∨ (r = -1 ∧ ∀ j, j < a → ¬ f j = true)
theorem mm_lsU {f : Nat → Bool} {a : Nat} {r s : Int32} (h : mm_ls f a r) (g : mm_ls f a s) : s = r := by
  rcases h with ⟨i, h1, h2, h3, h4⟩ | ⟨h1, h2⟩
  · rcases g with ⟨j, g1, g2, g3, g4⟩ | ⟨g1, g2⟩
    · have e : j = i := by
        rcases Nat.lt_trichotomy i j with z | z | z
        · exact absurd g3 (h4 j z g2)
        · exact z.symm
        · exact absurd h3 (g4 i z h2)
      rw [h1, g1, e]
    · exact absurd h3 (g2 i h2)
  · rcases g with ⟨j, g1, g2, g3, g4⟩ | ⟨g1, g2⟩
    · exact absurd g3 (h2 j g2)
    · rw [h1, g1]
/-- occurrence k, or -1 -/
def mm_kt (f : Nat → Bool) (k r : Int32) : Prop := (∃ i, i ≤ 60 ∧ r = nI i ∧ f i = true ∧ nI (mm_cn f i) = k) ∨ (r = -1 ∧ ∀ i, f i = true → ¬ nI (mm_cn f i) = k)
theorem mm_ktU {f : Nat → Bool} {k r s : Int32} (h : mm_kt f k r) (g : mm_kt f k s) : s = r := by
  rcases h with ⟨i, h0, h1, h2, h3⟩ | ⟨h1, h2⟩
  · rcases g with ⟨j, g0, g1, g2, g3⟩ | ⟨g1, g2⟩
    · have a1 := mm_cnL f i
      have a2 := mm_cnL f j
      have e : j = i := mm_cnI g2 h2 ((nI_eq (by omega) (by omega)).mp (g3.trans h3.symm))
      rw [h1, g1, e]
    · exact absurd h3 (g2 i h2)
  · rcases g with ⟨j, g0, g1, g2, g3⟩ | ⟨g1, g2⟩
    · exact absurd g3 (h2 j g2)
    · rw [h1, g1]
