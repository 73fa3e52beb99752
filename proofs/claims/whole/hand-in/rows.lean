section
/-! rows taken from the kit's rows to paste -/
theorem pk_us {f : Nat → Int32} {k : Nat} {x : Int32} : upd f k x k = x := if_pos rfl
theorem pk_un {f : Nat → Int32} {k j : Nat} {x : Int32} (h : j ≠ k) : upd f k x j = f j := if_neg h
theorem pk_uLs {f : Nat → Int64} {k : Nat} {x : Int64} : vp_updL f k x k = x := if_pos rfl
theorem pk_uLn {f : Nat → Int64} {k j : Nat} {x : Int64} (h : j ≠ k) : vp_updL f k x j = f j := if_neg h
theorem pk_sub {a b : Nat} (h : b ≤ a) : nI a - nI b = nI (a - b) := by
  obtain ⟨c, rfl⟩ : ∃ c, a = c + b := ⟨a - b, by omega⟩
  rw [← nI_add, Int32.add_sub_cancel, Nat.add_sub_cancel]
theorem pk_m1 (n : Nat) : nI (n + 1) + (-1) = nI n := by
  rw [← nI_1, Int32.add_assoc, show (1 : Int32) + (-1) = 0 from rfl, Int32.add_zero]
theorem pk_mul (a b : Nat) : nI a * nI b = nI (a * b) := (Int32.ofNat_mul a b).symm
theorem pk_sub_toInt {a b : Nat} (ha : a < 2 ^ 30) (hb : b < 2 ^ 30) : (nI a - nI b).toInt = (a : Int) - b := by
  rw [Int32.toInt_sub, nI_toInt (by omega), nI_toInt (by omega)]
  exact Int.bmod_eq_of_le (by omega) (by omega)
theorem pk_sneg {a b : Nat} (hb : b < 2 ^ 30) (h : a < b) : nI a - nI b < 0 := by
  rw [Int32.lt_iff_toInt_lt, pk_sub_toInt (by omega) hb, show (0 : Int32).toInt = 0 from by decide]
  omega
theorem pk_ix (x : Int32) {n : Nat} (hn : n < 2 ^ 31) : x < 0 ∨ nI n ≤ x ∨ ∃ j : Nat, j < n ∧ x = nI j := by
  by_cases h : x < 0
  · exact Or.inl h
  · obtain ⟨j, hj, rfl⟩ := nI_of h
    by_cases h2 : j < n
    · exact Or.inr (Or.inr ⟨j, h2, rfl⟩)
    · exact Or.inr (Or.inl (nI_le (by omega) hj))
theorem pk_le {x y : Int32} {A B : Prop} (a b : Nat) (f : a ≤ b → A) (g : b < a → B) (hx : x = nI a := by rfl) (hy : y = nI b := by rfl) (ha : a < 2 ^ 31 := by omega) (hb : b < 2 ^ 31 := by omega) : (x ≤ y → A) ∧ (¬ x ≤ y → B) := by
  subst hx hy
  rw [nI_leI ha hb]
  exact ⟨f, fun z => g (by omega)⟩
theorem pk_lt {x y : Int32} {A B : Prop} (a b : Nat) (f : a < b → A) (g : b ≤ a → B) (hx : x = nI a := by rfl) (hy : y = nI b := by rfl) (ha : a < 2 ^ 31 := by omega) (hb : b < 2 ^ 31 := by omega) : (x < y → A) ∧ (¬ x < y → B) := by
  subst hx hy
  rw [nI_ltI ha hb]
  exact ⟨f, fun z => g (by omega)⟩
theorem pk_eq {x y : Int32} {A B : Prop} (a b : Nat) (f : a = b → A) (g : a ≠ b → B) (hx : x = nI a := by rfl) (hy : y = nI b := by rfl) (ha : a < 2 ^ 31 := by omega) (hb : b < 2 ^ 31 := by omega) : (x = y → A) ∧ (¬ x = y → B) := by
  subst hx hy
  rw [nI_eq ha hb]
  exact ⟨f, g⟩
theorem pk_in {x : Int32} (n N : Nat) (h : n < N) (hx : x = nI n := by rfl) (hN : N < 2 ^ 31 := by omega) : vp_in x N := by
  subst hx
  exact vp_in_nI h hN
theorem pk_cl {x : Int32} (n : Nat) (hx : x = nI n := by rfl) (h : n < 2 ^ 31 := by omega) : x.toNatClampNeg = n := by
  subst hx
  exact nI_clamp h
theorem pk_tn {n : Nat} (h : n < 2 ^ 32) : (nI n).toBitVec.toNat = n := Nat.mod_eq_of_lt h
theorem pk_and (x : Int32) {m : Int32} (k : Nat) (hm : m.toBitVec.toNat = 2 ^ k - 1) : x &&& m = nI (x.toBitVec.toNat % 2 ^ k) := by
  apply Int32.toBitVec_inj.mp
  apply BitVec.eq_of_toNat_eq
  rw [Int32.toBitVec_and, BitVec.toNat_and, hm, Nat.and_two_pow_sub_one_eq_mod]
  show _ = (BitVec.ofNat 32 _).toNat
  rw [BitVec.toNat_ofNat]
  exact (Nat.mod_eq_of_lt (Nat.lt_of_le_of_lt (Nat.mod_le _ _) x.toBitVec.isLt)).symm
theorem pk_andN {n : Nat} (h : n < 2 ^ 32) {m : Int32} (k : Nat) (hm : m.toBitVec.toNat = 2 ^ k - 1) : nI n &&& m = nI (n % 2 ^ k) := by
  rw [pk_and _ k hm, pk_tn h]
theorem pk_shl (a s : Int32) (k : Nat) (hs : (s.toBitVec.smod 32).toNat = k) : (a <<< s).toBitVec.toNat = a.toBitVec.toNat * 2 ^ k % 2 ^ 32 := by
  show (a.toBitVec <<< (s.toBitVec.smod 32).toNat).toNat = _
  rw [hs, BitVec.toNat_shiftLeft, Nat.shiftLeft_eq]
theorem pk_shlN {n : Nat} (s : Int32) (k : Nat) (hs : (s.toBitVec.smod 32).toNat = k) (h : n * 2 ^ k < 2 ^ 32) : nI n <<< s = nI (n * 2 ^ k) := by
  apply Int32.toBitVec_inj.mp
  apply BitVec.eq_of_toNat_eq
  have hn : n < 2 ^ 32 := Nat.lt_of_le_of_lt (Nat.le_mul_of_pos_right n (Nat.two_pow_pos k)) h
  rw [pk_shl _ _ k hs, pk_tn hn, pk_tn h, Nat.mod_eq_of_lt h]
theorem pk_loop {σ : Type} (W : Nat → Nat → σ → Prop) (I : Nat → σ → Prop) (e i0 : Nat) (s : σ) (hi : i0 ≤ e) (h0 : I i0 s) (hx : ∀ n s, I e s → W (n + 1) e s)
    (hs : ∀ n i s, i < e → I i s → (∀ s', I (i + 1) s' → W n (i + 1) s') → W (n + 1) i s) : ∃ n, W n i0 s :=
  ⟨e + 1, loop_i W I e hx hs (e + 1) i0 s hi (by omega) h0⟩
theorem lp1 {A1 : Type} (W : Nat → A1 → Prop) (I : A1 → Prop) (μ : A1 → Nat) (hs : ∀ (n : Nat) (a1 : A1), I a1 → (∀ (b1 : A1), I b1 → μ b1 < μ a1 → W n b1) → W (n + 1) a1) (a1 : A1) (h : I a1) : ∃ n, W n a1 :=
  loop_m (σ := A1) (fun n s => W n s) (fun s => I s) (fun s => μ s) (fun n s hI hk => hs n s hI (fun b1 h9 hm => hk b1 h9 hm)) a1 h
theorem lp2 {A1 A2 : Type} (W : Nat → A1 → A2 → Prop) (I : A1 → A2 → Prop) (μ : A1 → A2 → Nat) (hs : ∀ (n : Nat) (a1 : A1) (a2 : A2), I a1 a2 → (∀ (b1 : A1) (b2 : A2), I b1 b2 → μ b1 b2 < μ a1 a2 → W n b1 b2) → W (n + 1) a1 a2) (a1 : A1) (a2 : A2) (h : I a1 a2) : ∃ n, W n a1 a2 :=
  loop_m (σ := A1 × A2) (fun n s => W n s.1 s.2) (fun s => I s.1 s.2) (fun s => μ s.1 s.2) (fun n s hI hk => hs n s.1 s.2 hI (fun b1 b2 h9 hm => hk (b1, b2) h9 hm)) (a1, a2) h
theorem lp3 {A1 A2 A3 : Type} (W : Nat → A1 → A2 → A3 → Prop) (I : A1 → A2 → A3 → Prop) (μ : A1 → A2 → A3 → Nat) (hs : ∀ (n : Nat) (a1 : A1) (a2 : A2) (a3 : A3), I a1 a2 a3 → (∀ (b1 : A1) (b2 : A2) (b3 : A3), I b1 b2 b3 → μ b1 b2 b3 < μ a1 a2 a3 → W n b1 b2 b3) → W (n + 1) a1 a2 a3) (a1 : A1) (a2 : A2) (a3 : A3) (h : I a1 a2 a3) : ∃ n, W n a1 a2 a3 :=
  loop_m (σ := A1 × A2 × A3) (fun n s => W n s.1 s.2.1 s.2.2) (fun s => I s.1 s.2.1 s.2.2) (fun s => μ s.1 s.2.1 s.2.2) (fun n s hI hk => hs n s.1 s.2.1 s.2.2 hI (fun b1 b2 b3 h9 hm => hk (b1, b2, b3) h9 hm)) (a1, a2, a3) h
theorem lp4 {A1 A2 A3 A4 : Type} (W : Nat → A1 → A2 → A3 → A4 → Prop) (I : A1 → A2 → A3 → A4 → Prop) (μ : A1 → A2 → A3 → A4 → Nat) (hs : ∀ (n : Nat) (a1 : A1) (a2 : A2) (a3 : A3) (a4 : A4), I a1 a2 a3 a4 → (∀ (b1 : A1) (b2 : A2) (b3 : A3) (b4 : A4), I b1 b2 b3 b4 → μ b1 b2 b3 b4 < μ a1 a2 a3 a4 → W n b1 b2 b3 b4) → W (n + 1) a1 a2 a3 a4) (a1 : A1) (a2 : A2) (a3 : A3) (a4 : A4) (h : I a1 a2 a3 a4) : ∃ n, W n a1 a2 a3 a4 :=
  loop_m (σ := A1 × A2 × A3 × A4) (fun n s => W n s.1 s.2.1 s.2.2.1 s.2.2.2) (fun s => I s.1 s.2.1 s.2.2.1 s.2.2.2) (fun s => μ s.1 s.2.1 s.2.2.1 s.2.2.2) (fun n s hI hk => hs n s.1 s.2.1 s.2.2.1 s.2.2.2 hI (fun b1 b2 b3 b4 h9 hm => hk (b1, b2, b3, b4) h9 hm)) (a1, a2, a3, a4) h
theorem lp5 {A1 A2 A3 A4 A5 : Type} (W : Nat → A1 → A2 → A3 → A4 → A5 → Prop) (I : A1 → A2 → A3 → A4 → A5 → Prop) (μ : A1 → A2 → A3 → A4 → A5 → Nat) (hs : ∀ (n : Nat) (a1 : A1) (a2 : A2) (a3 : A3) (a4 : A4) (a5 : A5), I a1 a2 a3 a4 a5 → (∀ (b1 : A1) (b2 : A2) (b3 : A3) (b4 : A4) (b5 : A5), I b1 b2 b3 b4 b5 → μ b1 b2 b3 b4 b5 < μ a1 a2 a3 a4 a5 → W n b1 b2 b3 b4 b5) → W (n + 1) a1 a2 a3 a4 a5) (a1 : A1) (a2 : A2) (a3 : A3) (a4 : A4) (a5 : A5) (h : I a1 a2 a3 a4 a5) : ∃ n, W n a1 a2 a3 a4 a5 :=
  loop_m (σ := A1 × A2 × A3 × A4 × A5) (fun n s => W n s.1 s.2.1 s.2.2.1 s.2.2.2.1 s.2.2.2.2) (fun s => I s.1 s.2.1 s.2.2.1 s.2.2.2.1 s.2.2.2.2) (fun s => μ s.1 s.2.1 s.2.2.1 s.2.2.2.1 s.2.2.2.2) (fun n s hI hk => hs n s.1 s.2.1 s.2.2.1 s.2.2.2.1 s.2.2.2.2 hI (fun b1 b2 b3 b4 b5 h9 hm => hk (b1, b2, b3, b4, b5) h9 hm)) (a1, a2, a3, a4, a5) h
theorem lp6 {A1 A2 A3 A4 A5 A6 : Type} (W : Nat → A1 → A2 → A3 → A4 → A5 → A6 → Prop) (I : A1 → A2 → A3 → A4 → A5 → A6 → Prop) (μ : A1 → A2 → A3 → A4 → A5 → A6 → Nat) (hs : ∀ (n : Nat) (a1 : A1) (a2 : A2) (a3 : A3) (a4 : A4) (a5 : A5) (a6 : A6), I a1 a2 a3 a4 a5 a6 → (∀ (b1 : A1) (b2 : A2) (b3 : A3) (b4 : A4) (b5 : A5) (b6 : A6), I b1 b2 b3 b4 b5 b6 → μ b1 b2 b3 b4 b5 b6 < μ a1 a2 a3 a4 a5 a6 → W n b1 b2 b3 b4 b5 b6) → W (n + 1) a1 a2 a3 a4 a5 a6) (a1 : A1) (a2 : A2) (a3 : A3) (a4 : A4) (a5 : A5) (a6 : A6) (h : I a1 a2 a3 a4 a5 a6) : ∃ n, W n a1 a2 a3 a4 a5 a6 :=
  loop_m (σ := A1 × A2 × A3 × A4 × A5 × A6) (fun n s => W n s.1 s.2.1 s.2.2.1 s.2.2.2.1 s.2.2.2.2.1 s.2.2.2.2.2) (fun s => I s.1 s.2.1 s.2.2.1 s.2.2.2.1 s.2.2.2.2.1 s.2.2.2.2.2) (fun s => μ s.1 s.2.1 s.2.2.1 s.2.2.2.1 s.2.2.2.2.1 s.2.2.2.2.2) (fun n s hI hk => hs n s.1 s.2.1 s.2.2.1 s.2.2.2.1 s.2.2.2.2.1 s.2.2.2.2.2 hI (fun b1 b2 b3 b4 b5 b6 h9 hm => hk (b1, b2, b3, b4, b5, b6) h9 hm)) (a1, a2, a3, a4, a5, a6) h
theorem lp7 {A1 A2 A3 A4 A5 A6 A7 : Type} (W : Nat → A1 → A2 → A3 → A4 → A5 → A6 → A7 → Prop) (I : A1 → A2 → A3 → A4 → A5 → A6 → A7 → Prop) (μ : A1 → A2 → A3 → A4 → A5 → A6 → A7 → Nat) (hs : ∀ (n : Nat) (a1 : A1) (a2 : A2) (a3 : A3) (a4 : A4) (a5 : A5) (a6 : A6) (a7 : A7), I a1 a2 a3 a4 a5 a6 a7 → (∀ (b1 : A1) (b2 : A2) (b3 : A3) (b4 : A4) (b5 : A5) (b6 : A6) (b7 : A7), I b1 b2 b3 b4 b5 b6 b7 → μ b1 b2 b3 b4 b5 b6 b7 < μ a1 a2 a3 a4 a5 a6 a7 → W n b1 b2 b3 b4 b5 b6 b7) → W (n + 1) a1 a2 a3 a4 a5 a6 a7) (a1 : A1) (a2 : A2) (a3 : A3) (a4 : A4) (a5 : A5) (a6 : A6) (a7 : A7) (h : I a1 a2 a3 a4 a5 a6 a7) : ∃ n, W n a1 a2 a3 a4 a5 a6 a7 :=
  loop_m (σ := A1 × A2 × A3 × A4 × A5 × A6 × A7) (fun n s => W n s.1 s.2.1 s.2.2.1 s.2.2.2.1 s.2.2.2.2.1 s.2.2.2.2.2.1 s.2.2.2.2.2.2) (fun s => I s.1 s.2.1 s.2.2.1 s.2.2.2.1 s.2.2.2.2.1 s.2.2.2.2.2.1 s.2.2.2.2.2.2) (fun s => μ s.1 s.2.1 s.2.2.1 s.2.2.2.1 s.2.2.2.2.1 s.2.2.2.2.2.1 s.2.2.2.2.2.2) (fun n s hI hk => hs n s.1 s.2.1 s.2.2.1 s.2.2.2.1 s.2.2.2.2.1 s.2.2.2.2.2.1 s.2.2.2.2.2.2 hI (fun b1 b2 b3 b4 b5 b6 b7 h9 hm => hk (b1, b2, b3, b4, b5, b6, b7) h9 hm)) (a1, a2, a3, a4, a5, a6, a7) h
theorem lp8 {A1 A2 A3 A4 A5 A6 A7 A8 : Type} (W : Nat → A1 → A2 → A3 → A4 → A5 → A6 → A7 → A8 → Prop) (I : A1 → A2 → A3 → A4 → A5 → A6 → A7 → A8 → Prop) (μ : A1 → A2 → A3 → A4 → A5 → A6 → A7 → A8 → Nat) (hs : ∀ (n : Nat) (a1 : A1) (a2 : A2) (a3 : A3) (a4 : A4) (a5 : A5) (a6 : A6) (a7 : A7) (a8 : A8), I a1 a2 a3 a4 a5 a6 a7 a8 → (∀ (b1 : A1) (b2 : A2) (b3 : A3) (b4 : A4) (b5 : A5) (b6 : A6) (b7 : A7) (b8 : A8), I b1 b2 b3 b4 b5 b6 b7 b8 → μ b1 b2 b3 b4 b5 b6 b7 b8 < μ a1 a2 a3 a4 a5 a6 a7 a8 → W n b1 b2 b3 b4 b5 b6 b7 b8) → W (n + 1) a1 a2 a3 a4 a5 a6 a7 a8) (a1 : A1) (a2 : A2) (a3 : A3) (a4 : A4) (a5 : A5) (a6 : A6) (a7 : A7) (a8 : A8) (h : I a1 a2 a3 a4 a5 a6 a7 a8) : ∃ n, W n a1 a2 a3 a4 a5 a6 a7 a8 :=
  loop_m (σ := A1 × A2 × A3 × A4 × A5 × A6 × A7 × A8) (fun n s => W n s.1 s.2.1 s.2.2.1 s.2.2.2.1 s.2.2.2.2.1 s.2.2.2.2.2.1 s.2.2.2.2.2.2.1 s.2.2.2.2.2.2.2) (fun s => I s.1 s.2.1 s.2.2.1 s.2.2.2.1 s.2.2.2.2.1 s.2.2.2.2.2.1 s.2.2.2.2.2.2.1 s.2.2.2.2.2.2.2) (fun s => μ s.1 s.2.1 s.2.2.1 s.2.2.2.1 s.2.2.2.2.1 s.2.2.2.2.2.1 s.2.2.2.2.2.2.1 s.2.2.2.2.2.2.2) (fun n s hI hk => hs n s.1 s.2.1 s.2.2.1 s.2.2.2.1 s.2.2.2.2.1 s.2.2.2.2.2.1 s.2.2.2.2.2.2.1 s.2.2.2.2.2.2.2 hI (fun b1 b2 b3 b4 b5 b6 b7 b8 h9 hm => hk (b1, b2, b3, b4, b5, b6, b7, b8) h9 hm)) (a1, a2, a3, a4, a5, a6, a7, a8) h
def bt (x : Int32) (i : Nat) : Bool := x.toBitVec.getLsbD i
theorem b_ext {x y : Int32} (h : ∀ i, i < 32 → bt x i = bt y i) : x = y := Int32.toBitVec_inj.mp (BitVec.eq_of_getLsbD_eq (fun i hi => h i hi))
theorem b_or (x y : Int32) (i : Nat) : bt (x ||| y) i = (bt x i || bt y i) := by unfold bt; rw [Int32.toBitVec_or, BitVec.getLsbD_or]
theorem b_and (x y : Int32) (i : Nat) : bt (x &&& y) i = (bt x i && bt y i) := by unfold bt; rw [Int32.toBitVec_and, BitVec.getLsbD_and]
theorem b_big {x : Int32} {i : Nat} (h : 32 ≤ i) : bt x i = false := BitVec.getLsbD_of_ge _ _ h
theorem b_0 (i : Nat) : bt 0 i = false := BitVec.getLsbD_zero
theorem s_l : ∀ n, n < 32 → ((nI n &&& 31).toBitVec.smod 32).toNat = n := by decide +kernel
theorem b_shl (n : Nat) (hn : n < 32) (x : Int32) {i : Nat} (hi : i < 32) : bt (x <<< (nI n &&& 31)) i = (decide (n ≤ i) && bt x (i - n)) := by
  unfold bt
  rw [Int32.toBitVec_shiftLeft]
  show (x.toBitVec <<< ((nI n &&& 31).toBitVec.smod 32).toNat).getLsbD i = _
  rw [s_l n hn, BitVec.getLsbD_shiftLeft]
  rcases Nat.lt_or_ge i n with h | h
  · simp [h, Nat.not_le.mpr h]
  · simp [hi, h, Nat.not_lt.mpr h]
theorem nf_sh : ∀ l, l < 32 → ((1 : Int32) <<< (nI l &&& 31)).toBitVec = BitVec.twoPow 32 l := by decide +kernel
theorem ts_nf {x : Bool} (h : ¬ x = false) : x = true := by cases x <;> first | rfl | exact absurd rfl h
theorem ts_nt {x : Bool} (h : ¬ x = true) : x = false := by cases x <;> first | rfl | exact absurd rfl h
theorem ts_bit {w : Int64} {s : UInt64} {j : Nat} (hj : j < 64) (hs : s.toNat = j) : ((w.toUInt64 >>> s).toInt64 &&& 1) = 0 ↔ w.toBitVec.getLsbD j = false := by
  have e : (w.toUInt64 >>> s).toInt64.toBitVec = w.toBitVec >>> j := by
    apply BitVec.eq_of_toNat_eq
    show (w.toUInt64 >>> s).toNat = _
    rw [UInt64.toNat_shiftRight, hs, Nat.mod_eq_of_lt hj, BitVec.toNat_ushiftRight]
    rfl
  rw [← Int64.toBitVec_inj, Int64.toBitVec_and, e]
  show w.toBitVec >>> j &&& 1#64 = 0#64 ↔ _
  constructor
  · intro h
    have t := congrArg (fun x => x.getLsbD 0) h
    simpa using t
  · intro h
    apply BitVec.eq_of_getLsbD_eq
    intro i hi
    cases i with
    | zero => simp [h]
    | succ i => simp
theorem wb_tb (n : Nat) : (lN n).toBitVec = BitVec.ofNat 64 n := rfl
theorem wb_inj {a b : Int64} (h : a.toBitVec = b.toBitVec) : a = b := Int64.toBitVec_inj.mp h
theorem wb_tn {n : Nat} (h : n < 2 ^ 64) : (lN n).toBitVec.toNat = n := by rw [wb_tb, BitVec.toNat_ofNat, Nat.mod_eq_of_lt h]
theorem wb_c : ∀ k, k < 64 → ((nI k).toInt64 &&& 63) = lN k := by decide +kernel
theorem wb_cu : ∀ k, k < 64 → ((nI k).toInt64.toUInt64 &&& Int64.toUInt64 63) = UInt64.ofNat k := by decide +kernel
theorem wb_sm : ∀ k, k < 64 → (BitVec.ofNat 64 k).smod 64 = BitVec.ofNat 64 k := by decide +kernel
theorem wb_shl (n : Nat) {k : Nat} (hk : k < 64) : lN n <<< ((nI k).toInt64 &&& 63) = lN (n * 2 ^ k) := by
  rw [wb_c k hk]
  apply wb_inj
  rw [Int64.toBitVec_shiftLeft, wb_tb, wb_tb, wb_tb, wb_sm k hk]
  apply BitVec.eq_of_toNat_eq
  rw [BitVec.shiftLeft_eq', BitVec.toNat_shiftLeft, BitVec.toNat_ofNat, BitVec.toNat_ofNat, BitVec.toNat_ofNat, Nat.mod_eq_of_lt (show k < 2 ^ 64 by omega), Nat.shiftLeft_eq, Nat.mul_mod, Nat.mod_mod, ← Nat.mul_mod]
end
section
/-! the mathematics, part 1: suffixes, borders, sets of places -/
/-- the first k letters of P are the last k of the first i letters of x -/
def mm_su (x P : Nat → Int32) (i k : Nat) : Prop := ∃ s, s + k = i ∧ ∀ j, j < k → x (s + j) = P j
theorem mm_su0 (x P : Nat → Int32) (i : Nat) : mm_su x P i 0 := ⟨i, rfl, fun j hj => absurd hj (Nat.not_lt_zero j)⟩
theorem mm_suL {x P : Nat → Int32} {i k : Nat} (h : mm_su x P i k) : k ≤ i := by
  obtain ⟨s, hs, _⟩ := h
  omega
theorem mm_suR (P : Nat → Int32) (i : Nat) : mm_su P P i i := ⟨0, Nat.zero_add i, fun j _ => by rw [Nat.zero_add]⟩
theorem mm_suS {x P : Nat → Int32} {i k : Nat} : mm_su x P (i + 1) (k + 1) ↔ mm_su x P i k ∧ x i = P k := by
  constructor
  · rintro ⟨s, hs, h⟩
    have e : s + k = i := by omega
    refine ⟨⟨s, e, fun j hj => h j (by omega)⟩, ?_⟩
    rw [← e]
    exact h k (by omega)
  · rintro ⟨⟨s, hs, h⟩, e⟩
    refine ⟨s, by omega, fun j hj => ?_⟩
    by_cases z : j < k
    · exact h j z
    · have z2 : j = k := by omega
      rw [z2, hs]
      exact e
theorem mm_suC {x P : Nat → Int32} {i q k : Nat} (h : mm_su x P i q) (hk : k ≤ q) : mm_su x P i k ↔ mm_su P P q k := by
  obtain ⟨s, hs, h⟩ := h
  constructor
  · rintro ⟨t, ht, g⟩
    refine ⟨q - k, by omega, fun j hj => ?_⟩
    rw [← h (q - k + j) (by omega), ← g j hj]
    exact congrArg x (by omega)
  · rintro ⟨r, hr, g⟩
    refine ⟨s + r, by omega, fun j hj => ?_⟩
    rw [← g j hj, ← h (r + j) (by omega), Nat.add_assoc]
/-- k is the greatest up to b -/
def mm_gr (x P : Nat → Int32) (i b k : Nat) : Prop := mm_su x P i k ∧ k ≤ b ∧ ∀ q, mm_su x P i q → q ≤ b → q ≤ k
theorem mm_grU {x P : Nat → Int32} {i b k l : Nat} (h : mm_gr x P i b k) (g : mm_gr x P i b l) : k = l := by
  have h1 := h.2.2 l g.1 g.2.1
  have h2 := g.2.2 k h.1 h.2.1
  omega
/-- bd holds the greatest borders of the first 1 .. q letters -/
def mm_bo (P bd : Nat → Int32) (q : Nat) : Prop := ∀ j, j < q → ∃ b, bd j = nI b ∧ mm_gr P P (j + 1) j b
def mm_ki (x P : Nat → Int32) (i k0 : Nat) (c : Int32) (k : Nat) : Prop := mm_su x P i k ∧ k ≤ k0 ∧ ∀ q, mm_su x P i q → q ≤ k0 → P q = c → q ≤ k
theorem mm_ki0 {x P : Nat → Int32} {i k0 : Nat} {c : Int32} (h : mm_su x P i k0) : mm_ki x P i k0 c k0 := ⟨h, Nat.le_refl _, fun _ _ g _ => g⟩
theorem mm_kis {x P : Nat → Int32} {i k0 k b : Nat} {c : Int32} (h : mm_ki x P i k0 c k) (hc : ¬ P k = c) (g : mm_gr P P k (k - 1) b) : mm_ki x P i k0 c b := by
  have hb : b ≤ k := by have := g.2.1; omega
  refine ⟨(mm_suC h.1 hb).mpr g.1, by have := h.2.1; omega, fun q h1 h2 h3 => ?_⟩
  have h4 := h.2.2 q h1 h2 h3
  have h5 : q ≠ k := fun e => hc (e ▸ h3)
  exact g.2.2 q ((mm_suC h.1 h4).mp h1) (by omega)
theorem mm_kit {x P : Nat → Int32} {i k0 k : Nat} {c : Int32} (h : mm_ki x P i k0 c k) (hx : x i = c) (hc : P k = c) : mm_gr x P (i + 1) (k0 + 1) (k + 1) := by
  refine ⟨mm_suS.mpr ⟨h.1, hx.trans hc.symm⟩, by have := h.2.1; omega, fun q h1 h2 => ?_⟩
  cases q with
  | zero => omega
  | succ q =>
    have h3 := mm_suS.mp h1
    have h4 := h.2.2 q h3.1 (by omega) (h3.2.symm.trans hx)
    omega
theorem mm_kif {x P : Nat → Int32} {i k0 : Nat} {c : Int32} (h : mm_ki x P i k0 c 0) (hx : x i = c) (hc : ¬ P 0 = c) : mm_gr x P (i + 1) (k0 + 1) 0 := by
  refine ⟨mm_su0 _ _ _, by omega, fun q h1 h2 => ?_⟩
  cases q with
  | zero => omega
  | succ q =>
    have h3 := mm_suS.mp h1
    have h4 := h.2.2 q h3.1 (by omega) (h3.2.symm.trans hx)
    have h5 : q = 0 := by omega
    rw [h5] at h3
    exact absurd (h3.2.symm.trans hx) hc
theorem mm_up {x P : Nat → Int32} {i p k r : Nat} (hp : 0 < p) (h : mm_gr x P i (p - 1) k) (g : mm_gr x P (i + 1) (k + 1) r) : mm_gr x P (i + 1) p r := by
  have hk := h.2.1
  refine ⟨g.1, by have := g.2.1; omega, fun q h1 h2 => ?_⟩
  cases q with
  | zero => omega
  | succ q =>
    have h3 := h.2.2 q (mm_suS.mp h1).1 (by omega)
    exact g.2.2 (q + 1) h1 (by omega)
theorem mm_grne {x P : Nat → Int32} {i p r : Nat} (h : mm_gr x P i p r) (hn : r ≠ p) : mm_gr x P i (p - 1) r ∧ ¬ mm_su x P i p := by
  have h1 := h.2.1
  refine ⟨⟨h.1, by omega, fun q h2 h3 => h.2.2 q h2 (by omega)⟩, fun h2 => ?_⟩
  have h3 := h.2.2 p h2 (Nat.le_refl _)
  omega
theorem mm_greq {x P : Nat → Int32} {i p b : Nat} (h : mm_su x P i p) (g : mm_gr P P p (p - 1) b) : mm_gr x P i (p - 1) b := by
  have h1 := g.2.1
  refine ⟨(mm_suC h (by omega)).mpr g.1, h1, fun q h2 h3 => g.2.2 q ((mm_suC h (by omega)).mp h2) h3⟩
theorem mm_boS {P bd : Nat → Int32} {j b r : Nat} (h : mm_bo P bd j) (hj : 0 < j) (g : mm_gr P P j (j - 1) b) (gr : mm_gr P P (j + 1) (b + 1) r) : mm_bo P (upd bd j (nI r)) (j + 1) := by
  intro t ht
  by_cases e : t = j
  · subst e
    exact ⟨r, pk_us, mm_up hj g gr⟩
  · rw [pk_un e]
    exact h t (by omega)
theorem mm_bo1 {P bd : Nat → Int32} : mm_bo P (upd bd 0 0) 1 := by
  intro t ht
  have e : t = 0 := by omega
  subst e
  exact ⟨0, pk_us, mm_su0 _ _ _, Nat.le_refl _, fun q _ h => h⟩
/-! occurrences, and sets of them -/
def mm_oc (T P : Nat → Int32) (m p i : Nat) : Prop := i + p ≤ m ∧ ∀ j, j < p → T (i + j) = P j
def mm_bl (w : Int64) (i : Nat) : Bool := w.toBitVec.getLsbD i
def mm_pl (T P : Nat → Int32) (m p : Nat) (w : Int64) : Prop := ∀ q, q < 64 → (mm_bl w q = true ↔ mm_oc T P m p q)
def mm_pt (T P : Nat → Int32) (m p b : Nat) (w : Int64) : Prop := ∀ q, q < 64 → (mm_bl w q = true ↔ q < b ∧ mm_oc T P m p q)
theorem mm_bl0 (i : Nat) : ¬ mm_bl 0 i = true := by
  have h : mm_bl 0 i = false := BitVec.getLsbD_zero
  rw [h]
  decide
theorem mm_sh : ∀ l, l < 64 → ((1 : Int64) <<< ((nI l).toInt64 &&& 63)).toBitVec = BitVec.twoPow 64 l := by decide +kernel
theorem mm_blO {w : Int64} {k q : Nat} (hk : k < 64) : mm_bl (w ||| ((1 : Int64) <<< ((nI k).toInt64 &&& 63))) q = true ↔ mm_bl w q = true ∨ k = q := by
  unfold mm_bl
  rw [Int64.toBitVec_or, BitVec.getLsbD_or, mm_sh k hk, BitVec.getLsbD_twoPow, Bool.or_eq_true, Bool.and_eq_true, decide_eq_true_eq, decide_eq_true_eq]
  constructor
  · rintro (h | h)
    · exact Or.inl h
    · exact Or.inr h.2
  · rintro (h | h)
    · exact Or.inl h
    · exact Or.inr ⟨hk, h⟩
theorem mm_plU {T P : Nat → Int32} {m p : Nat} {w z : Int64} (h : mm_pl T P m p w) (g : mm_pl T P m p z) : w = z := by
  apply Int64.toBitVec_inj.mp
  apply BitVec.eq_of_getLsbD_eq
  intro i hi
  exact Bool.eq_iff_iff.mpr ((h i hi).trans (g i hi).symm)
theorem mm_pl0 {T P : Nat → Int32} {p : Nat} (hp : 0 < p) : mm_pl T P 0 p 0 := fun q _ => ⟨fun h => absurd h (mm_bl0 q), fun h => by have := h.1; omega⟩
theorem mm_plS {T P : Nat → Int32} {i p : Nat} {w : Int64} (h : mm_pl T P i p w) (hi : i < 63) (hp : 0 < p) (s : mm_su T P (i + 1) p) : mm_pl T P (i + 1) p (w ||| ((1 : Int64) <<< ((nI (i + 1 - p)).toInt64 &&& 63))) := by
  obtain ⟨t, ht, g⟩ := s
  have e : i + 1 - p = t := by omega
  rw [e]
  intro q hq
  rw [mm_blO (by omega), h q hq]
  constructor
  · rintro (z | z)
    · exact ⟨by have := z.1; omega, z.2⟩
    · subst z
      exact ⟨by omega, g⟩
  · intro z
    by_cases y : q + p ≤ i
    · exact Or.inl ⟨y, z.2⟩
    · exact Or.inr (by have := z.1; omega)
theorem mm_plN {T P : Nat → Int32} {i p : Nat} {w : Int64} (h : mm_pl T P i p w) (s : ¬ mm_su T P (i + 1) p) : mm_pl T P (i + 1) p w := by
  intro q hq
  rw [h q hq]
  constructor
  · intro z
    exact ⟨by have := z.1; omega, z.2⟩
  · intro z
    by_cases y : q + p ≤ i
    · exact ⟨y, z.2⟩
    · exact absurd ⟨q, by have := z.1; omega, z.2⟩ s
theorem mm_pt0 {T P : Nat → Int32} {m p : Nat} : mm_pt T P m p 0 0 := fun q _ => ⟨fun h => absurd h (mm_bl0 q), fun h => by have := h.1; omega⟩
theorem mm_ptS {T P : Nat → Int32} {m p b : Nat} {w : Int64} (h : mm_pt T P m p b w) (hb : b < 64) (s : mm_oc T P m p b) : mm_pt T P m p (b + 1) (w ||| ((1 : Int64) <<< ((nI b).toInt64 &&& 63))) := by
  intro q hq
  rw [mm_blO hb, h q hq]
  constructor
  · rintro (z | z)
    · exact ⟨by omega, z.2⟩
    · subst z
      exact ⟨by omega, s⟩
  · intro z
    by_cases y : q < b
    · exact Or.inl ⟨y, z.2⟩
    · exact Or.inr (by have := z.1; omega)
theorem mm_ptK {T P : Nat → Int32} {m p b c : Nat} {w : Int64} (h : mm_pt T P m p b w) (hc : b ≤ c) (s : ∀ q, b ≤ q → q < c → ¬ mm_oc T P m p q) : mm_pt T P m p c w := by
  intro q hq
  rw [h q hq]
  constructor
  · intro z
    exact ⟨by omega, z.2⟩
  · intro z
    by_cases y : q < b
    · exact ⟨y, z.2⟩
    · exact absurd z.2 (s q (by omega) z.1)
theorem mm_ptN {T P : Nat → Int32} {m p b : Nat} {w : Int64} (h : mm_pt T P m p b w) (s : ¬ mm_oc T P m p b) : mm_pt T P m p (b + 1) w :=
  mm_ptK h (by omega) (fun q h1 h2 => by have e : q = b := by omega
                                         rw [e]; exact s)
theorem mm_ptE {T P : Nat → Int32} {m p b : Nat} {w : Int64} (h : mm_pt T P m p b w) (hb : m < b + p) : mm_pl T P m p w := by
  intro q hq
  rw [h q hq]
  exact ⟨fun z => z.2, fun z => ⟨by have := z.1; omega, z⟩⟩
theorem mm_has {w : Int64} {i : Nat} (hi : i < 64) : (((w.toUInt64 >>> ((nI i).toInt64.toUInt64 &&& Int64.toUInt64 63)).toInt64) &&& 1) = 0 ↔ ¬ mm_bl w i = true := by
  rw [wb_cu i hi, ts_bit hi (show (UInt64.ofNat i).toNat = i from by
    show (BitVec.ofNat 64 i).toNat = i
    rw [BitVec.toNat_ofNat, Nat.mod_eq_of_lt (by omega)])]
  unfold mm_bl
  rw [Bool.not_eq_true]
theorem mm_blsr {w : Int64} {k q : Nat} (hk : k < 64) : mm_bl ((w.toUInt64 >>> ((nI k).toInt64.toUInt64 &&& Int64.toUInt64 63)).toInt64) q = mm_bl w (k + q) := by
  rw [wb_cu k hk]
  have hs : (UInt64.ofNat k).toNat = k := by
    show (BitVec.ofNat 64 k).toNat = k
    rw [BitVec.toNat_ofNat, Nat.mod_eq_of_lt (by omega)]
  have e : (w.toUInt64 >>> UInt64.ofNat k).toInt64.toBitVec = w.toBitVec >>> k := by
    apply BitVec.eq_of_toNat_eq
    show (w.toUInt64 >>> UInt64.ofNat k).toNat = _
    rw [UInt64.toNat_shiftRight, hs, Nat.mod_eq_of_lt hk, BitVec.toNat_ushiftRight]
    rfl
  unfold mm_bl
  rw [e, BitVec.getLsbD_ushiftRight]
theorem mm_blA {w z : Int64} {q : Nat} : mm_bl (w &&& z) q = true ↔ mm_bl w q = true ∧ mm_bl z q = true := by
  unfold mm_bl
  rw [Int64.toBitVec_and, BitVec.getLsbD_and, Bool.and_eq_true]
theorem mm_allT : ∀ m, m < 61 → ∀ q, q < 64 → (mm_bl (((1 : Int64) <<< ((nI (m + 1)).toInt64 &&& 63)) - 1) q = decide (q ≤ m)) := by decide +kernel
theorem mm_plE {T P : Nat → Int32} {m : Nat} (hm : m ≤ 60) : mm_pl T P m 0 (((1 : Int64) <<< ((nI (m + 1)).toInt64 &&& 63)) - 1) := by
  intro q hq
  rw [mm_allT m (by omega) q hq, decide_eq_true_eq]
  exact ⟨fun h => ⟨h, fun j hj => absurd hj (Nat.not_lt_zero j)⟩, fun h => h.1⟩
theorem mm_plZ {T P : Nat → Int32} {m p : Nat} (h : m < p) : mm_pl T P m p 0 := fun q _ => ⟨fun h => absurd h (mm_bl0 q), fun h => by have := h.1; omega⟩
end
section
/-! the mathematics, part 2: shifts, numbers, running prefixes, the automaton, counting -/
/-- letters alone -/
def mm_lt (f : Nat → Int32) : Prop := ∀ i, ∃ l, l < 4 ∧ f i = nI l
/-- la holds bounds on the last places among the first n letters -/
def mm_la (P la : Nat → Int32) (n : Nat) : Prop := ∀ c, c < 4 → ∃ L, L ≤ n ∧ la c = nI L - 1 ∧ ∀ j, j < n → P j = nI c → j < L
theorem mm_la0 {P la : Nat → Int32} (h : ∀ c, c < 4 → la c = -1) : mm_la P la 0 := fun c hc => ⟨0, Nat.le_refl _, (h c hc).trans (by decide), fun j hj => absurd hj (Nat.not_lt_zero j)⟩
theorem mm_laS {P la : Nat → Int32} {n l : Nat} (h : mm_la P la n) (hl : P n = nI l) (hl4 : l < 4) : mm_la P (upd la l (nI n)) (n + 1) := by
  intro c hc
  by_cases e : c = l
  · subst e
    exact ⟨n + 1, Nat.le_refl _, by rw [pk_us, nI_pred], fun j hj _ => hj⟩
  · obtain ⟨L, h1, h2, h3⟩ := h c hc
    refine ⟨L, by omega, by rw [pk_un e]; exact h2, fun j hj g => ?_⟩
    by_cases z : j < n
    · exact h3 j z g
    · have z2 : j = n := by omega
      rw [z2, hl] at g
      exact absurd ((nI_eq (by omega) (by omega)).mp g).symm e
theorem mm_ring (a b : Int32) : a - (b - 1) = a + 1 - b := by grind
theorem mm_sh1 {e L : Nat} (h : L ≤ e + 1) : nI e - (nI L - 1) = nI (e + 1 - L) := by
  rw [mm_ring, nI_1, pk_sub h]
/-- the shift by the letter at place e of the pattern -/
theorem mm_skip {T P : Nat → Int32} {m p e b d L : Nat} {c : Nat} (hT : T (b + e) = nI c) (hL : ∀ j, j < e → j < p → P j = nI c → j < L) (h0 : 0 < d) (hd : d < e + 1 - L) (hp : e ≤ p) : ¬ mm_oc T P m p (b + d) := by
  intro h
  have h1 := h.2 (e - d) (by omega)
  have h2 : b + d + (e - d) = b + e := by omega
  rw [h2, hT] at h1
  have h3 := hL (e - d) (by omega) (by omega) h1.symm
  omega
/-- the good shifts when all from j1 on matched, and the one before did not -/
def mm_gd (P : Nat → Int32) (p j1 d : Nat) : Prop := (∀ j, j1 = j + 1 → d ≤ j → P (j - d) ≠ P j) ∧ ∀ k, j1 ≤ k → k < p → d ≤ k → P (k - d) = P k
theorem mm_gdS {T P : Nat → Int32} {m p j1 d b : Nat} (hj : j1 ≤ p) (hm : ∀ k, j1 ≤ k → k < p → T (b + k) = P k) (hn : ∀ j, j1 = j + 1 → T (b + j) ≠ P j) (h : mm_oc T P m p (b + d)) : mm_gd P p j1 d := by
  refine ⟨fun j e hd z => hn j e ?_, fun k h1 h2 h3 => ?_⟩
  · rw [← z, ← h.2 (j - d) (by omega)]
    exact congrArg T (by omega)
  · rw [← hm k h1 h2, ← h.2 (k - d) (by omega)]
    exact congrArg T (by omega)
/-- shifts of the suffixes -/
def mm_sd (P : Nat → Int32) (p j1 d : Nat) : Prop := 1 ≤ d ∧ d ≤ p ∧ ∀ t, 1 ≤ t → t < d → ¬ mm_gd P p j1 t
def mm_ss (P ss : Nat → Int32) (p n : Nat) : Prop := ∀ j1, j1 < n → ∃ d, ss j1 = nI d ∧ mm_sd P p j1 d
theorem mm_ssS {P ss : Nat → Int32} {p n d : Nat} (h : mm_ss P ss p n) (g : mm_sd P p n d) : mm_ss P (upd ss n (nI d)) p (n + 1) := by
  intro j1 hj
  by_cases e : j1 = n
  · subst e
    exact ⟨d, pk_us, g⟩
  · rw [pk_un e]
    exact h j1 (by omega)
/-! numbers of letters -/
def mm_v (x : Int32) : Nat := x.toNatClampNeg
theorem mm_vI {l : Nat} (h : l < 4) : mm_v (nI l) = l := nI_clamp (by omega)
theorem mm_v4 {f : Nat → Int32} (h : mm_lt f) (i : Nat) : mm_v (f i) < 4 ∧ f i = nI (mm_v (f i)) := by
  obtain ⟨l, h1, h2⟩ := h i
  rw [h2, mm_vI h1]
  exact ⟨h1, rfl⟩
def mm_V (f : Nat → Int32) (s : Nat) : Nat → Nat
  | 0 => 0
  | n + 1 => 4 * mm_V f s n + mm_v (f (s + n))
theorem mm_Vlt {f : Nat → Int32} (h : mm_lt f) (s : Nat) : ∀ n, mm_V f s n < 4 ^ n := by
  intro n
  induction n with
  | zero => exact Nat.one_pos
  | succ n ih =>
    have h1 := (mm_v4 h (s + n)).1
    show 4 * mm_V f s n + mm_v (f (s + n)) < 4 ^ (n + 1)
    rw [Nat.pow_succ]
    omega
theorem mm_Vinj {f g : Nat → Int32} (hf : mm_lt f) (hg : mm_lt g) (s t : Nat) : ∀ n, mm_V f s n = mm_V g t n ↔ ∀ j, j < n → f (s + j) = g (t + j) := by
  intro n
  induction n with
  | zero => exact ⟨fun _ j hj => absurd hj (Nat.not_lt_zero j), fun _ => rfl⟩
  | succ n ih =>
    have h1 := mm_v4 hf (s + n)
    have h2 := mm_v4 hg (t + n)
    show 4 * mm_V f s n + mm_v (f (s + n)) = 4 * mm_V g t n + mm_v (g (t + n)) ↔ _
    constructor
    · intro h j hj
      by_cases z : j < n
      · exact ih.mp (by omega) j z
      · have z2 : j = n := by omega
        rw [z2, h1.2, h2.2]
        exact congrArg nI (by omega)
    · intro h
      rw [ih.mpr (fun j hj => h j (by omega)), h n (by omega)]
theorem mm_Vadd (f : Nat → Int32) (s a : Nat) : ∀ b, mm_V f s (a + b) = mm_V f s a * 4 ^ b + mm_V f (s + a) b := by
  intro b
  induction b with
  | zero => show mm_V f s a = mm_V f s a * 4 ^ 0 + 0; rw [Nat.pow_zero, Nat.mul_one, Nat.add_zero]
  | succ b ih =>
    show 4 * mm_V f s (a + b) + mm_v (f (s + (a + b))) = mm_V f s a * 4 ^ (b + 1) + (4 * mm_V f (s + a) b + mm_v (f (s + a + b)))
    rw [ih, Nat.pow_succ, ← Nat.mul_assoc, Nat.add_assoc s a b]
    generalize mm_V f s a * 4 ^ b = y
    omega
theorem mm_Vsu {T P : Nat → Int32} (hT : mm_lt T) (hP : mm_lt P) {i p : Nat} (h : p ≤ i) : mm_V T 0 i % 4 ^ p = mm_V P 0 p ↔ mm_su T P i p := by
  obtain ⟨a, rfl⟩ : ∃ a, i = a + p := ⟨i - p, by omega⟩
  rw [mm_Vadd, Nat.zero_add, Nat.add_comm, Nat.add_mul_mod_self_right, Nat.mod_eq_of_lt (mm_Vlt hT a p), mm_Vinj hT hP]
  constructor
  · intro h
    exact ⟨a, by omega, fun j hj => by rw [h j hj, Nat.zero_add]⟩
  · rintro ⟨s, hs, h⟩ j hj
    have e : s = a := by omega
    rw [Nat.zero_add, ← h j hj, e]
theorem mm_Vmod {f : Nat → Int32} {i p : Nat} : (4 * (mm_V f 0 i % 4 ^ p) + mm_v (f i)) % 4 ^ p = mm_V f 0 (i + 1) % 4 ^ p := by
  show _ = (4 * mm_V f 0 i + mm_v (f (0 + i))) % 4 ^ p
  rw [Nat.zero_add, Nat.add_mod, Nat.mul_mod, Nat.mod_mod, ← Nat.mul_mod, ← Nat.add_mod]
/-! running prefixes -/
def mm_rp (T P : Nat → Int32) (p i : Nat) (R : Int32) : Prop := ∀ j, j < 32 → (bt R j = true ↔ j < p ∧ mm_su T P i (j + 1))
def mm_pp (P pp : Nat → Int32) (n : Nat) : Prop := ∀ c, c < 4 → ∀ j, j < 32 → (bt (pp c) j = true ↔ j < n ∧ P j = nI c)
theorem mm_rp0 {T P : Nat → Int32} {p : Nat} : mm_rp T P p 0 0 := fun j _ => ⟨fun h => by rw [b_0] at h; exact absurd h (by decide), fun h => by have := mm_suL h.2; omega⟩
theorem mm_b1 : ∀ j, j < 32 → bt 1 j = decide (j = 0) := by decide +kernel
theorem mm_rpS {T P pp : Nat → Int32} {p i c : Nat} {R : Int32} (h : mm_rp T P p i R) (hp : mm_pp P pp p) (hc : c < 4) (hT : T i = nI c) : mm_rp T P p (i + 1) (((R <<< ((1 : Int32) &&& 31)) ||| 1) &&& pp c) := by
  intro j hj
  have hs : bt (R <<< ((1 : Int32) &&& 31)) j = (decide (1 ≤ j) && bt R (j - 1)) := b_shl 1 (by omega) R hj
  rw [b_and, b_or, hs, mm_b1 j hj, Bool.and_eq_true, Bool.or_eq_true, Bool.and_eq_true, decide_eq_true_eq, decide_eq_true_eq, hp c hc j hj, mm_suS, hT]
  constructor
  · rintro ⟨h1, h2, h3⟩
    refine ⟨h2, ?_, h3.symm⟩
    rcases h1 with h1 | h1
    · have h4 := ((h (j - 1) (by omega)).mp h1.2).2
      have e : j - 1 + 1 = j := by omega
      rw [e] at h4
      exact h4
    · rw [h1]
      exact mm_su0 _ _ _
  · rintro ⟨h1, h2, h3⟩
    refine ⟨?_, h1, h3.symm⟩
    by_cases z : j = 0
    · exact Or.inr z
    · refine Or.inl ⟨by omega, (h (j - 1) (by omega)).mpr ⟨by omega, ?_⟩⟩
      have e : j - 1 + 1 = j := by omega
      rw [e]
      exact h2
theorem mm_pp0 {P pp : Nat → Int32} (h : ∀ c, c < 4 → pp c = 0) : mm_pp P pp 0 := fun c hc j _ => ⟨fun g => by rw [h c hc, b_0] at g; exact absurd g (by decide), fun g => absurd g.1 (Nat.not_lt_zero j)⟩
theorem mm_btO {x : Int32} {k j : Nat} (hk : k < 32) : bt (x ||| ((1 : Int32) <<< (nI k &&& 31))) j = true ↔ bt x j = true ∨ k = j := by
  rw [b_or, Bool.or_eq_true]
  have e : bt ((1 : Int32) <<< (nI k &&& 31)) j = true ↔ k = j := by
    unfold bt
    rw [nf_sh k hk, BitVec.getLsbD_twoPow, Bool.and_eq_true, decide_eq_true_eq, decide_eq_true_eq]
    exact ⟨fun h => h.2, fun h => ⟨hk, h⟩⟩
  rw [e]
theorem mm_ppS {P pp : Nat → Int32} {n l : Nat} (h : mm_pp P pp n) (hn : n < 32) (hl : l < 4) (hP : P n = nI l) : mm_pp P (upd pp l (pp l ||| ((1 : Int32) <<< (nI n &&& 31)))) (n + 1) := by
  intro c hc j hj
  by_cases e : c = l
  · subst e
    rw [pk_us, mm_btO hn, h c hc j hj]
    constructor
    · rintro (z | z)
      · exact ⟨by omega, z.2⟩
      · subst z
        exact ⟨by omega, hP⟩
    · intro z
      by_cases y : j < n
      · exact Or.inl ⟨y, z.2⟩
      · exact Or.inr (by omega)
  · rw [pk_un e, h c hc j hj]
    constructor
    · intro z
      exact ⟨by omega, z.2⟩
    · intro z
      refine ⟨?_, z.2⟩
      by_cases y : j = n
      · rw [y, hP] at z
        exact absurd ((nI_eq (by omega) (by omega)).mp z.2).symm e
      · omega
theorem mm_btW {x : Int32} {l : Nat} (hl : l < 32) : (x &&& ((1 : Int32) <<< (nI l &&& 31))) = 0 ↔ ¬ bt x l = true := by
  unfold bt
  rw [← Int32.toBitVec_inj, Int32.toBitVec_and, nf_sh l hl, BitVec.and_twoPow]
  show _ = 0#32 ↔ _
  cases hb : x.toBitVec.getLsbD l
  · simp
  · simp only [if_true, not_true_eq_false, iff_false]
    exact (by decide +kernel : ∀ l, l < 32 → BitVec.twoPow 32 l ≠ 0#32) l hl
/-! the automaton -/
def mm_dl (P : Nat → Int32) (p k c r : Nat) : Prop := (r = 0 ∨ ∃ q, r = q + 1 ∧ q < p ∧ mm_su P P k q ∧ P q = nI c) ∧ ∀ q, q < p → mm_su P P k q → P q = nI c → q + 1 ≤ r
def mm_D (P : Nat → Int32) (p : Nat) (tr : Nat → Int32) (k : Nat) : Prop := ∀ c, c < 4 → ∃ r, tr (k * 4 + c) = nI r ∧ mm_dl P p k c r
theorem mm_dlL {P : Nat → Int32} {p k c r : Nat} (h : mm_dl P p k c r) : r ≤ p ∧ r ≤ k + 1 := by
  rcases h.1 with h | ⟨q, h1, h2, h3, _⟩
  · omega
  · have := mm_suL h3
    omega
theorem mm_dl0 {P : Nat → Int32} {p c : Nat} (h : ¬ P 0 = nI c) : mm_dl P p 0 c 0 := ⟨Or.inl rfl, fun q _ h2 h3 => by
  have e : q = 0 := by have := mm_suL h2; omega
  rw [e] at h3
  exact absurd h3 h⟩
theorem mm_dlT {P : Nat → Int32} {p k c : Nat} (hk : k < p) (h : P k = nI c) : mm_dl P p k c (k + 1) := ⟨Or.inr ⟨k, rfl, hk, mm_suR P k, h⟩, fun q _ h2 _ => by have := mm_suL h2; omega⟩
theorem mm_dlF {P : Nat → Int32} {p k c x r : Nat} (hk : k ≤ p) (hk0 : 0 < k) (g : mm_gr P P k (k - 1) x) (h : mm_dl P p x c r) (hn : k < p → ¬ P k = nI c) : mm_dl P p k c r := by
  have hx := g.2.1
  refine ⟨?_, fun q h1 h2 h3 => ?_⟩
  · rcases h.1 with z | ⟨q, h1, h2, h3, h4⟩
    · exact Or.inl z
    · exact Or.inr ⟨q, h1, h2, (mm_suC g.1 (mm_suL h3)).mpr h3, h4⟩
  · have h4 := mm_suL h2
    have h5 : q ≠ k := by
      intro e
      rw [e] at h1 h3
      exact hn h1 h3
    have h6 := g.2.2 q h2 (by omega)
    exact h.2 q h1 ((mm_suC g.1 h6).mp h2) h3
theorem mm_dlX {P : Nat → Int32} {p k c x r : Nat} (hk : k < p) (hk0 : 0 < k) (g : mm_gr P P k (k - 1) x) (h : mm_dl P p x c r) (hP : P k = nI c) : mm_gr P P (k + 1) k r := by
  have hx := g.2.1
  refine ⟨?_, ?_, fun q h1 h2 => ?_⟩
  · rcases h.1 with z | ⟨q, h1, h2, h3, h4⟩
    · rw [z]
      exact mm_su0 _ _ _
    · rw [h1]
      exact mm_suS.mpr ⟨(mm_suC g.1 (mm_suL h3)).mpr h3, hP.trans h4.symm⟩
  · have := mm_dlL h
    omega
  · cases q with
    | zero => omega
    | succ q =>
      have h3 := mm_suS.mp h1
      have h4 := g.2.2 q h3.1 (by omega)
      exact h.2 q (by omega) ((mm_suC g.1 h4).mp h3.1) (h3.2.symm.trans hP)
theorem mm_dlN {T P : Nat → Int32} {p i c s r : Nat} (g : mm_gr T P i p s) (h : mm_dl P p s c r) (hT : T i = nI c) : mm_gr T P (i + 1) p r := by
  refine ⟨?_, (mm_dlL h).1, fun q h1 h2 => ?_⟩
  · rcases h.1 with z | ⟨q, h1, h2, h3, h4⟩
    · rw [z]
      exact mm_su0 _ _ _
    · rw [h1]
      exact mm_suS.mpr ⟨(mm_suC g.1 (mm_suL h3)).mpr h3, hT.trans h4.symm⟩
  · cases q with
    | zero => omega
    | succ q =>
      have h3 := mm_suS.mp h1
      have h4 := g.2.2 q h3.1 (by omega)
      exact h.2 q (by omega) ((mm_suC g.1 h4).mp h3.1) (h3.2.symm.trans hT)
/-! the letters' places in the text -/
def mm_tp (T : Nat → Int32) (tp : Nat → Int64) (n : Nat) : Prop := ∀ c, c < 4 → ∀ q, q < 64 → (mm_bl (tp c) q = true ↔ q < n ∧ T q = nI c)
theorem mm_tp0 {T : Nat → Int32} {tp : Nat → Int64} (h : ∀ c, c < 4 → tp c = 0) : mm_tp T tp 0 := fun c hc j _ => ⟨fun g => by rw [h c hc] at g; exact absurd g (mm_bl0 j), fun g => absurd g.1 (Nat.not_lt_zero j)⟩
theorem mm_tpS {T : Nat → Int32} {tp : Nat → Int64} {n l : Nat} (h : mm_tp T tp n) (hn : n < 64) (hl : l < 4) (hT : T n = nI l) : mm_tp T (vp_updL tp l (tp l ||| ((1 : Int64) <<< ((nI n).toInt64 &&& 63)))) (n + 1) := by
  intro c hc j hj
  by_cases e : c = l
  · subst e
    rw [pk_uLs, mm_blO hn, h c hc j hj]
    constructor
    · rintro (z | z)
      · exact ⟨by omega, z.2⟩
      · subst z
        exact ⟨by omega, hT⟩
    · intro z
      by_cases y : j < n
      · exact Or.inl ⟨y, z.2⟩
      · exact Or.inr (by omega)
  · rw [pk_uLn e, h c hc j hj]
    constructor
    · intro z
      exact ⟨by omega, z.2⟩
    · intro z
      refine ⟨?_, z.2⟩
      by_cases y : j = n
      · rw [y, hT] at z
        exact absurd ((nI_eq (by omega) (by omega)).mp z.2).symm e
      · omega
def mm_tw (T P : Nat → Int32) (m j : Nat) (w : Int64) : Prop := ∀ q, q < 64 → (mm_bl w q = true ↔ ∀ t, t < j → q + t < m ∧ T (q + t) = P t)
theorem mm_tw1 {T P : Nat → Int32} {tp : Nat → Int64} {m l : Nat} (h : mm_tp T tp m) (hl : l < 4) (hP : P 0 = nI l) : mm_tw T P m 1 (tp l) := by
  intro q hq
  rw [h l hl q hq]
  constructor
  · intro z t ht
    have e : t = 0 := by omega
    rw [e, hP]
    exact z
  · intro z
    have := z 0 (by omega)
    rw [hP] at this
    exact this
theorem mm_twS {T P : Nat → Int32} {tp : Nat → Int64} {m j l : Nat} {w : Int64} (h : mm_tw T P m j w) (ht : mm_tp T tp m) (hm : m ≤ 60) (hj : j < 64) (hl : l < 4) (hP : P j = nI l) : mm_tw T P m (j + 1) (w &&& ((tp l).toUInt64 >>> ((nI j).toInt64.toUInt64 &&& Int64.toUInt64 63)).toInt64) := by
  intro q hq
  rw [mm_blA, h q hq, mm_blsr hj]
  have hb : mm_bl (tp l) (j + q) = true ↔ q + j < m ∧ T (q + j) = P j := by
    by_cases z : j + q < 64
    · rw [ht l hl _ z, hP, Nat.add_comm j q]
    · have e : mm_bl (tp l) (j + q) = false := BitVec.getLsbD_of_ge _ _ (by omega)
      rw [e]
      exact ⟨fun h => absurd h (by decide), fun h => by omega⟩
  rw [hb]
  constructor
  · rintro ⟨h1, h2⟩ t ht
    by_cases y : t < j
    · exact h1 t y
    · have e : t = j := by omega
      rw [e]
      exact h2
  · intro z
    exact ⟨fun t ht => z t (by omega), z j (by omega)⟩
theorem mm_twE {T P : Nat → Int32} {m p : Nat} {w : Int64} (hp : 0 < p) (h : mm_tw T P m p w) : mm_pl T P m p w := by
  intro q hq
  rw [h q hq]
  constructor
  · intro z
    have := z (p - 1) (by omega)
    exact ⟨by omega, fun j hj => (z j hj).2⟩
  · intro z t ht
    exact ⟨by have := z.1; omega, z.2 t ht⟩
/-! prefix lengths -/
def mm_zv (J : Nat → Int32) (N i z : Nat) : Prop := i + z ≤ N ∧ (∀ j, j < z → J j = J (i + j)) ∧ (i + z < N → ¬ J z = J (i + z))
theorem mm_zIn {J : Nat → Int32} {N i s e z : Nat} (h1 : s < i) (h2 : i < e) (hs : ∀ j, j < e - s → J j = J (s + j)) (hz : mm_zv J N (i - s) z) (t : Nat) (ht : t ≤ z) (ht2 : t ≤ e - i) : ∀ j, j < t → J j = J (i + j) := by
  intro j hj
  rw [hz.2.1 j (by omega), hs (i - s + j) (by omega)]
  exact congrArg J (by omega)
theorem mm_zoc {T P J : Nat → Int32} {m p i z : Nat} (hT : mm_lt T) (hP : mm_lt P) (j1 : ∀ j, j < p → J j = P j) (j2 : J p = 4) (j3 : ∀ j, j < m → J (p + 1 + j) = T j) (hi : i + p ≤ m) (hz : mm_zv J (p + 1 + m) (p + 1 + i) z) : z = p ↔ mm_oc T P m p i := by
  have h4 : ∀ l, l < 4 → ¬ (4 : Int32) = nI l := by
    intro l hl e
    have := (nI_eq (a := 4) (b := l) (by omega) (by omega)).mp e
    omega
  constructor
  · intro e
    subst e
    refine ⟨hi, fun j hj => ?_⟩
    rw [← j1 j hj, hz.2.1 j hj, ← j3 (i + j) (by omega)]
    exact congrArg J (by omega)
  · intro h
    have h1 : ¬ z < p := by
      intro h1
      refine hz.2.2 (by omega) ?_
      rw [j1 z h1, ← h.2 z h1, ← j3 (i + z) (by omega)]
      exact congrArg J (by omega)
    have h2 : ¬ p < z := by
      intro h2
      have h3 := hz.2.1 p h2
      have h5 := hz.1
      obtain ⟨l, l1, l2⟩ := hT (i + p)
      rw [j2, show p + 1 + i + p = p + 1 + (i + p) from by omega, j3 (i + p) (by omega), l2] at h3
      exact h4 l l1 h3
    omega
/-! differences, counting -/
def mm_df (T P : Nat → Int32) (i : Nat) : Nat → Nat
  | 0 => 0
  | k + 1 => mm_df T P i k + (if T (i + k) = P k then 0 else 1)
theorem mm_dfT {T P : Nat → Int32} {i k : Nat} (h : T (i + k) = P k) : mm_df T P i (k + 1) = mm_df T P i k := by
  show mm_df T P i k + _ = _
  rw [if_pos h]
  rfl
theorem mm_dfF {T P : Nat → Int32} {i k : Nat} (h : ¬ T (i + k) = P k) : mm_df T P i (k + 1) = mm_df T P i k + 1 := by
  show mm_df T P i k + _ = _
  rw [if_neg h]
theorem mm_dfL (T P : Nat → Int32) (i : Nat) : ∀ k, mm_df T P i k ≤ k := by
  intro k
  induction k with
  | zero => exact Nat.le_refl _
  | succ k ih =>
    by_cases h : T (i + k) = P k
    · rw [mm_dfT h]; omega
    · rw [mm_dfF h]; omega
theorem mm_df0 {T P : Nat → Int32} {i : Nat} : ∀ k, mm_df T P i k = 0 ↔ ∀ j, j < k → T (i + j) = P j := by
  intro k
  induction k with
  | zero => exact ⟨fun _ j hj => absurd hj (Nat.not_lt_zero j), fun _ => rfl⟩
  | succ k ih =>
    by_cases h : T (i + k) = P k
    · rw [mm_dfT h, ih]
      exact ⟨fun z => lt_s z h, fun z j hj => z j (by omega)⟩
    · rw [mm_dfF h]
      exact ⟨fun z => by omega, fun z => absurd (z k (by omega)) h⟩
def mm_wr (T P : Nat → Int32) (m p i : Nat) : Nat := if i + p ≤ m then mm_df T P i p else 100
theorem mm_wrT {T P : Nat → Int32} {m p i : Nat} (h : i + p ≤ m) : mm_wr T P m p i = mm_df T P i p := if_pos h
theorem mm_wrF {T P : Nat → Int32} {m p i : Nat} (h : ¬ i + p ≤ m) : mm_wr T P m p i = 100 := if_neg h
theorem mm_wr0 {T P : Nat → Int32} {m p i : Nat} : mm_wr T P m p i = 0 ↔ mm_oc T P m p i := by
  by_cases h : i + p ≤ m
  · rw [mm_wrT h, mm_df0]
    exact ⟨fun z => ⟨h, z⟩, fun z => z.2⟩
  · rw [mm_wrF h]
    exact ⟨fun z => by omega, fun z => absurd z.1 h⟩
theorem mm_wrL {T P : Nat → Int32} {m p i : Nat} (hp : p ≤ 12) : mm_wr T P m p i ≤ 100 := by
  by_cases h : i + p ≤ m
  · rw [mm_wrT h]
    have := mm_dfL T P i p
    omega
  · rw [mm_wrF h]
    omega
def mm_f (T P : Nat → Int32) (m p e : Nat) (i : Nat) : Bool := decide (mm_wr T P m p i ≤ e)
theorem mm_fT {T P : Nat → Int32} {m p e i : Nat} : mm_f T P m p e i = true ↔ mm_wr T P m p i ≤ e := decide_eq_true_iff
theorem mm_f0 {T P : Nat → Int32} {m p i : Nat} : mm_f T P m p 0 i = true ↔ mm_oc T P m p i := by
  rw [mm_fT, Nat.le_zero, mm_wr0]
theorem mm_fB {T P : Nat → Int32} {m p e i : Nat} (he : e ≤ 3) (h : m < i + p) : mm_f T P m p e i = false := by
  apply ts_nt
  rw [mm_fT, mm_wrF (by omega)]
  omega
def mm_cn (f : Nat → Bool) : Nat → Nat
  | 0 => 0
  | n + 1 => mm_cn f n + (if f n = true then 1 else 0)
theorem mm_cnT {f : Nat → Bool} {n : Nat} (h : f n = true) : mm_cn f (n + 1) = mm_cn f n + 1 := by
  show mm_cn f n + _ = _
  rw [if_pos h]
theorem mm_cnF {f : Nat → Bool} {n : Nat} (h : ¬ f n = true) : mm_cn f (n + 1) = mm_cn f n := by
  show mm_cn f n + _ = _
  rw [if_neg h]
  rfl
theorem mm_cnL (f : Nat → Bool) : ∀ n, mm_cn f n ≤ n := by
  intro n
  induction n with
  | zero => exact Nat.le_refl _
  | succ n ih =>
    by_cases h : f n = true
    · rw [mm_cnT h]; omega
    · rw [mm_cnF h]; omega
theorem mm_cnK {f : Nat → Bool} {a : Nat} (h : ∀ i, a ≤ i → ¬ f i = true) : ∀ d, mm_cn f (a + d) = mm_cn f a := by
  intro d
  induction d with
  | zero => rfl
  | succ d ih => exact (mm_cnF (h (a + d) (by omega))).trans ih
theorem mm_cnM (f : Nat → Bool) (a : Nat) : ∀ d, mm_cn f a ≤ mm_cn f (a + d) := by
  intro d
  induction d with
  | zero => exact Nat.le_refl _
  | succ d ih =>
    by_cases h : f (a + d) = true
    · rw [show a + (d + 1) = a + d + 1 from rfl, mm_cnT h]; omega
    · rw [show a + (d + 1) = a + d + 1 from rfl, mm_cnF h]; exact ih
theorem mm_cnI {f : Nat → Bool} {a b : Nat} (ha : f a = true) (hb : f b = true) (h : mm_cn f a = mm_cn f b) : a = b := by
  have H : ∀ x y, x < y → f x = true → mm_cn f x < mm_cn f y := by
    intro x y hxy hx
    have h1 := mm_cnT hx
    have h2 := mm_cnM f (x + 1) (y - (x + 1))
    rw [show x + 1 + (y - (x + 1)) = y from by omega] at h2
    omega
  rcases Nat.lt_trichotomy a b with z | z | z
  · have := H a b z ha
    omega
  · exact z
  · have := H b a z hb
    omega
def mm_ga (f : Nat → Bool) (d : Nat) : Nat → Nat × Nat
  | 0 => (0, 0)
  | n + 1 => if (mm_ga f d n).2 ≤ n ∧ f n = true then ((mm_ga f d n).1 + 1, n + d) else mm_ga f d n
theorem mm_gaT {f : Nat → Bool} {d n : Nat} (h : (mm_ga f d n).2 ≤ n) (hf : f n = true) : mm_ga f d (n + 1) = ((mm_ga f d n).1 + 1, n + d) := if_pos ⟨h, hf⟩
theorem mm_gaF {f : Nat → Bool} {d n : Nat} (h : ¬ ((mm_ga f d n).2 ≤ n ∧ f n = true)) : mm_ga f d (n + 1) = mm_ga f d n := if_neg h
theorem mm_gaK {f : Nat → Bool} {e a : Nat} (h : ∀ i, a ≤ i → ¬ f i = true) : ∀ d, mm_ga f e (a + d) = mm_ga f e a := by
  intro d
  induction d with
  | zero => rfl
  | succ d ih => exact (mm_gaF (fun z => h (a + d) (by omega) z.2)).trans ih
theorem mm_gaL (f : Nat → Bool) (d : Nat) : ∀ n, (mm_ga f d n).1 ≤ n ∧ (mm_ga f d n).2 ≤ n + d := by
  intro n
  induction n with
  | zero => exact ⟨Nat.le_refl _, Nat.zero_le _⟩
  | succ n ih =>
    by_cases h : (mm_ga f d n).2 ≤ n ∧ f n = true
    · rw [mm_gaT h.1 h.2]
      exact ⟨by show (mm_ga f d n).1 + 1 ≤ n + 1; omega, by show n + d ≤ n + 1 + d; omega⟩
    · rw [mm_gaF h]
      omega
/-- the least from a on, or -1 -/
def mm_nx (f : Nat → Bool) (a : Nat) (r : Int32) : Prop := (∃ i, i ≤ 60 ∧ r = nI i ∧ a ≤ i ∧ f i = true ∧ ∀ j, a ≤ j → j < i → ¬ f j = true) ∨ (r = -1 ∧ ∀ j, a ≤ j → ¬ f j = true)
theorem mm_nxU {f : Nat → Bool} {a : Nat} {r s : Int32} (h : mm_nx f a r) (g : mm_nx f a s) : s = r := by
  rcases h with ⟨i, h0, h1, h2, h3, h4⟩ | ⟨h1, h2⟩
  · rcases g with ⟨j, g0, g1, g2, g3, g4⟩ | ⟨g1, g2⟩
    · have e : j = i := by
        rcases Nat.lt_trichotomy i j with z | z | z
        · exact absurd h3 (g4 i h2 z)
        · exact z.symm
        · exact absurd g3 (h4 j g2 z)
      rw [h1, g1, e]
    · exact absurd h3 (g2 i h2)
  · rcases g with ⟨j, g0, g1, g2, g3, g4⟩ | ⟨g1, g2⟩
    · exact absurd g3 (h2 j g2)
    · rw [h1, g1]
/-- the greatest below a, or -1 -/
def mm_ls (f : Nat → Bool) (a : Nat) (r : Int32) : Prop := (∃ i, r = nI i ∧ i < a ∧ f i = true ∧ ∀ j, i < j → j < a → ¬ f j = true) ∨ (r = -1 ∧ ∀ j, j < a → ¬ f j = true)
theorem mm_lsU {f : Nat → Bool} {a : Nat} {r s : Int32} (h : mm_ls f a r) (g : mm_ls f a s) : s = r := by
  rcases h with ⟨i, h1, h2, h3, h4⟩ | ⟨h1, h2⟩
  · rcases g with ⟨j, g1, g2, g3, g4⟩ | ⟨g1, g2⟩
    · have e : j = i := by
        rcases Nat.lt_trichotomy i j with z | z | z
        · exact absurd g3 (h4 j z g2)
        · exact z.symm
        · exact absurd h3 (g4 i z h2)
      rw [h1, g1, e]
    · exact absurd h3 (g2 i h2)
  · rcases g with ⟨j, g1, g2, g3, g4⟩ | ⟨g1, g2⟩
    · exact absurd g3 (h2 j g2)
    · rw [h1, g1]
/-- occurrence k, or -1 -/
def mm_kt (f : Nat → Bool) (k r : Int32) : Prop := (∃ i, i ≤ 60 ∧ r = nI i ∧ f i = true ∧ nI (mm_cn f i) = k) ∨ (r = -1 ∧ ∀ i, f i = true → ¬ nI (mm_cn f i) = k)
theorem mm_ktU {f : Nat → Bool} {k r s : Int32} (h : mm_kt f k r) (g : mm_kt f k s) : s = r := by
  rcases h with ⟨i, h0, h1, h2, h3⟩ | ⟨h1, h2⟩
  · rcases g with ⟨j, g0, g1, g2, g3⟩ | ⟨g1, g2⟩
    · have a1 := mm_cnL f i
      have a2 := mm_cnL f j
      have e : j = i := mm_cnI g2 h2 ((nI_eq (by omega) (by omega)).mp (g3.trans h3.symm))
      rw [h1, g1, e]
    · exact absurd h3 (g2 i h2)
  · rcases g with ⟨j, g0, g1, g2, g3⟩ | ⟨g1, g2⟩
    · exact absurd g3 (h2 j g2)
    · rw [h1, g1]
end
section
/-! numbers against literals, the relation -/
theorem mn_10 : ¬ (1 : Int32) = 0 := by decide
theorem mn_60lt {a : Nat} (h : a < 2 ^ 31) : (60 : Int32) < nI a ↔ 60 < a := nI_ltI (a := 60) (by omega) h
theorem mn_60le {a : Nat} (h : a < 2 ^ 31) : (60 : Int32) ≤ nI a ↔ 60 ≤ a := nI_leI (a := 60) (by omega) h
theorem mn_12le {a : Nat} (h : a < 2 ^ 31) : (12 : Int32) ≤ nI a ↔ 12 ≤ a := nI_leI (a := 12) (by omega) h
theorem mn_12lt {a : Nat} (h : a < 2 ^ 31) : (12 : Int32) < nI a ↔ 12 < a := nI_ltI (a := 12) (by omega) h
theorem mn_4le {a : Nat} (h : a < 2 ^ 31) : (4 : Int32) ≤ nI a ↔ 4 ≤ a := nI_leI (a := 4) (by omega) h
theorem mn_le0 {a : Nat} (h : a < 2 ^ 31) : nI a ≤ 0 ↔ a ≤ 0 := nI_leI (b := 0) h (by omega)
theorem mn_lt0 {a : Nat} (h : a < 2 ^ 31) : nI a < 0 ↔ False := ⟨fun z => nI_pos h z, fun z => z.elim⟩
theorem mn_0le {a : Nat} (h : a < 2 ^ 31) : (0 : Int32) ≤ nI a ↔ True := ⟨fun _ => trivial, fun _ => nI_pos' h⟩
theorem mn_eq0 {a : Nat} (h : a < 2 ^ 31) : nI a = 0 ↔ a = 0 := nI_eq (b := 0) h (by omega)
theorem mn_1le {a : Nat} (h : a < 2 ^ 31) : (1 : Int32) ≤ nI a ↔ 1 ≤ a := nI_leI (a := 1) (by omega) h
theorem mn_lt1 {a : Nat} (h : a < 2 ^ 31) : nI a < 1 ↔ a < 1 := nI_ltI (b := 1) h (by omega)
theorem mn_le60 {a : Nat} (h : a < 2 ^ 31) : nI a ≤ 60 ↔ a ≤ 60 := nI_leI (b := 60) h (by omega)
theorem mn_lt12 {a : Nat} (h : a < 2 ^ 31) : nI a < 12 ↔ a < 12 := nI_ltI (b := 12) h (by omega)
theorem mn_le3 {a : Nat} (h : a < 2 ^ 31) : nI a ≤ 3 ↔ a ≤ 3 := nI_leI (b := 3) h (by omega)
theorem mn_3lt {a : Nat} (h : a < 2 ^ 31) : (3 : Int32) < nI a ↔ 3 < a := nI_ltI (a := 3) (by omega) h
theorem mn_9lt {a : Nat} (h : a < 2 ^ 31) : (9 : Int32) < nI a ↔ 9 < a := nI_ltI (a := 9) (by omega) h
theorem mn_10le {a : Nat} (h : a < 2 ^ 31) : (10 : Int32) ≤ nI a ↔ 10 ≤ a := nI_leI (a := 10) (by omega) h
theorem mn_60s {a : Nat} (h : a ≤ 60) : (60 : Int32) - nI a = nI (60 - a) := pk_sub (a := 60) h
theorem mn_s1 {a : Nat} (h : 1 ≤ a) : nI a - 1 = nI (a - 1) := pk_sub (b := 1) h
/-- an argument: below 0, or n or more, or one of 0 .. n - 1 -/
theorem mn_cs (x : Int32) (n : Nat) (hn : n < 2 ^ 31) : x < 0 ∨ (∃ j : Nat, n ≤ j ∧ j < 2 ^ 31 ∧ x = nI j) ∨ ∃ j : Nat, j < n ∧ x = nI j := by
  by_cases h : x < 0
  · exact Or.inl h
  · obtain ⟨j, hj, e⟩ := nI_of h
    by_cases h2 : j < n
    · exact Or.inr (Or.inr ⟨j, h2, e⟩)
    · exact Or.inr (Or.inl ⟨j, by omega, hj, e⟩)
theorem mn_neg {x : Int32} {a : Nat} (h : x < 0) (ha : a < 2 ^ 31) : x < nI a := by
  rw [Int32.lt_iff_toInt_lt, show (0 : Int32).toInt = 0 from by decide] at h
  rw [Int32.lt_iff_toInt_lt, nI_toInt ha]
  omega
theorem mn_nge {x : Int32} {a : Nat} (h : x < 0) (ha : a < 2 ^ 31) : ¬ nI a ≤ x := by
  have := mn_neg h ha
  rw [Int32.lt_iff_toInt_lt] at this
  rw [Int32.le_iff_toInt_le]
  omega
theorem mn_nlt {x : Int32} {a : Nat} (h : x < 0) (ha : a < 2 ^ 31) : ¬ nI a < x := by
  have := mn_neg h ha
  rw [Int32.lt_iff_toInt_lt] at this
  rw [Int32.lt_iff_toInt_lt]
  omega
theorem mn_le {x : Int32} {a : Nat} (h : x < 0) (ha : a < 2 ^ 31) : x ≤ nI a := by
  have := mn_neg h ha
  rw [Int32.lt_iff_toInt_lt] at this
  rw [Int32.le_iff_toInt_le]
  omega
/-- no letter; no engine -/
def mn_bad (n : Nat) (x : Int32) : Prop := x < 0 ∨ ∃ j : Nat, n ≤ j ∧ j < 2 ^ 31 ∧ x = nI j
theorem mn_lc (x : Int32) (n : Nat) (hn : n < 2 ^ 31) : mn_bad n x ∨ ∃ j : Nat, j < n ∧ x = nI j := by
  rcases mn_cs x n hn with h | h | h
  · exact Or.inl (Or.inl h)
  · exact Or.inl (Or.inr h)
  · exact Or.inr h
theorem xl_t {post : Int32 → Prop} {l : Nat} (hl : l < 4) (h : post 1) : wpX_isLetter post (nI l) := by
  have n4 : ¬ 4 ≤ l := by omega
  unfold wpX_isLetter
  simp (disch := omega) only [n4, forall_eq, nI_leI, nI_ltI, nI_eq, vp_in_nI, nI_clamp, nI_1, nI_add, pk_sub, mn_10, mn_60lt, mn_60le, mn_12le, mn_4le, mn_le0, mn_lt0, mn_0le, mn_eq0, mn_1le, mn_lt1, mn_le60, mn_lt12, mn_12lt, mn_le3, true_implies, forall_const, not_true_eq_false, not_false_eq_true, false_implies, and_true, true_and, implies_true, and_self, if_true, if_false]
  exact h
theorem xl_f {post : Int32 → Prop} {x : Int32} (hx : mn_bad 4 x) (h : post 0) : wpX_isLetter post x := by
  rcases hx with hx | ⟨j, h1, h2, rfl⟩
  · exact br_t hx h
  · unfold wpX_isLetter
    simp (disch := omega) only [h1, forall_eq, nI_leI, nI_ltI, nI_eq, vp_in_nI, nI_clamp, nI_1, nI_add, pk_sub, mn_10, mn_60lt, mn_60le, mn_12le, mn_4le, mn_le0, mn_lt0, mn_0le, mn_eq0, mn_1le, mn_lt1, mn_le60, mn_lt12, mn_12lt, mn_le3, true_implies, forall_const, not_true_eq_false, not_false_eq_true, false_implies, and_true, true_and, implies_true, and_self, if_true, if_false]
    exact h
theorem yl_t {post : Int32 → Prop} {v : SY} {l : Nat} (hl : l < 4) (h : post 1) : wpY_isLetter post v (nI l) := by
  have n4 : ¬ 3 < l := by omega
  unfold wpY_isLetter
  simp (disch := omega) only [n4, mn_3lt, forall_eq, nI_leI, nI_ltI, nI_eq, vp_in_nI, nI_clamp, nI_1, nI_add, pk_sub, mn_10, mn_60lt, mn_60le, mn_12le, mn_4le, mn_le0, mn_lt0, mn_0le, mn_eq0, mn_1le, mn_lt1, mn_le60, mn_lt12, mn_12lt, mn_le3, true_implies, forall_const, not_true_eq_false, not_false_eq_true, false_implies, and_true, true_and, implies_true, and_self, if_true, if_false]
  exact h
theorem yl_f {post : Int32 → Prop} {v : SY} {x : Int32} (hx : mn_bad 4 x) (h : post 0) : wpY_isLetter post v x := by
  rcases hx with hx | ⟨j, h1, h2, rfl⟩
  · exact br_t hx h
  · have n4 : 3 < j := by omega
    unfold wpY_isLetter
    simp (disch := omega) only [n4, mn_3lt, forall_eq, nI_leI, nI_ltI, nI_eq, vp_in_nI, nI_clamp, nI_1, nI_add, pk_sub, mn_10, mn_60lt, mn_60le, mn_12le, mn_4le, mn_le0, mn_lt0, mn_0le, mn_eq0, mn_1le, mn_lt1, mn_le60, mn_lt12, mn_12lt, mn_le3, true_implies, forall_const, not_true_eq_false, not_false_eq_true, false_implies, and_true, true_and, implies_true, and_self, if_true, if_false]
    exact h
theorem xe_t {post : Int32 → Prop} {l : Nat} (hl : l < 10) (h : post 1) : wpX_isEngine post (nI l) := by
  have n4 : ¬ 10 ≤ l := by omega
  unfold wpX_isEngine
  simp (disch := omega) only [n4, mn_10le, forall_eq, nI_leI, nI_ltI, nI_eq, vp_in_nI, nI_clamp, nI_1, nI_add, pk_sub, mn_10, mn_60lt, mn_60le, mn_12le, mn_4le, mn_le0, mn_lt0, mn_0le, mn_eq0, mn_1le, mn_lt1, mn_le60, mn_lt12, mn_12lt, mn_le3, true_implies, forall_const, not_true_eq_false, not_false_eq_true, false_implies, and_true, true_and, implies_true, and_self, if_true, if_false]
  exact h
theorem xe_f {post : Int32 → Prop} {x : Int32} (hx : mn_bad 10 x) (h : post 0) : wpX_isEngine post x := by
  rcases hx with hx | ⟨j, h1, h2, rfl⟩
  · exact br_t hx h
  · unfold wpX_isEngine
    simp (disch := omega) only [h1, mn_10le, forall_eq, nI_leI, nI_ltI, nI_eq, vp_in_nI, nI_clamp, nI_1, nI_add, pk_sub, mn_10, mn_60lt, mn_60le, mn_12le, mn_4le, mn_le0, mn_lt0, mn_0le, mn_eq0, mn_1le, mn_lt1, mn_le60, mn_lt12, mn_12lt, mn_le3, true_implies, forall_const, not_true_eq_false, not_false_eq_true, false_implies, and_true, true_and, implies_true, and_self, if_true, if_false]
    exact h
theorem ye_t {post : Int32 → Prop} {v : SY} {l : Nat} (hl : l < 10) (h : post 1) : wpY_engine post v (nI l) := by
  have n4 : ¬ 9 < l := by omega
  unfold wpY_engine
  simp (disch := omega) only [n4, mn_9lt, forall_eq, nI_leI, nI_ltI, nI_eq, vp_in_nI, nI_clamp, nI_1, nI_add, pk_sub, mn_10, mn_60lt, mn_60le, mn_12le, mn_4le, mn_le0, mn_lt0, mn_0le, mn_eq0, mn_1le, mn_lt1, mn_le60, mn_lt12, mn_12lt, mn_le3, true_implies, forall_const, not_true_eq_false, not_false_eq_true, false_implies, and_true, true_and, implies_true, and_self, if_true, if_false]
  exact h
theorem ye_f {post : Int32 → Prop} {v : SY} {x : Int32} (hx : mn_bad 10 x) (h : post 0) : wpY_engine post v x := by
  rcases hx with hx | ⟨j, h1, h2, rfl⟩
  · exact br_t hx h
  · have n4 : 9 < j := by omega
    unfold wpY_engine
    simp (disch := omega) only [n4, mn_9lt, forall_eq, nI_leI, nI_ltI, nI_eq, vp_in_nI, nI_clamp, nI_1, nI_add, pk_sub, mn_10, mn_60lt, mn_60le, mn_12le, mn_4le, mn_le0, mn_lt0, mn_0le, mn_eq0, mn_1le, mn_lt1, mn_le60, mn_lt12, mn_12lt, mn_le3, true_implies, forall_const, not_true_eq_false, not_false_eq_true, false_implies, and_true, true_and, implies_true, and_self, if_true, if_false]
    exact h
theorem ym_t {post : Int32 → Prop} {v : SY} {l : Nat} (h1 : 1 ≤ l) (hl : l ≤ 60) (h : post 1) : wpY_many post v (nI l) := by
  have n4 : ¬ 60 < l := by omega
  have n1 : ¬ l < 1 := by omega
  unfold wpY_many
  simp (disch := omega) only [n4, n1, forall_eq, nI_leI, nI_ltI, nI_eq, vp_in_nI, nI_clamp, nI_1, nI_add, pk_sub, mn_10, mn_60lt, mn_60le, mn_12le, mn_4le, mn_le0, mn_lt0, mn_0le, mn_eq0, mn_1le, mn_lt1, mn_le60, mn_lt12, mn_12lt, mn_le3, true_implies, forall_const, not_true_eq_false, not_false_eq_true, false_implies, and_true, true_and, implies_true, and_self, if_true, if_false]
  exact h
theorem ym_f {post : Int32 → Prop} {v : SY} {x : Int32} (hx : x < 1 ∨ ∃ j : Nat, 61 ≤ j ∧ j < 2 ^ 31 ∧ x = nI j) (h : post 0) : wpY_many post v x := by
  rcases hx with hx | ⟨j, h1, h2, rfl⟩
  · exact br_t hx h
  · have n4 : 60 < j := by omega
    have n1 : ¬ j < 1 := by omega
    unfold wpY_many
    simp (disch := omega) only [n4, n1, forall_eq, nI_leI, nI_ltI, nI_eq, vp_in_nI, nI_clamp, nI_1, nI_add, pk_sub, mn_10, mn_60lt, mn_60le, mn_12le, mn_4le, mn_le0, mn_lt0, mn_0le, mn_eq0, mn_1le, mn_lt1, mn_le60, mn_lt12, mn_12lt, mn_le3, true_implies, forall_const, not_true_eq_false, not_false_eq_true, false_implies, and_true, true_and, implies_true, and_self, if_true, if_false]
    exact h
/-- THE RELATION: the same text, the same pattern, their lengths, letters alone; the component's tables are free -/
def i_Rel (k : Nat) (u : SX) (v : SY) : Prop := ∃ (m p : Nat) (T P bd jo pl la ss pp tr : Nat → Int32) (tp : Nat → Int64), u = ((nI m), (nI p), T, P, bd, jo, pl, la, ss, pp, tr, tp) ∧ v = ((nI m), (nI p), T, P) ∧ m ≤ 60 ∧ p ≤ 12 ∧ mm_lt T ∧ mm_lt P
theorem i_up {k : Nat} {u : SX} {v : SY} (h : i_Rel k u v) : i_Rel (k + 3) u v := h
theorem mn_R {k m p : Nat} {T P bd jo pl la ss pp tr : Nat → Int32} {tp : Nat → Int64} (hm : m ≤ 60) (hp : p ≤ 12) (hT : mm_lt T) (hP : mm_lt P) : i_Rel k ((nI m), (nI p), T, P, bd, jo, pl, la, ss, pp, tr, tp) ((nI m), (nI p), T, P) := ⟨m, p, T, P, bd, jo, pl, la, ss, pp, tr, tp, rfl, rfl, hm, hp, hT, hP⟩
theorem mm_lt0 : mm_lt (fun _ => 0) := fun _ => ⟨0, by omega, nI_0.symm⟩
theorem mm_ltU {f : Nat → Int32} {k l : Nat} (h : mm_lt f) (hl : l < 4) : mm_lt (upd f k (nI l)) := by
  intro i
  by_cases e : i = k
  · subst e
    exact ⟨l, hl, pk_us⟩
  · rw [pk_un e]
    exact h i
theorem mm_ltV {f : Nat → Int32} {k : Nat} {x : Int32} (h : mm_lt f) (hl : ∃ l, l < 4 ∧ x = nI l) : mm_lt (upd f k x) := by
  obtain ⟨l, h1, rfl⟩ := hl
  exact mm_ltU h h1
theorem i_vc0 : wpX_init (fun u => wpY_init (fun v => i_Rel 0 u v)) := mn_R (k := 0) (m := 0) (p := 0) (by omega) (by omega) mm_lt0 mm_lt0
end
section
/-! the calls that change text and pattern, and shared -/
section
variable {T P bd jo pl la ss pp tr : Nat → Int32} {tp : Nat → Int64} {m p : Nat}
def mw_f (x : Int32) : Nat → Nat → (Nat → Int32) → (Nat → Int32)
  | 0, _, T => T
  | k + 1, s, T => mw_f x k (s + 1) (upd T s x)
theorem mw_fl {l : Nat} (hl : l < 4) : ∀ (k s : Nat) (T : Nat → Int32), mm_lt T → mm_lt (mw_f (nI l) k s T) := by
  intro k
  induction k with
  | zero => intro s T h; exact h
  | succ k ih => intro s T h; exact ih (s + 1) _ (mm_ltU h hl)
theorem mw_xw {post : Int32 → SX → Prop} {x : Int32} {e : Nat} (he : e ≤ 60) : ∀ (k s n : Nat) (T : Nat → Int32), s + k = e → k < n → post (nI e) ((nI e), (nI p), (mw_f x k s T), P, bd, jo, pl, la, ss, pp, tr, tp) → wX_write_47 post x (nI e) (nI m) (nI p) n (nI s) T P bd jo pl la ss pp tr tp := by
  intro k
  induction k with
  | zero =>
    intro s n T h hn hp
    obtain ⟨n, rfl⟩ : ∃ n', n = n' + 1 := ⟨n - 1, by omega⟩
    have c : e ≤ s := by omega
    simp (disch := omega) only [wX_write_47, c, forall_eq, nI_leI, nI_ltI, nI_eq, vp_in_nI, nI_clamp, nI_1, nI_add, pk_sub, mn_10, mn_60lt, mn_60le, mn_12le, mn_4le, mn_le0, mn_lt0, mn_0le, mn_eq0, mn_1le, mn_lt1, mn_le60, mn_lt12, mn_12lt, mn_le3, true_implies, forall_const, not_true_eq_false, not_false_eq_true, false_implies, and_true, true_and, implies_true, and_self, if_true, if_false]
    exact hp
  | succ k ih =>
    intro s n T h hn hp
    obtain ⟨n, rfl⟩ : ∃ n', n = n' + 1 := ⟨n - 1, by omega⟩
    have c : ¬ e ≤ s := by omega
    simp (disch := omega) only [wX_write_47, c, forall_eq, nI_leI, nI_ltI, nI_eq, vp_in_nI, nI_clamp, nI_1, nI_add, pk_sub, mn_10, mn_60lt, mn_60le, mn_12le, mn_4le, mn_le0, mn_lt0, mn_0le, mn_eq0, mn_1le, mn_lt1, mn_le60, mn_lt12, mn_12lt, mn_le3, true_implies, forall_const, not_true_eq_false, not_false_eq_true, false_implies, and_true, true_and, implies_true, and_self, if_true, if_false]
    exact ih (s + 1) n _ (by omega) (by omega) hp
theorem mw_yw {post : Int32 → SY → Prop} {x : Int32} {j : Nat} (he : m + j ≤ 60) : ∀ (k t n : Nat) (T : Nat → Int32), t + k = j → k < n → post (nI (m + j)) ((nI (m + j)), (nI p), (mw_f x k (m + t) T), P) → wY_write_34 post x (nI j) (nI m) (nI p) n (nI t) T P := by
  intro k
  induction k with
  | zero =>
    intro s n T h hn hp
    obtain ⟨n, rfl⟩ : ∃ n', n = n' + 1 := ⟨n - 1, by omega⟩
    have c : j ≤ s := by omega
    simp (disch := omega) only [wY_write_34, c, forall_eq, nI_leI, nI_ltI, nI_eq, vp_in_nI, nI_clamp, nI_1, nI_add, pk_sub, mn_10, mn_60lt, mn_60le, mn_12le, mn_4le, mn_le0, mn_lt0, mn_0le, mn_eq0, mn_1le, mn_lt1, mn_le60, mn_lt12, mn_12lt, mn_le3, true_implies, forall_const, not_true_eq_false, not_false_eq_true, false_implies, and_true, true_and, implies_true, and_self, if_true, if_false]
    exact hp
  | succ k ih =>
    intro s n T h hn hp
    obtain ⟨n, rfl⟩ : ∃ n', n = n' + 1 := ⟨n - 1, by omega⟩
    have c : ¬ j ≤ s := by omega
    simp (disch := omega) only [wY_write_34, c, forall_eq, nI_leI, nI_ltI, nI_eq, vp_in_nI, nI_clamp, nI_1, nI_add, pk_sub, mn_10, mn_60lt, mn_60le, mn_12le, mn_4le, mn_le0, mn_lt0, mn_0le, mn_eq0, mn_1le, mn_lt1, mn_le60, mn_lt12, mn_12lt, mn_le3, true_implies, forall_const, not_true_eq_false, not_false_eq_true, false_implies, and_true, true_and, implies_true, and_self, if_true, if_false]
    exact ih (s + 1) n _ (by omega) (by omega) hp
def mw_g (b : Nat) : Nat → Nat → (Nat → Int32) → (Nat → Int32)
  | 0, _, T => T
  | k + 1, s, T => mw_g b k (s + 1) (upd T s (T (s - b)))
theorem mw_gl {b : Nat} : ∀ (k s : Nat) (T : Nat → Int32), mm_lt T → mm_lt (mw_g b k s T) := by
  intro k
  induction k with
  | zero => intro s T h; exact h
  | succ k ih => intro s T h; exact ih (s + 1) _ (mm_ltV h (h _))
theorem mw_xg {post : Int32 → SX → Prop} {b e : Nat} (he : e ≤ 60) : ∀ (k s n : Nat) (T : Nat → Int32), s + k = e → b ≤ s → k < n → post (nI e) ((nI e), (nI p), (mw_g b k s T), P, bd, jo, pl, la, ss, pp, tr, tp) → wX_again_53 post (nI b) (nI e) (nI m) (nI p) n (nI s) T P bd jo pl la ss pp tr tp := by
  intro k
  induction k with
  | zero =>
    intro s n T h hb hn hp
    obtain ⟨n, rfl⟩ : ∃ n', n = n' + 1 := ⟨n - 1, by omega⟩
    have c : e ≤ s := by omega
    simp (disch := omega) only [wX_again_53, c, forall_eq, nI_leI, nI_ltI, nI_eq, vp_in_nI, nI_clamp, nI_1, nI_add, pk_sub, mn_10, mn_60lt, mn_60le, mn_12le, mn_4le, mn_le0, mn_lt0, mn_0le, mn_eq0, mn_1le, mn_lt1, mn_le60, mn_lt12, mn_12lt, mn_le3, true_implies, forall_const, not_true_eq_false, not_false_eq_true, false_implies, and_true, true_and, implies_true, and_self, if_true, if_false]
    exact hp
  | succ k ih =>
    intro s n T h hb hn hp
    obtain ⟨n, rfl⟩ : ∃ n', n = n' + 1 := ⟨n - 1, by omega⟩
    have c : ¬ e ≤ s := by omega
    simp (disch := omega) only [wX_again_53, c, forall_eq, nI_leI, nI_ltI, nI_eq, vp_in_nI, nI_clamp, nI_1, nI_add, pk_sub, mn_10, mn_60lt, mn_60le, mn_12le, mn_4le, mn_le0, mn_lt0, mn_0le, mn_eq0, mn_1le, mn_lt1, mn_le60, mn_lt12, mn_12lt, mn_le3, true_implies, forall_const, not_true_eq_false, not_false_eq_true, false_implies, and_true, true_and, implies_true, and_self, if_true, if_false]
    exact ih (s + 1) n _ (by omega) (by omega) (by omega) hp
theorem mw_yg {post : Int32 → SY → Prop} {b j : Nat} (hj : j ≤ 60) : ∀ (k t s n : Nat) (T : Nat → Int32), t + k = j → s + k ≤ 60 → b ≤ s → k < n → post (nI (s + k)) ((nI (s + k)), (nI p), (mw_g b k s T), P) → wY_again_39 post (nI b) (nI j) (nI p) n (nI t) (nI s) T P := by
  intro k
  induction k with
  | zero =>
    intro t s n T h h6 hb hn hp
    obtain ⟨n, rfl⟩ : ∃ n', n = n' + 1 := ⟨n - 1, by omega⟩
    have c : j ≤ t := by omega
    simp (disch := omega) only [wY_again_39, c, forall_eq, nI_leI, nI_ltI, nI_eq, vp_in_nI, nI_clamp, nI_1, nI_add, pk_sub, mn_10, mn_60lt, mn_60le, mn_12le, mn_4le, mn_le0, mn_lt0, mn_0le, mn_eq0, mn_1le, mn_lt1, mn_le60, mn_lt12, mn_12lt, mn_le3, true_implies, forall_const, not_true_eq_false, not_false_eq_true, false_implies, and_true, true_and, implies_true, and_self, if_true, if_false]
    exact hp
  | succ k ih =>
    intro t s n T h h6 hb hn hp
    obtain ⟨n, rfl⟩ : ∃ n', n = n' + 1 := ⟨n - 1, by omega⟩
    have c : ¬ j ≤ t := by omega
    simp (disch := omega) only [wY_again_39, c, forall_eq, nI_leI, nI_ltI, nI_eq, vp_in_nI, nI_clamp, nI_1, nI_add, pk_sub, mn_10, mn_60lt, mn_60le, mn_12le, mn_4le, mn_le0, mn_lt0, mn_0le, mn_eq0, mn_1le, mn_lt1, mn_le60, mn_lt12, mn_12lt, mn_le3, true_implies, forall_const, not_true_eq_false, not_false_eq_true, false_implies, and_true, true_and, implies_true, and_self, if_true, if_false]
    refine ih (t + 1) (s + 1) n _ (by omega) (by omega) (by omega) (by omega) ?_
    rw [show s + 1 + k = s + (k + 1) from by omega]
    exact hp
def mw_c (T : Nat → Int32) (i : Nat) : Nat → Nat → (Nat → Int32) → (Nat → Int32)
  | 0, _, P => P
  | k + 1, j, P => mw_c T i k (j + 1) (upd P j (T (i + j)))
theorem mw_cl {i : Nat} (hT : mm_lt T) : ∀ (k s : Nat) (P : Nat → Int32), mm_lt P → mm_lt (mw_c T i k s P) := by
  intro k
  induction k with
  | zero => intro s P h; exact h
  | succ k ih => intro s P h; exact ih (s + 1) _ (mm_ltV h (hT _))
theorem mw_xc {post : Int32 → SX → Prop} {i j : Nat} (he : i + j ≤ 60) (hj : j ≤ 12) : ∀ (k s n : Nat) (P : Nat → Int32), s + k = j → k < n → post 1 ((nI m), (nI j), T, (mw_c T i k s P), bd, jo, pl, la, ss, pp, tr, tp) → wX_copy_28 post (nI i) (nI j) (nI m) (nI p) n (nI s) T P bd jo pl la ss pp tr tp := by
  intro k
  induction k with
  | zero =>
    intro s n P h hn hp
    obtain ⟨n, rfl⟩ : ∃ n', n = n' + 1 := ⟨n - 1, by omega⟩
    have c : j ≤ s := by omega
    simp (disch := omega) only [wX_copy_28, c, forall_eq, nI_leI, nI_ltI, nI_eq, vp_in_nI, nI_clamp, nI_1, nI_add, pk_sub, mn_10, mn_60lt, mn_60le, mn_12le, mn_4le, mn_le0, mn_lt0, mn_0le, mn_eq0, mn_1le, mn_lt1, mn_le60, mn_lt12, mn_12lt, mn_le3, true_implies, forall_const, not_true_eq_false, not_false_eq_true, false_implies, and_true, true_and, implies_true, and_self, if_true, if_false]
    exact hp
  | succ k ih =>
    intro s n P h hn hp
    obtain ⟨n, rfl⟩ : ∃ n', n = n' + 1 := ⟨n - 1, by omega⟩
    have c : ¬ j ≤ s := by omega
    simp (disch := omega) only [wX_copy_28, c, forall_eq, nI_leI, nI_ltI, nI_eq, vp_in_nI, nI_clamp, nI_1, nI_add, pk_sub, mn_10, mn_60lt, mn_60le, mn_12le, mn_4le, mn_le0, mn_lt0, mn_0le, mn_eq0, mn_1le, mn_lt1, mn_le60, mn_lt12, mn_12lt, mn_le3, true_implies, forall_const, not_true_eq_false, not_false_eq_true, false_implies, and_true, true_and, implies_true, and_self, if_true, if_false]
    exact ih (s + 1) n _ (by omega) (by omega) hp
theorem mw_yc {post : Int32 → SY → Prop} {i j : Nat} (he : i + j ≤ 60) (hj : j ≤ 12) : ∀ (k s n : Nat) (P : Nat → Int32), s + k = j → k < n → post 1 ((nI m), (nI j), T, (mw_c T i k s P)) → wY_copy_28 post (nI i) (nI j) (nI m) (nI p) n (nI s) T P := by
  intro k
  induction k with
  | zero =>
    intro s n P h hn hp
    obtain ⟨n, rfl⟩ : ∃ n', n = n' + 1 := ⟨n - 1, by omega⟩
    have c : j ≤ s := by omega
    simp (disch := omega) only [wY_copy_28, c, forall_eq, nI_leI, nI_ltI, nI_eq, vp_in_nI, nI_clamp, nI_1, nI_add, pk_sub, mn_10, mn_60lt, mn_60le, mn_12le, mn_4le, mn_le0, mn_lt0, mn_0le, mn_eq0, mn_1le, mn_lt1, mn_le60, mn_lt12, mn_12lt, mn_le3, true_implies, forall_const, not_true_eq_false, not_false_eq_true, false_implies, and_true, true_and, implies_true, and_self, if_true, if_false]
    exact hp
  | succ k ih =>
    intro s n P h hn hp
    obtain ⟨n, rfl⟩ : ∃ n', n = n' + 1 := ⟨n - 1, by omega⟩
    have c : ¬ j ≤ s := by omega
    simp (disch := omega) only [wY_copy_28, c, forall_eq, nI_leI, nI_ltI, nI_eq, vp_in_nI, nI_clamp, nI_1, nI_add, pk_sub, mn_10, mn_60lt, mn_60le, mn_12le, mn_4le, mn_le0, mn_lt0, mn_0le, mn_eq0, mn_1le, mn_lt1, mn_le60, mn_lt12, mn_12lt, mn_le3, true_implies, forall_const, not_true_eq_false, not_false_eq_true, false_implies, and_true, true_and, implies_true, and_self, if_true, if_false]
    exact ih (s + 1) n _ (by omega) (by omega) hp
/-- how many: below 1, above 60, or between -/
theorem mn_n60 (x : Int32) : x < 1 ∨ (∃ j : Nat, 61 ≤ j ∧ j < 2 ^ 31 ∧ x = nI j) ∨ ∃ j : Nat, 1 ≤ j ∧ j ≤ 60 ∧ x = nI j := by
  by_cases h : x < 1
  · exact Or.inl h
  · rcases mn_cs x 61 (by omega) with z | z | ⟨j, h1, h2⟩
    · exact absurd (mn_neg z (a := 1) (by omega)) h
    · exact Or.inr (Or.inl z)
    · refine Or.inr (Or.inr ⟨j, ?_, by omega, h2⟩)
      rw [h2, mn_lt1 (by omega)] at h
      omega
theorem i_vc_write {k : Nat} {u : SX} {v : SY} (I : i_Rel k u v) (hk : k + 3 ≤ 1536) (v1 : Int32) (v2 : Int32) : wpX_write (fun r u' => wpY_write (fun r' v' => r' = r ∧ i_Rel (k + 3) u' v') v v1 v2) u v1 v2 := by
  obtain ⟨m, p, T, P, bd, jo, pl, la, ss, pp, tr, tp, rfl, rfl, hm, hp, hT, hP⟩ := I
  unfold wpX_write wpY_write
  dsimp only
  rcases mn_lc v1 4 (by omega) with hb | ⟨l, hl, rfl⟩
  · exact xl_f hb (br_t rfl (yl_f hb (br_t rfl ⟨rfl, mn_R hm hp hT hP⟩)))
  · refine xl_t hl (br_f mn_10 ?_)
    rcases mn_n60 v2 with h | ⟨j, h1, h2, rfl⟩ | ⟨j, h1, h2, rfl⟩
    · exact br_t h (yl_t hl (br_f mn_10 (ym_f (Or.inl h) (br_t rfl ⟨rfl, mn_R hm hp hT hP⟩))))
    · have c1 : ¬ nI j < 1 := by rw [mn_lt1 (by omega)]; omega
      have c2 : ¬ nI j ≤ 60 := by rw [mn_le60 (by omega)]; omega
      exact br_f c1 (br_f c2 (yl_t hl (br_f mn_10 (ym_f (Or.inr ⟨j, h1, h2, rfl⟩) (br_t rfl ⟨rfl, mn_R hm hp hT hP⟩)))))
    · have c1 : ¬ nI j < 1 := by rw [mn_lt1 (by omega)]; omega
      have c2 : nI j ≤ 60 := by rw [mn_le60 (by omega)]; omega
      refine br_f c1 (br_t c2 ?_)
      by_cases c : m + j ≤ 60
      · have c3 : nI j ≤ 60 - nI m := by rw [mn_60s hm, nI_leI (by omega) (by omega)]; omega
        have c4 : nI m + nI j ≤ 60 := by rw [nI_add, mn_le60 (by omega)]; omega
        refine br_t c3 (nm_r (nI_add m j) ⟨j + 1, mw_xw c j m (j + 1) T rfl (by omega) ?_⟩)
        exact yl_t hl (br_f mn_10 (ym_t h1 h2 (br_f mn_10 (br_t c4 ⟨j + 1, mw_yw c j 0 (j + 1) T (by omega) (by omega) ⟨rfl, mn_R c hp (mw_fl hl j m T hT) hP⟩⟩))))
      · have c3 : ¬ nI j ≤ 60 - nI m := by rw [mn_60s hm, nI_leI (by omega) (by omega)]; omega
        have c4 : ¬ nI m + nI j ≤ 60 := by rw [nI_add, mn_le60 (by omega)]; omega
        exact br_f c3 (yl_t hl (br_f mn_10 (ym_t h1 h2 (br_f mn_10 (br_f c4 ⟨rfl, mn_R hm hp hT hP⟩)))))
theorem i_vc_again {k : Nat} {u : SX} {v : SY} (I : i_Rel k u v) (hk : k + 3 ≤ 1536) (v1 : Int32) (v2 : Int32) : wpX_again (fun r u' => wpY_again (fun r' v' => r' = r ∧ i_Rel (k + 3) u' v') v v1 v2) u v1 v2 := by
  obtain ⟨m, p, T, P, bd, jo, pl, la, ss, pp, tr, tp, rfl, rfl, hm, hp, hT, hP⟩ := I
  unfold wpX_again wpY_again
  dsimp only
  by_cases a1 : v1 < 1
  · exact br_t a1 (br_t a1 ⟨rfl, mn_R hm hp hT hP⟩)
  · refine br_f a1 ?_
    by_cases a2 : nI m < v1
    · exact br_t a2 (br_f a1 (br_t a2 ⟨rfl, mn_R hm hp hT hP⟩))
    · refine br_f a2 ?_
      obtain ⟨b, b1, b2, rfl⟩ : ∃ b : Nat, 1 ≤ b ∧ b ≤ m ∧ v1 = nI b := by
        rcases mn_cs v1 (m + 1) (by omega) with z | ⟨j, z1, z2, z3⟩ | ⟨j, z1, z2⟩
        · exact absurd (mn_neg z (a := 1) (by omega)) a1
        · rw [z3, nI_ltI (by omega) z2] at a2
          omega
        · rw [z2, mn_lt1 (by omega)] at a1
          exact ⟨j, by omega, by omega, z2⟩
      rcases mn_n60 v2 with h | ⟨j, h1, h2, rfl⟩ | ⟨j, h1, h2, rfl⟩
      · exact br_t h (br_f a1 (br_f a2 (ym_f (Or.inl h) (br_t rfl ⟨rfl, mn_R hm hp hT hP⟩))))
      · have c1 : ¬ nI j < 1 := by rw [mn_lt1 (by omega)]; omega
        have c2 : ¬ nI j ≤ 60 := by rw [mn_le60 (by omega)]; omega
        exact br_f c1 (br_f c2 (br_f a1 (br_f a2 (ym_f (Or.inr ⟨j, h1, h2, rfl⟩) (br_t rfl ⟨rfl, mn_R hm hp hT hP⟩)))))
      · have c1 : ¬ nI j < 1 := by rw [mn_lt1 (by omega)]; omega
        have c2 : nI j ≤ 60 := by rw [mn_le60 (by omega)]; omega
        refine br_f c1 (br_t c2 ?_)
        by_cases c : m + j ≤ 60
        · have c3 : nI j ≤ 60 - nI m := by rw [mn_60s hm, nI_leI (by omega) (by omega)]; omega
          have c4 : nI m + nI j ≤ 60 := by rw [nI_add, mn_le60 (by omega)]; omega
          refine br_t c3 (nm_r (nI_add m j) ⟨j + 1, mw_xg c j m (j + 1) T rfl b2 (by omega) ?_⟩)
          exact br_f a1 (br_f a2 (ym_t h1 h2 (br_f mn_10 (br_t c4 ⟨j + 1, mw_yg h2 j 0 m (j + 1) T (by omega) c b2 (by omega) ⟨rfl, mn_R c hp (mw_gl j m T hT) hP⟩⟩))))
        · have c3 : ¬ nI j ≤ 60 - nI m := by rw [mn_60s hm, nI_leI (by omega) (by omega)]; omega
          have c4 : ¬ nI m + nI j ≤ 60 := by rw [nI_add, mn_le60 (by omega)]; omega
          exact br_f c3 (br_f a1 (br_f a2 (ym_t h1 h2 (br_f mn_10 (br_f c4 ⟨rfl, mn_R hm hp hT hP⟩)))))
theorem i_vc_cut {k : Nat} {u : SX} {v : SY} (I : i_Rel k u v) (hk : k + 3 ≤ 1536) (v1 : Int32) : wpX_cut (fun r u' => wpY_cut (fun r' v' => r' = r ∧ i_Rel (k + 3) u' v') v v1) u v1 := by
  obtain ⟨m, p, T, P, bd, jo, pl, la, ss, pp, tr, tp, rfl, rfl, hm, hp, hT, hP⟩ := I
  unfold wpX_cut wpY_cut
  dsimp only
  by_cases a1 : v1 < 0
  · exact br_t a1 (br_t a1 ⟨rfl, mn_R hm hp hT hP⟩)
  · refine br_f a1 ?_
    by_cases a2 : v1 ≤ 60
    · refine br_t a2 ?_
      obtain ⟨j, hj, rfl⟩ := nI_of a1
      by_cases c : m ≤ j
      · have c3 : nI m ≤ nI j := nI_le c hj
        exact br_t c3 (br_f a1 (br_t a2 (br_t c3 ⟨rfl, mn_R (m := 0) (by omega) hp hT hP⟩)))
      · have c3 : ¬ nI m ≤ nI j := nI_ge (by omega) (by omega)
        exact br_f c3 (nm_r (pk_sub (by omega)) (br_f a1 (br_t a2 (br_f c3 (nm_r (pk_sub (by omega)) ⟨rfl, mn_R (by omega) hp hT hP⟩)))))
    · exact br_f a2 (br_f a1 (br_f a2 ⟨rfl, mn_R hm hp hT hP⟩))
theorem i_vc_change {k : Nat} {u : SX} {v : SY} (I : i_Rel k u v) (hk : k + 3 ≤ 1536) (v1 : Int32) (v2 : Int32) : wpX_change (fun r u' => wpY_change (fun r' v' => r' = r ∧ i_Rel (k + 3) u' v') v v1 v2) u v1 v2 := by
  obtain ⟨m, p, T, P, bd, jo, pl, la, ss, pp, tr, tp, rfl, rfl, hm, hp, hT, hP⟩ := I
  unfold wpX_change wpY_change
  dsimp only
  by_cases a1 : v1 < 0
  · exact br_t a1 (br_t a1 ⟨rfl, mn_R hm hp hT hP⟩)
  · refine br_f a1 ?_
    by_cases a2 : nI m ≤ v1
    · exact br_t a2 (br_f a1 (br_t a2 ⟨rfl, mn_R hm hp hT hP⟩))
    · refine br_f a2 ?_
      rcases mn_lc v2 4 (by omega) with hb | ⟨l, hl, rfl⟩
      · exact xl_f hb (br_t rfl (br_f a1 (br_f a2 (yl_f hb (br_t rfl ⟨rfl, mn_R hm hp hT hP⟩)))))
      · obtain ⟨j, hj, rfl⟩ := nI_of a1
        have hjm : j < m := by
          rw [nI_leI (by omega) hj] at a2
          omega
        have hi : vp_in (nI j) 60 := vp_in_nI (by omega) (by omega)
        refine xl_t hl (br_f mn_10 ⟨hi, fun x ex => ⟨hi, fun a ea => ?_⟩⟩)
        refine br_f a1 (br_f a2 (yl_t hl (br_f mn_10 ⟨hi, fun y ey => ⟨hi, fun b eb => ⟨ey.trans ex.symm, ?_⟩⟩⟩)))
        rw [ea, eb]
        exact mn_R hm hp (mm_ltU hT hl) hP
theorem i_vc_extend {k : Nat} {u : SX} {v : SY} (I : i_Rel k u v) (hk : k + 3 ≤ 1536) (v1 : Int32) : wpX_extend (fun r u' => wpY_extend (fun r' v' => r' = r ∧ i_Rel (k + 3) u' v') v v1) u v1 := by
  obtain ⟨m, p, T, P, bd, jo, pl, la, ss, pp, tr, tp, rfl, rfl, hm, hp, hT, hP⟩ := I
  unfold wpX_extend wpY_extend
  dsimp only
  rcases mn_lc v1 4 (by omega) with hb | ⟨l, hl, rfl⟩
  · exact xl_f hb (br_t rfl (yl_f hb (br_t rfl ⟨rfl, mn_R hm hp hT hP⟩)))
  · refine xl_t hl (br_f mn_10 ?_)
    by_cases c : p < 12
    · have c1 : nI p < 12 := by rw [mn_lt12 (by omega)]; exact c
      have hi : vp_in (nI p) 12 := vp_in_nI c (by omega)
      refine br_t c1 ⟨hi, fun a ea => nm_r (nI_1 p) ?_⟩
      refine yl_t hl (br_f mn_10 (br_t c1 ⟨hi, fun b eb => nm_r (nI_1 p) ⟨rfl, ?_⟩⟩))
      rw [ea, eb]
      exact mn_R hm c hT (mm_ltU hP hl)
    · have c1 : ¬ nI p < 12 := by rw [mn_lt12 (by omega)]; exact c
      exact br_f c1 (yl_t hl (br_f mn_10 (br_f c1 ⟨rfl, mn_R hm hp hT hP⟩)))
theorem i_vc_shorten {k : Nat} {u : SX} {v : SY} (I : i_Rel k u v) (hk : k + 3 ≤ 1536) : wpX_shorten (fun r u' => wpY_shorten (fun r' v' => r' = r ∧ i_Rel (k + 3) u' v') v) u := by
  obtain ⟨m, p, T, P, bd, jo, pl, la, ss, pp, tr, tp, rfl, rfl, hm, hp, hT, hP⟩ := I
  unfold wpX_shorten wpY_shorten
  dsimp only
  by_cases c : 1 ≤ p
  · have c1 : 1 ≤ nI p := by rw [mn_1le (by omega)]; exact c
    have c2 : ¬ nI p = 0 := by rw [mn_eq0 (by omega)]; omega
    have hi : vp_in (nI (p - 1)) 12 := vp_in_nI (by omega) (by omega)
    exact br_t c1 (nm_r (mn_s1 c) ⟨hi, br_f c2 (nm_r (mn_s1 c) ⟨hi, rfl, mn_R hm (by omega) hT hP⟩)⟩)
  · have c1 : ¬ 1 ≤ nI p := by rw [mn_1le (by omega)]; exact c
    have c2 : nI p = 0 := by rw [mn_eq0 (by omega)]; omega
    exact br_f c1 (br_t c2 ⟨rfl, mn_R hm hp hT hP⟩)
theorem i_vc_copy {k : Nat} {u : SX} {v : SY} (I : i_Rel k u v) (hk : k + 3 ≤ 1536) (v1 : Int32) (v2 : Int32) : wpX_copy (fun r u' => wpY_copy (fun r' v' => r' = r ∧ i_Rel (k + 3) u' v') v v1 v2) u v1 v2 := by
  obtain ⟨m, p, T, P, bd, jo, pl, la, ss, pp, tr, tp, rfl, rfl, hm, hp, hT, hP⟩ := I
  unfold wpX_copy wpY_copy
  dsimp only
  by_cases a1 : v2 < 0
  · exact br_t a1 (br_t a1 ⟨rfl, mn_R hm hp hT hP⟩)
  · refine br_f a1 ?_
    by_cases a2 : 12 < v2
    · exact br_t a2 (br_f a1 (br_t a2 ⟨rfl, mn_R hm hp hT hP⟩))
    · refine br_f a2 ?_
      by_cases a3 : v1 < 0
      · exact br_t a3 (br_f a1 (br_f a2 (br_t a3 ⟨rfl, mn_R hm hp hT hP⟩)))
      · refine br_f a3 ?_
        by_cases a4 : v1 ≤ nI m - v2
        · refine br_t a4 ?_
          obtain ⟨j, hj, rfl⟩ := nI_of a1
          obtain ⟨i, hi, rfl⟩ := nI_of a3
          have hj12 : j ≤ 12 := by
            rw [mn_12lt hj] at a2
            omega
          have hij : i + j ≤ m := by
            rw [Int32.le_iff_toInt_le, pk_sub_toInt (by omega) (by omega), nI_toInt hi] at a4
            omega
          refine ⟨j + 1, mw_xc (by omega) hj12 j 0 (j + 1) P (by omega) (by omega) ?_⟩
          exact br_f a1 (br_f a2 (br_f a3 (br_t a4 ⟨j + 1, mw_yc (by omega) hj12 j 0 (j + 1) P (by omega) (by omega) ⟨rfl, mn_R hm hj12 hT (mw_cl hT j 0 P hP)⟩⟩)))
        · exact br_f a4 (br_f a1 (br_f a2 (br_f a3 (br_f a4 ⟨rfl, mn_R hm hp hT hP⟩))))
theorem mw_sh {i : Nat} (hm : m ≤ 60) (hp : p ≤ 12) (hi : i ≤ m) : ∀ (d s : Nat), s + d = p → ∃ r : Int32, (∀ (n : Nat) (post : Int32 → Prop), d ≤ n → post r → wX_shared_16 post (nI i) (nI m) (nI p) T P bd jo pl la ss pp tr tp (n + 1) (nI s)) ∧ (∀ (n : Nat) (post : Int32 → Prop), d ≤ n → post r → wY_shared_16 post (nI i) (nI m) (nI p) T P (n + 1) (nI s)) := by
  intro d
  induction d with
  | zero =>
    intro s h
    have c : p ≤ s := by omega
    by_cases c2 : m ≤ i + s
    · exact ⟨nI s, fun n post hn hq => by simp (disch := omega) only [wX_shared_16, c, c2, forall_eq, nI_leI, nI_ltI, nI_eq, vp_in_nI, nI_clamp, nI_1, nI_add, pk_sub, mn_10, mn_60lt, mn_60le, mn_12le, mn_4le, mn_le0, mn_lt0, mn_0le, mn_eq0, mn_1le, mn_lt1, mn_le60, mn_lt12, mn_12lt, mn_le3, true_implies, forall_const, not_true_eq_false, not_false_eq_true, false_implies, and_true, true_and, implies_true, and_self, if_true, if_false]; exact hq, fun n post hn hq => by simp (disch := omega) only [wY_shared_16, c, c2, forall_eq, nI_leI, nI_ltI, nI_eq, vp_in_nI, nI_clamp, nI_1, nI_add, pk_sub, mn_10, mn_60lt, mn_60le, mn_12le, mn_4le, mn_le0, mn_lt0, mn_0le, mn_eq0, mn_1le, mn_lt1, mn_le60, mn_lt12, mn_12lt, mn_le3, true_implies, forall_const, not_true_eq_false, not_false_eq_true, false_implies, and_true, true_and, implies_true, and_self, if_true, if_false]; exact hq⟩
    · exact ⟨nI s, fun n post hn hq => by simp (disch := omega) only [wX_shared_16, c, c2, forall_eq, nI_leI, nI_ltI, nI_eq, vp_in_nI, nI_clamp, nI_1, nI_add, pk_sub, mn_10, mn_60lt, mn_60le, mn_12le, mn_4le, mn_le0, mn_lt0, mn_0le, mn_eq0, mn_1le, mn_lt1, mn_le60, mn_lt12, mn_12lt, mn_le3, true_implies, forall_const, not_true_eq_false, not_false_eq_true, false_implies, and_true, true_and, implies_true, and_self, if_true, if_false]; exact hq, fun n post hn hq => by simp (disch := omega) only [wY_shared_16, c, c2, forall_eq, nI_leI, nI_ltI, nI_eq, vp_in_nI, nI_clamp, nI_1, nI_add, pk_sub, mn_10, mn_60lt, mn_60le, mn_12le, mn_4le, mn_le0, mn_lt0, mn_0le, mn_eq0, mn_1le, mn_lt1, mn_le60, mn_lt12, mn_12lt, mn_le3, true_implies, forall_const, not_true_eq_false, not_false_eq_true, false_implies, and_true, true_and, implies_true, and_self, if_true, if_false]; exact hq⟩
  | succ d ih =>
    intro s h
    have c : ¬ p ≤ s := by omega
    by_cases c2 : m ≤ i + s
    · exact ⟨nI s, fun n post hn hq => by simp (disch := omega) only [wX_shared_16, c, c2, forall_eq, nI_leI, nI_ltI, nI_eq, vp_in_nI, nI_clamp, nI_1, nI_add, pk_sub, mn_10, mn_60lt, mn_60le, mn_12le, mn_4le, mn_le0, mn_lt0, mn_0le, mn_eq0, mn_1le, mn_lt1, mn_le60, mn_lt12, mn_12lt, mn_le3, true_implies, forall_const, not_true_eq_false, not_false_eq_true, false_implies, and_true, true_and, implies_true, and_self, if_true, if_false]; exact hq, fun n post hn hq => by simp (disch := omega) only [wY_shared_16, c, c2, forall_eq, nI_leI, nI_ltI, nI_eq, vp_in_nI, nI_clamp, nI_1, nI_add, pk_sub, mn_10, mn_60lt, mn_60le, mn_12le, mn_4le, mn_le0, mn_lt0, mn_0le, mn_eq0, mn_1le, mn_lt1, mn_le60, mn_lt12, mn_12lt, mn_le3, true_implies, forall_const, not_true_eq_false, not_false_eq_true, false_implies, and_true, true_and, implies_true, and_self, if_true, if_false]; exact hq⟩
    · by_cases c3 : T (i + s) = P s
      · obtain ⟨r, hX, hY⟩ := ih (s + 1) (by omega)
        refine ⟨r, fun n post hn hq => ?_, fun n post hn hq => ?_⟩
        · have H := hX (n - 1) post (by omega) hq
          rw [show n - 1 + 1 = n from by omega] at H
          simp (disch := omega) only [wX_shared_16, c, c2, c3, forall_eq, nI_leI, nI_ltI, nI_eq, vp_in_nI, nI_clamp, nI_1, nI_add, pk_sub, mn_10, mn_60lt, mn_60le, mn_12le, mn_4le, mn_le0, mn_lt0, mn_0le, mn_eq0, mn_1le, mn_lt1, mn_le60, mn_lt12, mn_12lt, mn_le3, true_implies, forall_const, not_true_eq_false, not_false_eq_true, false_implies, and_true, true_and, implies_true, and_self, if_true, if_false]
          exact H
        · have H := hY (n - 1) post (by omega) hq
          rw [show n - 1 + 1 = n from by omega] at H
          simp (disch := omega) only [wY_shared_16, c, c2, c3, forall_eq, nI_leI, nI_ltI, nI_eq, vp_in_nI, nI_clamp, nI_1, nI_add, pk_sub, mn_10, mn_60lt, mn_60le, mn_12le, mn_4le, mn_le0, mn_lt0, mn_0le, mn_eq0, mn_1le, mn_lt1, mn_le60, mn_lt12, mn_12lt, mn_le3, true_implies, forall_const, not_true_eq_false, not_false_eq_true, false_implies, and_true, true_and, implies_true, and_self, if_true, if_false]
          exact H
      · exact ⟨nI s, fun n post hn hq => by simp (disch := omega) only [wX_shared_16, c, c2, c3, forall_eq, nI_leI, nI_ltI, nI_eq, vp_in_nI, nI_clamp, nI_1, nI_add, pk_sub, mn_10, mn_60lt, mn_60le, mn_12le, mn_4le, mn_le0, mn_lt0, mn_0le, mn_eq0, mn_1le, mn_lt1, mn_le60, mn_lt12, mn_12lt, mn_le3, true_implies, forall_const, not_true_eq_false, not_false_eq_true, false_implies, and_true, true_and, implies_true, and_self, if_true, if_false]; exact hq, fun n post hn hq => by simp (disch := omega) only [wY_shared_16, c, c2, c3, forall_eq, nI_leI, nI_ltI, nI_eq, vp_in_nI, nI_clamp, nI_1, nI_add, pk_sub, mn_10, mn_60lt, mn_60le, mn_12le, mn_4le, mn_le0, mn_lt0, mn_0le, mn_eq0, mn_1le, mn_lt1, mn_le60, mn_lt12, mn_12lt, mn_le3, true_implies, forall_const, not_true_eq_false, not_false_eq_true, false_implies, and_true, true_and, implies_true, and_self, if_true, if_false]; exact hq⟩
theorem i_vc_shared {k : Nat} {u : SX} {v : SY} (I : i_Rel k u v) (hk : k + 3 ≤ 1536) (v1 : Int32) : wpX_shared (fun r => wpY_shared (fun r' => r' = r ∧ i_Rel (k + 3) u v) v v1) u v1 := by
  obtain ⟨m, p, T, P, bd, jo, pl, la, ss, pp, tr, tp, rfl, rfl, hm, hp, hT, hP⟩ := I
  unfold wpX_shared wpY_shared
  dsimp only
  by_cases a1 : v1 < 0
  · exact br_t a1 (br_t a1 ⟨rfl, mn_R hm hp hT hP⟩)
  · refine br_f a1 ?_
    by_cases a2 : v1 ≤ nI m
    · refine br_t a2 ?_
      obtain ⟨i, hi, rfl⟩ := nI_of a1
      have him : i ≤ m := by
        rw [nI_leI hi (by omega)] at a2
        exact a2
      obtain ⟨r, hX, hY⟩ := mw_sh (T := T) (P := P) (bd := bd) (jo := jo) (pl := pl) (la := la) (ss := ss) (pp := pp) (tr := tr) (tp := tp) hm hp him p 0 (by omega)
      exact ⟨p + 1, hX p _ (by omega) (br_f a1 (br_t a2 ⟨p + 1, hY p _ (by omega) ⟨rfl, mn_R hm hp hT hP⟩⟩))⟩
    · exact br_f a2 (br_f a1 (br_f a2 ⟨rfl, mn_R hm hp hT hP⟩))
end
end
section
/-! the reference's searches against the pure answers -/
section
variable {T P : Nat → Int32} {m p : Nat}
theorem yy_wl {post : Int32 → Prop} {i : Nat} (hm : m ≤ 60) (hp : p ≤ 12) (hi : i + p ≤ m) : ∀ (d s n : Nat), s + d = p → d < n → post (nI (mm_df T P i p)) → wY_wrong_24 post (nI i) (nI m) (nI p) T P n (nI (mm_df T P i s)) (nI s) := by
  intro d
  induction d with
  | zero =>
    intro s n h hn hq
    obtain ⟨n, rfl⟩ : ∃ n', n = n' + 1 := ⟨n - 1, by omega⟩
    have e : s = p := by omega
    subst e
    simp (disch := omega) only [wY_wrong_24, Nat.le_refl, forall_eq, nI_leI, nI_ltI, nI_eq, vp_in_nI, nI_clamp, nI_1, nI_add, pk_sub, mn_10, mn_60lt, mn_60le, mn_12le, mn_4le, mn_le0, mn_lt0, mn_0le, mn_eq0, mn_1le, mn_lt1, mn_le60, mn_lt12, mn_12lt, mn_le3, true_implies, forall_const, not_true_eq_false, not_false_eq_true, false_implies, and_true, true_and, implies_true, and_self, if_true, if_false]
    exact hq
  | succ d ih =>
    intro s n h hn hq
    obtain ⟨n, rfl⟩ : ∃ n', n = n' + 1 := ⟨n - 1, by omega⟩
    have c : ¬ p ≤ s := by omega
    have H := ih (s + 1) n (by omega) (by omega) hq
    by_cases c3 : T (i + s) = P s
    · rw [mm_dfT c3] at H
      simp (disch := omega) only [wY_wrong_24, c, c3, forall_eq, nI_leI, nI_ltI, nI_eq, vp_in_nI, nI_clamp, nI_1, nI_add, pk_sub, mn_10, mn_60lt, mn_60le, mn_12le, mn_4le, mn_le0, mn_lt0, mn_0le, mn_eq0, mn_1le, mn_lt1, mn_le60, mn_lt12, mn_12lt, mn_le3, true_implies, forall_const, not_true_eq_false, not_false_eq_true, false_implies, and_true, true_and, implies_true, and_self, if_true, if_false]
      exact H
    · rw [mm_dfF c3] at H
      simp (disch := omega) only [wY_wrong_24, c, c3, forall_eq, nI_leI, nI_ltI, nI_eq, vp_in_nI, nI_clamp, nI_1, nI_add, pk_sub, mn_10, mn_60lt, mn_60le, mn_12le, mn_4le, mn_le0, mn_lt0, mn_0le, mn_eq0, mn_1le, mn_lt1, mn_le60, mn_lt12, mn_12lt, mn_le3, true_implies, forall_const, not_true_eq_false, not_false_eq_true, false_implies, and_true, true_and, implies_true, and_self, if_true, if_false]
      exact H
theorem yy_w {post : Int32 → Prop} {i : Nat} (hm : m ≤ 60) (hp : p ≤ 12) (hi : i ≤ 60) (hq : post (nI (mm_wr T P m p i))) : wpY_wrong post ((nI m), (nI p), T, P) (nI i) := by
  unfold wpY_wrong
  by_cases c : i + p ≤ m
  · rw [mm_wrT c] at hq
    simp (disch := omega) only [c, forall_eq, nI_leI, nI_ltI, nI_eq, vp_in_nI, nI_clamp, nI_1, nI_add, pk_sub, mn_10, mn_60lt, mn_60le, mn_12le, mn_4le, mn_le0, mn_lt0, mn_0le, mn_eq0, mn_1le, mn_lt1, mn_le60, mn_lt12, mn_12lt, mn_le3, true_implies, forall_const, not_true_eq_false, not_false_eq_true, false_implies, and_true, true_and, implies_true, and_self, if_true, if_false]
    exact ⟨p + 1, yy_wl hm hp c p 0 (p + 1) (by omega) (by omega) hq⟩
  · rw [mm_wrF c] at hq
    simp (disch := omega) only [c, forall_eq, nI_leI, nI_ltI, nI_eq, vp_in_nI, nI_clamp, nI_1, nI_add, pk_sub, mn_10, mn_60lt, mn_60le, mn_12le, mn_4le, mn_le0, mn_lt0, mn_0le, mn_eq0, mn_1le, mn_lt1, mn_le60, mn_lt12, mn_12lt, mn_le3, true_implies, forall_const, not_true_eq_false, not_false_eq_true, false_implies, and_true, true_and, implies_true, and_self, if_true, if_false]
    exact hq
theorem yy_nl {post : Int32 → Prop} {e : Nat} (hm : m ≤ 60) (hp : p ≤ 12) (he : e ≤ 3) : ∀ (d s n : Nat), s + d = m + 1 → d < n → post (nI (mm_cn (mm_f T P m p e) (m + 1))) → wY_near_15 post (nI e) (nI m) (nI p) T P n (nI (mm_cn (mm_f T P m p e) s)) (nI s) := by
  intro d
  induction d with
  | zero =>
    intro s n h hn hq
    obtain ⟨n, rfl⟩ : ∃ n', n = n' + 1 := ⟨n - 1, by omega⟩
    have e : s = m + 1 := by omega
    subst e
    simp (disch := omega) only [wY_near_15, Nat.lt_succ_self, forall_eq, nI_leI, nI_ltI, nI_eq, vp_in_nI, nI_clamp, nI_1, nI_add, pk_sub, mn_10, mn_60lt, mn_60le, mn_12le, mn_4le, mn_le0, mn_lt0, mn_0le, mn_eq0, mn_1le, mn_lt1, mn_le60, mn_lt12, mn_12lt, mn_le3, true_implies, forall_const, not_true_eq_false, not_false_eq_true, false_implies, and_true, true_and, implies_true, and_self, if_true, if_false]
    exact hq
  | succ d ih =>
    intro s n h hn hq
    obtain ⟨n, rfl⟩ : ∃ n', n = n' + 1 := ⟨n - 1, by omega⟩
    have c : ¬ m < s := by omega
    have H := ih (s + 1) n (by omega) (by omega) hq
    have w := mm_wrL (T := T) (P := P) (m := m) (i := s) hp
    simp (disch := omega) only [wY_near_15, c, forall_eq, nI_leI, nI_ltI, nI_eq, vp_in_nI, nI_clamp, nI_1, nI_add, pk_sub, mn_10, mn_60lt, mn_60le, mn_12le, mn_4le, mn_le0, mn_lt0, mn_0le, mn_eq0, mn_1le, mn_lt1, mn_le60, mn_lt12, mn_12lt, mn_le3, true_implies, forall_const, not_true_eq_false, not_false_eq_true, false_implies, and_true, true_and, implies_true, and_self, if_true, if_false]
    refine yy_w hm hp (by omega) ?_
    by_cases c3 : e < mm_wr T P m p s
    · rw [mm_cnF (by rw [mm_fT]; omega)] at H
      exact br_t (nI_lt c3 (by omega)) H
    · rw [mm_cnT (by rw [mm_fT]; omega)] at H
      exact br_f (nI_nlt (by omega) (by omega)) H
theorem yy_near {post : Int32 → Prop} {e : Nat} (hm : m ≤ 60) (hp : p ≤ 12) (he : e ≤ 3) (hq : post (nI (mm_cn (mm_f T P m p e) (m + 1)))) : wpY_near post ((nI m), (nI p), T, P) (nI e) := by
  unfold wpY_near
  simp (disch := omega) only [he, forall_eq, nI_leI, nI_ltI, nI_eq, vp_in_nI, nI_clamp, nI_1, nI_add, pk_sub, mn_10, mn_60lt, mn_60le, mn_12le, mn_4le, mn_le0, mn_lt0, mn_0le, mn_eq0, mn_1le, mn_lt1, mn_le60, mn_lt12, mn_12lt, mn_le3, true_implies, forall_const, not_true_eq_false, not_false_eq_true, false_implies, and_true, true_and, implies_true, and_self, if_true, if_false]
  exact ⟨m + 2, yy_nl hm hp he (m + 1) 0 (m + 2) (by omega) (by omega) hq⟩
theorem yy_count {post : Int32 → Prop} {g : Nat} (hm : m ≤ 60) (hp : p ≤ 12) (hg : g < 10) (hq : post (nI (mm_cn (mm_f T P m p 0) (m + 1)))) : wpY_count post ((nI m), (nI p), T, P) (nI g) := by
  unfold wpY_count
  dsimp only
  exact ye_t hg (br_f mn_10 (yy_near (e := 0) hm hp (by omega) hq))
theorem yy_xl {post : Int32 → Prop} {g a : Nat} {x2 : Int32} (hm : m ≤ 60) (hp : p ≤ 12) (hg : g < 10) (hx : ∀ s, s ≤ 60 → (nI s < x2 ↔ s < a)) (hq : ∀ r, mm_nx (mm_f T P m p 0) a r → post r) : ∀ (d s n : Nat), s + d = m + 1 → d < n → (∀ j, a ≤ j → j < s → ¬ mm_f T P m p 0 j = true) → wY_next_2 post (nI g) x2 (nI m) (nI p) T P n (nI s) := by
  intro d
  induction d with
  | zero =>
    intro s n h hn hj
    obtain ⟨n, rfl⟩ : ∃ n', n = n' + 1 := ⟨n - 1, by omega⟩
    have c : m < s := by omega
    simp (disch := omega) only [wY_next_2, c, forall_eq, nI_leI, nI_ltI, nI_eq, vp_in_nI, nI_clamp, nI_1, nI_add, pk_sub, mn_10, mn_60lt, mn_60le, mn_12le, mn_4le, mn_le0, mn_lt0, mn_0le, mn_eq0, mn_1le, mn_lt1, mn_le60, mn_lt12, mn_12lt, mn_le3, true_implies, forall_const, not_true_eq_false, not_false_eq_true, false_implies, and_true, true_and, implies_true, and_self, if_true, if_false]
    refine hq _ (Or.inr ⟨rfl, fun j h1 => ?_⟩)
    by_cases z : j < s
    · exact hj j h1 z
    · rw [mm_fB (by omega) (by omega)]
      decide
  | succ d ih =>
    intro s n h hn hj
    obtain ⟨n, rfl⟩ : ∃ n', n = n' + 1 := ⟨n - 1, by omega⟩
    have c : ¬ m < s := by omega
    have w := mm_wrL (T := T) (P := P) (m := m) (i := s) hp
    simp (disch := omega) only [wY_next_2, c, forall_eq, nI_leI, nI_ltI, nI_eq, vp_in_nI, nI_clamp, nI_1, nI_add, pk_sub, mn_10, mn_60lt, mn_60le, mn_12le, mn_4le, mn_le0, mn_lt0, mn_0le, mn_eq0, mn_1le, mn_lt1, mn_le60, mn_lt12, mn_12lt, mn_le3, true_implies, forall_const, not_true_eq_false, not_false_eq_true, false_implies, and_true, true_and, implies_true, and_self, if_true, if_false]
    refine ye_t hg (br_f mn_10 ?_)
    by_cases c2 : s < a
    · exact br_t ((hx s (by omega)).mpr c2) (ih (s + 1) n (by omega) (by omega) (fun j h1 h2 => by omega))
    · refine br_f (fun z => c2 ((hx s (by omega)).mp z)) (yy_w hm hp (by omega) ?_)
      by_cases c3 : mm_wr T P m p s = 0
      · refine br_t (by rw [c3]; rfl) (hq _ (Or.inl ⟨s, by omega, rfl, by omega, by rw [mm_fT]; omega, hj⟩))
      · refine br_f (by rw [mn_eq0 (by omega)]; exact c3) (ih (s + 1) n (by omega) (by omega) (fun j h1 h2 => ?_))
        by_cases z : j < s
        · exact hj j h1 z
        · have e : j = s := by omega
          rw [e, mm_fT]
          omega
theorem yy_next {post : Int32 → Prop} {g a : Nat} {x2 : Int32} (hm : m ≤ 60) (hp : p ≤ 12) (hg : g < 10) (hx : ∀ s, s ≤ 60 → (nI s < x2 ↔ s < a)) (hq : ∀ r, mm_nx (mm_f T P m p 0) a r → post r) : wpY_next post ((nI m), (nI p), T, P) (nI g) x2 := by
  unfold wpY_next
  exact ⟨m + 2, yy_xl hm hp hg hx hq (m + 1) 0 (m + 2) (by omega) (by omega) (fun j h1 h2 => by omega)⟩
theorem yy_nextF {post : Int32 → Prop} {x1 x2 : Int32} (hm : m ≤ 60) (hx : mn_bad 10 x1) (hq : post (-1)) : wpY_next post ((nI m), (nI p), T, P) x1 x2 := by
  unfold wpY_next
  refine ⟨1, ?_⟩
  simp (disch := omega) only [wY_next_2, forall_eq, nI_leI, nI_ltI, nI_eq, vp_in_nI, nI_clamp, nI_1, nI_add, pk_sub, mn_10, mn_60lt, mn_60le, mn_12le, mn_4le, mn_le0, mn_lt0, mn_0le, mn_eq0, mn_1le, mn_lt1, mn_le60, mn_lt12, mn_12lt, mn_le3, true_implies, forall_const, not_true_eq_false, not_false_eq_true, false_implies, and_true, true_and, implies_true, and_self, if_true, if_false]
  exact ye_f hx (br_t rfl hq)
theorem mn_m0 : nI 0 + (-1) < 0 := by decide
theorem yy_ll {post : Int32 → Prop} {g a : Nat} {x2 : Int32} (hm : m ≤ 60) (hp : p ≤ 12) (hg : g < 10) (hx : ∀ s, s ≤ 60 → (x2 < nI s ↔ a ≤ s)) (hq : ∀ r, mm_ls (mm_f T P m p 0) a r → post r) : ∀ (k n : Nat), k ≤ m + 1 → k < n → (∀ j, k ≤ j → j < a → ¬ mm_f T P m p 0 j = true) → wY_last_5 post (nI g) x2 (nI m) (nI p) T P n (nI k + (-1)) := by
  intro k
  induction k with
  | zero =>
    intro n h hn hj
    obtain ⟨n, rfl⟩ : ∃ n', n = n' + 1 := ⟨n - 1, by omega⟩
    exact br_t mn_m0 (hq _ (Or.inr ⟨rfl, fun j h1 => hj j (by omega) h1⟩))
  | succ k ih =>
    intro n h hn hj
    obtain ⟨n, rfl⟩ : ∃ n', n = n' + 1 := ⟨n - 1, by omega⟩
    have w := mm_wrL (T := T) (P := P) (m := m) (i := k) hp
    rw [pk_m1]
    simp (disch := omega) only [wY_last_5, forall_eq, nI_leI, nI_ltI, nI_eq, vp_in_nI, nI_clamp, nI_1, nI_add, pk_sub, mn_10, mn_60lt, mn_60le, mn_12le, mn_4le, mn_le0, mn_lt0, mn_0le, mn_eq0, mn_1le, mn_lt1, mn_le60, mn_lt12, mn_12lt, mn_le3, true_implies, forall_const, not_true_eq_false, not_false_eq_true, false_implies, and_true, true_and, implies_true, and_self, if_true, if_false]
    refine ye_t hg (br_f mn_10 ?_)
    by_cases c2 : a ≤ k
    · exact br_t ((hx k (by omega)).mpr c2) (ih n (by omega) (by omega) (fun j h1 h2 => by omega))
    · refine br_f (fun z => c2 ((hx k (by omega)).mp z)) (yy_w hm hp (by omega) ?_)
      by_cases c3 : mm_wr T P m p k = 0
      · exact br_t (by rw [c3]; rfl) (hq _ (Or.inl ⟨k, rfl, by omega, by rw [mm_fT]; omega, fun j h1 h2 => hj j (by omega) h2⟩))
      · refine br_f (by rw [mn_eq0 (by omega)]; exact c3) (ih n (by omega) (by omega) (fun j h1 h2 => ?_))
        by_cases z : j = k
        · rw [z, mm_fT]
          omega
        · exact hj j (by omega) h2
theorem yy_last {post : Int32 → Prop} {g a : Nat} {x2 : Int32} (hm : m ≤ 60) (hp : p ≤ 12) (hg : g < 10) (hx : ∀ s, s ≤ 60 → (x2 < nI s ↔ a ≤ s)) (hq : ∀ r, mm_ls (mm_f T P m p 0) a r → post r) : wpY_last post ((nI m), (nI p), T, P) (nI g) x2 := by
  unfold wpY_last
  dsimp only
  have H := yy_ll hm hp hg hx hq (m + 1) (m + 2) (by omega) (by omega) (fun j h1 h2 => by rw [mm_fB (by omega) (by omega)]; decide)
  rw [pk_m1] at H
  exact ⟨m + 2, H⟩
theorem yy_lastF {post : Int32 → Prop} {x1 x2 : Int32} (hm : m ≤ 60) (hx : mn_bad 10 x1) (hq : post (-1)) : wpY_last post ((nI m), (nI p), T, P) x1 x2 := by
  unfold wpY_last
  refine ⟨1, ?_⟩
  simp (disch := omega) only [wY_last_5, forall_eq, nI_leI, nI_ltI, nI_eq, vp_in_nI, nI_clamp, nI_1, nI_add, pk_sub, mn_10, mn_60lt, mn_60le, mn_12le, mn_4le, mn_le0, mn_lt0, mn_0le, mn_eq0, mn_1le, mn_lt1, mn_le60, mn_lt12, mn_12lt, mn_le3, true_implies, forall_const, not_true_eq_false, not_false_eq_true, false_implies, and_true, true_and, implies_true, and_self, if_true, if_false]
  exact ye_f hx (br_t rfl hq)
theorem yy_kl {post : Int32 → Prop} {g : Nat} {x2 : Int32} (hm : m ≤ 60) (hp : p ≤ 12) (hg : g < 10) (hq : ∀ r, mm_kt (mm_f T P m p 0) x2 r → post r) : ∀ (d s n : Nat), s + d = m + 1 → d < n → (∀ j, j < s → mm_f T P m p 0 j = true → ¬ nI (mm_cn (mm_f T P m p 0) j) = x2) → wY_kth_5 post (nI g) x2 (nI m) (nI p) T P n (nI (mm_cn (mm_f T P m p 0) s)) (nI s) := by
  intro d
  induction d with
  | zero =>
    intro s n h hn hj
    obtain ⟨n, rfl⟩ : ∃ n', n = n' + 1 := ⟨n - 1, by omega⟩
    have c : m < s := by omega
    simp (disch := omega) only [wY_kth_5, c, forall_eq, nI_leI, nI_ltI, nI_eq, vp_in_nI, nI_clamp, nI_1, nI_add, pk_sub, mn_10, mn_60lt, mn_60le, mn_12le, mn_4le, mn_le0, mn_lt0, mn_0le, mn_eq0, mn_1le, mn_lt1, mn_le60, mn_lt12, mn_12lt, mn_le3, true_implies, forall_const, not_true_eq_false, not_false_eq_true, false_implies, and_true, true_and, implies_true, and_self, if_true, if_false]
    refine hq _ (Or.inr ⟨rfl, fun j h1 => ?_⟩)
    by_cases z : j < s
    · exact hj j z h1
    · rw [mm_fB (by omega) (by omega)] at h1
      exact absurd h1 (by decide)
  | succ d ih =>
    intro s n h hn hj
    obtain ⟨n, rfl⟩ : ∃ n', n = n' + 1 := ⟨n - 1, by omega⟩
    have c : ¬ m < s := by omega
    have w := mm_wrL (T := T) (P := P) (m := m) (i := s) hp
    simp (disch := omega) only [wY_kth_5, c, forall_eq, nI_leI, nI_ltI, nI_eq, vp_in_nI, nI_clamp, nI_1, nI_add, pk_sub, mn_10, mn_60lt, mn_60le, mn_12le, mn_4le, mn_le0, mn_lt0, mn_0le, mn_eq0, mn_1le, mn_lt1, mn_le60, mn_lt12, mn_12lt, mn_le3, true_implies, forall_const, not_true_eq_false, not_false_eq_true, false_implies, and_true, true_and, implies_true, and_self, if_true, if_false]
    refine ye_t hg (br_f mn_10 (yy_w hm hp (by omega) ?_))
    by_cases c3 : mm_wr T P m p s = 0
    · have hf : mm_f T P m p 0 s = true := by rw [mm_fT]; omega
      refine br_t (by rw [c3]; rfl) ?_
      by_cases c4 : nI (mm_cn (mm_f T P m p 0) s) = x2
      · exact br_t c4 (hq _ (Or.inl ⟨s, by omega, rfl, hf, c4⟩))
      · have H := ih (s + 1) n (by omega) (by omega) (fun j h1 h2 => by
          by_cases z : j < s
          · exact hj j z h2
          · have e : j = s := by omega
            rw [e]
            exact c4)
        rw [mm_cnT hf] at H
        exact br_f c4 H
    · have hf : ¬ mm_f T P m p 0 s = true := by rw [mm_fT]; omega
      have H := ih (s + 1) n (by omega) (by omega) (fun j h1 h2 => by
          by_cases z : j < s
          · exact hj j z h2
          · have e : j = s := by omega
            rw [e] at h2
            exact absurd h2 hf)
      rw [mm_cnF hf] at H
      exact br_f (by rw [mn_eq0 (by omega)]; exact c3) H
theorem yy_kth {post : Int32 → Prop} {g : Nat} {x2 : Int32} (hm : m ≤ 60) (hp : p ≤ 12) (hg : g < 10) (hq : ∀ r, mm_kt (mm_f T P m p 0) x2 r → post r) : wpY_kth post ((nI m), (nI p), T, P) (nI g) x2 := by
  unfold wpY_kth
  exact ⟨m + 2, yy_kl hm hp hg hq (m + 1) 0 (m + 2) (by omega) (by omega) (fun j h1 h2 => by omega)⟩
theorem yy_kthF {post : Int32 → Prop} {x1 x2 : Int32} (hm : m ≤ 60) (hx : mn_bad 10 x1) (hq : post (-1)) : wpY_kth post ((nI m), (nI p), T, P) x1 x2 := by
  unfold wpY_kth
  refine ⟨1, ?_⟩
  simp (disch := omega) only [wY_kth_5, forall_eq, nI_leI, nI_ltI, nI_eq, vp_in_nI, nI_clamp, nI_1, nI_add, pk_sub, mn_10, mn_60lt, mn_60le, mn_12le, mn_4le, mn_le0, mn_lt0, mn_0le, mn_eq0, mn_1le, mn_lt1, mn_le60, mn_lt12, mn_12lt, mn_le3, true_implies, forall_const, not_true_eq_false, not_false_eq_true, false_implies, and_true, true_and, implies_true, and_self, if_true, if_false]
  exact ye_f hx (br_t rfl hq)
theorem yy_al {post : Int32 → Prop} {x1 : Int32} {D : Nat} (hm : m ≤ 60) (hp : p ≤ 12) (hD : D = p ∨ p = 0 ∧ D = 1) (hq : wpY_engine (fun r => (r = 0 → post (-1)) ∧ (¬ r = 0 → post (nI (mm_ga (mm_f T P m p 0) D (m + 1)).1))) ((nI m), (nI p), T, P) x1) : ∀ (d s n fr : Nat), s + d = m + 1 → d < n → fr ≤ 100 → (fr = (mm_ga (mm_f T P m p 0) D s).2 ∨ fr ≤ s ∧ (mm_ga (mm_f T P m p 0) D s).2 ≤ s) → wY_apart_7 post x1 (nI m) (nI p) T P n (nI (mm_ga (mm_f T P m p 0) D s).1) (nI fr) (nI s) := by
  intro d
  induction d with
  | zero =>
    intro s n fr h hn hf hj
    obtain ⟨n, rfl⟩ : ∃ n', n = n' + 1 := ⟨n - 1, by omega⟩
    have e : s = m + 1 := by omega
    subst e
    simp (disch := omega) only [wY_apart_7, Nat.lt_succ_self, forall_eq, nI_leI, nI_ltI, nI_eq, vp_in_nI, nI_clamp, nI_1, nI_add, pk_sub, mn_10, mn_60lt, mn_60le, mn_12le, mn_4le, mn_le0, mn_lt0, mn_0le, mn_eq0, mn_1le, mn_lt1, mn_le60, mn_lt12, mn_12lt, mn_le3, true_implies, forall_const, not_true_eq_false, not_false_eq_true, false_implies, and_true, true_and, implies_true, and_self, if_true, if_false]
    exact hq
  | succ d ih =>
    intro s n fr h hn hf hj
    obtain ⟨n, rfl⟩ : ∃ n', n = n' + 1 := ⟨n - 1, by omega⟩
    have c : ¬ m < s := by omega
    have w := mm_wrL (T := T) (P := P) (m := m) (i := s) hp
    by_cases c2 : s < fr
    · have e : mm_ga (mm_f T P m p 0) D (s + 1) = mm_ga (mm_f T P m p 0) D s := mm_gaF (fun z => by omega)
      have H := ih (s + 1) n fr (by omega) (by omega) hf (by rw [e]; omega)
      rw [e] at H
      simp (disch := omega) only [wY_apart_7, c, c2, forall_eq, nI_leI, nI_ltI, nI_eq, vp_in_nI, nI_clamp, nI_1, nI_add, pk_sub, mn_10, mn_60lt, mn_60le, mn_12le, mn_4le, mn_le0, mn_lt0, mn_0le, mn_eq0, mn_1le, mn_lt1, mn_le60, mn_lt12, mn_12lt, mn_le3, true_implies, forall_const, not_true_eq_false, not_false_eq_true, false_implies, and_true, true_and, implies_true, and_self, if_true, if_false]
      exact H
    · simp (disch := omega) only [wY_apart_7, c, c2, forall_eq, nI_leI, nI_ltI, nI_eq, vp_in_nI, nI_clamp, nI_1, nI_add, pk_sub, mn_10, mn_60lt, mn_60le, mn_12le, mn_4le, mn_le0, mn_lt0, mn_0le, mn_eq0, mn_1le, mn_lt1, mn_le60, mn_lt12, mn_12lt, mn_le3, true_implies, forall_const, not_true_eq_false, not_false_eq_true, false_implies, and_true, true_and, implies_true, and_self, if_true, if_false]
      refine yy_w hm hp (by omega) ?_
      by_cases c3 : mm_wr T P m p s = 0
      · have hff : mm_f T P m p 0 s = true := by rw [mm_fT]; omega
        have e : mm_ga (mm_f T P m p 0) D (s + 1) = ((mm_ga (mm_f T P m p 0) D s).1 + 1, s + D) := mm_gaT (by omega) hff
        have H := ih (s + 1) n (s + p) (by omega) (by omega) (by omega) (by rw [e]; dsimp only; omega)
        rw [e] at H
        exact br_t (by rw [c3]; rfl) H
      · have hff : ¬ mm_f T P m p 0 s = true := by rw [mm_fT]; omega
        have e : mm_ga (mm_f T P m p 0) D (s + 1) = mm_ga (mm_f T P m p 0) D s := mm_gaF (fun z => hff z.2)
        have H := ih (s + 1) n fr (by omega) (by omega) hf (by rw [e]; omega)
        rw [e] at H
        exact br_f (by rw [mn_eq0 (by omega)]; exact c3) H
theorem yy_apart {post : Int32 → Prop} {x1 : Int32} {D : Nat} (hm : m ≤ 60) (hp : p ≤ 12) (hD : D = p ∨ p = 0 ∧ D = 1) (hq : wpY_engine (fun r => (r = 0 → post (-1)) ∧ (¬ r = 0 → post (nI (mm_ga (mm_f T P m p 0) D (m + 1)).1))) ((nI m), (nI p), T, P) x1) : wpY_apart post ((nI m), (nI p), T, P) x1 := by
  unfold wpY_apart
  exact ⟨m + 2, yy_al hm hp hD hq (m + 1) 0 (m + 2) 0 (by omega) (by omega) (by omega) (Or.inl rfl)⟩
theorem yy_bi {post : Int32 → Prop} {J : Int32 → Prop} {b : Nat} (hp : p ≤ 12) (hb : b < p) (k1 : mm_su P P p b → post (nI b)) (k2 : ¬ mm_su P P p b → J (nI b + (-1))) : ∀ (d k n : Nat) (z : Int32), k + d = b → d < n → (z = 1 ∧ (∀ j, j < k → P j = P (p - b + j)) ∨ z = 0 ∧ ¬ mm_su P P p b) → wY_border_15 post J (nI b) (nI m) (nI p) T P n z (nI k) := by
  intro d
  induction d with
  | zero =>
    intro k n z h hn hz
    obtain ⟨n, rfl⟩ : ∃ n', n = n' + 1 := ⟨n - 1, by omega⟩
    have c : b ≤ k := by omega
    rcases hz with ⟨rfl, h2⟩ | ⟨rfl, h2⟩
    · simp (disch := omega) only [wY_border_15, c, forall_eq, nI_leI, nI_ltI, nI_eq, vp_in_nI, nI_clamp, nI_1, nI_add, pk_sub, mn_10, mn_60lt, mn_60le, mn_12le, mn_4le, mn_le0, mn_lt0, mn_0le, mn_eq0, mn_1le, mn_lt1, mn_le60, mn_lt12, mn_12lt, mn_le3, true_implies, forall_const, not_true_eq_false, not_false_eq_true, false_implies, and_true, true_and, implies_true, and_self, if_true, if_false]
      exact k1 ⟨p - b, by omega, fun j hj => (h2 j (by omega)).symm⟩
    · simp (disch := omega) only [wY_border_15, c, forall_eq, nI_leI, nI_ltI, nI_eq, vp_in_nI, nI_clamp, nI_1, nI_add, pk_sub, mn_10, mn_60lt, mn_60le, mn_12le, mn_4le, mn_le0, mn_lt0, mn_0le, mn_eq0, mn_1le, mn_lt1, mn_le60, mn_lt12, mn_12lt, mn_le3, true_implies, forall_const, not_true_eq_false, not_false_eq_true, false_implies, and_true, true_and, implies_true, and_self, if_true, if_false]
      exact k2 h2
  | succ d ih =>
    intro k n z h hn hz
    obtain ⟨n, rfl⟩ : ∃ n', n = n' + 1 := ⟨n - 1, by omega⟩
    have c : ¬ b ≤ k := by omega
    rcases hz with ⟨rfl, h2⟩ | ⟨rfl, h2⟩
    · by_cases c3 : P k = P (p - b + k)
      · simp (disch := omega) only [wY_border_15, c, forall_eq, nI_leI, nI_ltI, nI_eq, vp_in_nI, nI_clamp, nI_1, nI_add, pk_sub, mn_10, mn_60lt, mn_60le, mn_12le, mn_4le, mn_le0, mn_lt0, mn_0le, mn_eq0, mn_1le, mn_lt1, mn_le60, mn_lt12, mn_12lt, mn_le3, true_implies, forall_const, not_true_eq_false, not_false_eq_true, false_implies, and_true, true_and, implies_true, and_self, if_true, if_false]
        exact br_t c3 (ih (k + 1) n 1 (by omega) (by omega) (Or.inl ⟨rfl, lt_s h2 c3⟩))
      · simp (disch := omega) only [wY_border_15, c, forall_eq, nI_leI, nI_ltI, nI_eq, vp_in_nI, nI_clamp, nI_1, nI_add, pk_sub, mn_10, mn_60lt, mn_60le, mn_12le, mn_4le, mn_le0, mn_lt0, mn_0le, mn_eq0, mn_1le, mn_lt1, mn_le60, mn_lt12, mn_12lt, mn_le3, true_implies, forall_const, not_true_eq_false, not_false_eq_true, false_implies, and_true, true_and, implies_true, and_self, if_true, if_false]
        refine br_f c3 (ih (k + 1) n 0 (by omega) (by omega) (Or.inr ⟨rfl, ?_⟩))
        rintro ⟨s, hs, g⟩
        have e : s = p - b := by omega
        rw [e] at g
        exact c3 (g k (by omega)).symm
    · simp (disch := omega) only [wY_border_15, c, forall_eq, nI_leI, nI_ltI, nI_eq, vp_in_nI, nI_clamp, nI_1, nI_add, pk_sub, mn_10, mn_60lt, mn_60le, mn_12le, mn_4le, mn_le0, mn_lt0, mn_0le, mn_eq0, mn_1le, mn_lt1, mn_le60, mn_lt12, mn_12lt, mn_le3, true_implies, forall_const, not_true_eq_false, not_false_eq_true, false_implies, and_true, true_and, implies_true, and_self, if_true, if_false]
      exact ih (k + 1) n 0 (by omega) (by omega) (Or.inr ⟨rfl, h2⟩)
theorem yy_bl {post : Int32 → Prop} (hp : p ≤ 12) (hp0 : 0 < p) (hq : ∀ r, mm_gr P P p (p - 1) r → post (nI r)) : ∀ (b n : Nat), b < p → b < n → (∀ q, mm_su P P p q → q ≤ p - 1 → q ≤ b) → wY_border_7 post (nI m) (nI p) T P n (nI b) := by
  intro b
  induction b with
  | zero =>
    intro n h hn hj
    obtain ⟨n, rfl⟩ : ∃ n', n = n' + 1 := ⟨n - 1, by omega⟩
    simp (disch := omega) only [wY_border_7, forall_eq, nI_leI, nI_ltI, nI_eq, vp_in_nI, nI_clamp, nI_1, nI_add, pk_sub, mn_10, mn_60lt, mn_60le, mn_12le, mn_4le, mn_le0, mn_lt0, mn_0le, mn_eq0, mn_1le, mn_lt1, mn_le60, mn_lt12, mn_12lt, mn_le3, true_implies, forall_const, not_true_eq_false, not_false_eq_true, false_implies, and_true, true_and, implies_true, and_self, if_true, if_false]
    exact ⟨1, yy_bi hp h (fun z => hq 0 ⟨z, by omega, hj⟩) (fun z => absurd (mm_su0 P P p) z) 0 0 1 1 (by omega) (by omega) (Or.inl ⟨rfl, fun j hj => by omega⟩)⟩
  | succ b ih =>
    intro n h hn hj
    obtain ⟨n, rfl⟩ : ∃ n', n = n' + 1 := ⟨n - 1, by omega⟩
    simp (disch := omega) only [wY_border_7, forall_eq, nI_leI, nI_ltI, nI_eq, vp_in_nI, nI_clamp, nI_1, nI_add, pk_sub, mn_10, mn_60lt, mn_60le, mn_12le, mn_4le, mn_le0, mn_lt0, mn_0le, mn_eq0, mn_1le, mn_lt1, mn_le60, mn_lt12, mn_12lt, mn_le3, true_implies, forall_const, not_true_eq_false, not_false_eq_true, false_implies, and_true, true_and, implies_true, and_self, if_true, if_false]
    refine ⟨b + 2, yy_bi hp h (fun z => hq (b + 1) ⟨z, by omega, hj⟩) (fun z => ?_) (b + 1) 0 (b + 2) 1 (by omega) (by omega) (Or.inl ⟨rfl, fun j hj => by omega⟩)⟩
    rw [pk_m1]
    refine ih n (by omega) (by omega) (fun q h1 h2 => ?_)
    have h3 := hj q h1 h2
    have h4 : q ≠ b + 1 := fun e => z (e ▸ h1)
    omega
theorem yy_border {post : Int32 → Prop} (hp : p ≤ 12) (hp0 : 0 < p) (hq : ∀ r, mm_gr P P p (p - 1) r → post (nI r)) : wpY_border post ((nI m), (nI p), T, P) := by
  unfold wpY_border
  dsimp only
  exact nm_r (mn_s1 hp0) ⟨p, yy_bl hp hp0 hq (p - 1) p (by omega) (by omega) (fun q h1 h2 => h2)⟩
theorem yy_border0 {post : Int32 → Prop} (hq : post (-1)) : wpY_border post ((nI m), (nI 0), T, P) := by
  unfold wpY_border
  dsimp only
  exact nm_e ⟨1, br_t (by decide) hq⟩
end
end
section
/-! every place tried; Knuth, Morris and Pratt -/
section
variable {T P bd jo pl la ss pp tr : Nat → Int32} {tp : Nat → Int64} {m p : Nat}
theorem xa_l {post : Int32 → Prop} {i : Nat} (hm : m ≤ 60) (hp : p ≤ 12) (hi : i + p ≤ m) (h1 : mm_oc T P m p i → post 1) (h0 : ¬ mm_oc T P m p i → post 0) : ∀ (d s n : Nat), s + d = p → d < n → (∀ j, j < s → T (i + j) = P j) → wX_matchesAt_2 post (nI i) (nI m) (nI p) T P bd jo pl la ss pp tr tp n (nI s) := by
  intro d
  induction d with
  | zero =>
    intro s n h hn hj
    obtain ⟨n, rfl⟩ : ∃ n', n = n' + 1 := ⟨n - 1, by omega⟩
    have c : p ≤ s := by omega
    simp (disch := omega) only [wX_matchesAt_2, c, forall_eq, nI_leI, nI_ltI, nI_eq, vp_in_nI, nI_clamp, nI_1, nI_add, pk_sub, mn_10, mn_60lt, mn_60le, mn_12le, mn_4le, mn_le0, mn_lt0, mn_0le, mn_eq0, mn_1le, mn_lt1, mn_le60, mn_lt12, mn_12lt, mn_le3, true_implies, forall_const, not_true_eq_false, not_false_eq_true, false_implies, and_true, true_and, implies_true, and_self, if_true, if_false]
    exact h1 ⟨hi, fun j z => hj j (by omega)⟩
  | succ d ih =>
    intro s n h hn hj
    obtain ⟨n, rfl⟩ : ∃ n', n = n' + 1 := ⟨n - 1, by omega⟩
    have c : ¬ p ≤ s := by omega
    by_cases c3 : T (i + s) = P s
    · simp (disch := omega) only [wX_matchesAt_2, c, c3, forall_eq, nI_leI, nI_ltI, nI_eq, vp_in_nI, nI_clamp, nI_1, nI_add, pk_sub, mn_10, mn_60lt, mn_60le, mn_12le, mn_4le, mn_le0, mn_lt0, mn_0le, mn_eq0, mn_1le, mn_lt1, mn_le60, mn_lt12, mn_12lt, mn_le3, true_implies, forall_const, not_true_eq_false, not_false_eq_true, false_implies, and_true, true_and, implies_true, and_self, if_true, if_false]
      exact ih (s + 1) n (by omega) (by omega) (lt_s hj c3)
    · simp (disch := omega) only [wX_matchesAt_2, c, c3, forall_eq, nI_leI, nI_ltI, nI_eq, vp_in_nI, nI_clamp, nI_1, nI_add, pk_sub, mn_10, mn_60lt, mn_60le, mn_12le, mn_4le, mn_le0, mn_lt0, mn_0le, mn_eq0, mn_1le, mn_lt1, mn_le60, mn_lt12, mn_12lt, mn_le3, true_implies, forall_const, not_true_eq_false, not_false_eq_true, false_implies, and_true, true_and, implies_true, and_self, if_true, if_false]
      exact h0 (fun z => c3 (z.2 s (by omega)))
theorem xa {post : Int32 → Prop} {i : Nat} (hm : m ≤ 60) (hp : p ≤ 12) (hi : i + p ≤ m) (h1 : mm_oc T P m p i → post 1) (h0 : ¬ mm_oc T P m p i → post 0) : wpX_matchesAt post ((nI m), (nI p), T, P, bd, jo, pl, la, ss, pp, tr, tp) (nI i) := by
  unfold wpX_matchesAt
  exact ⟨p + 1, xa_l hm hp hi h1 h0 p 0 (p + 1) (by omega) (by omega) (fun j hj => by omega)⟩
theorem xt_l {post : Int64 → Prop} (hm : m ≤ 60) (hp : p ≤ 12) (hpm : p ≤ m) (hq : ∀ w, mm_pl T P m p w → post w) : ∀ (d s n : Nat) (w : Int64), s + d = m - p + 1 → d < n → mm_pt T P m p s w → wX_findByTrying_4 post (nI m) (nI p) T P bd jo pl la ss pp tr tp n w (nI s) := by
  intro d
  induction d with
  | zero =>
    intro s n w h hn hw
    obtain ⟨n, rfl⟩ : ∃ n', n = n' + 1 := ⟨n - 1, by omega⟩
    have c : m - p < s := by omega
    simp (disch := omega) only [wX_findByTrying_4, c, forall_eq, nI_leI, nI_ltI, nI_eq, vp_in_nI, nI_clamp, nI_1, nI_add, pk_sub, mn_10, mn_60lt, mn_60le, mn_12le, mn_4le, mn_le0, mn_lt0, mn_0le, mn_eq0, mn_1le, mn_lt1, mn_le60, mn_lt12, mn_12lt, mn_le3, true_implies, forall_const, not_true_eq_false, not_false_eq_true, false_implies, and_true, true_and, implies_true, and_self, if_true, if_false]
    exact hq w (mm_ptE hw (by omega))
  | succ d ih =>
    intro s n w h hn hw
    obtain ⟨n, rfl⟩ : ∃ n', n = n' + 1 := ⟨n - 1, by omega⟩
    have c : ¬ m - p < s := by omega
    simp (disch := omega) only [wX_findByTrying_4, c, forall_eq, nI_leI, nI_ltI, nI_eq, vp_in_nI, nI_clamp, nI_1, nI_add, pk_sub, mn_10, mn_60lt, mn_60le, mn_12le, mn_4le, mn_le0, mn_lt0, mn_0le, mn_eq0, mn_1le, mn_lt1, mn_le60, mn_lt12, mn_12lt, mn_le3, true_implies, forall_const, not_true_eq_false, not_false_eq_true, false_implies, and_true, true_and, implies_true, and_self, if_true, if_false]
    exact xa hm hp (by omega) (fun z => br_f mn_10 (ih (s + 1) n _ (by omega) (by omega) (mm_ptS hw (by omega) z))) (fun z => br_t rfl (ih (s + 1) n _ (by omega) (by omega) (mm_ptN hw z)))
theorem xe0 {post : Int64 → Prop} (hm : m ≤ 60) (hp : p ≤ 12) (hpm : p ≤ m) (hq : ∀ w, mm_pl T P m p w → post w) : wpX_findByTrying post ((nI m), (nI p), T, P, bd, jo, pl, la, ss, pp, tr, tp) := by
  unfold wpX_findByTrying
  exact ⟨m - p + 2, xt_l hm hp hpm hq (m - p + 1) 0 (m - p + 2) 0 (by omega) (by omega) mm_pt0⟩
theorem xm_41 {post : Int32 → Prop} {x : Nat → Int32} {i k0 k : Nat} {c : Int32} (hk : k < 12) (hz : k = 0 ∨ P k = c) (hx : x i = c) (h : mm_ki x P i k0 c k) (hq : ∀ r, mm_gr x P (i + 1) (k0 + 1) r → post (nI r)) : wX_matchedWith_41 post c (nI k) (nI m) (nI p) T P bd jo pl la ss pp tr tp := by
  unfold wX_matchedWith_41
  by_cases c3 : P k = c
  · simp (disch := omega) only [c3, forall_eq, nI_leI, nI_ltI, nI_eq, vp_in_nI, nI_clamp, nI_1, nI_add, pk_sub, mn_10, mn_60lt, mn_60le, mn_12le, mn_4le, mn_le0, mn_lt0, mn_0le, mn_eq0, mn_1le, mn_lt1, mn_le60, mn_lt12, mn_12lt, mn_le3, true_implies, forall_const, not_true_eq_false, not_false_eq_true, false_implies, and_true, true_and, implies_true, and_self, if_true, if_false]
    exact hq _ (mm_kit h hx c3)
  · simp (disch := omega) only [c3, forall_eq, nI_leI, nI_ltI, nI_eq, vp_in_nI, nI_clamp, nI_1, nI_add, pk_sub, mn_10, mn_60lt, mn_60le, mn_12le, mn_4le, mn_le0, mn_lt0, mn_0le, mn_eq0, mn_1le, mn_lt1, mn_le60, mn_lt12, mn_12lt, mn_le3, true_implies, forall_const, not_true_eq_false, not_false_eq_true, false_implies, and_true, true_and, implies_true, and_self, if_true, if_false]
    have e : k = 0 := by
      rcases hz with z | z
      · exact z
      · exact absurd z c3
    subst e
    exact hq 0 (mm_kif h hx c3)
theorem xm_l {post : Int32 → Prop} {x : Nat → Int32} {i k0 : Nat} {c : Int32} (hp : p ≤ 12) (hk : k0 < p) (hx : x i = c) (hb : mm_bo P bd k0) (hq : ∀ r, mm_gr x P (i + 1) (k0 + 1) r → post (nI r)) : ∀ (n k st : Nat), k < n → st + k ≤ k0 → mm_ki x P i k0 c k → wX_matchedWith_5 post c (nI m) (nI p) T P bd jo pl la ss pp tr tp n (nI k) (nI st) := by
  intro n
  induction n with
  | zero => intro k st h; omega
  | succ n ih =>
    intro k st h hs hi
    have c1 : ¬ 12 ≤ st := by omega
    by_cases c2 : k ≤ 0
    · simp (disch := omega) only [wX_matchedWith_5, c1, c2, forall_eq, nI_leI, nI_ltI, nI_eq, vp_in_nI, nI_clamp, nI_1, nI_add, pk_sub, mn_10, mn_60lt, mn_60le, mn_12le, mn_4le, mn_le0, mn_lt0, mn_0le, mn_eq0, mn_1le, mn_lt1, mn_le60, mn_lt12, mn_12lt, mn_le3, true_implies, forall_const, not_true_eq_false, not_false_eq_true, false_implies, and_true, true_and, implies_true, and_self, if_true, if_false]
      exact xm_41 (by omega) (Or.inl (by omega)) hx hi hq
    · by_cases c3 : P k = c
      · simp (disch := omega) only [wX_matchedWith_5, c1, c2, c3, forall_eq, nI_leI, nI_ltI, nI_eq, vp_in_nI, nI_clamp, nI_1, nI_add, pk_sub, mn_10, mn_60lt, mn_60le, mn_12le, mn_4le, mn_le0, mn_lt0, mn_0le, mn_eq0, mn_1le, mn_lt1, mn_le60, mn_lt12, mn_12lt, mn_le3, true_implies, forall_const, not_true_eq_false, not_false_eq_true, false_implies, and_true, true_and, implies_true, and_self, if_true, if_false]
        exact xm_41 (by omega) (Or.inr c3) hx hi hq
      · obtain ⟨b, e1, g⟩ := hb (k - 1) (by omega)
        rw [show k - 1 + 1 = k from by omega] at g
        have g2 := g.2.1
        simp (disch := omega) only [wX_matchedWith_5, c1, c2, c3, mn_s1, e1, forall_eq, nI_leI, nI_ltI, nI_eq, vp_in_nI, nI_clamp, nI_1, nI_add, pk_sub, mn_10, mn_60lt, mn_60le, mn_12le, mn_4le, mn_le0, mn_lt0, mn_0le, mn_eq0, mn_1le, mn_lt1, mn_le60, mn_lt12, mn_12lt, mn_le3, true_implies, forall_const, not_true_eq_false, not_false_eq_true, false_implies, and_true, true_and, implies_true, and_self, if_true, if_false]
        exact ih b (st + 1) (by omega) (by omega) (mm_kis hi c3 g)
theorem xm {post : Int32 → Prop} {x : Nat → Int32} {i k0 : Nat} {c : Int32} (hp : p ≤ 12) (hk : k0 < p) (hs : mm_su x P i k0) (hx : x i = c) (hb : mm_bo P bd k0) (hq : ∀ r, mm_gr x P (i + 1) (k0 + 1) r → post (nI r)) : wpX_matchedWith post ((nI m), (nI p), T, P, bd, jo, pl, la, ss, pp, tr, tp) (nI k0) c := by
  unfold wpX_matchedWith
  exact ⟨k0 + 1, xm_l hp hk hx hb hq (k0 + 1) k0 0 (by omega) (by omega) (mm_ki0 hs)⟩
theorem xb_l {post : SX → Prop} (hp : p ≤ 12) (hq : ∀ b, mm_bo P b p → post ((nI m), (nI p), T, P, b, jo, pl, la, ss, pp, tr, tp)) : ∀ (d s n : Nat) (bd : Nat → Int32), s + d = p → d < n → 1 ≤ s → mm_bo P bd s → wX_fillBorders_9 post (nI m) (nI p) n (nI s) T P bd jo pl la ss pp tr tp := by
  intro d
  induction d with
  | zero =>
    intro s n bd h hn h1 hb
    obtain ⟨n, rfl⟩ : ∃ n', n = n' + 1 := ⟨n - 1, by omega⟩
    have e : s = p := by omega
    subst e
    simp (disch := omega) only [wX_fillBorders_9, Nat.le_refl, forall_eq, nI_leI, nI_ltI, nI_eq, vp_in_nI, nI_clamp, nI_1, nI_add, pk_sub, mn_10, mn_60lt, mn_60le, mn_12le, mn_4le, mn_le0, mn_lt0, mn_0le, mn_eq0, mn_1le, mn_lt1, mn_le60, mn_lt12, mn_12lt, mn_le3, true_implies, forall_const, not_true_eq_false, not_false_eq_true, false_implies, and_true, true_and, implies_true, and_self, if_true, if_false]
    exact hq bd hb
  | succ d ih =>
    intro s n bd h hn h1 hb
    obtain ⟨n, rfl⟩ : ∃ n', n = n' + 1 := ⟨n - 1, by omega⟩
    have c : ¬ p ≤ s := by omega
    obtain ⟨b, e1, g⟩ := hb (s - 1) (by omega)
    rw [show s - 1 + 1 = s from by omega] at g
    have g2 := g.2.1
    simp (disch := omega) only [wX_fillBorders_9, c, mn_s1, e1, forall_eq, nI_leI, nI_ltI, nI_eq, vp_in_nI, nI_clamp, nI_1, nI_add, pk_sub, mn_10, mn_60lt, mn_60le, mn_12le, mn_4le, mn_le0, mn_lt0, mn_0le, mn_eq0, mn_1le, mn_lt1, mn_le60, mn_lt12, mn_12lt, mn_le3, true_implies, forall_const, not_true_eq_false, not_false_eq_true, false_implies, and_true, true_and, implies_true, and_self, if_true, if_false]
    refine xm hp (by omega) g.1 rfl (fun j hj => hb j (by omega)) (fun r hr => ?_)
    exact ih (s + 1) n _ (by omega) (by omega) (by omega) (mm_boS hb h1 g hr)
theorem xb {post : SX → Prop} (hp : p ≤ 12) (hp0 : 0 < p) (hq : ∀ b, mm_bo P b p → post ((nI m), (nI p), T, P, b, jo, pl, la, ss, pp, tr, tp)) : wpX_fillBorders post ((nI m), (nI p), T, P, bd, jo, pl, la, ss, pp, tr, tp) := by
  unfold wpX_fillBorders
  dsimp only
  exact nm_e ⟨p, xb_l hp hq (p - 1) 1 p _ (by omega) (by omega) (by omega) mm_bo1⟩
theorem xk_l {post : Int64 → SX → Prop} (hm : m ≤ 60) (hp : p ≤ 12) (hp0 : 0 < p) (hb : mm_bo P bd p) (hq : ∀ w, mm_pl T P m p w → post w ((nI m), (nI p), T, P, bd, jo, pl, la, ss, pp, tr, tp)) : ∀ (d s n k : Nat) (w : Int64), s + d = m → d < n → mm_pl T P s p w → mm_gr T P s (p - 1) k → wX_findByBorders_11 post (nI m) (nI p) T P bd jo pl la ss pp tr tp n w (nI k) (nI s) := by
  intro d
  induction d with
  | zero =>
    intro s n k w h hn hw hg
    obtain ⟨n, rfl⟩ : ∃ n', n = n' + 1 := ⟨n - 1, by omega⟩
    have e : s = m := by omega
    subst e
    simp (disch := omega) only [wX_findByBorders_11, Nat.le_refl, forall_eq, nI_leI, nI_ltI, nI_eq, vp_in_nI, nI_clamp, nI_1, nI_add, pk_sub, mn_10, mn_60lt, mn_60le, mn_12le, mn_4le, mn_le0, mn_lt0, mn_0le, mn_eq0, mn_1le, mn_lt1, mn_le60, mn_lt12, mn_12lt, mn_le3, true_implies, forall_const, not_true_eq_false, not_false_eq_true, false_implies, and_true, true_and, implies_true, and_self, if_true, if_false]
    exact hq w hw
  | succ d ih =>
    intro s n k w h hn hw hg
    obtain ⟨n, rfl⟩ : ∃ n', n = n' + 1 := ⟨n - 1, by omega⟩
    have c : ¬ m ≤ s := by omega
    have g2 := hg.2.1
    obtain ⟨b, e1, g⟩ := hb (p - 1) (by omega)
    rw [show p - 1 + 1 = p from by omega] at g
    simp (disch := omega) only [wX_findByBorders_11, c, mn_s1, e1, forall_eq, nI_leI, nI_ltI, nI_eq, vp_in_nI, nI_clamp, nI_1, nI_add, pk_sub, mn_10, mn_60lt, mn_60le, mn_12le, mn_4le, mn_le0, mn_lt0, mn_0le, mn_eq0, mn_1le, mn_lt1, mn_le60, mn_lt12, mn_12lt, mn_le3, true_implies, forall_const, not_true_eq_false, not_false_eq_true, false_implies, and_true, true_and, implies_true, and_self, if_true, if_false]
    refine xm hp (by omega) hg.1 rfl (fun j hj => hb j (by omega)) (fun r hr => ?_)
    have hu := mm_up hp0 hg hr
    by_cases z : r = p
    · rw [z] at hu ⊢
      have hl := mm_suL hu.1
      refine br_t rfl ?_
      simp (disch := omega) only [forall_eq, nI_leI, nI_ltI, nI_eq, vp_in_nI, nI_clamp, nI_1, nI_add, pk_sub, mn_10, mn_60lt, mn_60le, mn_12le, mn_4le, mn_le0, mn_lt0, mn_0le, mn_eq0, mn_1le, mn_lt1, mn_le60, mn_lt12, mn_12lt, mn_le3, true_implies, forall_const, not_true_eq_false, not_false_eq_true, false_implies, and_true, true_and, implies_true, and_self, if_true, if_false]
      exact ih (s + 1) n b _ (by omega) (by omega) (mm_plS hw (by omega) hp0 hu.1) (mm_greq hu.1 g)
    · have hn2 := mm_grne hu z
      have hr2 := hu.2.1
      exact br_f (by rw [nI_eq (by omega) (by omega)]; exact z) (ih (s + 1) n r w (by omega) (by omega) (mm_plN hw hn2.2) hn2.1)
theorem xe1 {post : Int64 → SX → Prop} (hm : m ≤ 60) (hp : p ≤ 12) (hp0 : 0 < p) (hq : ∀ w b, mm_pl T P m p w → post w ((nI m), (nI p), T, P, b, jo, pl, la, ss, pp, tr, tp)) : wpX_findByBorders post ((nI m), (nI p), T, P, bd, jo, pl, la, ss, pp, tr, tp) := by
  unfold wpX_findByBorders
  dsimp only
  refine xb hp hp0 (fun b hb => ?_)
  exact ⟨m + 1, xk_l hm hp hp0 hb (fun w hw => hq w b hw) m 0 (m + 1) 0 0 (by omega) (by omega) (mm_pl0 hp0) ⟨mm_su0 _ _ _, by omega, fun q h1 _ => mm_suL h1⟩⟩
end
end
section
/-! pattern and text joined, and their prefix lengths -/
section
variable {T P bd jo pl la ss pp tr : Nat → Int32} {tp : Nat → Int64} {m p : Nat}
def xj_J (T P : Nat → Int32) (m p : Nat) (J : Nat → Int32) : Prop := (∀ j, j < p → J j = P j) ∧ J p = 4 ∧ ∀ j, j < m → J (p + 1 + j) = T j
theorem xj_l40 {post : SX → Prop} (hm : m ≤ 60) (hp : p ≤ 12) (hq : ∀ J, xj_J T P m p J → post ((nI m), (nI p), T, P, bd, J, pl, la, ss, pp, tr, tp)) : ∀ (d s n : Nat) (jo : Nat → Int32), s + d = m → d < n → (∀ j, j < p → jo j = P j) → jo p = 4 → (∀ j, j < s → jo (p + 1 + j) = T j) → wX_joinPatternAndText_40 post (nI m) (nI p) n (nI s) T P bd jo pl la ss pp tr tp := by
  intro d
  induction d with
  | zero =>
    intro s n jo h hn h1 h2 h3
    obtain ⟨n, rfl⟩ : ∃ n', n = n' + 1 := ⟨n - 1, by omega⟩
    have e : s = m := by omega
    subst e
    simp (disch := omega) only [wX_joinPatternAndText_40, Nat.le_refl, forall_eq, nI_leI, nI_ltI, nI_eq, vp_in_nI, nI_clamp, nI_1, nI_add, pk_sub, mn_10, mn_60lt, mn_60le, mn_12le, mn_4le, mn_le0, mn_lt0, mn_0le, mn_eq0, mn_1le, mn_lt1, mn_le60, mn_lt12, mn_12lt, mn_le3, true_implies, forall_const, not_true_eq_false, not_false_eq_true, false_implies, and_true, true_and, implies_true, and_self, if_true, if_false]
    exact hq jo ⟨h1, h2, h3⟩
  | succ d ih =>
    intro s n jo h hn h1 h2 h3
    obtain ⟨n, rfl⟩ : ∃ n', n = n' + 1 := ⟨n - 1, by omega⟩
    have c : ¬ m ≤ s := by omega
    simp (disch := omega) only [wX_joinPatternAndText_40, c, forall_eq, nI_leI, nI_ltI, nI_eq, vp_in_nI, nI_clamp, nI_1, nI_add, pk_sub, mn_10, mn_60lt, mn_60le, mn_12le, mn_4le, mn_le0, mn_lt0, mn_0le, mn_eq0, mn_1le, mn_lt1, mn_le60, mn_lt12, mn_12lt, mn_le3, true_implies, forall_const, not_true_eq_false, not_false_eq_true, false_implies, and_true, true_and, implies_true, and_self, if_true, if_false]
    refine ih (s + 1) n _ (by omega) (by omega) (fun j hj => ?_) ?_ (lt_s (fun j hj => ?_) ?_)
    · rw [pk_un (by omega)]
      exact h1 j hj
    · rw [pk_un (by omega)]
      exact h2
    · rw [pk_un (by omega)]
      exact h3 j hj
    · exact pk_us
theorem xj_l2 {post : SX → Prop} (hm : m ≤ 60) (hp : p ≤ 12) (hq : ∀ J, xj_J T P m p J → post ((nI m), (nI p), T, P, bd, J, pl, la, ss, pp, tr, tp)) : ∀ (d s n : Nat) (jo : Nat → Int32), s + d = p → d < n → (∀ j, j < s → jo j = P j) → wX_joinPatternAndText_2 post (nI m) (nI p) n (nI s) T P bd jo pl la ss pp tr tp := by
  intro d
  induction d with
  | zero =>
    intro s n jo h hn h1
    obtain ⟨n, rfl⟩ : ∃ n', n = n' + 1 := ⟨n - 1, by omega⟩
    have e : s = p := by omega
    subst e
    simp (disch := omega) only [wX_joinPatternAndText_2, Nat.le_refl, forall_eq, nI_leI, nI_ltI, nI_eq, vp_in_nI, nI_clamp, nI_1, nI_add, pk_sub, mn_10, mn_60lt, mn_60le, mn_12le, mn_4le, mn_le0, mn_lt0, mn_0le, mn_eq0, mn_1le, mn_lt1, mn_le60, mn_lt12, mn_12lt, mn_le3, true_implies, forall_const, not_true_eq_false, not_false_eq_true, false_implies, and_true, true_and, implies_true, and_self, if_true, if_false]
    refine ⟨m + 1, xj_l40 hm hp hq m 0 (m + 1) _ (by omega) (by omega) (fun j hj => ?_) pk_us (fun j hj => by omega)⟩
    rw [pk_un (by omega)]
    exact h1 j hj
  | succ d ih =>
    intro s n jo h hn h1
    obtain ⟨n, rfl⟩ : ∃ n', n = n' + 1 := ⟨n - 1, by omega⟩
    have c : ¬ p ≤ s := by omega
    simp (disch := omega) only [wX_joinPatternAndText_2, c, forall_eq, nI_leI, nI_ltI, nI_eq, vp_in_nI, nI_clamp, nI_1, nI_add, pk_sub, mn_10, mn_60lt, mn_60le, mn_12le, mn_4le, mn_le0, mn_lt0, mn_0le, mn_eq0, mn_1le, mn_lt1, mn_le60, mn_lt12, mn_12lt, mn_le3, true_implies, forall_const, not_true_eq_false, not_false_eq_true, false_implies, and_true, true_and, implies_true, and_self, if_true, if_false]
    refine ih (s + 1) n _ (by omega) (by omega) (lt_s (fun j hj => ?_) pk_us)
    rw [pk_un (by omega)]
    exact h1 j hj
theorem xj {post : SX → Prop} (hm : m ≤ 60) (hp : p ≤ 12) (hq : ∀ J, xj_J T P m p J → post ((nI m), (nI p), T, P, bd, J, pl, la, ss, pp, tr, tp)) : wpX_joinPatternAndText post ((nI m), (nI p), T, P, bd, jo, pl, la, ss, pp, tr, tp) := by
  unfold wpX_joinPatternAndText
  exact ⟨p + 1, xj_l2 hm hp hq p 0 (p + 1) jo (by omega) (by omega) (fun j hj => by omega)⟩
theorem xz_65 {post : SX → Prop} {J : Int32 → Int32 → Int32 → (Nat → Int32) → (Nat → Int32) → (Nat → Int32) → (Nat → Int32) → (Nat → Int32) → (Nat → Int32) → (Nat → Int32) → (Nat → Int32) → (Nat → Int32) → (Nat → Int64) → Prop} {x2 x3 : Int32} {N i : Nat} (hN : N ≤ 73) (hq : ∀ z, mm_zv jo N i z → wX_fillPrefixLengths_100 post J (nI N) x2 x3 (nI i) (nI z) (nI m) (nI p) T P bd jo pl la ss pp tr tp) : ∀ (d t n : Nat), i + t + d = N → d < n → (∀ j, j < t → jo j = jo (i + j)) → wX_fillPrefixLengths_65 post J (nI N) x2 x3 (nI i) (nI m) (nI p) T P bd jo pl la ss pp tr tp n (nI t) := by
  intro d
  induction d with
  | zero =>
    intro t n h hn h1
    obtain ⟨n, rfl⟩ : ∃ n', n = n' + 1 := ⟨n - 1, by omega⟩
    have c : N ≤ i + t := by omega
    simp (disch := omega) only [wX_fillPrefixLengths_65, c, forall_eq, nI_leI, nI_ltI, nI_eq, vp_in_nI, nI_clamp, nI_1, nI_add, pk_sub, mn_10, mn_60lt, mn_60le, mn_12le, mn_4le, mn_le0, mn_lt0, mn_0le, mn_eq0, mn_1le, mn_lt1, mn_le60, mn_lt12, mn_12lt, mn_le3, true_implies, forall_const, not_true_eq_false, not_false_eq_true, false_implies, and_true, true_and, implies_true, and_self, if_true, if_false]
    exact hq t ⟨by omega, h1, fun z => by omega⟩
  | succ d ih =>
    intro t n h hn h1
    obtain ⟨n, rfl⟩ : ∃ n', n = n' + 1 := ⟨n - 1, by omega⟩
    have c : ¬ N ≤ i + t := by omega
    by_cases c3 : jo t = jo (i + t)
    · simp (disch := omega) only [wX_fillPrefixLengths_65, c, forall_eq, nI_leI, nI_ltI, nI_eq, vp_in_nI, nI_clamp, nI_1, nI_add, pk_sub, mn_10, mn_60lt, mn_60le, mn_12le, mn_4le, mn_le0, mn_lt0, mn_0le, mn_eq0, mn_1le, mn_lt1, mn_le60, mn_lt12, mn_12lt, mn_le3, true_implies, forall_const, not_true_eq_false, not_false_eq_true, false_implies, and_true, true_and, implies_true, and_self, if_true, if_false]
      exact br_t c3 (ih (t + 1) n (by omega) (by omega) (lt_s h1 c3))
    · simp (disch := omega) only [wX_fillPrefixLengths_65, c, forall_eq, nI_leI, nI_ltI, nI_eq, vp_in_nI, nI_clamp, nI_1, nI_add, pk_sub, mn_10, mn_60lt, mn_60le, mn_12le, mn_4le, mn_le0, mn_lt0, mn_0le, mn_eq0, mn_1le, mn_lt1, mn_le60, mn_lt12, mn_12lt, mn_le3, true_implies, forall_const, not_true_eq_false, not_false_eq_true, false_implies, and_true, true_and, implies_true, and_self, if_true, if_false]
      exact br_f c3 (hq t ⟨by omega, h1, fun _ => c3⟩)
def xz_Z (J pl : Nat → Int32) (N i : Nat) : Prop := ∀ j, 1 ≤ j → j < i → ∃ z, pl j = nI z ∧ mm_zv J N j z
theorem xz_ZS {J pl : Nat → Int32} {N i z : Nat} (h : xz_Z J pl N i) (hz : mm_zv J N i z) : xz_Z J (upd pl i (nI z)) N (i + 1) := by
  intro j h1 h2
  by_cases e : j = i
  · subst e
    exact ⟨z, pk_us, hz⟩
  · rw [pk_un e]
    exact h j h1 (by omega)
def xz_K (J : Nat → Int32) (N i s e : Nat) : Prop := e = 0 ∨ 1 ≤ s ∧ s < i ∧ e ≤ N ∧ ∀ j, j < e - s → J j = J (s + j)
theorem xz_19 {post : SX → Prop} {N : Nat} (hN : N ≤ 73) (hq : ∀ l, xz_Z jo l N N → post ((nI m), (nI p), T, P, bd, jo, l, la, ss, pp, tr, tp)) : ∀ (d i n s e : Nat) (pl : Nat → Int32), i + d = N → d < n → 1 ≤ i → s < 73 → e ≤ 73 → xz_Z jo pl N i → xz_K jo N i s e → wX_fillPrefixLengths_19 post (nI N) (nI m) (nI p) n (nI s) (nI e) (nI i) T P bd jo pl la ss pp tr tp := by
  intro d
  induction d with
  | zero =>
    intro i n s e pl h hn h1 hs he hz hk
    obtain ⟨n, rfl⟩ : ∃ n', n = n' + 1 := ⟨n - 1, by omega⟩
    have e2 : i = N := by omega
    subst e2
    simp (disch := omega) only [wX_fillPrefixLengths_19, Nat.le_refl, forall_eq, nI_leI, nI_ltI, nI_eq, vp_in_nI, nI_clamp, nI_1, nI_add, pk_sub, mn_10, mn_60lt, mn_60le, mn_12le, mn_4le, mn_le0, mn_lt0, mn_0le, mn_eq0, mn_1le, mn_lt1, mn_le60, mn_lt12, mn_12lt, mn_le3, true_implies, forall_const, not_true_eq_false, not_false_eq_true, false_implies, and_true, true_and, implies_true, and_self, if_true, if_false]
    exact hq pl hz
  | succ d ih =>
    intro i n s e pl h hn h1 hs he hz hk
    obtain ⟨n, rfl⟩ : ∃ n', n = n' + 1 := ⟨n - 1, by omega⟩
    have c : ¬ N ≤ i := by omega
    have B : ∀ z, mm_zv jo N i z → wX_fillPrefixLengths_100 post (wX_fillPrefixLengths_19 post (nI N) (nI m) (nI p) n) (nI N) (nI s) (nI e) (nI i) (nI z) (nI m) (nI p) T P bd jo pl la ss pp tr tp := by
      intro z zv
      have z1 := zv.1
      unfold wX_fillPrefixLengths_100
      by_cases c4 : i + z ≤ e
      · simp (disch := omega) only [c4, forall_eq, nI_leI, nI_ltI, nI_eq, vp_in_nI, nI_clamp, nI_1, nI_add, pk_sub, mn_10, mn_60lt, mn_60le, mn_12le, mn_4le, mn_le0, mn_lt0, mn_0le, mn_eq0, mn_1le, mn_lt1, mn_le60, mn_lt12, mn_12lt, mn_le3, true_implies, forall_const, not_true_eq_false, not_false_eq_true, false_implies, and_true, true_and, implies_true, and_self, if_true, if_false]
        refine ih (i + 1) n s e _ (by omega) (by omega) (by omega) hs he (xz_ZS hz zv) ?_
        rcases hk with k | k
        · exact Or.inl k
        · exact Or.inr ⟨k.1, by omega, k.2.2⟩
      · simp (disch := omega) only [c4, forall_eq, nI_leI, nI_ltI, nI_eq, vp_in_nI, nI_clamp, nI_1, nI_add, pk_sub, mn_10, mn_60lt, mn_60le, mn_12le, mn_4le, mn_le0, mn_lt0, mn_0le, mn_eq0, mn_1le, mn_lt1, mn_le60, mn_lt12, mn_12lt, mn_le3, true_implies, forall_const, not_true_eq_false, not_false_eq_true, false_implies, and_true, true_and, implies_true, and_self, if_true, if_false]
        refine ih (i + 1) n i (i + z) _ (by omega) (by omega) (by omega) (by omega) (by omega) (xz_ZS hz zv) (Or.inr ⟨h1, by omega, z1, fun j hj => zv.2.1 j (by omega)⟩)
    by_cases c2 : e ≤ i
    · simp (disch := omega) only [wX_fillPrefixLengths_19, c, c2, forall_eq, nI_leI, nI_ltI, nI_eq, vp_in_nI, nI_clamp, nI_1, nI_add, pk_sub, mn_10, mn_60lt, mn_60le, mn_12le, mn_4le, mn_le0, mn_lt0, mn_0le, mn_eq0, mn_1le, mn_lt1, mn_le60, mn_lt12, mn_12lt, mn_le3, true_implies, forall_const, not_true_eq_false, not_false_eq_true, false_implies, and_true, true_and, implies_true, and_self, if_true, if_false]
      exact ⟨N - i + 1, xz_65 hN B (N - i) 0 (N - i + 1) (by omega) (by omega) (fun j hj => by omega)⟩
    · obtain ⟨k1, k2, k3, k4⟩ : 1 ≤ s ∧ s < i ∧ e ≤ N ∧ ∀ j, j < e - s → jo j = jo (s + j) := by
        rcases hk with k | k
        · omega
        · exact k
      obtain ⟨z, e1, zv⟩ := hz (i - s) (by omega) (by omega)
      have z1 := zv.1
      by_cases c5 : e - i ≤ z
      · simp (disch := omega) only [wX_fillPrefixLengths_19, c, c2, e1, c5, forall_eq, nI_leI, nI_ltI, nI_eq, vp_in_nI, nI_clamp, nI_1, nI_add, pk_sub, mn_10, mn_60lt, mn_60le, mn_12le, mn_4le, mn_le0, mn_lt0, mn_0le, mn_eq0, mn_1le, mn_lt1, mn_le60, mn_lt12, mn_12lt, mn_le3, true_implies, forall_const, not_true_eq_false, not_false_eq_true, false_implies, and_true, true_and, implies_true, and_self, if_true, if_false]
        exact ⟨N - (i + (e - i)) + 1, xz_65 hN B (N - (i + (e - i))) (e - i) _ (by omega) (by omega) (mm_zIn k2 (by omega) k4 zv (e - i) c5 (by omega))⟩
      · simp (disch := omega) only [wX_fillPrefixLengths_19, c, c2, e1, c5, forall_eq, nI_leI, nI_ltI, nI_eq, vp_in_nI, nI_clamp, nI_1, nI_add, pk_sub, mn_10, mn_60lt, mn_60le, mn_12le, mn_4le, mn_le0, mn_lt0, mn_0le, mn_eq0, mn_1le, mn_lt1, mn_le60, mn_lt12, mn_12lt, mn_le3, true_implies, forall_const, not_true_eq_false, not_false_eq_true, false_implies, and_true, true_and, implies_true, and_self, if_true, if_false]
        exact ⟨N - (i + z) + 1, xz_65 hN B (N - (i + z)) z _ (by omega) (by omega) (mm_zIn k2 (by omega) k4 zv z (by omega) (by omega))⟩
theorem xz {post : SX → Prop} (hm : m ≤ 60) (hp : p ≤ 12) (hp0 : 0 < p) (hq : ∀ l, xz_Z jo l (p + 1 + m) (p + 1 + m) → post ((nI m), (nI p), T, P, bd, jo, l, la, ss, pp, tr, tp)) : wpX_fillPrefixLengths post ((nI m), (nI p), T, P, bd, jo, pl, la, ss, pp, tr, tp) := by
  unfold wpX_fillPrefixLengths
  simp (disch := omega) only [forall_eq, nI_leI, nI_ltI, nI_eq, vp_in_nI, nI_clamp, nI_1, nI_add, pk_sub, mn_10, mn_60lt, mn_60le, mn_12le, mn_4le, mn_le0, mn_lt0, mn_0le, mn_eq0, mn_1le, mn_lt1, mn_le60, mn_lt12, mn_12lt, mn_le3, true_implies, forall_const, not_true_eq_false, not_false_eq_true, false_implies, and_true, true_and, implies_true, and_self, if_true, if_false]
  exact ⟨p + 1 + m, xz_19 (by omega) hq (p + m) 1 (p + 1 + m) 0 0 pl (by omega) (by omega) (by omega) (by omega) (by omega) (fun j h1 h2 => by omega) (Or.inl rfl)⟩
theorem xp_l {post : Int64 → SX → Prop} (hm : m ≤ 60) (hp : p ≤ 12) (hp0 : 0 < p) (hpm : p ≤ m) (hT : mm_lt T) (hP : mm_lt P) (hJ : xj_J T P m p jo) (hZ : xz_Z jo pl (p + 1 + m) (p + 1 + m)) (hq : ∀ w, mm_pl T P m p w → post w ((nI m), (nI p), T, P, bd, jo, pl, la, ss, pp, tr, tp)) : ∀ (d s n : Nat) (w : Int64), s + d = m - p + 1 → d < n → mm_pt T P m p s w → wX_findByPrefixLengths_12 post (nI m) (nI p) T P bd jo pl la ss pp tr tp n w (nI s) := by
  intro d
  induction d with
  | zero =>
    intro s n w h hn hw
    obtain ⟨n, rfl⟩ : ∃ n', n = n' + 1 := ⟨n - 1, by omega⟩
    have c : m - p < s := by omega
    simp (disch := omega) only [wX_findByPrefixLengths_12, c, forall_eq, nI_leI, nI_ltI, nI_eq, vp_in_nI, nI_clamp, nI_1, nI_add, pk_sub, mn_10, mn_60lt, mn_60le, mn_12le, mn_4le, mn_le0, mn_lt0, mn_0le, mn_eq0, mn_1le, mn_lt1, mn_le60, mn_lt12, mn_12lt, mn_le3, true_implies, forall_const, not_true_eq_false, not_false_eq_true, false_implies, and_true, true_and, implies_true, and_self, if_true, if_false]
    exact hq w (mm_ptE hw (by omega))
  | succ d ih =>
    intro s n w h hn hw
    obtain ⟨n, rfl⟩ : ∃ n', n = n' + 1 := ⟨n - 1, by omega⟩
    have c : ¬ m - p < s := by omega
    obtain ⟨z, e1, zv⟩ := hZ (p + 1 + s) (by omega) (by omega)
    have z1 := zv.1
    have zo := mm_zoc hT hP hJ.1 hJ.2.1 hJ.2.2 (by omega) zv
    by_cases c3 : z = p
    · simp (disch := omega) only [wX_findByPrefixLengths_12, c, e1, c3, forall_eq, nI_leI, nI_ltI, nI_eq, vp_in_nI, nI_clamp, nI_1, nI_add, pk_sub, mn_10, mn_60lt, mn_60le, mn_12le, mn_4le, mn_le0, mn_lt0, mn_0le, mn_eq0, mn_1le, mn_lt1, mn_le60, mn_lt12, mn_12lt, mn_le3, true_implies, forall_const, not_true_eq_false, not_false_eq_true, false_implies, and_true, true_and, implies_true, and_self, if_true, if_false]
      exact ih (s + 1) n _ (by omega) (by omega) (mm_ptS hw (by omega) (zo.mp c3))
    · simp (disch := omega) only [wX_findByPrefixLengths_12, c, e1, c3, forall_eq, nI_leI, nI_ltI, nI_eq, vp_in_nI, nI_clamp, nI_1, nI_add, pk_sub, mn_10, mn_60lt, mn_60le, mn_12le, mn_4le, mn_le0, mn_lt0, mn_0le, mn_eq0, mn_1le, mn_lt1, mn_le60, mn_lt12, mn_12lt, mn_le3, true_implies, forall_const, not_true_eq_false, not_false_eq_true, false_implies, and_true, true_and, implies_true, and_self, if_true, if_false]
      exact ih (s + 1) n _ (by omega) (by omega) (mm_ptN hw (fun y => c3 (zo.mpr y)))
theorem xe2 {post : Int64 → SX → Prop} (hm : m ≤ 60) (hp : p ≤ 12) (hp0 : 0 < p) (hpm : p ≤ m) (hT : mm_lt T) (hP : mm_lt P) (hq : ∀ w J l, mm_pl T P m p w → post w ((nI m), (nI p), T, P, bd, J, l, la, ss, pp, tr, tp)) : wpX_findByPrefixLengths post ((nI m), (nI p), T, P, bd, jo, pl, la, ss, pp, tr, tp) := by
  unfold wpX_findByPrefixLengths
  dsimp only
  refine xj hm hp (fun J hJ => ?_)
  dsimp only
  refine xz hm hp hp0 (fun l hl => ?_)
  exact ⟨m - p + 2, xp_l hm hp hp0 hpm hT hP hJ hl (fun w hw => hq w J l hw) (m - p + 1) 0 (m - p + 2) 0 (by omega) (by omega) mm_pt0⟩
end
end
section
/-! last places, shifts of suffixes: Boyer and Moore, Horspool, Sunday -/
section
variable {T P bd jo pl la ss pp tr : Nat → Int32} {tp : Nat → Int64} {m p : Nat}
theorem xl_22 {post : SX → Prop} {N : Nat} (hN : N ≤ 12) (hP : mm_lt P) (hq : ∀ l, mm_la P l N → post ((nI m), (nI p), T, P, bd, jo, pl, l, ss, pp, tr, tp)) : ∀ (d s n : Nat) (la : Nat → Int32), s + d = N → d < n → mm_la P la s → wX_fillLastPlaces_22 post (nI N) (nI m) (nI p) n (nI s) T P bd jo pl la ss pp tr tp := by
  intro d
  induction d with
  | zero =>
    intro s n la h hn hl
    obtain ⟨n, rfl⟩ : ∃ n', n = n' + 1 := ⟨n - 1, by omega⟩
    have e : s = N := by omega
    subst e
    simp (disch := omega) only [wX_fillLastPlaces_22, Nat.le_refl, forall_eq, nI_leI, nI_ltI, nI_eq, vp_in_nI, nI_clamp, nI_1, nI_add, pk_sub, mn_10, mn_60lt, mn_60le, mn_12le, mn_4le, mn_le0, mn_lt0, mn_0le, mn_eq0, mn_1le, mn_lt1, mn_le60, mn_lt12, mn_12lt, mn_le3, true_implies, forall_const, not_true_eq_false, not_false_eq_true, false_implies, and_true, true_and, implies_true, and_self, if_true, if_false]
    exact hq la hl
  | succ d ih =>
    intro s n la h hn hl
    obtain ⟨n, rfl⟩ : ∃ n', n = n' + 1 := ⟨n - 1, by omega⟩
    have c : ¬ N ≤ s := by omega
    obtain ⟨l, l1, l2⟩ := hP s
    simp (disch := omega) only [wX_fillLastPlaces_22, c, l2, forall_eq, nI_leI, nI_ltI, nI_eq, vp_in_nI, nI_clamp, nI_1, nI_add, pk_sub, mn_10, mn_60lt, mn_60le, mn_12le, mn_4le, mn_le0, mn_lt0, mn_0le, mn_eq0, mn_1le, mn_lt1, mn_le60, mn_lt12, mn_12lt, mn_le3, true_implies, forall_const, not_true_eq_false, not_false_eq_true, false_implies, and_true, true_and, implies_true, and_self, if_true, if_false]
    exact ih (s + 1) n _ (by omega) (by omega) (mm_laS hl l2 l1)
theorem xl_2 {post : SX → Prop} {N : Nat} (hN : N ≤ 12) (hP : mm_lt P) (hq : ∀ l, mm_la P l N → post ((nI m), (nI p), T, P, bd, jo, pl, l, ss, pp, tr, tp)) : ∀ (d s n : Nat) (la : Nat → Int32), s + d = 4 → d < n → (∀ c, c < s → la c = -1) → wX_fillLastPlaces_2 post (nI N) (nI m) (nI p) n (nI s) T P bd jo pl la ss pp tr tp := by
  intro d
  induction d with
  | zero =>
    intro s n la h hn hl
    obtain ⟨n, rfl⟩ : ∃ n', n = n' + 1 := ⟨n - 1, by omega⟩
    have c : 4 ≤ s := by omega
    simp (disch := omega) only [wX_fillLastPlaces_2, c, forall_eq, nI_leI, nI_ltI, nI_eq, vp_in_nI, nI_clamp, nI_1, nI_add, pk_sub, mn_10, mn_60lt, mn_60le, mn_12le, mn_4le, mn_le0, mn_lt0, mn_0le, mn_eq0, mn_1le, mn_lt1, mn_le60, mn_lt12, mn_12lt, mn_le3, true_implies, forall_const, not_true_eq_false, not_false_eq_true, false_implies, and_true, true_and, implies_true, and_self, if_true, if_false]
    exact ⟨N + 1, xl_22 hN hP hq N 0 (N + 1) la (by omega) (by omega) (mm_la0 (fun j hj => hl j (by omega)))⟩
  | succ d ih =>
    intro s n la h hn hl
    obtain ⟨n, rfl⟩ : ∃ n', n = n' + 1 := ⟨n - 1, by omega⟩
    have c : ¬ 4 ≤ s := by omega
    simp (disch := omega) only [wX_fillLastPlaces_2, c, forall_eq, nI_leI, nI_ltI, nI_eq, vp_in_nI, nI_clamp, nI_1, nI_add, pk_sub, mn_10, mn_60lt, mn_60le, mn_12le, mn_4le, mn_le0, mn_lt0, mn_0le, mn_eq0, mn_1le, mn_lt1, mn_le60, mn_lt12, mn_12lt, mn_le3, true_implies, forall_const, not_true_eq_false, not_false_eq_true, false_implies, and_true, true_and, implies_true, and_self, if_true, if_false]
    refine ih (s + 1) n _ (by omega) (by omega) (lt_s (fun j hj => ?_) pk_us)
    rw [pk_un (by omega)]
    exact hl j hj
theorem xl {post : SX → Prop} {N : Nat} (hN : N ≤ 12) (hP : mm_lt P) (hq : ∀ l, mm_la P l N → post ((nI m), (nI p), T, P, bd, jo, pl, l, ss, pp, tr, tp)) : wpX_fillLastPlaces post ((nI m), (nI p), T, P, bd, jo, pl, la, ss, pp, tr, tp) (nI N) := by
  unfold wpX_fillLastPlaces
  exact ⟨5, xl_2 hN hP hq 4 0 5 la (by omega) (by omega) (fun j hj => by omega)⟩
/-! Horspool -/
theorem xh_l {post : Int64 → SX → Prop} (hm : m ≤ 60) (hp : p ≤ 12) (hp0 : 0 < p) (hpm : p ≤ m) (hT : mm_lt T) (hl : mm_la P la (p - 1)) (hq : ∀ w, mm_pl T P m p w → post w ((nI m), (nI p), T, P, bd, jo, pl, la, ss, pp, tr, tp)) : ∀ (n b st : Nat) (w : Int64), m + 1 - b < n → b ≤ m + 1 → st ≤ b → mm_pt T P m p b w → wX_findByLetterAtEnd_20 post (nI (p - 1)) (nI m) (nI p) T P bd jo pl la ss pp tr tp n w (nI b) (nI st) := by
  intro n
  induction n with
  | zero => intro b st w h; omega
  | succ n ih =>
    intro b st w h hb hs hw
    by_cases c : b + p ≤ m
    · have c1 : ¬ 60 < st := by omega
      have c2 : ¬ m - p < b := by omega
      obtain ⟨l, l1, l2⟩ := hT (b + (p - 1))
      obtain ⟨L, L1, L2, L3⟩ := hl l l1
      have B : ∀ w, mm_pt T P m p (b + 1) w → wX_findByLetterAtEnd_57 post (wX_findByLetterAtEnd_20 post (nI (p - 1)) (nI m) (nI p) T P bd jo pl la ss pp tr tp n) (nI (p - 1)) w (nI b) (nI st) (nI m) (nI p) T P bd jo pl la ss pp tr tp := by
        intro w hw
        unfold wX_findByLetterAtEnd_57
        simp (disch := omega) only [l2, L2, mm_sh1, forall_eq, nI_leI, nI_ltI, nI_eq, vp_in_nI, nI_clamp, nI_1, nI_add, pk_sub, mn_10, mn_60lt, mn_60le, mn_12le, mn_4le, mn_le0, mn_lt0, mn_0le, mn_eq0, mn_1le, mn_lt1, mn_le60, mn_lt12, mn_12lt, mn_le3, true_implies, forall_const, not_true_eq_false, not_false_eq_true, false_implies, and_true, true_and, implies_true, and_self, if_true, if_false]
        refine ih _ (st + 1) w (by omega) (by omega) (by omega) (mm_ptK hw (by omega) (fun q h1 h2 => ?_))
        obtain ⟨t, rfl⟩ : ∃ t, q = b + t := ⟨q - b, by omega⟩
        exact mm_skip l2 (fun j h3 _ h4 => L3 j (by omega) h4) (by omega) (by omega) (by omega)
      simp (disch := omega) only [wX_findByLetterAtEnd_20, c1, c2, forall_eq, nI_leI, nI_ltI, nI_eq, vp_in_nI, nI_clamp, nI_1, nI_add, pk_sub, mn_10, mn_60lt, mn_60le, mn_12le, mn_4le, mn_le0, mn_lt0, mn_0le, mn_eq0, mn_1le, mn_lt1, mn_le60, mn_lt12, mn_12lt, mn_le3, true_implies, forall_const, not_true_eq_false, not_false_eq_true, false_implies, and_true, true_and, implies_true, and_self, if_true, if_false]
      exact xa hm hp c (fun z => br_f mn_10 (B _ (mm_ptS hw (by omega) z))) (fun z => br_t rfl (B _ (mm_ptN hw z)))
    · have c2 : m - p < b := by omega
      have Q := hq w (mm_ptE hw (by omega))
      by_cases c1 : 60 < st
      · simp (disch := omega) only [wX_findByLetterAtEnd_20, c1, forall_eq, nI_leI, nI_ltI, nI_eq, vp_in_nI, nI_clamp, nI_1, nI_add, pk_sub, mn_10, mn_60lt, mn_60le, mn_12le, mn_4le, mn_le0, mn_lt0, mn_0le, mn_eq0, mn_1le, mn_lt1, mn_le60, mn_lt12, mn_12lt, mn_le3, true_implies, forall_const, not_true_eq_false, not_false_eq_true, false_implies, and_true, true_and, implies_true, and_self, if_true, if_false]
        exact Q
      · simp (disch := omega) only [wX_findByLetterAtEnd_20, c1, c2, forall_eq, nI_leI, nI_ltI, nI_eq, vp_in_nI, nI_clamp, nI_1, nI_add, pk_sub, mn_10, mn_60lt, mn_60le, mn_12le, mn_4le, mn_le0, mn_lt0, mn_0le, mn_eq0, mn_1le, mn_lt1, mn_le60, mn_lt12, mn_12lt, mn_le3, true_implies, forall_const, not_true_eq_false, not_false_eq_true, false_implies, and_true, true_and, implies_true, and_self, if_true, if_false]
        exact Q
theorem xe4 {post : Int64 → SX → Prop} (hm : m ≤ 60) (hp : p ≤ 12) (hp0 : 0 < p) (hpm : p ≤ m) (hT : mm_lt T) (hP : mm_lt P) (hq : ∀ w l, mm_pl T P m p w → post w ((nI m), (nI p), T, P, bd, jo, pl, l, ss, pp, tr, tp)) : wpX_findByLetterAtEnd post ((nI m), (nI p), T, P, bd, jo, pl, la, ss, pp, tr, tp) := by
  unfold wpX_findByLetterAtEnd
  dsimp only
  refine nm_r (mn_s1 hp0) (xl (by omega) hP (fun l hl => ?_))
  exact ⟨m + 2, xh_l hm hp hp0 hpm hT hl (fun w hw => hq w l hw) (m + 2) 0 0 0 (by omega) (by omega) (by omega) mm_pt0⟩
/-! Sunday -/
theorem xs_l {post : Int64 → SX → Prop} (hm : m ≤ 60) (hp : p ≤ 12) (hp0 : 0 < p) (hpm : p ≤ m) (hT : mm_lt T) (hl : mm_la P la p) (hq : ∀ w, mm_pl T P m p w → post w ((nI m), (nI p), T, P, bd, jo, pl, la, ss, pp, tr, tp)) : ∀ (n b st : Nat) (w : Int64), m + 1 - b < n → b ≤ m + 1 → st ≤ b → mm_pt T P m p b w → wX_findByLetterBehindEnd_15 post (nI m) (nI p) T P bd jo pl la ss pp tr tp n w (nI b) (nI st) := by
  intro n
  induction n with
  | zero => intro b st w h; omega
  | succ n ih =>
    intro b st w h hb hs hw
    by_cases c : b + p ≤ m
    · have c1 : ¬ 60 < st := by omega
      have c2 : ¬ m - p < b := by omega
      obtain ⟨l, l1, l2⟩ := hT (b + p)
      obtain ⟨L, L1, L2, L3⟩ := hl l l1
      have B : ∀ w, mm_pt T P m p (b + 1) w → wX_findByLetterBehindEnd_49 post (wX_findByLetterBehindEnd_15 post (nI m) (nI p) T P bd jo pl la ss pp tr tp n) w (nI b) (nI st) (nI m) (nI p) T P bd jo pl la ss pp tr tp := by
        intro w hw
        unfold wX_findByLetterBehindEnd_49
        by_cases c3 : m ≤ b + p
        · simp (disch := omega) only [c3, forall_eq, nI_leI, nI_ltI, nI_eq, vp_in_nI, nI_clamp, nI_1, nI_add, pk_sub, mn_10, mn_60lt, mn_60le, mn_12le, mn_4le, mn_le0, mn_lt0, mn_0le, mn_eq0, mn_1le, mn_lt1, mn_le60, mn_lt12, mn_12lt, mn_le3, true_implies, forall_const, not_true_eq_false, not_false_eq_true, false_implies, and_true, true_and, implies_true, and_self, if_true, if_false]
          exact ih (b + 1) (st + 1) w (by omega) (by omega) (by omega) hw
        · simp (disch := omega) only [c3, l2, L2, mm_sh1, forall_eq, nI_leI, nI_ltI, nI_eq, vp_in_nI, nI_clamp, nI_1, nI_add, pk_sub, mn_10, mn_60lt, mn_60le, mn_12le, mn_4le, mn_le0, mn_lt0, mn_0le, mn_eq0, mn_1le, mn_lt1, mn_le60, mn_lt12, mn_12lt, mn_le3, true_implies, forall_const, not_true_eq_false, not_false_eq_true, false_implies, and_true, true_and, implies_true, and_self, if_true, if_false]
          refine ih _ (st + 1) w (by omega) (by omega) (by omega) (mm_ptK hw (by omega) (fun q h1 h2 => ?_))
          obtain ⟨t, rfl⟩ : ∃ t, q = b + t := ⟨q - b, by omega⟩
          exact mm_skip l2 (fun j h3 h5 h4 => L3 j h5 h4) (by omega) (by omega) (by omega)
      simp (disch := omega) only [wX_findByLetterBehindEnd_15, c1, c2, forall_eq, nI_leI, nI_ltI, nI_eq, vp_in_nI, nI_clamp, nI_1, nI_add, pk_sub, mn_10, mn_60lt, mn_60le, mn_12le, mn_4le, mn_le0, mn_lt0, mn_0le, mn_eq0, mn_1le, mn_lt1, mn_le60, mn_lt12, mn_12lt, mn_le3, true_implies, forall_const, not_true_eq_false, not_false_eq_true, false_implies, and_true, true_and, implies_true, and_self, if_true, if_false]
      exact xa hm hp c (fun z => br_f mn_10 (B _ (mm_ptS hw (by omega) z))) (fun z => br_t rfl (B _ (mm_ptN hw z)))
    · have c2 : m - p < b := by omega
      have Q := hq w (mm_ptE hw (by omega))
      by_cases c1 : 60 < st
      · simp (disch := omega) only [wX_findByLetterBehindEnd_15, c1, forall_eq, nI_leI, nI_ltI, nI_eq, vp_in_nI, nI_clamp, nI_1, nI_add, pk_sub, mn_10, mn_60lt, mn_60le, mn_12le, mn_4le, mn_le0, mn_lt0, mn_0le, mn_eq0, mn_1le, mn_lt1, mn_le60, mn_lt12, mn_12lt, mn_le3, true_implies, forall_const, not_true_eq_false, not_false_eq_true, false_implies, and_true, true_and, implies_true, and_self, if_true, if_false]
        exact Q
      · simp (disch := omega) only [wX_findByLetterBehindEnd_15, c1, c2, forall_eq, nI_leI, nI_ltI, nI_eq, vp_in_nI, nI_clamp, nI_1, nI_add, pk_sub, mn_10, mn_60lt, mn_60le, mn_12le, mn_4le, mn_le0, mn_lt0, mn_0le, mn_eq0, mn_1le, mn_lt1, mn_le60, mn_lt12, mn_12lt, mn_le3, true_implies, forall_const, not_true_eq_false, not_false_eq_true, false_implies, and_true, true_and, implies_true, and_self, if_true, if_false]
        exact Q
theorem xe5 {post : Int64 → SX → Prop} (hm : m ≤ 60) (hp : p ≤ 12) (hp0 : 0 < p) (hpm : p ≤ m) (hT : mm_lt T) (hP : mm_lt P) (hq : ∀ w l, mm_pl T P m p w → post w ((nI m), (nI p), T, P, bd, jo, pl, l, ss, pp, tr, tp)) : wpX_findByLetterBehindEnd post ((nI m), (nI p), T, P, bd, jo, pl, la, ss, pp, tr, tp) := by
  unfold wpX_findByLetterBehindEnd
  dsimp only
  refine xl hp hP (fun l hl => ?_)
  exact ⟨m + 2, xs_l hm hp hp0 hpm hT hl (fun w hw => hq w l hw) (m + 2) 0 0 0 (by omega) (by omega) (by omega) mm_pt0⟩
/-! the shifts of the suffixes -/
theorem mn_p1 (a : Nat) : nI a - 1 + 1 = nI a := by
  generalize nI a = x
  grind
theorem mn_pm (a : Nat) : nI a + (-1) + 1 = nI a := by
  generalize nI a = x
  grind
theorem mn_sm (a : Nat) : nI a - 1 = nI a + (-1) := by
  generalize nI a = x
  grind
theorem mn_01 : nI 0 - 1 = -1 := by decide
theorem mn_01p : nI 0 + (-1) = -1 := by decide
theorem xg_28 {post : Int32 → Prop} {j1 t : Nat} (hp : p ≤ 12) (h1 : (∀ k, j1 ≤ k → k < p → t ≤ k → P (k - t) = P k) → post 1) (h0 : ¬ (∀ k, j1 ≤ k → k < p → t ≤ k → P (k - t) = P k) → post 0) (ht : t ≤ 12) : ∀ (d k n : Nat), k + d = p → d < n → (∀ i, j1 ≤ i → i < k → t ≤ i → P (i - t) = P i) → j1 ≤ k → wX_isSuffixShift_28 post (nI t) (nI m) (nI p) T P bd jo pl la ss pp tr tp n (nI k) := by
  intro d
  induction d with
  | zero =>
    intro k n h hn hk hj
    obtain ⟨n, rfl⟩ : ∃ n', n = n' + 1 := ⟨n - 1, by omega⟩
    have c : p ≤ k := by omega
    simp (disch := omega) only [wX_isSuffixShift_28, c, forall_eq, nI_leI, nI_ltI, nI_eq, vp_in_nI, nI_clamp, nI_1, nI_add, pk_sub, mn_10, mn_60lt, mn_60le, mn_12le, mn_4le, mn_le0, mn_lt0, mn_0le, mn_eq0, mn_1le, mn_lt1, mn_le60, mn_lt12, mn_12lt, mn_le3, true_implies, forall_const, not_true_eq_false, not_false_eq_true, false_implies, and_true, true_and, implies_true, and_self, if_true, if_false]
    exact h1 (fun i a b => hk i a (by omega))
  | succ d ih =>
    intro k n h hn hk hj
    obtain ⟨n, rfl⟩ : ∃ n', n = n' + 1 := ⟨n - 1, by omega⟩
    have c : ¬ p ≤ k := by omega
    have S : (t ≤ k → P (k - t) = P k) → ∀ i, j1 ≤ i → i < k + 1 → t ≤ i → P (i - t) = P i := by
      intro z i a b e
      by_cases y : i < k
      · exact hk i a y e
      · have y2 : i = k := by omega
        rw [y2] at e ⊢
        exact z e
    by_cases c2 : k < t
    · simp (disch := omega) only [wX_isSuffixShift_28, c, c2, forall_eq, nI_leI, nI_ltI, nI_eq, vp_in_nI, nI_clamp, nI_1, nI_add, pk_sub, mn_10, mn_60lt, mn_60le, mn_12le, mn_4le, mn_le0, mn_lt0, mn_0le, mn_eq0, mn_1le, mn_lt1, mn_le60, mn_lt12, mn_12lt, mn_le3, true_implies, forall_const, not_true_eq_false, not_false_eq_true, false_implies, and_true, true_and, implies_true, and_self, if_true, if_false]
      exact ih (k + 1) n (by omega) (by omega) (S (fun z => by omega)) (by omega)
    · by_cases c3 : P (k - t) = P k
      · simp (disch := omega) only [wX_isSuffixShift_28, c, c2, c3, forall_eq, nI_leI, nI_ltI, nI_eq, vp_in_nI, nI_clamp, nI_1, nI_add, pk_sub, mn_10, mn_60lt, mn_60le, mn_12le, mn_4le, mn_le0, mn_lt0, mn_0le, mn_eq0, mn_1le, mn_lt1, mn_le60, mn_lt12, mn_12lt, mn_le3, true_implies, forall_const, not_true_eq_false, not_false_eq_true, false_implies, and_true, true_and, implies_true, and_self, if_true, if_false]
        exact ih (k + 1) n (by omega) (by omega) (S (fun _ => c3)) (by omega)
      · simp (disch := omega) only [wX_isSuffixShift_28, c, c2, c3, forall_eq, nI_leI, nI_ltI, nI_eq, vp_in_nI, nI_clamp, nI_1, nI_add, pk_sub, mn_10, mn_60lt, mn_60le, mn_12le, mn_4le, mn_le0, mn_lt0, mn_0le, mn_eq0, mn_1le, mn_lt1, mn_le60, mn_lt12, mn_12lt, mn_le3, true_implies, forall_const, not_true_eq_false, not_false_eq_true, false_implies, and_true, true_and, implies_true, and_self, if_true, if_false]
        exact h0 (fun z => c3 (z k hj (by omega) (by omega)))
theorem xg {post : Int32 → Prop} {j1 t : Nat} (hp : p ≤ 12) (hj : j1 ≤ p) (ht : t ≤ 12) (h1 : mm_gd P p j1 t → post 1) (h0 : ¬ mm_gd P p j1 t → post 0) : wpX_isSuffixShift post ((nI m), (nI p), T, P, bd, jo, pl, la, ss, pp, tr, tp) (nI j1 - 1) (nI t) := by
  unfold wpX_isSuffixShift
  cases j1 with
  | zero =>
    rw [mn_01]
    refine br_t (mn_neg (by decide) (by omega)) (nm_r (show (-1 : Int32) + 1 = nI 0 from by decide) ⟨p + 1, xg_28 (j1 := 0) hp (fun z => h1 ⟨fun j e => by omega, z⟩) (fun z => h0 (fun y => z y.2)) ht p 0 (p + 1) (by omega) (by omega) (fun i a b => by omega) (by omega)⟩)
  | succ j =>
    rw [nI_pred]
    by_cases c : j < t
    · simp (disch := omega) only [c, forall_eq, nI_leI, nI_ltI, nI_eq, vp_in_nI, nI_clamp, nI_1, nI_add, pk_sub, mn_10, mn_60lt, mn_60le, mn_12le, mn_4le, mn_le0, mn_lt0, mn_0le, mn_eq0, mn_1le, mn_lt1, mn_le60, mn_lt12, mn_12lt, mn_le3, true_implies, forall_const, not_true_eq_false, not_false_eq_true, false_implies, and_true, true_and, implies_true, and_self, if_true, if_false]
      exact ⟨p + 1, xg_28 (j1 := j + 1) hp (fun z => h1 ⟨fun i e a => by omega, z⟩) (fun z => h0 (fun y => z y.2)) ht (p - (j + 1)) (j + 1) (p + 1) (by omega) (by omega) (fun i a b => by omega) (by omega)⟩
    · by_cases c3 : P (j - t) = P j
      · simp (disch := omega) only [c, c3, forall_eq, nI_leI, nI_ltI, nI_eq, vp_in_nI, nI_clamp, nI_1, nI_add, pk_sub, mn_10, mn_60lt, mn_60le, mn_12le, mn_4le, mn_le0, mn_lt0, mn_0le, mn_eq0, mn_1le, mn_lt1, mn_le60, mn_lt12, mn_12lt, mn_le3, true_implies, forall_const, not_true_eq_false, not_false_eq_true, false_implies, and_true, true_and, implies_true, and_self, if_true, if_false]
        exact h0 (fun y => y.1 j rfl (by omega) c3)
      · simp (disch := omega) only [c, c3, forall_eq, nI_leI, nI_ltI, nI_eq, vp_in_nI, nI_clamp, nI_1, nI_add, pk_sub, mn_10, mn_60lt, mn_60le, mn_12le, mn_4le, mn_le0, mn_lt0, mn_0le, mn_eq0, mn_1le, mn_lt1, mn_le60, mn_lt12, mn_12lt, mn_le3, true_implies, forall_const, not_true_eq_false, not_false_eq_true, false_implies, and_true, true_and, implies_true, and_self, if_true, if_false]
        refine ⟨p + 1, xg_28 (j1 := j + 1) hp (fun z => h1 ⟨fun i e a => ?_, z⟩) (fun z => h0 (fun y => z y.2)) ht (p - (j + 1)) (j + 1) (p + 1) (by omega) (by omega) (fun i a b => by omega) (by omega)⟩
        have e2 : i = j := by omega
        rw [e2]
        exact c3
theorem xf_12 {post : SX → Prop} {J : Int32 → (Nat → Int32) → (Nat → Int32) → (Nat → Int32) → (Nat → Int32) → (Nat → Int32) → (Nat → Int32) → (Nat → Int32) → (Nat → Int32) → (Nat → Int32) → (Nat → Int64) → Prop} {j1 : Nat} (hp : p ≤ 12) (hj : j1 ≤ p) (hq : ∀ d, mm_sd P p j1 d → wX_fillSuffixShifts_35 post J (nI j1 - 1) (nI d) (nI m) (nI p) T P bd jo pl la ss pp tr tp) : ∀ (d t n : Nat), t + d = p → d < n → 1 ≤ t → (∀ i, 1 ≤ i → i < t → ¬ mm_gd P p j1 i) → wX_fillSuffixShifts_12 post J (nI j1 - 1) (nI m) (nI p) T P bd jo pl la ss pp tr tp n (nI t) := by
  intro d
  induction d with
  | zero =>
    intro t n h hn h1 hk
    obtain ⟨n, rfl⟩ : ∃ n', n = n' + 1 := ⟨n - 1, by omega⟩
    have c : p ≤ t := by omega
    simp (disch := omega) only [wX_fillSuffixShifts_12, c, forall_eq, nI_leI, nI_ltI, nI_eq, vp_in_nI, nI_clamp, nI_1, nI_add, pk_sub, mn_10, mn_60lt, mn_60le, mn_12le, mn_4le, mn_le0, mn_lt0, mn_0le, mn_eq0, mn_1le, mn_lt1, mn_le60, mn_lt12, mn_12lt, mn_le3, true_implies, forall_const, not_true_eq_false, not_false_eq_true, false_implies, and_true, true_and, implies_true, and_self, if_true, if_false]
    exact hq t ⟨h1, by omega, hk⟩
  | succ d ih =>
    intro t n h hn h1 hk
    obtain ⟨n, rfl⟩ : ∃ n', n = n' + 1 := ⟨n - 1, by omega⟩
    have c : ¬ p ≤ t := by omega
    simp (disch := omega) only [wX_fillSuffixShifts_12, c, forall_eq, nI_leI, nI_ltI, nI_eq, vp_in_nI, nI_clamp, nI_1, nI_add, pk_sub, mn_10, mn_60lt, mn_60le, mn_12le, mn_4le, mn_le0, mn_lt0, mn_0le, mn_eq0, mn_1le, mn_lt1, mn_le60, mn_lt12, mn_12lt, mn_le3, true_implies, forall_const, not_true_eq_false, not_false_eq_true, false_implies, and_true, true_and, implies_true, and_self, if_true, if_false]
    refine xg hp hj (by omega) (fun z => br_f mn_10 (hq t ⟨h1, by omega, hk⟩)) (fun z => br_t rfl (ih (t + 1) n (by omega) (by omega) (by omega) (fun i a b => ?_)))
    by_cases y : i < t
    · exact hk i a y
    · have e : i = t := by omega
      rw [e]
      exact z
theorem xf_2 {post : SX → Prop} (hp : p ≤ 12) (hp0 : 0 < p) (hq : ∀ s, mm_ss P s p (p + 1) → post ((nI m), (nI p), T, P, bd, jo, pl, la, s, pp, tr, tp)) : ∀ (d j1 n : Nat) (ss : Nat → Int32), j1 + d = p + 1 → d < n → mm_ss P ss p j1 → wX_fillSuffixShifts_2 post (nI m) (nI p) n (nI j1 - 1) T P bd jo pl la ss pp tr tp := by
  intro d
  induction d with
  | zero =>
    intro j1 n ss h hn hs
    obtain ⟨n, rfl⟩ : ∃ n', n = n' + 1 := ⟨n - 1, by omega⟩
    have e : j1 = p + 1 := by omega
    subst e
    rw [nI_pred]
    simp (disch := omega) only [wX_fillSuffixShifts_2, Nat.le_refl, forall_eq, nI_leI, nI_ltI, nI_eq, vp_in_nI, nI_clamp, nI_1, nI_add, pk_sub, mn_10, mn_60lt, mn_60le, mn_12le, mn_4le, mn_le0, mn_lt0, mn_0le, mn_eq0, mn_1le, mn_lt1, mn_le60, mn_lt12, mn_12lt, mn_le3, true_implies, forall_const, not_true_eq_false, not_false_eq_true, false_implies, and_true, true_and, implies_true, and_self, if_true, if_false]
    exact hq ss hs
  | succ d ih =>
    intro j1 n ss h hn hs
    obtain ⟨n, rfl⟩ : ∃ n', n = n' + 1 := ⟨n - 1, by omega⟩
    have c : ¬ nI p ≤ nI j1 - 1 := by
      cases j1 with
      | zero =>
        rw [mn_01]
        exact mn_nge (by decide) (by omega)
      | succ j =>
        rw [nI_pred, nI_leI (by omega) (by omega)]
        omega
    refine br_f c ⟨p, xf_12 hp (by omega) (fun z hz => ?_) (p - 1) 1 p (by omega) (by omega) (by omega) (fun i a b => by omega)⟩
    have H := ih (j1 + 1) n _ (by omega) (by omega) (mm_ssS hs hz)
    rw [nI_pred] at H
    unfold wX_fillSuffixShifts_35
    simp (disch := omega) only [mn_p1, forall_eq, nI_leI, nI_ltI, nI_eq, vp_in_nI, nI_clamp, nI_1, nI_add, pk_sub, mn_10, mn_60lt, mn_60le, mn_12le, mn_4le, mn_le0, mn_lt0, mn_0le, mn_eq0, mn_1le, mn_lt1, mn_le60, mn_lt12, mn_12lt, mn_le3, true_implies, forall_const, not_true_eq_false, not_false_eq_true, false_implies, and_true, true_and, implies_true, and_self, if_true, if_false]
    exact H
theorem xf {post : SX → Prop} (hp : p ≤ 12) (hp0 : 0 < p) (hq : ∀ s, mm_ss P s p (p + 1) → post ((nI m), (nI p), T, P, bd, jo, pl, la, s, pp, tr, tp)) : wpX_fillSuffixShifts post ((nI m), (nI p), T, P, bd, jo, pl, la, ss, pp, tr, tp) := by
  unfold wpX_fillSuffixShifts
  dsimp only
  rw [← mn_01]
  exact ⟨p + 2, xf_2 hp hp0 hq (p + 1) 0 (p + 2) ss (by omega) (by omega) (fun j hj => by omega)⟩
theorem xd_7 {post : Int32 → Prop} {i : Nat} (hm : m ≤ 60) (hp : p ≤ 12) (hi : i + p ≤ m) (hq : ∀ j1, j1 ≤ p → (∀ t, j1 ≤ t → t < p → T (i + t) = P t) → (∀ j, j1 = j + 1 → T (i + j) ≠ P j) → post (nI j1 + (-1))) : ∀ (k n : Nat), k ≤ p → k < n → (∀ t, k ≤ t → t < p → T (i + t) = P t) → wX_lastDifferenceAt_7 post (nI i) (nI m) (nI p) T P bd jo pl la ss pp tr tp n (nI k + (-1)) := by
  intro k
  induction k with
  | zero =>
    intro n h hn hk
    obtain ⟨n, rfl⟩ : ∃ n', n = n' + 1 := ⟨n - 1, by omega⟩
    exact br_t mn_m0 (hq 0 h hk (fun j e => by omega))
  | succ k ih =>
    intro n h hn hk
    obtain ⟨n, rfl⟩ : ∃ n', n = n' + 1 := ⟨n - 1, by omega⟩
    have H := hq (k + 1) h hk
    rw [pk_m1] at H ⊢
    by_cases c3 : T (i + k) = P k
    · simp (disch := omega) only [wX_lastDifferenceAt_7, c3, forall_eq, nI_leI, nI_ltI, nI_eq, vp_in_nI, nI_clamp, nI_1, nI_add, pk_sub, mn_10, mn_60lt, mn_60le, mn_12le, mn_4le, mn_le0, mn_lt0, mn_0le, mn_eq0, mn_1le, mn_lt1, mn_le60, mn_lt12, mn_12lt, mn_le3, true_implies, forall_const, not_true_eq_false, not_false_eq_true, false_implies, and_true, true_and, implies_true, and_self, if_true, if_false]
      refine ih n (by omega) (by omega) (fun t a b => ?_)
      by_cases y : t = k
      · rw [y]
        exact c3
      · exact hk t (by omega) b
    · simp (disch := omega) only [wX_lastDifferenceAt_7, c3, forall_eq, nI_leI, nI_ltI, nI_eq, vp_in_nI, nI_clamp, nI_1, nI_add, pk_sub, mn_10, mn_60lt, mn_60le, mn_12le, mn_4le, mn_le0, mn_lt0, mn_0le, mn_eq0, mn_1le, mn_lt1, mn_le60, mn_lt12, mn_12lt, mn_le3, true_implies, forall_const, not_true_eq_false, not_false_eq_true, false_implies, and_true, true_and, implies_true, and_self, if_true, if_false]
      refine H (fun j e => ?_)
      have e2 : j = k := by omega
      rw [e2]
      exact c3
theorem xd {post : Int32 → Prop} {i : Nat} (hm : m ≤ 60) (hp : p ≤ 12) (hi : i + p ≤ m) (hq : ∀ j1, j1 ≤ p → (∀ t, j1 ≤ t → t < p → T (i + t) = P t) → (∀ j, j1 = j + 1 → T (i + j) ≠ P j) → post (nI j1 + (-1))) : wpX_lastDifferenceAt post ((nI m), (nI p), T, P, bd, jo, pl, la, ss, pp, tr, tp) (nI i) := by
  unfold wpX_lastDifferenceAt
  dsimp only
  exact nm_r (mn_sm p) ⟨p + 1, xd_7 hm hp hi hq p (p + 1) (by omega) (by omega) (fun t a b => by omega)⟩
theorem xq_l {post : Int64 → SX → Prop} (hm : m ≤ 60) (hp : p ≤ 12) (hp0 : 0 < p) (hpm : p ≤ m) (hT : mm_lt T) (hl : mm_la P la p) (hs : mm_ss P ss p (p + 1)) (hq : ∀ w, mm_pl T P m p w → post w ((nI m), (nI p), T, P, bd, jo, pl, la, ss, pp, tr, tp)) : ∀ (n b st : Nat) (w : Int64), m + 1 - b < n → b ≤ m + 1 → st ≤ b → mm_pt T P m p b w → wX_findByLastPlacesAndSuffixes_19 post (nI m) (nI p) T P bd jo pl la ss pp tr tp n w (nI b) (nI st) := by
  intro n
  induction n with
  | zero => intro b st w h; omega
  | succ n ih =>
    intro b st w h hb hst hw
    by_cases c : b + p ≤ m
    · have c1 : ¬ 60 < st := by omega
      have c2 : ¬ m - p < b := by omega
      simp (disch := omega) only [wX_findByLastPlacesAndSuffixes_19, c1, c2, forall_eq, nI_leI, nI_ltI, nI_eq, vp_in_nI, nI_clamp, nI_1, nI_add, pk_sub, mn_10, mn_60lt, mn_60le, mn_12le, mn_4le, mn_le0, mn_lt0, mn_0le, mn_eq0, mn_1le, mn_lt1, mn_le60, mn_lt12, mn_12lt, mn_le3, true_implies, forall_const, not_true_eq_false, not_false_eq_true, false_implies, and_true, true_and, implies_true, and_self, if_true, if_false]
      refine xd hm hp c (fun j1 a1 a2 a3 => ?_)
      obtain ⟨d, d1, d2⟩ := hs j1 (by omega)
      have d3 := d2.1
      have d4 := d2.2.1
      have SK : ∀ w, mm_pt T P m p (b + 1) w → mm_pt T P m p (b + d) w := by
        intro w hw
        refine mm_ptK hw (by omega) (fun q h1 h2 => ?_)
        obtain ⟨t, rfl⟩ : ∃ t, q = b + t := ⟨q - b, by omega⟩
        exact fun o => d2.2.2 t (by omega) (by omega) (mm_gdS a1 a2 a3 o)
      cases j1 with
      | zero =>
        have n0 : ¬ (0 : Int32) ≤ -1 := by decide
        have z1 : (-1 : Int32) + 1 = nI 0 := by decide
        rw [mn_01p]
        simp (disch := omega) only [z1, d1, n0, forall_eq, nI_leI, nI_ltI, nI_eq, vp_in_nI, nI_clamp, nI_1, nI_add, pk_sub, mn_10, mn_60lt, mn_60le, mn_12le, mn_4le, mn_le0, mn_lt0, mn_0le, mn_eq0, mn_1le, mn_lt1, mn_le60, mn_lt12, mn_12lt, mn_le3, true_implies, forall_const, not_true_eq_false, not_false_eq_true, false_implies, and_true, true_and, implies_true, and_self, if_true, if_false]
        exact ih (b + d) (st + 1) _ (by omega) (by omega) (by omega) (SK _ (mm_ptS hw (by omega) ⟨c, fun j hj => a2 j (by omega) hj⟩))
      | succ j =>
        obtain ⟨l, l1, l2⟩ := hT (b + j)
        obtain ⟨L, L1, L2, L3⟩ := hl l l1
        have no : ¬ mm_oc T P m p b := fun o => a3 j rfl (o.2 j (by omega))
        rw [pk_m1]
        by_cases cL : L ≤ j + 1
        · by_cases cd : j + 1 - L ≤ d
          · simp (disch := omega) only [d1, l2, L2, mm_sh1, cd, forall_eq, nI_leI, nI_ltI, nI_eq, vp_in_nI, nI_clamp, nI_1, nI_add, pk_sub, mn_10, mn_60lt, mn_60le, mn_12le, mn_4le, mn_le0, mn_lt0, mn_0le, mn_eq0, mn_1le, mn_lt1, mn_le60, mn_lt12, mn_12lt, mn_le3, true_implies, forall_const, not_true_eq_false, not_false_eq_true, false_implies, and_true, true_and, implies_true, and_self, if_true, if_false]
            exact ih (b + d) (st + 1) _ (by omega) (by omega) (by omega) (SK _ (mm_ptN hw no))
          · simp (disch := omega) only [d1, l2, L2, mm_sh1, cd, forall_eq, nI_leI, nI_ltI, nI_eq, vp_in_nI, nI_clamp, nI_1, nI_add, pk_sub, mn_10, mn_60lt, mn_60le, mn_12le, mn_4le, mn_le0, mn_lt0, mn_0le, mn_eq0, mn_1le, mn_lt1, mn_le60, mn_lt12, mn_12lt, mn_le3, true_implies, forall_const, not_true_eq_false, not_false_eq_true, false_implies, and_true, true_and, implies_true, and_self, if_true, if_false]
            refine ih (b + (j + 1 - L)) (st + 1) _ (by omega) (by omega) (by omega) (mm_ptK (mm_ptN hw no) (by omega) (fun q h1 h2 => ?_))
            obtain ⟨t, rfl⟩ : ∃ t, q = b + t := ⟨q - b, by omega⟩
            exact mm_skip l2 (fun i h3 h5 h4 => L3 i h5 h4) (by omega) (by omega) (by omega)
        · have cn : nI j - (nI L - 1) ≤ nI d := by
            rw [mm_ring, nI_1]
            exact mn_le (pk_sneg (by omega) (by omega)) (by omega)
          simp (disch := omega) only [d1, l2, L2, cn, forall_eq, nI_leI, nI_ltI, nI_eq, vp_in_nI, nI_clamp, nI_1, nI_add, pk_sub, mn_10, mn_60lt, mn_60le, mn_12le, mn_4le, mn_le0, mn_lt0, mn_0le, mn_eq0, mn_1le, mn_lt1, mn_le60, mn_lt12, mn_12lt, mn_le3, true_implies, forall_const, not_true_eq_false, not_false_eq_true, false_implies, and_true, true_and, implies_true, and_self, if_true, if_false]
          exact ih (b + d) (st + 1) _ (by omega) (by omega) (by omega) (SK _ (mm_ptN hw no))
    · have c2 : m - p < b := by omega
      have Q := hq w (mm_ptE hw (by omega))
      by_cases c1 : 60 < st
      · simp (disch := omega) only [wX_findByLastPlacesAndSuffixes_19, c1, forall_eq, nI_leI, nI_ltI, nI_eq, vp_in_nI, nI_clamp, nI_1, nI_add, pk_sub, mn_10, mn_60lt, mn_60le, mn_12le, mn_4le, mn_le0, mn_lt0, mn_0le, mn_eq0, mn_1le, mn_lt1, mn_le60, mn_lt12, mn_12lt, mn_le3, true_implies, forall_const, not_true_eq_false, not_false_eq_true, false_implies, and_true, true_and, implies_true, and_self, if_true, if_false]
        exact Q
      · simp (disch := omega) only [wX_findByLastPlacesAndSuffixes_19, c1, c2, forall_eq, nI_leI, nI_ltI, nI_eq, vp_in_nI, nI_clamp, nI_1, nI_add, pk_sub, mn_10, mn_60lt, mn_60le, mn_12le, mn_4le, mn_le0, mn_lt0, mn_0le, mn_eq0, mn_1le, mn_lt1, mn_le60, mn_lt12, mn_12lt, mn_le3, true_implies, forall_const, not_true_eq_false, not_false_eq_true, false_implies, and_true, true_and, implies_true, and_self, if_true, if_false]
        exact Q
theorem xe3 {post : Int64 → SX → Prop} (hm : m ≤ 60) (hp : p ≤ 12) (hp0 : 0 < p) (hpm : p ≤ m) (hT : mm_lt T) (hP : mm_lt P) (hq : ∀ w l s, mm_pl T P m p w → post w ((nI m), (nI p), T, P, bd, jo, pl, l, s, pp, tr, tp)) : wpX_findByLastPlacesAndSuffixes post ((nI m), (nI p), T, P, bd, jo, pl, la, ss, pp, tr, tp) := by
  unfold wpX_findByLastPlacesAndSuffixes
  dsimp only
  refine xl hp hP (fun l hl => ?_)
  dsimp only
  refine xf hp hp0 (fun s hs => ?_)
  exact ⟨m + 2, xq_l hm hp hp0 hpm hT hl hs (fun w hw => hq w l s hw) (m + 2) 0 0 0 (by omega) (by omega) (by omega) mm_pt0⟩
end
end
section
/-! Karp and Rabin; shift-and -/
section
variable {T P bd jo pl la ss pp tr : Nat → Int32} {tp : Nat → Int64} {m p : Nat}
theorem mn_or (a b : Nat) : nI a ||| nI b = nI (a ||| b) := by
  apply Int32.toBitVec_inj.1
  show BitVec.ofNat 32 a ||| BitVec.ofNat 32 b = BitVec.ofNat 32 (a ||| b)
  apply BitVec.eq_of_getLsbD_eq
  intro i hi
  simp [hi]
theorem mn_or4 {v l : Nat} (h : l < 4) : v * 4 ||| l = 4 * v + l := by
  have e := Nat.shiftLeft_add_eq_or_of_lt (i := 2) (b := l) (by omega) v
  rw [Nat.shiftLeft_eq] at e
  rw [show v * 4 = v * 2 ^ 2 from rfl, ← e]
  omega
theorem mn_sl2 {v l : Nat} (hv : v < 4 ^ 12) (h : l < 4) : (nI v <<< ((2 : Int32) &&& 31)) ||| nI l = nI (4 * v + l) := by
  have h12 : (4 : Nat) ^ 12 = 16777216 := by decide
  rw [pk_shlN _ 2 (by decide) (by omega), mn_or, show v * 2 ^ 2 = v * 4 from rfl, mn_or4 h]
theorem mn_mask : ∀ p, p < 13 → (((1 : Int32) <<< ((2 * nI p) &&& 31)) - 1).toBitVec.toNat = 2 ^ (2 * p) - 1 := by decide +kernel
theorem mn_4p (p : Nat) : 2 ^ (2 * p) = 4 ^ p := by rw [Nat.pow_mul]
theorem mn_and {v p : Nat} (hp : p < 13) (hv : v < 2 ^ 32) : nI v &&& (((1 : Int32) <<< ((2 * nI p) &&& 31)) - 1) = nI (v % 4 ^ p) := by
  rw [pk_andN hv (2 * p) (mn_mask p hp), mn_4p]
theorem mn_p12 {p : Nat} (hp : p ≤ 12) : 4 ^ p ≤ 4 ^ 12 := Nat.pow_le_pow_right (by omega) hp
theorem xn_48 {post : Int64 → Prop} (hm : m ≤ 60) (hp : p ≤ 12) (hp0 : 0 < p) (hT : mm_lt T) (hP : mm_lt P) (hq : ∀ w, mm_pl T P m p w → post w) : ∀ (d s n : Nat) (w : Int64), s + d = m → d < n → mm_pl T P s p w → wX_findByNumber_48 post (nI (mm_V P 0 p)) (((1 : Int32) <<< ((2 * nI p) &&& 31)) - 1) (nI m) (nI p) T P bd jo pl la ss pp tr tp n w (nI (mm_V T 0 s % 4 ^ p)) (nI s) := by
  intro d
  induction d with
  | zero =>
    intro s n w h hn hw
    obtain ⟨n, rfl⟩ : ∃ n', n = n' + 1 := ⟨n - 1, by omega⟩
    have e : s = m := by omega
    subst e
    simp (disch := omega) only [wX_findByNumber_48, Nat.le_refl, forall_eq, nI_leI, nI_ltI, nI_eq, vp_in_nI, nI_clamp, nI_1, nI_add, pk_sub, mn_10, mn_60lt, mn_60le, mn_12le, mn_4le, mn_le0, mn_lt0, mn_0le, mn_eq0, mn_1le, mn_lt1, mn_le60, mn_lt12, mn_12lt, mn_le3, true_implies, forall_const, not_true_eq_false, not_false_eq_true, false_implies, and_true, true_and, implies_true, and_self, if_true, if_false]
    exact hq w hw
  | succ d ih =>
    intro s n w h hn hw
    obtain ⟨n, rfl⟩ : ∃ n', n = n' + 1 := ⟨n - 1, by omega⟩
    have c : ¬ nI m ≤ nI s := nI_ge (by omega) (by omega)
    have h12 : (4 : Nat) ^ 12 = 16777216 := by decide
    have hp12 := mn_p12 hp
    have hpos : 0 < 4 ^ p := Nat.pow_pos (by omega)
    have hlt := Nat.mod_lt (mm_V T 0 s) hpos
    have hlt2 := Nat.mod_lt (mm_V T 0 (s + 1)) hpos
    have hv := mm_v4 hT s
    have hV := mm_Vlt hP 0 p
    have en : ((nI (mm_V T 0 s % 4 ^ p) <<< ((2 : Int32) &&& 31)) ||| T (nI s).toNatClampNeg) &&& (((1 : Int32) <<< ((2 * nI p) &&& 31)) - 1) = nI (mm_V T 0 (s + 1) % 4 ^ p) := by
      rw [nI_clamp (by omega), hv.2, mn_sl2 (by omega) hv.1, mn_and (by omega) (by omega), mm_Vmod]
    refine br_f c ⟨vp_in_nI (by omega) (by omega), nm_r en ?_⟩
    rw [nI_1]
    by_cases c2 : s + 1 < p
    · refine br_t (nI_lt c2 (by omega)) (nm_e (ih (s + 1) n w (by omega) (by omega) (mm_plN hw (fun z => ?_))))
      have := mm_suL z
      omega
    · refine br_f (nI_nlt (by omega) (by omega)) ?_
      have vs := mm_Vsu hT hP (i := s + 1) (p := p) (by omega)
      by_cases c3 : mm_V T 0 (s + 1) % 4 ^ p = mm_V P 0 p
      · refine br_t (congrArg nI c3) (nm_e (nm_e ?_))
        rw [pk_sub (by omega)]
        exact ih (s + 1) n _ (by omega) (by omega) (mm_plS hw (by omega) hp0 (vs.mp c3))
      · refine br_f (by rw [nI_eq (by omega) (by omega)]; exact c3) (nm_e ?_)
        exact ih (s + 1) n w (by omega) (by omega) (mm_plN hw (fun z => c3 (vs.mpr z)))
theorem xn_4 {post : Int64 → Prop} (hm : m ≤ 60) (hp : p ≤ 12) (hp0 : 0 < p) (hT : mm_lt T) (hP : mm_lt P) (hq : ∀ w, mm_pl T P m p w → post w) : ∀ (d s n : Nat), s + d = p → d < n → wX_findByNumber_4 post (nI m) (nI p) T P bd jo pl la ss pp tr tp n (nI (mm_V P 0 s)) (nI s) := by
  intro d
  induction d with
  | zero =>
    intro s n h hn
    obtain ⟨n, rfl⟩ : ∃ n', n = n' + 1 := ⟨n - 1, by omega⟩
    have e : s = p := by omega
    subst e
    have z : mm_V T 0 0 % 4 ^ s = 0 := Nat.zero_mod _
    have H := xn_48 (bd := bd) (jo := jo) (pl := pl) (la := la) (ss := ss) (pp := pp) (tr := tr) (tp := tp) hm hp hp0 hT hP hq m 0 (m + 1) 0 (by omega) (by omega) (mm_pl0 hp0)
    rw [z] at H
    exact br_t (nI_le (Nat.le_refl _) (by omega)) (nm_e ⟨m + 1, H⟩)
  | succ d ih =>
    intro s n h hn
    obtain ⟨n, rfl⟩ : ∃ n', n = n' + 1 := ⟨n - 1, by omega⟩
    have c : ¬ nI p ≤ nI s := nI_ge (by omega) (by omega)
    have h12 : (4 : Nat) ^ 12 = 16777216 := by decide
    have hp12 := mn_p12 (p := s) (by omega)
    have hv := mm_v4 hP s
    have hV := mm_Vlt hP 0 s
    have en : (nI (mm_V P 0 s) <<< ((2 : Int32) &&& 31)) ||| P (nI s).toNatClampNeg = nI (mm_V P 0 (s + 1)) := by
      rw [nI_clamp (by omega), hv.2, mn_sl2 (by omega) hv.1]
      show _ = nI (4 * mm_V P 0 s + mm_v (P (0 + s)))
      rw [Nat.zero_add]
    refine br_f c ⟨vp_in_nI (by omega) (by omega), nm_r en (nm_r (nI_1 s) ?_)⟩
    exact ih (s + 1) n (by omega) (by omega)
theorem xe6 {post : Int64 → Prop} (hm : m ≤ 60) (hp : p ≤ 12) (hp0 : 0 < p) (hT : mm_lt T) (hP : mm_lt P) (hq : ∀ w, mm_pl T P m p w → post w) : wpX_findByNumber post ((nI m), (nI p), T, P, bd, jo, pl, la, ss, pp, tr, tp) := by
  unfold wpX_findByNumber
  exact ⟨p + 1, xn_4 hm hp hp0 hT hP hq p 0 (p + 1) (by omega) (by omega)⟩
/-! shift-and -/
theorem xr_22 {post : SX → Prop} (hp : p ≤ 12) (hP : mm_lt P) (hq : ∀ q, mm_pp P q p → post ((nI m), (nI p), T, P, bd, jo, pl, la, ss, q, tr, tp)) : ∀ (d s n : Nat) (pp : Nat → Int32), s + d = p → d < n → mm_pp P pp s → wX_fillPatternPlaces_22 post (nI m) (nI p) n (nI s) T P bd jo pl la ss pp tr tp := by
  intro d
  induction d with
  | zero =>
    intro s n pp h hn hl
    obtain ⟨n, rfl⟩ : ∃ n', n = n' + 1 := ⟨n - 1, by omega⟩
    have e : s = p := by omega
    subst e
    simp (disch := omega) only [wX_fillPatternPlaces_22, Nat.le_refl, forall_eq, nI_leI, nI_ltI, nI_eq, vp_in_nI, nI_clamp, nI_1, nI_add, pk_sub, mn_10, mn_60lt, mn_60le, mn_12le, mn_4le, mn_le0, mn_lt0, mn_0le, mn_eq0, mn_1le, mn_lt1, mn_le60, mn_lt12, mn_12lt, mn_le3, true_implies, forall_const, not_true_eq_false, not_false_eq_true, false_implies, and_true, true_and, implies_true, and_self, if_true, if_false]
    exact hq pp hl
  | succ d ih =>
    intro s n pp h hn hl
    obtain ⟨n, rfl⟩ : ∃ n', n = n' + 1 := ⟨n - 1, by omega⟩
    have c : ¬ p ≤ s := by omega
    obtain ⟨l, l1, l2⟩ := hP s
    simp (disch := omega) only [wX_fillPatternPlaces_22, c, l2, forall_eq, nI_leI, nI_ltI, nI_eq, vp_in_nI, nI_clamp, nI_1, nI_add, pk_sub, mn_10, mn_60lt, mn_60le, mn_12le, mn_4le, mn_le0, mn_lt0, mn_0le, mn_eq0, mn_1le, mn_lt1, mn_le60, mn_lt12, mn_12lt, mn_le3, true_implies, forall_const, not_true_eq_false, not_false_eq_true, false_implies, and_true, true_and, implies_true, and_self, if_true, if_false]
    exact ih (s + 1) n _ (by omega) (by omega) (mm_ppS hl (by omega) l1 l2)
theorem xr_2 {post : SX → Prop} (hp : p ≤ 12) (hP : mm_lt P) (hq : ∀ q, mm_pp P q p → post ((nI m), (nI p), T, P, bd, jo, pl, la, ss, q, tr, tp)) : ∀ (d s n : Nat) (pp : Nat → Int32), s + d = 4 → d < n → (∀ c, c < s → pp c = 0) → wX_fillPatternPlaces_2 post (nI m) (nI p) n (nI s) T P bd jo pl la ss pp tr tp := by
  intro d
  induction d with
  | zero =>
    intro s n pp h hn hl
    obtain ⟨n, rfl⟩ : ∃ n', n = n' + 1 := ⟨n - 1, by omega⟩
    have c : 4 ≤ s := by omega
    simp (disch := omega) only [wX_fillPatternPlaces_2, c, forall_eq, nI_leI, nI_ltI, nI_eq, vp_in_nI, nI_clamp, nI_1, nI_add, pk_sub, mn_10, mn_60lt, mn_60le, mn_12le, mn_4le, mn_le0, mn_lt0, mn_0le, mn_eq0, mn_1le, mn_lt1, mn_le60, mn_lt12, mn_12lt, mn_le3, true_implies, forall_const, not_true_eq_false, not_false_eq_true, false_implies, and_true, true_and, implies_true, and_self, if_true, if_false]
    exact ⟨p + 1, xr_22 hp hP hq p 0 (p + 1) pp (by omega) (by omega) (mm_pp0 (fun j hj => hl j (by omega)))⟩
  | succ d ih =>
    intro s n pp h hn hl
    obtain ⟨n, rfl⟩ : ∃ n', n = n' + 1 := ⟨n - 1, by omega⟩
    have c : ¬ 4 ≤ s := by omega
    simp (disch := omega) only [wX_fillPatternPlaces_2, c, forall_eq, nI_leI, nI_ltI, nI_eq, vp_in_nI, nI_clamp, nI_1, nI_add, pk_sub, mn_10, mn_60lt, mn_60le, mn_12le, mn_4le, mn_le0, mn_lt0, mn_0le, mn_eq0, mn_1le, mn_lt1, mn_le60, mn_lt12, mn_12lt, mn_le3, true_implies, forall_const, not_true_eq_false, not_false_eq_true, false_implies, and_true, true_and, implies_true, and_self, if_true, if_false]
    refine ih (s + 1) n _ (by omega) (by omega) (lt_s (fun j hj => ?_) pk_us)
    rw [pk_un (by omega)]
    exact hl j hj
theorem xr {post : SX → Prop} (hp : p ≤ 12) (hP : mm_lt P) (hq : ∀ q, mm_pp P q p → post ((nI m), (nI p), T, P, bd, jo, pl, la, ss, q, tr, tp)) : wpX_fillPatternPlaces post ((nI m), (nI p), T, P, bd, jo, pl, la, ss, pp, tr, tp) := by
  unfold wpX_fillPatternPlaces
  exact ⟨5, xr_2 hp hP hq 4 0 5 pp (by omega) (by omega) (fun j hj => by omega)⟩
theorem xu_l {post : Int64 → SX → Prop} (hm : m ≤ 60) (hp : p ≤ 12) (hp0 : 0 < p) (hT : mm_lt T) (hpp : mm_pp P pp p) (hq : ∀ w, mm_pl T P m p w → post w ((nI m), (nI p), T, P, bd, jo, pl, la, ss, pp, tr, tp)) : ∀ (d s n : Nat) (w : Int64) (R : Int32), s + d = m → d < n → mm_pl T P s p w → mm_rp T P p s R → wX_findByRunningPrefixes_21 post ((1 : Int32) <<< (nI (p - 1) &&& 31)) (nI m) (nI p) T P bd jo pl la ss pp tr tp n w R (nI s) := by
  intro d
  induction d with
  | zero =>
    intro s n w R h hn hw hR
    obtain ⟨n, rfl⟩ : ∃ n', n = n' + 1 := ⟨n - 1, by omega⟩
    have e : s = m := by omega
    subst e
    simp (disch := omega) only [wX_findByRunningPrefixes_21, Nat.le_refl, forall_eq, nI_leI, nI_ltI, nI_eq, vp_in_nI, nI_clamp, nI_1, nI_add, pk_sub, mn_10, mn_60lt, mn_60le, mn_12le, mn_4le, mn_le0, mn_lt0, mn_0le, mn_eq0, mn_1le, mn_lt1, mn_le60, mn_lt12, mn_12lt, mn_le3, true_implies, forall_const, not_true_eq_false, not_false_eq_true, false_implies, and_true, true_and, implies_true, and_self, if_true, if_false]
    exact hq w hw
  | succ d ih =>
    intro s n w R h hn hw hR
    obtain ⟨n, rfl⟩ : ∃ n', n = n' + 1 := ⟨n - 1, by omega⟩
    have c : ¬ nI m ≤ nI s := nI_ge (by omega) (by omega)
    obtain ⟨l, l1, l2⟩ := hT s
    have R2 := mm_rpS hR hpp l1 l2
    have e1 : T (nI s).toNatClampNeg = nI l := by rw [nI_clamp (by omega)]; exact l2
    have e2 : (nI l).toNatClampNeg = l := nI_clamp (by omega)
    have W := mm_btW (x := ((R <<< ((1 : Int32) &&& 31)) ||| 1) &&& pp l) (l := p - 1) (by omega)
    have V := R2 (p - 1) (by omega)
    rw [show p - 1 + 1 = p from by omega] at V
    refine br_f c ⟨vp_in_nI (by omega) (by omega), ?_⟩
    rw [e1, e2, nI_1]
    refine ⟨vp_in_nI l1 (by omega), nm_e ?_⟩
    by_cases c3 : mm_su T P (s + 1) p
    · have hl := mm_suL c3
      refine br_f (fun z => W.mp z (V.mpr ⟨by omega, c3⟩)) (nm_e (nm_e ?_))
      rw [pk_sub hl]
      exact ih (s + 1) n _ _ (by omega) (by omega) (mm_plS hw (by omega) hp0 c3) R2
    · exact br_t (W.mpr (fun z => c3 (V.mp z).2)) (nm_e (ih (s + 1) n _ _ (by omega) (by omega) (mm_plN hw c3) R2))
theorem xe7 {post : Int64 → SX → Prop} (hm : m ≤ 60) (hp : p ≤ 12) (hp0 : 0 < p) (hT : mm_lt T) (hP : mm_lt P) (hq : ∀ w q, mm_pl T P m p w → post w ((nI m), (nI p), T, P, bd, jo, pl, la, ss, q, tr, tp)) : wpX_findByRunningPrefixes post ((nI m), (nI p), T, P, bd, jo, pl, la, ss, pp, tr, tp) := by
  unfold wpX_findByRunningPrefixes
  dsimp only
  refine xr hp hP (fun q hl => ?_)
  dsimp only
  rw [mn_s1 hp0]
  exact nm_e ⟨m + 1, xu_l hm hp hp0 hT hl (fun w hw => hq w q hw) m 0 (m + 1) 0 0 (by omega) (by omega) (mm_pl0 hp0) mm_rp0⟩
end
end
section
/-! the automaton; the letters' places -/
section
variable {T P bd jo pl la ss pp tr : Nat → Int32} {tp : Nat → Int64} {m p : Nat}
theorem mn_m4 (a : Nat) : nI a * 4 = nI (a * 4) := pk_mul a 4
/-- all rows below s -/
def xo_R (P : Nat → Int32) (p : Nat) (tr : Nat → Int32) (s : Nat) : Prop := ∀ k, k < s → mm_D P p tr k
theorem xo_RU {tr : Nat → Int32} {s c : Nat} {x : Int32} (h : xo_R P p tr s) : xo_R P p (upd tr (s * 4 + c) x) s := by
  intro k hk c2 hc
  rw [pk_un (by omega)]
  exact h k hk c2 hc
theorem xo_46 {post : SX → Prop} {J : Int32 → Int32 → (Nat → Int32) → (Nat → Int32) → (Nat → Int32) → (Nat → Int32) → (Nat → Int32) → (Nat → Int32) → (Nat → Int32) → (Nat → Int32) → (Nat → Int32) → (Nat → Int64) → Prop} {x s : Nat} (hp : p ≤ 12) (hs0 : 1 ≤ s) (hs : s ≤ p) (hx : x < s) (hP : mm_lt P) (hg : mm_gr P P s (s - 1) x) (hq : ∀ (tr : Nat → Int32) (x : Nat), xo_R P p tr (s + 1) → x < s + 1 → (s < p → mm_gr P P (s + 1) s x) → J (nI x) (nI (s + 1)) T P bd jo pl la ss pp tr tp) : ∀ (d t n : Nat) (tr : Nat → Int32), t + d = 4 → d < n → xo_R P p tr s → (∀ c, c < t → ∃ r, tr (s * 4 + c) = nI r ∧ mm_dl P p x c r) → wX_fillTransitions_46 post J (nI x) (nI s) (nI m) (nI p) n (nI t) T P bd jo pl la ss pp tr tp := by
  intro d
  induction d with
  | zero =>
    intro t n tr h hn hr hc
    obtain ⟨n, rfl⟩ : ∃ n', n = n' + 1 := ⟨n - 1, by omega⟩
    have c : 4 ≤ t := by omega
    by_cases c2 : p ≤ s
    · simp (disch := omega) only [wX_fillTransitions_46, c, c2, forall_eq, nI_leI, nI_ltI, nI_eq, vp_in_nI, nI_clamp, nI_1, nI_add, pk_sub, mn_10, mn_60lt, mn_60le, mn_12le, mn_4le, mn_le0, mn_lt0, mn_0le, mn_eq0, mn_1le, mn_lt1, mn_le60, mn_lt12, mn_12lt, mn_le3, true_implies, forall_const, not_true_eq_false, not_false_eq_true, false_implies, and_true, true_and, implies_true, and_self, if_true, if_false]
      refine hq tr x (fun k hk => ?_) (by omega) (fun z => by omega)
      by_cases y : k < s
      · exact hr k y
      · have e : k = s := by omega
        subst e
        intro c3 hc3
        obtain ⟨r, r1, r2⟩ := hc c3 (by omega)
        exact ⟨r, r1, mm_dlF hs hs0 hg r2 (fun z => by omega)⟩
    · obtain ⟨l, l1, l2⟩ := hP s
      obtain ⟨r, r1, r2⟩ := hr x hx l l1
      have e1 : upd tr (s * 4 + l) (nI (s + 1)) (x * 4 + l) = nI r := by
        rw [pk_un (by omega)]
        exact r1
      simp (disch := omega) only [wX_fillTransitions_46, c, c2, l2, mn_m4, e1, forall_eq, nI_leI, nI_ltI, nI_eq, vp_in_nI, nI_clamp, nI_1, nI_add, pk_sub, mn_10, mn_60lt, mn_60le, mn_12le, mn_4le, mn_le0, mn_lt0, mn_0le, mn_eq0, mn_1le, mn_lt1, mn_le60, mn_lt12, mn_12lt, mn_le3, true_implies, forall_const, not_true_eq_false, not_false_eq_true, false_implies, and_true, true_and, implies_true, and_self, if_true, if_false]
      refine hq _ r (fun k hk => ?_) (by have := mm_dlL r2; omega) (fun z => mm_dlX z hs0 hg r2 l2)
      by_cases y : k < s
      · exact xo_RU hr k y
      · have e : k = s := by omega
        subst e
        intro c3 hc3
        by_cases y3 : c3 = l
        · subst y3
          exact ⟨k + 1, pk_us, mm_dlT (by omega) l2⟩
        · obtain ⟨q, q1, q2⟩ := hc c3 (by omega)
          refine ⟨q, by rw [pk_un (by omega)]; exact q1, mm_dlF hs hs0 hg q2 (fun _ z => ?_)⟩
          rw [l2] at z
          exact y3 ((nI_eq (by omega) (by omega)).mp z).symm
  | succ d ih =>
    intro t n tr h hn hr hc
    obtain ⟨n, rfl⟩ : ∃ n', n = n' + 1 := ⟨n - 1, by omega⟩
    have c : ¬ 4 ≤ t := by omega
    obtain ⟨r, r1, r2⟩ := hr x hx t (by omega)
    simp (disch := omega) only [wX_fillTransitions_46, c, mn_m4, r1, forall_eq, nI_leI, nI_ltI, nI_eq, vp_in_nI, nI_clamp, nI_1, nI_add, pk_sub, mn_10, mn_60lt, mn_60le, mn_12le, mn_4le, mn_le0, mn_lt0, mn_0le, mn_eq0, mn_1le, mn_lt1, mn_le60, mn_lt12, mn_12lt, mn_le3, true_implies, forall_const, not_true_eq_false, not_false_eq_true, false_implies, and_true, true_and, implies_true, and_self, if_true, if_false]
    refine ih (t + 1) n _ (by omega) (by omega) (xo_RU hr) (lt_s (fun j hj => ?_) ⟨r, pk_us, r2⟩)
    rw [pk_un (by omega)]
    exact hc j hj
theorem xo_36 {post : SX → Prop} (hp : p ≤ 12) (hP : mm_lt P) (hq : ∀ t, xo_R P p t (p + 1) → post ((nI m), (nI p), T, P, bd, jo, pl, la, ss, pp, t, tp)) : ∀ (d s n x : Nat) (tr : Nat → Int32), s + d = p + 1 → d < n → 1 ≤ s → x < s → xo_R P p tr s → (s ≤ p → mm_gr P P s (s - 1) x) → wX_fillTransitions_36 post (nI m) (nI p) n (nI x) (nI s) T P bd jo pl la ss pp tr tp := by
  intro d
  induction d with
  | zero =>
    intro s n x tr h hn h1 hx hr hg
    obtain ⟨n, rfl⟩ : ∃ n', n = n' + 1 := ⟨n - 1, by omega⟩
    have e : s = p + 1 := by omega
    subst e
    simp (disch := omega) only [wX_fillTransitions_36, Nat.lt_succ_self, forall_eq, nI_leI, nI_ltI, nI_eq, vp_in_nI, nI_clamp, nI_1, nI_add, pk_sub, mn_10, mn_60lt, mn_60le, mn_12le, mn_4le, mn_le0, mn_lt0, mn_0le, mn_eq0, mn_1le, mn_lt1, mn_le60, mn_lt12, mn_12lt, mn_le3, true_implies, forall_const, not_true_eq_false, not_false_eq_true, false_implies, and_true, true_and, implies_true, and_self, if_true, if_false]
    exact hq tr hr
  | succ d ih =>
    intro s n x tr h hn h1 hx hr hg
    obtain ⟨n, rfl⟩ : ∃ n', n = n' + 1 := ⟨n - 1, by omega⟩
    have c : ¬ p < s := by omega
    simp (disch := omega) only [wX_fillTransitions_36, c, forall_eq, nI_leI, nI_ltI, nI_eq, vp_in_nI, nI_clamp, nI_1, nI_add, pk_sub, mn_10, mn_60lt, mn_60le, mn_12le, mn_4le, mn_le0, mn_lt0, mn_0le, mn_eq0, mn_1le, mn_lt1, mn_le60, mn_lt12, mn_12lt, mn_le3, true_implies, forall_const, not_true_eq_false, not_false_eq_true, false_implies, and_true, true_and, implies_true, and_self, if_true, if_false]
    refine ⟨5, xo_46 hp h1 (by omega) hx hP (hg (by omega)) (fun t y a1 a2 a3 => ?_) 4 0 5 tr (by omega) (by omega) hr (fun j hj => by omega)⟩
    exact ih (s + 1) n y t (by omega) (by omega) (by omega) a2 a1 (fun z => a3 (by omega))
theorem xo_2 {post : SX → Prop} (hp : p ≤ 12) (hp0 : 0 < p) (hP : mm_lt P) (hq : ∀ t, xo_R P p t (p + 1) → post ((nI m), (nI p), T, P, bd, jo, pl, la, ss, pp, t, tp)) : ∀ (d s n : Nat) (tr : Nat → Int32), s + d = 4 → d < n → (∀ c, c < s → tr c = 0) → wX_fillTransitions_2 post (nI m) (nI p) n (nI s) T P bd jo pl la ss pp tr tp := by
  intro d
  induction d with
  | zero =>
    intro s n tr h hn hc
    obtain ⟨n, rfl⟩ : ∃ n', n = n' + 1 := ⟨n - 1, by omega⟩
    have c : 4 ≤ s := by omega
    obtain ⟨l, l1, l2⟩ := hP 0
    simp (disch := omega) only [wX_fillTransitions_2, c, l2, forall_eq, nI_leI, nI_ltI, nI_eq, vp_in_nI, nI_clamp, nI_1, nI_add, pk_sub, mn_10, mn_60lt, mn_60le, mn_12le, mn_4le, mn_le0, mn_lt0, mn_0le, mn_eq0, mn_1le, mn_lt1, mn_le60, mn_lt12, mn_12lt, mn_le3, true_implies, forall_const, not_true_eq_false, not_false_eq_true, false_implies, and_true, true_and, implies_true, and_self, if_true, if_false]
    refine ⟨p + 1, xo_36 hp hP hq p 1 (p + 1) 0 _ (by omega) (by omega) (by omega) (by omega) (fun k hk => ?_) (fun _ => ⟨mm_su0 _ _ _, by omega, fun q _ z => z⟩)⟩
    have e : k = 0 := by omega
    subst e
    intro c3 hc3
    rw [show 0 * 4 + c3 = c3 from by omega]
    by_cases y : c3 = l
    · subst y
      exact ⟨1, pk_us, mm_dlT hp0 l2⟩
    · refine ⟨0, by rw [pk_un y, hc c3 (by omega)]; rfl, mm_dl0 (fun z => ?_)⟩
      rw [l2] at z
      exact y ((nI_eq (by omega) (by omega)).mp z).symm
  | succ d ih =>
    intro s n tr h hn hc
    obtain ⟨n, rfl⟩ : ∃ n', n = n' + 1 := ⟨n - 1, by omega⟩
    have c : ¬ 4 ≤ s := by omega
    simp (disch := omega) only [wX_fillTransitions_2, c, forall_eq, nI_leI, nI_ltI, nI_eq, vp_in_nI, nI_clamp, nI_1, nI_add, pk_sub, mn_10, mn_60lt, mn_60le, mn_12le, mn_4le, mn_le0, mn_lt0, mn_0le, mn_eq0, mn_1le, mn_lt1, mn_le60, mn_lt12, mn_12lt, mn_le3, true_implies, forall_const, not_true_eq_false, not_false_eq_true, false_implies, and_true, true_and, implies_true, and_self, if_true, if_false]
    refine ih (s + 1) n _ (by omega) (by omega) (lt_s (fun j hj => ?_) pk_us)
    rw [pk_un (by omega)]
    exact hc j hj
theorem xo {post : SX → Prop} (hp : p ≤ 12) (hp0 : 0 < p) (hP : mm_lt P) (hq : ∀ t, xo_R P p t (p + 1) → post ((nI m), (nI p), T, P, bd, jo, pl, la, ss, pp, t, tp)) : wpX_fillTransitions post ((nI m), (nI p), T, P, bd, jo, pl, la, ss, pp, tr, tp) := by
  unfold wpX_fillTransitions
  exact ⟨5, xo_2 hp hp0 hP hq 4 0 5 tr (by omega) (by omega) (fun j hj => by omega)⟩
theorem xv_l {post : Int64 → SX → Prop} (hm : m ≤ 60) (hp : p ≤ 12) (hp0 : 0 < p) (hT : mm_lt T) (hr : xo_R P p tr (p + 1)) (hq : ∀ w, mm_pl T P m p w → post w ((nI m), (nI p), T, P, bd, jo, pl, la, ss, pp, tr, tp)) : ∀ (d s n k : Nat) (w : Int64), s + d = m → d < n → mm_pl T P s p w → mm_gr T P s p k → wX_findByAutomaton_11 post (nI m) (nI p) T P bd jo pl la ss pp tr tp n w (nI k) (nI s) := by
  intro d
  induction d with
  | zero =>
    intro s n k w h hn hw hg
    obtain ⟨n, rfl⟩ : ∃ n', n = n' + 1 := ⟨n - 1, by omega⟩
    have e : s = m := by omega
    subst e
    simp (disch := omega) only [wX_findByAutomaton_11, Nat.le_refl, forall_eq, nI_leI, nI_ltI, nI_eq, vp_in_nI, nI_clamp, nI_1, nI_add, pk_sub, mn_10, mn_60lt, mn_60le, mn_12le, mn_4le, mn_le0, mn_lt0, mn_0le, mn_eq0, mn_1le, mn_lt1, mn_le60, mn_lt12, mn_12lt, mn_le3, true_implies, forall_const, not_true_eq_false, not_false_eq_true, false_implies, and_true, true_and, implies_true, and_self, if_true, if_false]
    exact hq w hw
  | succ d ih =>
    intro s n k w h hn hw hg
    obtain ⟨n, rfl⟩ : ∃ n', n = n' + 1 := ⟨n - 1, by omega⟩
    have c : ¬ m ≤ s := by omega
    have g2 := hg.2.1
    obtain ⟨l, l1, l2⟩ := hT s
    obtain ⟨r, r1, r2⟩ := hr k (by omega) l l1
    have hu := mm_dlN hg r2 l2
    have hu2 := hu.2.1
    by_cases z : r = p
    · rw [z] at hu r1
      have hl := mm_suL hu.1
      simp (disch := omega) only [wX_findByAutomaton_11, c, l2, mn_m4, r1, forall_eq, nI_leI, nI_ltI, nI_eq, vp_in_nI, nI_clamp, nI_1, nI_add, pk_sub, mn_10, mn_60lt, mn_60le, mn_12le, mn_4le, mn_le0, mn_lt0, mn_0le, mn_eq0, mn_1le, mn_lt1, mn_le60, mn_lt12, mn_12lt, mn_le3, true_implies, forall_const, not_true_eq_false, not_false_eq_true, false_implies, and_true, true_and, implies_true, and_self, if_true, if_false]
      exact ih (s + 1) n p _ (by omega) (by omega) (mm_plS hw (by omega) hp0 hu.1) hu
    · simp (disch := omega) only [wX_findByAutomaton_11, c, l2, mn_m4, r1, z, forall_eq, nI_leI, nI_ltI, nI_eq, vp_in_nI, nI_clamp, nI_1, nI_add, pk_sub, mn_10, mn_60lt, mn_60le, mn_12le, mn_4le, mn_le0, mn_lt0, mn_0le, mn_eq0, mn_1le, mn_lt1, mn_le60, mn_lt12, mn_12lt, mn_le3, true_implies, forall_const, not_true_eq_false, not_false_eq_true, false_implies, and_true, true_and, implies_true, and_self, if_true, if_false]
      exact ih (s + 1) n r w (by omega) (by omega) (mm_plN hw (mm_grne hu z).2) hu
theorem xe8 {post : Int64 → SX → Prop} (hm : m ≤ 60) (hp : p ≤ 12) (hp0 : 0 < p) (hT : mm_lt T) (hP : mm_lt P) (hq : ∀ w t, mm_pl T P m p w → post w ((nI m), (nI p), T, P, bd, jo, pl, la, ss, pp, t, tp)) : wpX_findByAutomaton post ((nI m), (nI p), T, P, bd, jo, pl, la, ss, pp, tr, tp) := by
  unfold wpX_findByAutomaton
  dsimp only
  refine xo hp hp0 hP (fun t ht => ?_)
  exact ⟨m + 1, xv_l hm hp hp0 hT ht (fun w hw => hq w t hw) m 0 (m + 1) 0 0 (by omega) (by omega) (mm_pl0 hp0) ⟨mm_su0 _ _ _, by omega, fun q z _ => mm_suL z⟩⟩
/-! the letters' places -/
theorem xx_22 {post : SX → Prop} (hm : m ≤ 60) (hT : mm_lt T) (hq : ∀ q, mm_tp T q m → post ((nI m), (nI p), T, P, bd, jo, pl, la, ss, pp, tr, q)) : ∀ (d s n : Nat) (tp : Nat → Int64), s + d = m → d < n → mm_tp T tp s → wX_fillTextPlaces_22 post (nI m) (nI p) n (nI s) T P bd jo pl la ss pp tr tp := by
  intro d
  induction d with
  | zero =>
    intro s n tp h hn hl
    obtain ⟨n, rfl⟩ : ∃ n', n = n' + 1 := ⟨n - 1, by omega⟩
    have e : s = m := by omega
    subst e
    simp (disch := omega) only [wX_fillTextPlaces_22, Nat.le_refl, forall_eq, nI_leI, nI_ltI, nI_eq, vp_in_nI, nI_clamp, nI_1, nI_add, pk_sub, mn_10, mn_60lt, mn_60le, mn_12le, mn_4le, mn_le0, mn_lt0, mn_0le, mn_eq0, mn_1le, mn_lt1, mn_le60, mn_lt12, mn_12lt, mn_le3, true_implies, forall_const, not_true_eq_false, not_false_eq_true, false_implies, and_true, true_and, implies_true, and_self, if_true, if_false]
    exact hq tp hl
  | succ d ih =>
    intro s n tp h hn hl
    obtain ⟨n, rfl⟩ : ∃ n', n = n' + 1 := ⟨n - 1, by omega⟩
    have c : ¬ m ≤ s := by omega
    obtain ⟨l, l1, l2⟩ := hT s
    simp (disch := omega) only [wX_fillTextPlaces_22, c, l2, forall_eq, nI_leI, nI_ltI, nI_eq, vp_in_nI, nI_clamp, nI_1, nI_add, pk_sub, mn_10, mn_60lt, mn_60le, mn_12le, mn_4le, mn_le0, mn_lt0, mn_0le, mn_eq0, mn_1le, mn_lt1, mn_le60, mn_lt12, mn_12lt, mn_le3, true_implies, forall_const, not_true_eq_false, not_false_eq_true, false_implies, and_true, true_and, implies_true, and_self, if_true, if_false]
    exact ih (s + 1) n _ (by omega) (by omega) (mm_tpS hl (by omega) l1 l2)
theorem xx_2 {post : SX → Prop} (hm : m ≤ 60) (hT : mm_lt T) (hq : ∀ q, mm_tp T q m → post ((nI m), (nI p), T, P, bd, jo, pl, la, ss, pp, tr, q)) : ∀ (d s n : Nat) (tp : Nat → Int64), s + d = 4 → d < n → (∀ c, c < s → tp c = 0) → wX_fillTextPlaces_2 post (nI m) (nI p) n (nI s) T P bd jo pl la ss pp tr tp := by
  intro d
  induction d with
  | zero =>
    intro s n tp h hn hl
    obtain ⟨n, rfl⟩ : ∃ n', n = n' + 1 := ⟨n - 1, by omega⟩
    have c : 4 ≤ s := by omega
    simp (disch := omega) only [wX_fillTextPlaces_2, c, forall_eq, nI_leI, nI_ltI, nI_eq, vp_in_nI, nI_clamp, nI_1, nI_add, pk_sub, mn_10, mn_60lt, mn_60le, mn_12le, mn_4le, mn_le0, mn_lt0, mn_0le, mn_eq0, mn_1le, mn_lt1, mn_le60, mn_lt12, mn_12lt, mn_le3, true_implies, forall_const, not_true_eq_false, not_false_eq_true, false_implies, and_true, true_and, implies_true, and_self, if_true, if_false]
    exact ⟨m + 1, xx_22 hm hT hq m 0 (m + 1) tp (by omega) (by omega) (mm_tp0 (fun j hj => hl j (by omega)))⟩
  | succ d ih =>
    intro s n tp h hn hl
    obtain ⟨n, rfl⟩ : ∃ n', n = n' + 1 := ⟨n - 1, by omega⟩
    have c : ¬ 4 ≤ s := by omega
    simp (disch := omega) only [wX_fillTextPlaces_2, c, forall_eq, nI_leI, nI_ltI, nI_eq, vp_in_nI, nI_clamp, nI_1, nI_add, pk_sub, mn_10, mn_60lt, mn_60le, mn_12le, mn_4le, mn_le0, mn_lt0, mn_0le, mn_eq0, mn_1le, mn_lt1, mn_le60, mn_lt12, mn_12lt, mn_le3, true_implies, forall_const, not_true_eq_false, not_false_eq_true, false_implies, and_true, true_and, implies_true, and_self, if_true, if_false]
    refine ih (s + 1) n _ (by omega) (by omega) (lt_s (fun j hj => ?_) pk_uLs)
    rw [pk_uLn (by omega)]
    exact hl j hj
theorem xx {post : SX → Prop} (hm : m ≤ 60) (hT : mm_lt T) (hq : ∀ q, mm_tp T q m → post ((nI m), (nI p), T, P, bd, jo, pl, la, ss, pp, tr, q)) : wpX_fillTextPlaces post ((nI m), (nI p), T, P, bd, jo, pl, la, ss, pp, tr, tp) := by
  unfold wpX_fillTextPlaces
  exact ⟨5, xx_2 hm hT hq 4 0 5 tp (by omega) (by omega) (fun j hj => by omega)⟩
theorem xy_l {post : Int64 → SX → Prop} (hm : m ≤ 60) (hp : p ≤ 12) (hp0 : 0 < p) (hP : mm_lt P) (ht : mm_tp T tp m) (hq : ∀ w, mm_pl T P m p w → post w ((nI m), (nI p), T, P, bd, jo, pl, la, ss, pp, tr, tp)) : ∀ (d s n : Nat) (w : Int64), s + d = p → d < n → mm_tw T P m s w → wX_findByTextPlaces_18 post (nI m) (nI p) T P bd jo pl la ss pp tr tp n w (nI s) := by
  intro d
  induction d with
  | zero =>
    intro s n w h hn hw
    obtain ⟨n, rfl⟩ : ∃ n', n = n' + 1 := ⟨n - 1, by omega⟩
    have e : s = p := by omega
    subst e
    simp (disch := omega) only [wX_findByTextPlaces_18, Nat.le_refl, forall_eq, nI_leI, nI_ltI, nI_eq, vp_in_nI, nI_clamp, nI_1, nI_add, pk_sub, mn_10, mn_60lt, mn_60le, mn_12le, mn_4le, mn_le0, mn_lt0, mn_0le, mn_eq0, mn_1le, mn_lt1, mn_le60, mn_lt12, mn_12lt, mn_le3, true_implies, forall_const, not_true_eq_false, not_false_eq_true, false_implies, and_true, true_and, implies_true, and_self, if_true, if_false]
    exact hq w (mm_twE hp0 hw)
  | succ d ih =>
    intro s n w h hn hw
    obtain ⟨n, rfl⟩ : ∃ n', n = n' + 1 := ⟨n - 1, by omega⟩
    have c : ¬ p ≤ s := by omega
    obtain ⟨l, l1, l2⟩ := hP s
    simp (disch := omega) only [wX_findByTextPlaces_18, c, l2, forall_eq, nI_leI, nI_ltI, nI_eq, vp_in_nI, nI_clamp, nI_1, nI_add, pk_sub, mn_10, mn_60lt, mn_60le, mn_12le, mn_4le, mn_le0, mn_lt0, mn_0le, mn_eq0, mn_1le, mn_lt1, mn_le60, mn_lt12, mn_12lt, mn_le3, true_implies, forall_const, not_true_eq_false, not_false_eq_true, false_implies, and_true, true_and, implies_true, and_self, if_true, if_false]
    exact ih (s + 1) n _ (by omega) (by omega) (mm_twS hw ht hm (by omega) l1 l2)
theorem xe9 {post : Int64 → SX → Prop} (hm : m ≤ 60) (hp : p ≤ 12) (hp0 : 0 < p) (hT : mm_lt T) (hP : mm_lt P) (hq : ∀ w q, mm_pl T P m p w → post w ((nI m), (nI p), T, P, bd, jo, pl, la, ss, pp, tr, q)) : wpX_findByTextPlaces post ((nI m), (nI p), T, P, bd, jo, pl, la, ss, pp, tr, tp) := by
  unfold wpX_findByTextPlaces
  dsimp only
  refine xx hm hT (fun q ht => ?_)
  obtain ⟨l, l1, l2⟩ := hP 0
  simp (disch := omega) only [l2, forall_eq, nI_leI, nI_ltI, nI_eq, vp_in_nI, nI_clamp, nI_1, nI_add, pk_sub, mn_10, mn_60lt, mn_60le, mn_12le, mn_4le, mn_le0, mn_lt0, mn_0le, mn_eq0, mn_1le, mn_lt1, mn_le60, mn_lt12, mn_12lt, mn_le3, true_implies, forall_const, not_true_eq_false, not_false_eq_true, false_implies, and_true, true_and, implies_true, and_self, if_true, if_false]
  exact ⟨p, xy_l hm hp hp0 hP ht (fun w hw => hq w q hw) (p - 1) 1 p _ (by omega) (by omega) (mm_tw1 ht l1 l2)⟩
end
end
section
/-! all engines find the occurrences; the loops over the set -/
section
variable {T P bd jo pl la ss pp tr : Nat → Int32} {tp : Nat → Int64} {m p : Nat}
theorem xP {post : Int64 → SX → Prop} {g : Nat} (hm : m ≤ 60) (hp : p ≤ 12) (hT : mm_lt T) (hP : mm_lt P) (hg : g < 10) (hq : ∀ (w : Int64) (bd jo pl la ss pp tr : Nat → Int32) (tp : Nat → Int64), mm_pl T P m p w → post w ((nI m), (nI p), T, P, bd, jo, pl, la, ss, pp, tr, tp)) : wpX_findPlaces post ((nI m), (nI p), T, P, bd, jo, pl, la, ss, pp, tr, tp) (nI g) := by
  unfold wpX_findPlaces
  dsimp only
  by_cases c0 : p = 0
  · subst c0
    refine br_t rfl ?_
    rw [nI_1]
    exact hq _ bd jo pl la ss pp tr tp (mm_plE hm)
  · have hp0 : 0 < p := by omega
    refine br_f (by rw [mn_eq0 (by omega)]; exact c0) ?_
    by_cases c1 : p ≤ m
    · refine br_t (nI_le c1 (by omega)) ?_
      rcases (by omega : g = 0 ∨ g = 1 ∨ g = 2 ∨ g = 3 ∨ g = 4 ∨ g = 5 ∨ g = 6 ∨ g = 7 ∨ g = 8 ∨ g = 9) with e | e | e | e | e | e | e | e | e | e
      · subst e
        exact br_f (by decide) (br_f (by decide) (br_t (by decide) (xe0 hm hp c1 (fun w hw => hq w bd jo pl la ss pp tr tp hw))))
      · subst e
        exact br_f (by decide) (br_f (by decide) (br_f (by decide) (br_t (by decide) (xe1 hm hp hp0 (fun w b hw => hq w b jo pl la ss pp tr tp hw)))))
      · subst e
        exact br_f (by decide) (br_f (by decide) (br_f (by decide) (br_f (by decide) (br_t (by decide) (xe2 hm hp hp0 c1 hT hP (fun w J l hw => hq w bd J l la ss pp tr tp hw))))))
      · subst e
        exact br_f (by decide) (br_f (by decide) (br_f (by decide) (br_f (by decide) (br_f (by decide) (br_t (by decide) (xe3 hm hp hp0 c1 hT hP (fun w l s hw => hq w bd jo pl l s pp tr tp hw)))))))
      · subst e
        exact br_f (by decide) (br_f (by decide) (br_f (by decide) (br_f (by decide) (br_f (by decide) (br_f (by decide) (br_t (by decide) (xe4 hm hp hp0 c1 hT hP (fun w l hw => hq w bd jo pl l ss pp tr tp hw))))))))
      · subst e
        exact br_f (by decide) (br_f (by decide) (br_f (by decide) (br_f (by decide) (br_f (by decide) (br_f (by decide) (br_f (by decide) (br_t (by decide) (xe5 hm hp hp0 c1 hT hP (fun w l hw => hq w bd jo pl l ss pp tr tp hw)))))))))
      · subst e
        exact br_f (by decide) (br_f (by decide) (br_f (by decide) (br_f (by decide) (br_f (by decide) (br_f (by decide) (br_f (by decide) (br_f (by decide) (br_t (by decide) (xe6 hm hp hp0 hT hP (fun w hw => hq w bd jo pl la ss pp tr tp hw))))))))))
      · subst e
        exact br_f (by decide) (br_f (by decide) (br_f (by decide) (br_f (by decide) (br_f (by decide) (br_f (by decide) (br_f (by decide) (br_f (by decide) (br_f (by decide) (br_t (by decide) (xe7 hm hp hp0 hT hP (fun w q hw => hq w bd jo pl la ss q tr tp hw)))))))))))
      · subst e
        exact br_f (by decide) (br_f (by decide) (br_f (by decide) (br_f (by decide) (br_f (by decide) (br_f (by decide) (br_f (by decide) (br_f (by decide) (br_f (by decide) (br_f (by decide) (br_t (by decide) (xe8 hm hp hp0 hT hP (fun w t hw => hq w bd jo pl la ss pp t tp hw))))))))))))
      · subst e
        exact br_f (by decide) (br_t (by decide) (xe9 hm hp hp0 hT hP (fun w q hw => hq w bd jo pl la ss pp tr q hw)))
    · exact br_f (by rw [nI_leI (by omega) (by omega)]; exact c1) (hq 0 bd jo pl la ss pp tr tp (mm_plZ (by omega)))
theorem xH {post : Int32 → Prop} {w : Int64} {i : Nat} (hw : mm_pl T P m p w) (hi : i < 64) (h1 : mm_f T P m p 0 i = true → post 1) (h0 : ¬ mm_f T P m p 0 i = true → post 0) : wpX_hasPlace post w (nI i) := by
  unfold wpX_hasPlace
  by_cases c : mm_f T P m p 0 i = true
  · have b : mm_bl w i = true := (hw i hi).mpr (mm_f0.mp c)
    exact br_f (fun z => (mm_has hi).mp z b) (h1 c)
  · have b : ¬ mm_bl w i = true := fun z => c (mm_f0.mpr ((hw i hi).mp z))
    exact br_t ((mm_has hi).mpr b) (h0 c)
theorem xF {i : Nat} (h : m < i) : ¬ mm_f T P m p 0 i = true := by
  rw [mm_fB (by omega) (by omega)]
  decide
theorem xc_l {post : Int32 → SX → Prop} {w : Int64} (hw : mm_pl T P m p w) (hq : post (nI (mm_cn (mm_f T P m p 0) 61)) ((nI m), (nI p), T, P, bd, jo, pl, la, ss, pp, tr, tp)) : ∀ (d s n : Nat), s + d = 61 → d < n → wX_count_21 post w (nI m) (nI p) T P bd jo pl la ss pp tr tp n (nI (mm_cn (mm_f T P m p 0) s)) (nI s) := by
  intro d
  induction d with
  | zero =>
    intro s n h hn
    obtain ⟨n, rfl⟩ : ∃ n', n = n' + 1 := ⟨n - 1, by omega⟩
    have e : s = 61 := by omega
    subst e
    exact br_t (by decide) hq
  | succ d ih =>
    intro s n h hn
    obtain ⟨n, rfl⟩ : ∃ n', n = n' + 1 := ⟨n - 1, by omega⟩
    have c : ¬ 60 < s := by omega
    have H := ih (s + 1) n (by omega) (by omega)
    simp (disch := omega) only [wX_count_21, c, forall_eq, nI_leI, nI_ltI, nI_eq, vp_in_nI, nI_clamp, nI_1, nI_add, pk_sub, mn_10, mn_60lt, mn_60le, mn_12le, mn_4le, mn_le0, mn_lt0, mn_0le, mn_eq0, mn_1le, mn_lt1, mn_le60, mn_lt12, mn_12lt, mn_le3, true_implies, forall_const, not_true_eq_false, not_false_eq_true, false_implies, and_true, true_and, implies_true, and_self, if_true, if_false]
    refine xH hw (by omega) (fun z => br_f mn_10 ?_) (fun z => br_t rfl ?_)
    · rw [mm_cnT z] at H
      exact H
    · rw [mm_cnF z] at H
      exact H
theorem xn_l {post : Int32 → SX → Prop} {w : Int64} {a : Nat} (hm : m ≤ 60) (hw : mm_pl T P m p w) (hq : ∀ r, mm_nx (mm_f T P m p 0) a r → post r ((nI m), (nI p), T, P, bd, jo, pl, la, ss, pp, tr, tp)) : ∀ (d s n : Nat), s + d = 61 → d < n → a ≤ s → (∀ j, a ≤ j → j < s → ¬ mm_f T P m p 0 j = true) → wX_next_30 post w (nI m) (nI p) T P bd jo pl la ss pp tr tp n (nI s) := by
  intro d
  induction d with
  | zero =>
    intro s n h hn ha hj
    obtain ⟨n, rfl⟩ : ∃ n', n = n' + 1 := ⟨n - 1, by omega⟩
    have e : s = 61 := by omega
    subst e
    refine br_t (by decide) (hq _ (Or.inr ⟨rfl, fun j h1 => ?_⟩))
    by_cases y : j < 61
    · exact hj j h1 y
    · exact xF (by omega)
  | succ d ih =>
    intro s n h hn ha hj
    obtain ⟨n, rfl⟩ : ∃ n', n = n' + 1 := ⟨n - 1, by omega⟩
    have c : ¬ 60 < s := by omega
    simp (disch := omega) only [wX_next_30, c, forall_eq, nI_leI, nI_ltI, nI_eq, vp_in_nI, nI_clamp, nI_1, nI_add, pk_sub, mn_10, mn_60lt, mn_60le, mn_12le, mn_4le, mn_le0, mn_lt0, mn_0le, mn_eq0, mn_1le, mn_lt1, mn_le60, mn_lt12, mn_12lt, mn_le3, true_implies, forall_const, not_true_eq_false, not_false_eq_true, false_implies, and_true, true_and, implies_true, and_self, if_true, if_false]
    refine xH hw (by omega) (fun z => br_f mn_10 ?_) (fun z => br_t rfl ?_)
    · exact hq _ (Or.inl ⟨s, by omega, rfl, ha, z, hj⟩)
    · refine ih (s + 1) n (by omega) (by omega) (by omega) (fun j h1 h2 => ?_)
      by_cases y : j < s
      · exact hj j h1 y
      · have e : j = s := by omega
        rw [e]
        exact z
theorem xl_l {post : Int32 → SX → Prop} {w : Int64} {a : Nat} (hm : m ≤ 60) (hw : mm_pl T P m p w) (hq : ∀ r, mm_ls (mm_f T P m p 0) a r → post r ((nI m), (nI p), T, P, bd, jo, pl, la, ss, pp, tr, tp)) : ∀ (k n : Nat), k ≤ 61 → k < n → k ≤ a → (∀ j, k ≤ j → j < a → ¬ mm_f T P m p 0 j = true) → wX_last_33 post w (nI m) (nI p) T P bd jo pl la ss pp tr tp n (nI k + (-1)) := by
  intro k
  induction k with
  | zero =>
    intro n h hn ha hj
    obtain ⟨n, rfl⟩ : ∃ n', n = n' + 1 := ⟨n - 1, by omega⟩
    exact br_t mn_m0 (hq _ (Or.inr ⟨rfl, fun j h1 => hj j (by omega) h1⟩))
  | succ k ih =>
    intro n h hn ha hj
    obtain ⟨n, rfl⟩ : ∃ n', n = n' + 1 := ⟨n - 1, by omega⟩
    rw [pk_m1]
    simp (disch := omega) only [wX_last_33, forall_eq, nI_leI, nI_ltI, nI_eq, vp_in_nI, nI_clamp, nI_1, nI_add, pk_sub, mn_10, mn_60lt, mn_60le, mn_12le, mn_4le, mn_le0, mn_lt0, mn_0le, mn_eq0, mn_1le, mn_lt1, mn_le60, mn_lt12, mn_12lt, mn_le3, true_implies, forall_const, not_true_eq_false, not_false_eq_true, false_implies, and_true, true_and, implies_true, and_self, if_true, if_false]
    refine xH hw (by omega) (fun z => br_f mn_10 ?_) (fun z => br_t rfl ?_)
    · exact hq _ (Or.inl ⟨k, rfl, by omega, z, fun j h1 h2 => hj j (by omega) h2⟩)
    · refine ih n (by omega) (by omega) (by omega) (fun j h1 h2 => ?_)
      by_cases y : j = k
      · rw [y]
        exact z
      · exact hj j (by omega) h2
theorem xk_l2 {post : Int32 → SX → Prop} {w : Int64} {x2 : Int32} (hm : m ≤ 60) (hw : mm_pl T P m p w) (hq : ∀ r, mm_kt (mm_f T P m p 0) x2 r → post r ((nI m), (nI p), T, P, bd, jo, pl, la, ss, pp, tr, tp)) : ∀ (d s n : Nat), s + d = 61 → d < n → (∀ j, j < s → mm_f T P m p 0 j = true → ¬ nI (mm_cn (mm_f T P m p 0) j) = x2) → wX_kth_21 post x2 w (nI m) (nI p) T P bd jo pl la ss pp tr tp n (nI (mm_cn (mm_f T P m p 0) s)) (nI s) := by
  intro d
  induction d with
  | zero =>
    intro s n h hn hj
    obtain ⟨n, rfl⟩ : ∃ n', n = n' + 1 := ⟨n - 1, by omega⟩
    have e : s = 61 := by omega
    subst e
    refine br_t (by decide) (hq _ (Or.inr ⟨rfl, fun j h1 => ?_⟩))
    by_cases y : j < 61
    · exact hj j y h1
    · exact absurd h1 (xF (by omega))
  | succ d ih =>
    intro s n h hn hj
    obtain ⟨n, rfl⟩ : ∃ n', n = n' + 1 := ⟨n - 1, by omega⟩
    have c : ¬ 60 < s := by omega
    simp (disch := omega) only [wX_kth_21, c, forall_eq, nI_leI, nI_ltI, nI_eq, vp_in_nI, nI_clamp, nI_1, nI_add, pk_sub, mn_10, mn_60lt, mn_60le, mn_12le, mn_4le, mn_le0, mn_lt0, mn_0le, mn_eq0, mn_1le, mn_lt1, mn_le60, mn_lt12, mn_12lt, mn_le3, true_implies, forall_const, not_true_eq_false, not_false_eq_true, false_implies, and_true, true_and, implies_true, and_self, if_true, if_false]
    refine xH hw (by omega) (fun z => br_f mn_10 ?_) (fun z => br_t rfl ?_)
    · by_cases c4 : nI (mm_cn (mm_f T P m p 0) s) = x2
      · exact br_t c4 (hq _ (Or.inl ⟨s, by omega, rfl, z, c4⟩))
      · have H := ih (s + 1) n (by omega) (by omega) (fun j h1 h2 => by
          by_cases y : j < s
          · exact hj j y h2
          · have e : j = s := by omega
            rw [e]
            exact c4)
        rw [mm_cnT z] at H
        exact br_f c4 H
    · have H := ih (s + 1) n (by omega) (by omega) (fun j h1 h2 => by
          by_cases y : j < s
          · exact hj j y h2
          · have e : j = s := by omega
            rw [e] at h2
            exact absurd h2 z)
      rw [mm_cnF z] at H
      exact H
theorem xa_l2 {post : Int32 → SX → Prop} {w : Int64} {D : Nat} (hD : D ≤ 12) (hw : mm_pl T P m p w) (hq : post (nI (mm_ga (mm_f T P m p 0) D 61).1) ((nI m), (nI p), T, P, bd, jo, pl, la, ss, pp, tr, tp)) : ∀ (d s n : Nat), s + d = 61 → d < n → wX_apart_42 post w (nI D) (nI m) (nI p) T P bd jo pl la ss pp tr tp n (nI (mm_ga (mm_f T P m p 0) D s).1) (nI (mm_ga (mm_f T P m p 0) D s).2) (nI s) := by
  intro d
  induction d with
  | zero =>
    intro s n h hn
    obtain ⟨n, rfl⟩ : ∃ n', n = n' + 1 := ⟨n - 1, by omega⟩
    have e : s = 61 := by omega
    subst e
    exact br_t (by decide) hq
  | succ d ih =>
    intro s n h hn
    obtain ⟨n, rfl⟩ : ∃ n', n = n' + 1 := ⟨n - 1, by omega⟩
    have c : ¬ 60 < s := by omega
    have B := mm_gaL (mm_f T P m p 0) D s
    have H := ih (s + 1) n (by omega) (by omega)
    by_cases c2 : s < (mm_ga (mm_f T P m p 0) D s).2
    · rw [mm_gaF (fun z => by omega)] at H
      simp (disch := omega) only [wX_apart_42, c, c2, forall_eq, nI_leI, nI_ltI, nI_eq, vp_in_nI, nI_clamp, nI_1, nI_add, pk_sub, mn_10, mn_60lt, mn_60le, mn_12le, mn_4le, mn_le0, mn_lt0, mn_0le, mn_eq0, mn_1le, mn_lt1, mn_le60, mn_lt12, mn_12lt, mn_le3, true_implies, forall_const, not_true_eq_false, not_false_eq_true, false_implies, and_true, true_and, implies_true, and_self, if_true, if_false]
      exact H
    · simp (disch := omega) only [wX_apart_42, c, c2, forall_eq, nI_leI, nI_ltI, nI_eq, vp_in_nI, nI_clamp, nI_1, nI_add, pk_sub, mn_10, mn_60lt, mn_60le, mn_12le, mn_4le, mn_le0, mn_lt0, mn_0le, mn_eq0, mn_1le, mn_lt1, mn_le60, mn_lt12, mn_12lt, mn_le3, true_implies, forall_const, not_true_eq_false, not_false_eq_true, false_implies, and_true, true_and, implies_true, and_self, if_true, if_false]
      refine xH hw (by omega) (fun z => br_f mn_10 ?_) (fun z => br_t rfl ?_)
      · rw [mm_gaT (by omega) z] at H
        exact H
      · rw [mm_gaF (fun y => z y.2)] at H
        exact H
/-! near -/
theorem xd_l {post : Int32 → Prop} {i : Nat} (hm : m ≤ 60) (hp : p ≤ 12) (hi : i + p ≤ m) : ∀ (d s n : Nat), s + d = p → d < n → post (nI (mm_df T P i p)) → wX_differencesAt_4 post (nI i) (nI m) (nI p) T P bd jo pl la ss pp tr tp n (nI (mm_df T P i s)) (nI s) := by
  intro d
  induction d with
  | zero =>
    intro s n h hn hq
    obtain ⟨n, rfl⟩ : ∃ n', n = n' + 1 := ⟨n - 1, by omega⟩
    have e : s = p := by omega
    subst e
    simp (disch := omega) only [wX_differencesAt_4, Nat.le_refl, forall_eq, nI_leI, nI_ltI, nI_eq, vp_in_nI, nI_clamp, nI_1, nI_add, pk_sub, mn_10, mn_60lt, mn_60le, mn_12le, mn_4le, mn_le0, mn_lt0, mn_0le, mn_eq0, mn_1le, mn_lt1, mn_le60, mn_lt12, mn_12lt, mn_le3, true_implies, forall_const, not_true_eq_false, not_false_eq_true, false_implies, and_true, true_and, implies_true, and_self, if_true, if_false]
    exact hq
  | succ d ih =>
    intro s n h hn hq
    obtain ⟨n, rfl⟩ : ∃ n', n = n' + 1 := ⟨n - 1, by omega⟩
    have c : ¬ p ≤ s := by omega
    have H := ih (s + 1) n (by omega) (by omega) hq
    by_cases c3 : T (i + s) = P s
    · rw [mm_dfT c3] at H
      simp (disch := omega) only [wX_differencesAt_4, c, c3, forall_eq, nI_leI, nI_ltI, nI_eq, vp_in_nI, nI_clamp, nI_1, nI_add, pk_sub, mn_10, mn_60lt, mn_60le, mn_12le, mn_4le, mn_le0, mn_lt0, mn_0le, mn_eq0, mn_1le, mn_lt1, mn_le60, mn_lt12, mn_12lt, mn_le3, true_implies, forall_const, not_true_eq_false, not_false_eq_true, false_implies, and_true, true_and, implies_true, and_self, if_true, if_false]
      exact H
    · rw [mm_dfF c3] at H
      simp (disch := omega) only [wX_differencesAt_4, c, c3, forall_eq, nI_leI, nI_ltI, nI_eq, vp_in_nI, nI_clamp, nI_1, nI_add, pk_sub, mn_10, mn_60lt, mn_60le, mn_12le, mn_4le, mn_le0, mn_lt0, mn_0le, mn_eq0, mn_1le, mn_lt1, mn_le60, mn_lt12, mn_12lt, mn_le3, true_implies, forall_const, not_true_eq_false, not_false_eq_true, false_implies, and_true, true_and, implies_true, and_self, if_true, if_false]
      exact H
theorem xD {post : Int32 → Prop} {i : Nat} (hm : m ≤ 60) (hp : p ≤ 12) (hi : i + p ≤ m) (hq : post (nI (mm_df T P i p))) : wpX_differencesAt post ((nI m), (nI p), T, P, bd, jo, pl, la, ss, pp, tr, tp) (nI i) := by
  unfold wpX_differencesAt
  exact ⟨p + 1, xd_l hm hp hi p 0 (p + 1) (by omega) (by omega) hq⟩
theorem mn_dl {a b s : Nat} (ha : a ≤ 60) (hb : b ≤ 60) (hs : s ≤ 100) : nI a - nI b < nI s ↔ a < s + b := by
  rw [Int32.lt_iff_toInt_lt, pk_sub_toInt (by omega) (by omega), nI_toInt (by omega)]
  omega
theorem xn_15 {post : Int32 → Prop} {e : Nat} (hm : m ≤ 60) (hp : p ≤ 12) (he : e ≤ 3) (hq : post (nI (mm_cn (mm_f T P m p e) (m + 1 - p)))) : ∀ (d s n : Nat), s + d = m + 1 - p → d < n → wX_near_15 post (nI e) (nI m) (nI p) T P bd jo pl la ss pp tr tp n (nI (mm_cn (mm_f T P m p e) s)) (nI s) := by
  intro d
  induction d with
  | zero =>
    intro s n h hn
    obtain ⟨n, rfl⟩ : ∃ n', n = n' + 1 := ⟨n - 1, by omega⟩
    have e : s = m + 1 - p := by omega
    subst e
    exact br_t ((mn_dl hm (by omega) (by omega)).mpr (by omega)) hq
  | succ d ih =>
    intro s n h hn
    obtain ⟨n, rfl⟩ : ∃ n', n = n' + 1 := ⟨n - 1, by omega⟩
    have c : ¬ nI m - nI p < nI s := by
      rw [mn_dl hm (by omega) (by omega)]
      omega
    have H := ih (s + 1) n (by omega) (by omega)
    have B := mm_dfL T P s p
    have E := mm_wrT (T := T) (P := P) (m := m) (p := p) (i := s) (by omega)
    refine br_f c (xD hm hp (by omega) ?_)
    by_cases c3 : e < mm_df T P s p
    · rw [mm_cnF (by rw [mm_fT]; omega)] at H
      exact br_t (nI_lt c3 (by omega)) (nm_r (nI_1 s) H)
    · rw [mm_cnT (by rw [mm_fT]; omega)] at H
      exact br_f (nI_nlt (by omega) (by omega)) (nm_r (nI_1 _) (nm_r (nI_1 s) H))
theorem xn_eq {e : Nat} (hp : p ≤ 12) (he : e ≤ 3) : mm_cn (mm_f T P m p e) (m + 1) = mm_cn (mm_f T P m p e) (m + 1 - p) := by
  have F : ∀ i, m + 1 - p ≤ i → ¬ mm_f T P m p e i = true := by
    intro i hi
    rw [mm_fB he (by omega)]
    decide
  by_cases c : p ≤ m + 1
  · have K := mm_cnK F p
    rw [show m + 1 - p + p = m + 1 from by omega] at K
    exact K
  · have K := mm_cnK F (m + 1)
    rw [show m + 1 - p + (m + 1) = m + 1 from by omega] at K
    exact K
theorem xn_61 (hm : m ≤ 60) : mm_cn (mm_f T P m p 0) 61 = mm_cn (mm_f T P m p 0) (m + 1) := by
  have K := mm_cnK (f := mm_f T P m p 0) (a := m + 1) (fun i hi => xF (by omega)) (60 - m)
  rw [show m + 1 + (60 - m) = 61 from by omega] at K
  exact K
theorem xg_61 {D : Nat} (hm : m ≤ 60) : mm_ga (mm_f T P m p 0) D 61 = mm_ga (mm_f T P m p 0) D (m + 1) := by
  have K := mm_gaK (f := mm_f T P m p 0) (e := D) (a := m + 1) (fun i hi => xF (by omega)) (60 - m)
  rw [show m + 1 + (60 - m) = 61 from by omega] at K
  exact K
end
end
section
/-! the calls that ask -/
theorem i_vc_count {k : Nat} {u : SX} {v : SY} (I : i_Rel k u v) (hk : k + 3 ≤ 1536) (v1 : Int32) : wpX_count (fun r u' => wpY_count (fun r' => r' = r ∧ i_Rel (k + 3) u' v) v v1) u v1 := by
  obtain ⟨m, p, T, P, bd, jo, pl, la, ss, pp, tr, tp, rfl, rfl, hm, hp, hT, hP⟩ := I
  unfold wpX_count
  dsimp only
  rcases mn_lc v1 10 (by omega) with hb | ⟨g, hg, rfl⟩
  · refine xe_f hb (br_t rfl ?_)
    unfold wpY_count
    dsimp only
    exact ye_f hb (br_t rfl ⟨rfl, mn_R hm hp hT hP⟩)
  · refine xe_t hg (br_f mn_10 (xP hm hp hT hP hg (fun w bd jo pl la ss pp tr tp hw => ?_)))
    refine ⟨62, xc_l hw ?_ 61 0 62 (by omega) (by omega)⟩
    rw [xn_61 hm]
    exact yy_count hm hp hg ⟨rfl, mn_R hm hp hT hP⟩
theorem i_vc_next {k : Nat} {u : SX} {v : SY} (I : i_Rel k u v) (hk : k + 3 ≤ 1536) (v1 : Int32) (v2 : Int32) : wpX_next (fun r u' => wpY_next (fun r' => r' = r ∧ i_Rel (k + 3) u' v) v v1 v2) u v1 v2 := by
  obtain ⟨m, p, T, P, bd, jo, pl, la, ss, pp, tr, tp, rfl, rfl, hm, hp, hT, hP⟩ := I
  unfold wpX_next
  dsimp only
  rcases mn_lc v1 10 (by omega) with hb | ⟨g, hg, rfl⟩
  · exact xe_f hb (br_t rfl (yy_nextF hm hb ⟨rfl, mn_R hm hp hT hP⟩))
  · refine xe_t hg (br_f mn_10 (xP hm hp hT hP hg (fun w bd jo pl la ss pp tr tp hw => ?_)))
    dsimp only
    by_cases c : v2 < 0
    · refine br_f (mn_nge (a := 0) c (by omega)) ⟨62, xn_l (a := 0) hm hw (fun r hr => ?_) 61 0 62 (by omega) (by omega) (by omega) (fun j h1 h2 => by omega)⟩
      exact yy_next (a := 0) hm hp hg (fun s hs => ⟨fun z => absurd z (mn_nlt c (by omega)), fun z => by omega⟩) (fun r2 hr2 => ⟨mm_nxU hr hr2, mn_R hm hp hT hP⟩)
    · obtain ⟨a, ha, rfl⟩ := nI_of c
      have hY : ∀ s, s ≤ 60 → (nI s < nI a ↔ s < a) := fun s hs => nI_ltI (by omega) ha
      refine br_t (nI_pos' ha) ?_
      by_cases c6 : a ≤ 61
      · refine ⟨62, xn_l (a := a) hm hw (fun r hr => ?_) (61 - a) a 62 (by omega) (by omega) (by omega) (fun j h1 h2 => by omega)⟩
        exact yy_next (a := a) hm hp hg hY (fun r2 hr2 => ⟨mm_nxU hr hr2, mn_R hm hp hT hP⟩)
      · refine ⟨1, br_t ((mn_60lt ha).mpr (by omega)) ?_⟩
        exact yy_next (a := a) hm hp hg hY (fun r2 hr2 => ⟨mm_nxU (Or.inr ⟨rfl, fun j h1 => xF (by omega)⟩) hr2, mn_R hm hp hT hP⟩)
theorem i_vc_last {k : Nat} {u : SX} {v : SY} (I : i_Rel k u v) (hk : k + 3 ≤ 1536) (v1 : Int32) (v2 : Int32) : wpX_last (fun r u' => wpY_last (fun r' => r' = r ∧ i_Rel (k + 3) u' v) v v1 v2) u v1 v2 := by
  obtain ⟨m, p, T, P, bd, jo, pl, la, ss, pp, tr, tp, rfl, rfl, hm, hp, hT, hP⟩ := I
  unfold wpX_last
  dsimp only
  rcases mn_lc v1 10 (by omega) with hb | ⟨g, hg, rfl⟩
  · exact xe_f hb (br_t rfl (yy_lastF hm hb ⟨rfl, mn_R hm hp hT hP⟩))
  · refine xe_t hg (br_f mn_10 (xP hm hp hT hP hg (fun w bd jo pl la ss pp tr tp hw => ?_)))
    dsimp only
    by_cases c : v2 < 0
    · refine br_t (mn_le (a := 60) c (by omega)) ⟨1, br_t c ?_⟩
      exact yy_last (a := 0) hm hp hg (fun s hs => ⟨fun _ => by omega, fun _ => mn_neg c (by omega)⟩) (fun r2 hr2 => ⟨mm_lsU (Or.inr ⟨rfl, fun j h1 => by omega⟩) hr2, mn_R hm hp hT hP⟩)
    · obtain ⟨t, ht, rfl⟩ := nI_of c
      have hY : ∀ s, s ≤ 60 → (nI t < nI s ↔ t + 1 ≤ s) := fun s hs => nI_ltI ht (by omega)
      by_cases c6 : t ≤ 60
      · refine br_t ((mn_le60 ht).mpr c6) ?_
        have H := xl_l (post := fun r u' => wpY_last (fun r' => r' = r ∧ i_Rel (k + 3) u' ((nI m), (nI p), T, P)) ((nI m), (nI p), T, P) (nI g) (nI t)) (bd := bd) (jo := jo) (pl := pl) (la := la) (ss := ss) (pp := pp) (tr := tr) (tp := tp) (a := t + 1) hm hw (fun r hr => yy_last (a := t + 1) hm hp hg hY (fun r2 hr2 => ⟨mm_lsU hr hr2, mn_R hm hp hT hP⟩)) (t + 1) 62 (by omega) (by omega) (by omega) (fun j h1 h2 => by omega)
        rw [pk_m1] at H
        exact ⟨62, H⟩
      · refine br_f (by rw [mn_le60 ht]; exact c6) ?_
        have H := xl_l (post := fun r u' => wpY_last (fun r' => r' = r ∧ i_Rel (k + 3) u' ((nI m), (nI p), T, P)) ((nI m), (nI p), T, P) (nI g) (nI t)) (bd := bd) (jo := jo) (pl := pl) (la := la) (ss := ss) (pp := pp) (tr := tr) (tp := tp) (a := t + 1) hm hw (fun r hr => yy_last (a := t + 1) hm hp hg hY (fun r2 hr2 => ⟨mm_lsU hr hr2, mn_R hm hp hT hP⟩)) 61 62 (by omega) (by omega) (by omega) (fun j h1 h2 => xF (by omega))
        rw [pk_m1] at H
        exact ⟨62, H⟩
theorem i_vc_kth {k : Nat} {u : SX} {v : SY} (I : i_Rel k u v) (hk : k + 3 ≤ 1536) (v1 : Int32) (v2 : Int32) : wpX_kth (fun r u' => wpY_kth (fun r' => r' = r ∧ i_Rel (k + 3) u' v) v v1 v2) u v1 v2 := by
  obtain ⟨m, p, T, P, bd, jo, pl, la, ss, pp, tr, tp, rfl, rfl, hm, hp, hT, hP⟩ := I
  unfold wpX_kth
  dsimp only
  rcases mn_lc v1 10 (by omega) with hb | ⟨g, hg, rfl⟩
  · exact xe_f hb (br_t rfl (yy_kthF hm hb ⟨rfl, mn_R hm hp hT hP⟩))
  · refine xe_t hg (br_f mn_10 (xP hm hp hT hP hg (fun w bd jo pl la ss pp tr tp hw => ?_)))
    refine ⟨62, xk_l2 hm hw (fun r hr => ?_) 61 0 62 (by omega) (by omega) (fun j h1 h2 => by omega)⟩
    exact yy_kth hm hp hg (fun r2 hr2 => ⟨mm_ktU hr hr2, mn_R hm hp hT hP⟩)
theorem i_vc_apart {k : Nat} {u : SX} {v : SY} (I : i_Rel k u v) (hk : k + 3 ≤ 1536) (v1 : Int32) : wpX_apart (fun r u' => wpY_apart (fun r' => r' = r ∧ i_Rel (k + 3) u' v) v v1) u v1 := by
  obtain ⟨m, p, T, P, bd, jo, pl, la, ss, pp, tr, tp, rfl, rfl, hm, hp, hT, hP⟩ := I
  unfold wpX_apart
  dsimp only
  rcases mn_lc v1 10 (by omega) with hb | ⟨g, hg, rfl⟩
  · refine xe_f hb (br_t rfl ?_)
    by_cases c : 1 ≤ p
    · exact yy_apart (D := p) hm hp (Or.inl rfl) (ye_f hb (br_t rfl ⟨rfl, mn_R hm hp hT hP⟩))
    · exact yy_apart (D := 1) hm hp (Or.inr ⟨by omega, rfl⟩) (ye_f hb (br_t rfl ⟨rfl, mn_R hm hp hT hP⟩))
  · refine xe_t hg (br_f mn_10 (xP hm hp hT hP hg (fun w bd jo pl la ss pp tr tp hw => ?_)))
    dsimp only
    by_cases c : 1 ≤ p
    · refine br_t ((mn_1le (by omega)).mpr c) ⟨62, xa_l2 (D := p) hp hw ?_ 61 0 62 (by omega) (by omega)⟩
      rw [xg_61 hm]
      exact yy_apart (D := p) hm hp (Or.inl rfl) (ye_t hg (br_f mn_10 ⟨rfl, mn_R hm hp hT hP⟩))
    · refine br_f (by rw [mn_1le (by omega)]; exact c) ⟨62, xa_l2 (D := 1) (by omega) hw ?_ 61 0 62 (by omega) (by omega)⟩
      rw [xg_61 hm]
      exact yy_apart (D := 1) hm hp (Or.inr ⟨by omega, rfl⟩) (ye_t hg (br_f mn_10 ⟨rfl, mn_R hm hp hT hP⟩))
theorem i_vc_agree {k : Nat} {u : SX} {v : SY} (I : i_Rel k u v) (hk : k + 3 ≤ 1536) (v1 : Int32) (v2 : Int32) : wpX_agree (fun r u' => wpY_agree (fun r' => r' = r ∧ i_Rel (k + 3) u' v) v v1 v2) u v1 v2 := by
  obtain ⟨m, p, T, P, bd, jo, pl, la, ss, pp, tr, tp, rfl, rfl, hm, hp, hT, hP⟩ := I
  unfold wpX_agree wpY_agree
  dsimp only
  rcases mn_lc v1 10 (by omega) with hb | ⟨g, hg, rfl⟩
  · exact xe_f hb (br_t rfl (ye_f hb (br_t rfl ⟨rfl, mn_R hm hp hT hP⟩)))
  · refine xe_t hg (br_f mn_10 ?_)
    rcases mn_lc v2 10 (by omega) with hb | ⟨g2, hg2, rfl⟩
    · exact xe_f hb (br_t rfl (ye_t hg (br_f mn_10 (ye_f hb (br_t rfl ⟨rfl, mn_R hm hp hT hP⟩)))))
    · refine xe_t hg2 (br_f mn_10 (xP hm hp hT hP hg (fun w bd jo pl la ss pp tr tp hw => ?_)))
      dsimp only
      refine xP hm hp hT hP hg2 (fun w2 bd jo pl la ss pp tr tp hw2 => ?_)
      exact br_t (mm_plU hw hw2) (ye_t hg (br_f mn_10 (ye_t hg2 (br_f mn_10 ⟨rfl, mn_R hm hp hT hP⟩))))
theorem i_vc_border {k : Nat} {u : SX} {v : SY} (I : i_Rel k u v) (hk : k + 3 ≤ 1536) : wpX_border (fun r u' => wpY_border (fun r' => r' = r ∧ i_Rel (k + 3) u' v) v) u := by
  obtain ⟨m, p, T, P, bd, jo, pl, la, ss, pp, tr, tp, rfl, rfl, hm, hp, hT, hP⟩ := I
  unfold wpX_border
  dsimp only
  by_cases c : 1 ≤ p
  · refine br_t ((mn_1le (by omega)).mpr c) (xb hp c (fun b hb => ?_))
    dsimp only
    obtain ⟨q, e1, g⟩ := hb (p - 1) (by omega)
    rw [show p - 1 + 1 = p from by omega] at g
    rw [mn_s1 c, nI_clamp (by omega), e1]
    exact ⟨vp_in_nI (by omega) (by omega), yy_border hp c (fun r hr => ⟨congrArg nI (mm_grU hr g), mn_R hm hp hT hP⟩)⟩
  · have e : p = 0 := by omega
    subst e
    exact br_f (by decide) (yy_border0 ⟨rfl, mn_R hm hp hT hP⟩)
theorem i_vc_near {k : Nat} {u : SX} {v : SY} (I : i_Rel k u v) (hk : k + 3 ≤ 1536) (v1 : Int32) : wpX_near (fun r => wpY_near (fun r' => r' = r ∧ i_Rel (k + 3) u v) v v1) u v1 := by
  obtain ⟨m, p, T, P, bd, jo, pl, la, ss, pp, tr, tp, rfl, rfl, hm, hp, hT, hP⟩ := I
  unfold wpX_near
  dsimp only
  by_cases c : v1 < 0
  · refine br_t c ?_
    unfold wpY_near
    exact br_t c ⟨rfl, mn_R hm hp hT hP⟩
  · refine br_f c ?_
    by_cases c2 : v1 ≤ 3
    · obtain ⟨e, he, rfl⟩ := nI_of c
      have he3 : e ≤ 3 := (mn_le3 he).mp c2
      refine br_t c2 ⟨m + 2, xn_15 hm hp he3 ?_ (m + 1 - p) 0 (m + 2) (by omega) (by omega)⟩
      rw [← xn_eq hp he3]
      exact yy_near hm hp he3 ⟨rfl, mn_R hm hp hT hP⟩
    · refine br_f c2 ?_
      unfold wpY_near
      exact br_f c (br_f c2 ⟨rfl, mn_R hm hp hT hP⟩)
end
