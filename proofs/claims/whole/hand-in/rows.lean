section
/-! rows of the kit, pasted -/
theorem pk_us {f : Nat → Int32} {k : Nat} {x : Int32} : upd f k x k = x := if_pos rfl
theorem pk_un {f : Nat → Int32} {k j : Nat} {x : Int32} (h : j ≠ k) : upd f k x j = f j := if_neg h
theorem pk_sub {a b : Nat} (h : b ≤ a) : nI a - nI b = nI (a - b) := by
  obtain ⟨c, rfl⟩ : ∃ c, a = c + b := ⟨a - b, by omega⟩
  rw [← nI_add, Int32.add_sub_cancel, Nat.add_sub_cancel]
theorem pk_m1 (n : Nat) : nI (n + 1) + (-1) = nI n := by
  rw [← nI_1, Int32.add_assoc, show (1 : Int32) + (-1) = 0 from rfl, Int32.add_zero]
theorem pk_mul (a b : Nat) : nI a * nI b = nI (a * b) := (Int32.ofNat_mul a b).symm
theorem pk_div {a d : Nat} (ha : a < 2 ^ 31) (h0 : 0 < d) (hd : d < 2 ^ 31) : nI a / nI d = nI (a / d) := by
  apply Int32.toInt_inj.mp
  rw [lg_idiv_nonneg (by rw [nI_toInt ha]; omega) (by rw [nI_toInt hd]; omega), nI_toInt ha, nI_toInt hd, nI_toInt (Nat.lt_of_le_of_lt (Nat.div_le_self a d) ha)]
  first | rfl | exact (Int.natCast_ediv _ _).symm
theorem pk_rem {a d : Nat} (ha : a < 2 ^ 31) (h0 : 0 < d) (hd : d < 2 ^ 31) : nI a - nI a / nI d * nI d = nI (a % d) := by
  rw [pk_div ha h0 hd, pk_mul, pk_sub (Nat.div_mul_le_self a d)]
  exact congrArg nI (by have := Nat.div_add_mod' a d; omega)
theorem pk_ix (x : Int32) {n : Nat} (hn : n < 2 ^ 31) : x < 0 ∨ nI n ≤ x ∨ ∃ j : Nat, j < n ∧ x = nI j := by
  by_cases h : x < 0
  · exact Or.inl h
  · obtain ⟨j, hj, rfl⟩ := nI_of h
    by_cases h2 : j < n
    · exact Or.inr (Or.inr ⟨j, h2, rfl⟩)
    · exact Or.inr (Or.inl (nI_le (by omega) hj))
theorem pk_le {x y : Int32} {A B : Prop} (a b : Nat) (f : a ≤ b → A) (g : b < a → B) (hx : x = nI a := by rfl) (hy : y = nI b := by rfl) (ha : a < 2 ^ 31 := by omega) (hb : b < 2 ^ 31 := by omega) : (x ≤ y → A) ∧ (¬ x ≤ y → B) := by
  subst hx hy
  rw [nI_leI ha hb]
  exact ⟨f, fun z => g (by omega)⟩
theorem pk_lt {x y : Int32} {A B : Prop} (a b : Nat) (f : a < b → A) (g : b ≤ a → B) (hx : x = nI a := by rfl) (hy : y = nI b := by rfl) (ha : a < 2 ^ 31 := by omega) (hb : b < 2 ^ 31 := by omega) : (x < y → A) ∧ (¬ x < y → B) := by
  subst hx hy
  rw [nI_ltI ha hb]
  exact ⟨f, fun z => g (by omega)⟩
theorem pk_eq {x y : Int32} {A B : Prop} (a b : Nat) (f : a = b → A) (g : a ≠ b → B) (hx : x = nI a := by rfl) (hy : y = nI b := by rfl) (ha : a < 2 ^ 31 := by omega) (hb : b < 2 ^ 31 := by omega) : (x = y → A) ∧ (¬ x = y → B) := by
  subst hx hy
  rw [nI_eq ha hb]
  exact ⟨f, g⟩
theorem pk_in {x : Int32} (n N : Nat) (h : n < N) (hx : x = nI n := by rfl) (hN : N < 2 ^ 31 := by omega) : vp_in x N := by
  subst hx
  exact vp_in_nI h hN
theorem pk_cl {x : Int32} (n : Nat) (hx : x = nI n := by rfl) (h : n < 2 ^ 31 := by omega) : x.toNatClampNeg = n := by
  subst hx
  exact nI_clamp h
theorem pk_tn {n : Nat} (h : n < 2 ^ 32) : (nI n).toBitVec.toNat = n := Nat.mod_eq_of_lt h
theorem pk_and (x : Int32) {m : Int32} (k : Nat) (hm : m.toBitVec.toNat = 2 ^ k - 1) : x &&& m = nI (x.toBitVec.toNat % 2 ^ k) := by
  apply Int32.toBitVec_inj.mp
  apply BitVec.eq_of_toNat_eq
  rw [Int32.toBitVec_and, BitVec.toNat_and, hm, Nat.and_two_pow_sub_one_eq_mod]
  show _ = (BitVec.ofNat 32 _).toNat
  rw [BitVec.toNat_ofNat]
  exact (Nat.mod_eq_of_lt (Nat.lt_of_le_of_lt (Nat.mod_le _ _) x.toBitVec.isLt)).symm
theorem pk_andN {n : Nat} (h : n < 2 ^ 32) {m : Int32} (k : Nat) (hm : m.toBitVec.toNat = 2 ^ k - 1) : nI n &&& m = nI (n % 2 ^ k) := by
  rw [pk_and _ k hm, pk_tn h]
theorem pk_shl (a s : Int32) (k : Nat) (hs : (s.toBitVec.smod 32).toNat = k) : (a <<< s).toBitVec.toNat = a.toBitVec.toNat * 2 ^ k % 2 ^ 32 := by
  show (a.toBitVec <<< (s.toBitVec.smod 32).toNat).toNat = _
  rw [hs, BitVec.toNat_shiftLeft, Nat.shiftLeft_eq]
theorem pk_shlN {n : Nat} (s : Int32) (k : Nat) (hs : (s.toBitVec.smod 32).toNat = k) (h : n * 2 ^ k < 2 ^ 32) : nI n <<< s = nI (n * 2 ^ k) := by
  apply Int32.toBitVec_inj.mp
  apply BitVec.eq_of_toNat_eq
  have hn : n < 2 ^ 32 := Nat.lt_of_le_of_lt (Nat.le_mul_of_pos_right n (Nat.two_pow_pos k)) h
  rw [pk_shl _ _ k hs, pk_tn hn, pk_tn h, Nat.mod_eq_of_lt h]
theorem pk_shr (a s : Int32) (k : Nat) (hs : (s.toBitVec.smod 32).toNat = k) : (a >>> s).toInt = a.toInt >>> k := by
  show (a.toBitVec.sshiftRight (s.toBitVec.smod 32).toNat).toInt = _
  rw [hs, BitVec.toInt_sshiftRight]
  rfl
theorem pk_shrN {n : Nat} (h : n < 2 ^ 31) (s : Int32) (k : Nat) (hs : (s.toBitVec.smod 32).toNat = k) : nI n >>> s = nI (n / 2 ^ k) := by
  apply Int32.toInt_inj.mp
  have h2 : n / 2 ^ k ≤ n := Nat.div_le_self _ _
  rw [pk_shr _ _ k hs, nI_toInt h, nI_toInt (by omega), Int.shiftRight_eq_div_pow]
  rfl
theorem pk_ushr (x s : Int32) (k : Nat) (hs : ((s.toUInt32 &&& Int32.toUInt32 31).toBitVec % 32).toNat = k) : (x.toUInt32 >>> (s.toUInt32 &&& Int32.toUInt32 31)).toInt32.toBitVec.toNat = x.toBitVec.toNat / 2 ^ k := by
  have e : (x.toUInt32 >>> (s.toUInt32 &&& Int32.toUInt32 31)).toInt32.toBitVec = x.toBitVec >>> k := by
    rw [← hs]
    exact UInt32.toBitVec_shiftRight _ _
  rw [e, BitVec.toNat_ushiftRight, Nat.shiftRight_eq_div_pow]
theorem pk_ushrN {n : Nat} (hn : n < 2 ^ 32) (s : Int32) (k : Nat) (hs : ((s.toUInt32 &&& Int32.toUInt32 31).toBitVec % 32).toNat = k) : ((nI n).toUInt32 >>> (s.toUInt32 &&& Int32.toUInt32 31)).toInt32 = nI (n / 2 ^ k) := by
  apply Int32.toBitVec_inj.mp
  apply BitVec.eq_of_toNat_eq
  rw [pk_ushr _ s k hs, pk_tn hn, pk_tn (Nat.lt_of_le_of_lt (Nat.div_le_self _ _) hn)]
theorem s_l : ∀ n, n < 32 → ((nI n &&& 31).toBitVec.smod 32).toNat = n := by decide +kernel
theorem s_u : ∀ n, n < 32 → (((nI n).toUInt32 &&& Int32.toUInt32 31).toBitVec % 32).toNat = n := by decide +kernel
theorem nx_xor (a b : Nat) : nI a ^^^ nI b = nI (a ^^^ b) := by
  apply Int32.toBitVec_inj.1
  show BitVec.ofNat 32 a ^^^ BitVec.ofNat 32 b = BitVec.ofNat 32 (a ^^^ b)
  apply BitVec.eq_of_getLsbD_eq
  intro i hi
  simp [hi]
theorem wb_of32 (x : Int32) : ∃ n, n < 2 ^ 32 ∧ x = nI n := ⟨x.toBitVec.toNat, x.toBitVec.isLt, Int32.toBitVec_inj.mp (by show _ = BitVec.ofNat 32 _; simp)⟩
theorem cb_or (a b : Nat) : nI a ||| nI b = nI (a ||| b) := by
  apply Int32.toBitVec_inj.mp
  rw [Int32.toBitVec_or]
  show BitVec.ofNat 32 a ||| BitVec.ofNat 32 b = BitVec.ofNat 32 (a ||| b)
  apply BitVec.eq_of_getLsbD_eq
  intro i hi
  simp [BitVec.getLsbD_ofNat, hi]
theorem cb_bit {s e : Nat} (hs : s < 2 ^ 31) (he : e < 32) : (nI s >>> (nI e &&& 31)) &&& 1 = nI (if s.testBit e then 1 else 0) := by
  rw [pk_shrN hs _ e (s_l e he), pk_andN (Nat.lt_of_le_of_lt (Nat.div_le_self _ _) (by omega)) 1 (by decide)]
  rw [Nat.testBit_eq_decide_div_mod_eq]
  congr 1
  have := Nat.mod_two_eq_zero_or_one (s / 2 ^ e)
  rcases this with h | h <;> simp [h]
theorem cb_bit0 {s e : Nat} (hs : s < 2 ^ 31) (he : e < 32) : ((nI s >>> (nI e &&& 31)) &&& 1) = 0 ↔ s.testBit e = false := by
  rw [cb_bit hs he, ← nI_0, nI_eq (by split <;> omega) (by omega)]
  cases s.testBit e <;> simp
theorem cb_bit1 {s e : Nat} (hs : s < 2 ^ 31) (he : e < 32) : ((nI s >>> (nI e &&& 31)) &&& 1) = 1 ↔ s.testBit e = true := by
  rw [cb_bit hs he, show (1 : Int32) = nI 1 from rfl, nI_eq (by split <;> omega) (by omega)]
  cases s.testBit e <;> simp
theorem cb_pow {c : Nat} (h : c ≤ 12) : 2 ^ c ≤ 4096 := Nat.pow_le_pow_right (by decide) h
theorem cb_shl {e : Nat} (he : e < 31) : (1 : Int32) <<< (nI e &&& 31) = nI (2 ^ e) := by
  have h : 2 ^ e < 2 ^ 32 := Nat.pow_lt_pow_right (by decide) (by omega)
  have := pk_shlN (n := 1) (nI e &&& 31) e (s_l e (by omega)) (by omega)
  rw [Nat.one_mul] at this
  exact this
theorem cb_ush {c : Nat} (hc : c ≤ 12) (x : Int32) : ((x.toUInt32 >>> ((nI c).toUInt32 &&& Int32.toUInt32 31)).toInt32) = 0 ↔ ∃ s, s < 2 ^ c ∧ x = nI s := by
  obtain ⟨n, hn, rfl⟩ := wb_of32 x
  rw [pk_ushrN hn _ c (s_u c (by omega)), ← nI_0]
  have hp := cb_pow hc
  have h0 : 0 < 2 ^ c := Nat.two_pow_pos c
  have hd : n / 2 ^ c ≤ n := Nat.div_le_self _ _
  constructor
  · intro h
    have h2 := congrArg (fun z : Int32 => z.toBitVec.toNat) h
    simp only [pk_tn (Nat.lt_of_le_of_lt hd hn), pk_tn (show 0 < 2 ^ 32 by omega)] at h2
    refine ⟨n, ?_, rfl⟩
    rcases Nat.lt_or_ge n (2 ^ c) with g | g
    · exact g
    · have := Nat.div_pos g h0
      omega
  · rintro ⟨s, hs, e⟩
    have h2 := congrArg (fun z : Int32 => z.toBitVec.toNat) e
    simp only [pk_tn hn, pk_tn (show s < 2 ^ 32 by omega)] at h2
    subst h2
    rw [Nat.div_eq_of_lt hs]
end
section
/-! the pure picture: sets of edges as naturals, closed sets, weights, the greedy span -/
def cb_od (en : Nat → Nat) (s : Nat) : Nat → Nat
  | 0 => 0
  | e + 1 => if s.testBit e then cb_od en s e ^^^ en e else cb_od en s e
def cb_w (wt : Nat → Nat) (s : Nat) : Nat → Nat
  | 0 => 0
  | e + 1 => if s.testBit e then cb_w wt s e + wt e else cb_w wt s e
def cb_C (en : Nat → Nat) (c x : Nat) : Bool := decide (x < 2 ^ c) && decide (cb_od en x c = 0)
theorem cb_od_t {en : Nat → Nat} {s e : Nat} (h : s.testBit e = true) : cb_od en s (e + 1) = cb_od en s e ^^^ en e := if_pos h
theorem cb_od_f {en : Nat → Nat} {s e : Nat} (h : s.testBit e = false) : cb_od en s (e + 1) = cb_od en s e := if_neg (by rw [h]; decide)
theorem cb_w_t {wt : Nat → Nat} {s e : Nat} (h : s.testBit e = true) : cb_w wt s (e + 1) = cb_w wt s e + wt e := if_pos h
theorem cb_w_f {wt : Nat → Nat} {s e : Nat} (h : s.testBit e = false) : cb_w wt s (e + 1) = cb_w wt s e := if_neg (by rw [h]; decide)
theorem cb_xx (a b : Nat) : (a ^^^ b) ^^^ b = a := by
  apply Nat.eq_of_testBit_eq; intro i
  simp only [Nat.testBit_xor]
  cases a.testBit i <;> cases b.testBit i <;> rfl
theorem cb_x4 (a b g : Nat) : (a ^^^ g) ^^^ (b ^^^ g) = a ^^^ b := by
  apply Nat.eq_of_testBit_eq; intro i
  simp only [Nat.testBit_xor]
  cases a.testBit i <;> cases b.testBit i <;> cases g.testBit i <;> rfl
theorem cb_xl (a b g : Nat) : (a ^^^ g) ^^^ b = (a ^^^ b) ^^^ g := by
  apply Nat.eq_of_testBit_eq; intro i
  simp only [Nat.testBit_xor]
  cases a.testBit i <;> cases b.testBit i <;> cases g.testBit i <;> rfl
theorem cb_xr (a b g : Nat) : a ^^^ (b ^^^ g) = (a ^^^ b) ^^^ g := by
  apply Nat.eq_of_testBit_eq; intro i
  simp only [Nat.testBit_xor]
  cases a.testBit i <;> cases b.testBit i <;> cases g.testBit i <;> rfl
theorem cb_x0 (a : Nat) : a ^^^ 0 = a := by
  apply Nat.eq_of_testBit_eq; intro i
  simp only [Nat.testBit_xor, Nat.zero_testBit]
  cases a.testBit i <;> rfl
theorem cb_xs (a : Nat) : a ^^^ a = 0 := by
  apply Nat.eq_of_testBit_eq; intro i
  simp only [Nat.testBit_xor, Nat.zero_testBit]
  cases a.testBit i <;> rfl
theorem cb_xe {a b : Nat} : a ^^^ b = 0 ↔ a = b := by
  constructor
  · intro h
    have := cb_xx a b
    rw [h] at this
    rw [← this]
    apply Nat.eq_of_testBit_eq; intro i
    simp only [Nat.testBit_xor, Nat.zero_testBit]
    cases b.testBit i <;> rfl
  · rintro rfl; exact cb_xs a
theorem cb_od_xor (en : Nat → Nat) (s t : Nat) : ∀ c, cb_od en (s ^^^ t) c = cb_od en s c ^^^ cb_od en t c := by
  intro c
  induction c with
  | zero => simp [cb_od]
  | succ c ih =>
    have hx : (s ^^^ t).testBit c = (s.testBit c ^^ t.testBit c) := Nat.testBit_xor ..
    cases h1 : s.testBit c <;> cases h2 : t.testBit c <;> rw [h1, h2] at hx
    · rw [cb_od_f hx, cb_od_f h1, cb_od_f h2, ih]
    · rw [cb_od_t hx, cb_od_f h1, cb_od_t h2, ih]; exact (cb_xr _ _ _).symm
    · rw [cb_od_t hx, cb_od_t h1, cb_od_f h2, ih]; exact (cb_xl _ _ _).symm
    · rw [cb_od_f hx, cb_od_t h1, cb_od_t h2, ih]; exact (cb_x4 _ _ _).symm
theorem cb_od_0 (en : Nat → Nat) : ∀ c, cb_od en 0 c = 0 := by
  intro c
  induction c with
  | zero => rfl
  | succ c ih => simp [cb_od, ih]
theorem cb_C_0 (en : Nat → Nat) (c : Nat) : cb_C en c 0 = true := by
  simp [cb_C, cb_od_0, Nat.two_pow_pos]
theorem cb_C_lt {en : Nat → Nat} {c x : Nat} (h : cb_C en c x = true) : x < 2 ^ c := by
  simp [cb_C] at h; exact h.1
theorem cb_C_xor {en : Nat → Nat} {c x y : Nat} (h : cb_C en c x = true) (g : cb_C en c y = true) : cb_C en c (x ^^^ y) = true := by
  simp [cb_C] at *
  exact ⟨Nat.xor_lt_two_pow h.1 g.1, by rw [cb_od_xor, h.2, g.2]; rfl⟩
theorem cb_od_lt {en : Nat → Nat} {s : Nat} : ∀ c, (∀ e, e < c → en e < 128) → cb_od en s c < 128 := by
  intro c
  induction c with
  | zero => intro _; exact (by decide : 0 < 128)
  | succ c ih =>
    intro h
    have i := ih (fun e he => h e (by omega))
    simp only [cb_od]
    split
    · exact Nat.xor_lt_two_pow (n := 7) i (h c (by omega))
    · exact i
theorem cb_w_le {wt : Nat → Nat} {s : Nat} : ∀ c, (∀ e, e < c → wt e ≤ 100) → cb_w wt s c ≤ 100 * c := by
  intro c
  induction c with
  | zero => intro _; exact Nat.le_refl _
  | succ c ih =>
    intro h
    have i := ih (fun e he => h e (by omega))
    have := h c (by omega)
    simp only [cb_w]
    split <;> omega
theorem cb_low {x n : Nat} (h : x < 2 ^ (n + 1)) (b : x.testBit n = false) : x < 2 ^ n := by
  apply Nat.lt_pow_two_of_testBit
  intro i hi
  rcases Nat.lt_or_ge n i with g | g
  · exact Nat.testBit_lt_two_pow (Nat.lt_of_lt_of_le h (Nat.pow_le_pow_right (by decide) g))
  · rw [show i = n from by omega]; exact b
theorem cb_w_pos {wt : Nat → Nat} {s : Nat} : ∀ c, (∀ e, e < c → 1 ≤ wt e) → s < 2 ^ c → s ≠ 0 → 0 < cb_w wt s c := by
  intro c
  induction c with
  | zero => intro _ h g; exact absurd h (by simp; omega)
  | succ c ih =>
    intro h hs h0
    have := h c (by omega)
    simp only [cb_w]
    cases b : s.testBit c with
    | true => simp; omega
    | false => simp; exact ih (fun e he => h e (by omega)) (cb_low hs b) h0
/-! degrees -/
def cb_dg (U V : Nat → Nat) (s v : Nat) : Nat → Nat
  | 0 => 0
  | e + 1 => if s.testBit e = true ∧ (U e = v ∨ V e = v) then cb_dg U V s v e + 1 else cb_dg U V s v e
theorem cb_dg_t {U V : Nat → Nat} {s v e : Nat} (h : s.testBit e = true) (g : U e = v ∨ V e = v) : cb_dg U V s v (e + 1) = cb_dg U V s v e + 1 := if_pos ⟨h, g⟩
theorem cb_dg_f {U V : Nat → Nat} {s v e : Nat} (h : s.testBit e = false) : cb_dg U V s v (e + 1) = cb_dg U V s v e := if_neg (by rw [h]; exact fun z => absurd z.1 (by decide))
theorem cb_dg_n {U V : Nat → Nat} {s v e : Nat} (h1 : ¬ U e = v) (h2 : ¬ V e = v) : cb_dg U V s v (e + 1) = cb_dg U V s v e := if_neg (fun z => z.2.elim h1 h2)
theorem cb_par (n : Nat) : decide ((n + 1) % 2 = 1) = !decide (n % 2 = 1) := by
  rcases Nat.mod_two_eq_zero_or_one n with h | h
  · have : (n + 1) % 2 = 1 := by omega
    simp [h, this]
  · have : (n + 1) % 2 = 0 := by omega
    simp [h, this]
def cb_en (U V : Nat → Nat) (e : Nat) : Nat := 2 ^ U e ||| 2 ^ V e
theorem cb_od_dg {U V : Nat → Nat} {s v : Nat} : ∀ c, (∀ e, e < c → U e ≠ V e) → (cb_od (cb_en U V) s c).testBit v = decide (cb_dg U V s v c % 2 = 1) := by
  intro c
  induction c with
  | zero => intro _; simp [cb_od, cb_dg]
  | succ c ih =>
    intro h
    have i := ih (fun e he => h e (by omega))
    cases b : s.testBit c with
    | true =>
      rw [cb_od_t b, Nat.testBit_xor, i]
      by_cases h1 : U c = v
      · rw [cb_dg_t b (Or.inl h1), cb_par]
        have : (cb_en U V c).testBit v = true := by
          simp [cb_en, Nat.testBit_or, Nat.testBit_two_pow, h1]
        rw [this]; cases decide (cb_dg U V s v c % 2 = 1) <;> rfl
      · by_cases h2 : V c = v
        · rw [cb_dg_t b (Or.inr h2), cb_par]
          have : (cb_en U V c).testBit v = true := by
            simp [cb_en, Nat.testBit_or, Nat.testBit_two_pow, h2]
          rw [this]; cases decide (cb_dg U V s v c % 2 = 1) <;> rfl
        · rw [cb_dg_n h1 h2]
          have : (cb_en U V c).testBit v = false := by
            simp [cb_en, Nat.testBit_or, Nat.testBit_two_pow, h1, h2]
          rw [this]; cases decide (cb_dg U V s v c % 2 = 1) <;> rfl
    | false => rw [cb_od_f b, cb_dg_f b]; exact i
theorem cb_en_lt {U V : Nat → Nat} {e : Nat} (hu : U e < 7) (hv : V e < 7) : cb_en U V e < 128 := by
  have h1 : 2 ^ U e < 2 ^ 7 := Nat.pow_lt_pow_right (by decide) hu
  have h2 : 2 ^ V e < 2 ^ 7 := Nat.pow_lt_pow_right (by decide) hv
  exact Nat.or_lt_two_pow (n := 7) h1 h2
theorem cb_od_even {U V : Nat → Nat} {s c : Nat} (h : ∀ e, e < c → U e < 7 ∧ V e < 7 ∧ U e ≠ V e) : cb_od (cb_en U V) s c = 0 ↔ ∀ v, v < 7 → cb_dg U V s v c % 2 = 0 := by
  have hb := fun v => cb_od_dg (U := U) (V := V) (s := s) (v := v) c (fun e he => (h e he).2.2)
  constructor
  · intro h0 v _
    have := hb v
    rw [h0, Nat.zero_testBit] at this
    have h2 := Nat.mod_two_eq_zero_or_one (cb_dg U V s v c)
    rcases h2 with g | g
    · exact g
    · rw [g] at this; simp at this
  · intro hv
    apply Nat.eq_of_testBit_eq
    intro i
    rw [Nat.zero_testBit]
    rcases Nat.lt_or_ge i 7 with g | g
    · rw [hb i, hv i g]; rfl
    · have hl := cb_od_lt (en := cb_en U V) (s := s) c (fun e he => cb_en_lt (h e he).1 (h e he).2.1)
      exact Nat.testBit_lt_two_pow (Nat.lt_of_lt_of_le hl (Nat.pow_le_pow_right (n := 2) (by decide) g))
/-! sums and counts -/
def cb_su (f : Nat → Nat) : Nat → Nat
  | 0 => 0
  | n + 1 => cb_su f n + f n
theorem cb_su_c {f g : Nat → Nat} : ∀ n, (∀ x, x < n → f x = g x) → cb_su f n = cb_su g n := by
  intro n
  induction n with
  | zero => intro _; rfl
  | succ n ih => intro h; simp only [cb_su]; rw [ih (fun x hx => h x (by omega)), h n (by omega)]
theorem cb_su_le {f g : Nat → Nat} : ∀ n, (∀ x, x < n → f x ≤ g x) → cb_su f n ≤ cb_su g n := by
  intro n
  induction n with
  | zero => intro _; exact Nat.le_refl _
  | succ n ih => intro h; simp only [cb_su]; exact Nat.add_le_add (ih (fun x hx => h x (by omega))) (h n (by omega))
theorem cb_su_add (f g : Nat → Nat) : ∀ n, cb_su (fun x => f x + g x) n = cb_su f n + cb_su g n := by
  intro n
  induction n with
  | zero => rfl
  | succ n ih => simp only [cb_su, ih]; omega
theorem cb_su_0 : ∀ n, cb_su (fun _ => 0) n = 0 := by
  intro n
  induction n with
  | zero => rfl
  | succ n ih => simp only [cb_su, ih]
theorem cb_su_1 : ∀ n, cb_su (fun _ => 1) n = n := by
  intro n
  induction n with
  | zero => rfl
  | succ n ih => simp only [cb_su, ih]
theorem cb_su_x (f : Nat → Nat → Nat) (m : Nat) : ∀ n, cb_su (fun x => cb_su (fun y => f x y) m) n = cb_su (fun y => cb_su (fun x => f x y) n) m := by
  intro n
  induction n with
  | zero => simp only [cb_su]; rw [cb_su_0]
  | succ n ih => simp only [cb_su, ih]; rw [← cb_su_add]
theorem cb_su_d0 (a v : Nat) : ∀ n, n ≤ a → cb_su (fun y => if y = a then v else 0) n = 0 := by
  intro n
  induction n with
  | zero => intro _; rfl
  | succ n ih => intro h; simp only [cb_su, ih (by omega)]; rw [if_neg (by omega)]
theorem cb_su_d (a v : Nat) : ∀ n, a < n → cb_su (fun y => if y = a then v else 0) n = v := by
  intro n
  induction n with
  | zero => intro h; omega
  | succ n ih =>
    intro h
    simp only [cb_su]
    by_cases g : a < n
    · rw [ih g, if_neg (by omega)]; rfl
    · rw [cb_su_d0 a v n (by omega), if_pos (by omega)]; omega
def cb_ct (P : Nat → Bool) (n : Nat) : Nat := cb_su (fun x => if P x then 1 else 0) n
theorem cb_xlt {a b : Nat} (ha : a < 4096) (hb : b < 4096) : a ^^^ b < 4096 := Nat.xor_lt_two_pow (n := 12) ha hb
theorem cb_ct_x (P : Nat → Bool) {t : Nat} (ht : t < 4096) : cb_ct (fun x => P (x ^^^ t)) 4096 = cb_ct P 4096 := by
  have h1 : cb_ct (fun x => P (x ^^^ t)) 4096 = cb_su (fun y => cb_su (fun x => if x = y ^^^ t then (if P x then 1 else 0) else 0) 4096) 4096 := by
    apply cb_su_c
    intro y hy
    have e : (fun x => if x = y ^^^ t then (if P x then 1 else 0) else 0) = (fun x => if x = y ^^^ t then (if P (y ^^^ t) then 1 else 0) else 0) := by
      funext x
      by_cases h : x = y ^^^ t
      · rw [if_pos h, if_pos h, h]
      · rw [if_neg h, if_neg h]
    rw [e]
    exact (cb_su_d (y ^^^ t) _ 4096 (cb_xlt hy ht)).symm
  rw [h1, cb_su_x]
  apply cb_su_c
  intro x hx
  have e : (fun y => if x = y ^^^ t then (if P x then 1 else 0) else 0) = (fun y => if y = x ^^^ t then (if P x then 1 else 0) else 0) := by
    funext y
    by_cases h : x = y ^^^ t
    · have g : y = x ^^^ t := by rw [h, cb_xx]
      rw [if_pos h, if_pos g]
    · rw [if_neg h, if_neg (by intro g; exact h (by rw [g, cb_xx]))]
  rw [e]
  exact cb_su_d (x ^^^ t) _ 4096 (cb_xlt hx ht)
end
section
/-! the span: remainders over rows in echelon form; the lightest set; the greedy rounds -/
def cb_L (rw_ : Nat → Nat) (b x : Nat) : Nat := if x.testBit b then x ^^^ rw_ b else x
def cb_R (rw_ : Nat → Nat) : Nat → Nat → Nat
  | 0, x => x
  | k + 1, x => cb_R rw_ k (cb_L rw_ k x)
theorem cb_R_s (r : Nat → Nat) (k x : Nat) : cb_R r (k + 1) x = cb_R r k (cb_L r k x) := rfl
theorem cb_L_t {rw_ : Nat → Nat} {b x : Nat} (h : x.testBit b = true) : cb_L rw_ b x = x ^^^ rw_ b := if_pos h
theorem cb_L_f {rw_ : Nat → Nat} {b x : Nat} (h : x.testBit b = false) : cb_L rw_ b x = x := if_neg (by rw [h]; decide)
theorem cb_L_0 {rw_ : Nat → Nat} {b x : Nat} (h : rw_ b = 0) : cb_L rw_ b x = x := by
  unfold cb_L; split
  · rw [h, cb_x0]
  · rfl
theorem cb_L_xor (rw_ : Nat → Nat) (b x y : Nat) : cb_L rw_ b (x ^^^ y) = cb_L rw_ b x ^^^ cb_L rw_ b y := by
  have hx : (x ^^^ y).testBit b = (x.testBit b ^^ y.testBit b) := Nat.testBit_xor ..
  cases h1 : x.testBit b <;> cases h2 : y.testBit b <;> rw [h1, h2] at hx
  · rw [cb_L_f hx, cb_L_f h1, cb_L_f h2]
  · rw [cb_L_t hx, cb_L_f h1, cb_L_t h2]; exact (cb_xr _ _ _).symm
  · rw [cb_L_t hx, cb_L_t h1, cb_L_f h2]; exact (cb_xl _ _ _).symm
  · rw [cb_L_f hx, cb_L_t h1, cb_L_t h2]; exact (cb_x4 _ _ _).symm
theorem cb_R_xor (rw_ : Nat → Nat) : ∀ k x y, cb_R rw_ k (x ^^^ y) = cb_R rw_ k x ^^^ cb_R rw_ k y := by
  intro k
  induction k with
  | zero => intro x y; rfl
  | succ k ih => intro x y; simp only [cb_R]; rw [cb_L_xor, ih]
theorem cb_R_hi {rw_ : Nat → Nat} : ∀ k x i, (∀ b, b < k → rw_ b < 2 ^ (b + 1)) → k ≤ i → (cb_R rw_ k x).testBit i = x.testBit i := by
  intro k
  induction k with
  | zero => intro x i _ _; rfl
  | succ k ih =>
    intro x i h hi
    simp only [cb_R]
    rw [ih _ i (fun b hb => h b (by omega)) (by omega)]
    cases b : x.testBit k with
    | false => rw [cb_L_f b]
    | true =>
      have g : (rw_ k).testBit i = false := Nat.testBit_lt_two_pow (Nat.lt_of_lt_of_le (h k (by omega)) (Nat.pow_le_pow_right (by decide) hi))
      rw [cb_L_t b, Nat.testBit_xor, g]; cases x.testBit i <;> rfl
theorem cb_R_red {rw_ : Nat → Nat} : ∀ k x b, (∀ b, b < k → rw_ b < 2 ^ (b + 1) ∧ (rw_ b = 0 ∨ (rw_ b).testBit b = true)) → b < k → rw_ b ≠ 0 → (cb_R rw_ k x).testBit b = false := by
  intro k
  induction k with
  | zero => intro x b _ h; omega
  | succ k ih =>
    intro x b h hb h0
    simp only [cb_R]
    by_cases g : b < k
    · exact ih _ b (fun b hb => h b (by omega)) g h0
    · obtain rfl : b = k := by omega
      rw [cb_R_hi b _ b (fun d hd => (h d (by omega)).1) (Nat.le_refl _)]
      have hr := (h b (by omega)).2.resolve_left h0
      cases e : x.testBit b with
      | false => rw [cb_L_f e, e]
      | true => rw [cb_L_t e, Nat.testBit_xor, e, hr]; rfl
theorem cb_R_fix {rw_ : Nat → Nat} : ∀ k x, (∀ b, b < k → rw_ b ≠ 0 → x.testBit b = false) → cb_R rw_ k x = x := by
  intro k
  induction k with
  | zero => intro x _; rfl
  | succ k ih =>
    intro x h
    simp only [cb_R]
    have e : cb_L rw_ k x = x := by
      by_cases g : rw_ k = 0
      · exact cb_L_0 g
      · exact cb_L_f (h k (by omega) g)
    rw [e]
    exact ih x (fun b hb => h b (by omega))
theorem cb_R_c {r q : Nat → Nat} : ∀ k x, (∀ b, b < k → r b = q b) → cb_R r k x = cb_R q k x := by
  intro k
  induction k with
  | zero => intro x _; rfl
  | succ k ih =>
    intro x h
    simp only [cb_R]
    rw [show cb_L r k x = cb_L q k x from by unfold cb_L; rw [h k (by omega)], ih _ (fun b hb => h b (by omega))]
theorem cb_R_lt {rw_ : Nat → Nat} : ∀ k x, k ≤ 12 → (∀ b, b < k → rw_ b < 2 ^ (b + 1)) → x < 4096 → cb_R rw_ k x < 4096 := by
  intro k
  induction k with
  | zero => intro x _ _ h; exact h
  | succ k ih =>
    intro x hk h hx
    simp only [cb_R]
    apply ih _ (by omega) (fun b hb => h b (by omega))
    have hr : rw_ k < 4096 := Nat.lt_of_lt_of_le (h k (by omega)) (cb_pow hk)
    unfold cb_L; split
    · exact cb_xlt hx hr
    · exact hx
def cb_set (r : Nat → Nat) (t v : Nat) : Nat → Nat := fun b => if b = t then v else r b
theorem cb_set_s (r : Nat → Nat) (t v : Nat) : cb_set r t v t = v := if_pos rfl
theorem cb_set_n {r : Nat → Nat} {t v b : Nat} (h : b ≠ t) : cb_set r t v b = r b := if_neg h
def cb_E (r : Nat → Nat) : Prop := ∀ b, b < 12 → r b < 2 ^ (b + 1) ∧ (r b = 0 ∨ (r b).testBit b = true)
theorem cb_R_new {r : Nat → Nat} {t v : Nat} (hE : cb_E r) (h0 : r t = 0) (hv : ∀ b, b < 12 → r b ≠ 0 → v.testBit b = false) : ∀ k, t < k → k ≤ 12 → ∀ x, cb_R (cb_set r t v) k x = if (cb_R r k x).testBit t then cb_R r k x ^^^ v else cb_R r k x := by
  intro k
  induction k with
  | zero => intro h; omega
  | succ k ih =>
    intro ht hk x
    by_cases g : t < k
    · have e : cb_L (cb_set r t v) k x = cb_L r k x := by unfold cb_L; rw [cb_set_n (by omega)]
      simp only [cb_R]
      rw [e]
      exact ih g (by omega) _
    · obtain rfl : t = k := by omega
      rw [cb_R_s (cb_set r t v), cb_R_c (r := cb_set r t v) (q := r) t _ (fun b hb => cb_set_n (by omega))]
      have e1 : cb_R r (t + 1) x = cb_R r t x := by rw [cb_R_s, cb_L_0 h0]
      rw [e1]
      rw [cb_R_hi (rw_ := r) t x t (fun b hb => (hE b (by omega)).1) (Nat.le_refl _)]
      cases b : x.testBit t with
      | false => rw [cb_L_f b]; rfl
      | true =>
        rw [cb_L_t b, cb_set_s, cb_R_xor, cb_R_fix (rw_ := r) t v (fun b hb => hv b (by omega))]; rfl
def cb_ge (x : Nat) : Nat → Nat
  | 0 => 0
  | e + 1 => if x.testBit e then e else cb_ge x e
theorem cb_ge_t {x e : Nat} (h : x.testBit e = true) : cb_ge x (e + 1) = e := if_pos h
theorem cb_ge_f {x e : Nat} (h : x.testBit e = false) : cb_ge x (e + 1) = cb_ge x e := if_neg (by rw [h]; decide)
theorem cb_ge_p {x : Nat} (h0 : x ≠ 0) : ∀ n, x < 2 ^ n → x.testBit (cb_ge x n) = true ∧ x < 2 ^ (cb_ge x n + 1) ∧ cb_ge x n < n := by
  intro n
  induction n with
  | zero => intro h; exact absurd h (by simp; omega)
  | succ n ih =>
    intro h
    cases b : x.testBit n with
    | true => rw [cb_ge_t b]; exact ⟨b, h, by omega⟩
    | false =>
      rw [cb_ge_f b]
      obtain ⟨i1, i2, i3⟩ := ih (cb_low h b)
      exact ⟨i1, i2, by omega⟩
/-- one more row: the span grows by the set's coset -/
theorem cb_grow {r : Nat → Nat} {S : Nat → Bool} {t : Nat} (hE : cb_E r) (hS : ∀ x, x < 4096 → (cb_R r 12 x = 0 ↔ S x = true)) (ht : t < 4096) (hn : S t = false) :
    cb_R r 12 t ≠ 0 ∧ cb_R r 12 t < 4096 ∧ cb_ge (cb_R r 12 t) 12 < 12 ∧ cb_E (cb_set r (cb_ge (cb_R r 12 t) 12) (cb_R r 12 t)) ∧
    ∀ x, x < 4096 → (cb_R (cb_set r (cb_ge (cb_R r 12 t) 12) (cb_R r 12 t)) 12 x = 0 ↔ (S x || S (x ^^^ t)) = true) := by
  have h0 : cb_R r 12 t ≠ 0 := by
    intro h
    have := (hS t ht).mp h
    rw [hn] at this
    exact absurd this (by decide)
  have hl : cb_R r 12 t < 4096 := cb_R_lt 12 t (Nat.le_refl _) (fun b hb => (hE b hb).1) ht
  obtain ⟨g1, g2, g3⟩ := cb_ge_p h0 12 hl
  have hred := fun b hb h => cb_R_red (rw_ := r) 12 t b hE hb h
  generalize hv : cb_R r 12 t = v at *
  generalize hp : cb_ge v 12 = p at *
  have hr0 : r p = 0 := by
    by_cases z : r p = 0
    · exact z
    · have := hred p g3 z
      rw [g1] at this
      exact absurd this (by decide)
  refine ⟨h0, hl, g3, ?_, ?_⟩
  · intro b hb
    by_cases e : b = p
    · subst e; rw [cb_set_s]; exact ⟨g2, Or.inr g1⟩
    · rw [cb_set_n e]; exact hE b hb
  · intro x hx
    rw [cb_R_new hE hr0 hred 12 g3 (Nat.le_refl _) x]
    have hx2 : cb_R r 12 (x ^^^ t) = cb_R r 12 x ^^^ v := by rw [cb_R_xor, hv]
    have q1 := hS x hx
    have q2 := hS (x ^^^ t) (cb_xlt hx ht)
    rw [hx2] at q2
    rw [Bool.or_eq_true, ← q1, ← q2]
    cases b : (cb_R r 12 x).testBit p with
    | true =>
      rw [if_pos rfl]
      constructor
      · intro h; exact Or.inr h
      · intro h
        rcases h with h | h
        · rw [h, Nat.zero_testBit] at b; exact absurd b (by decide)
        · exact h
    | false =>
      rw [if_neg (by decide)]
      constructor
      · intro h; exact Or.inl h
      · intro h
        rcases h with h | h
        · exact h
        · rw [cb_xe] at h
          rw [h, g1] at b
          exact absurd b (by decide)
/-! the lightest set outside -/
def cb_lt (C S : Nat → Bool) (w : Nat → Nat) : Nat → Nat
  | 0 => 0
  | x + 1 => if (C x && !S x) = true then (if cb_lt C S w x = 0 ∨ w x < w (cb_lt C S w x) then x else cb_lt C S w x) else cb_lt C S w x
theorem cb_lt_n {C S : Nat → Bool} {w : Nat → Nat} {x : Nat} (h : C x = false ∨ S x = true) : cb_lt C S w (x + 1) = cb_lt C S w x := if_neg (by rcases h with h | h <;> simp [h])
theorem cb_lt_a {C S : Nat → Bool} {w : Nat → Nat} {x : Nat} (h : C x = true) (g : S x = false) (q : cb_lt C S w x = 0 ∨ w x < w (cb_lt C S w x)) : cb_lt C S w (x + 1) = x := by
  simp only [cb_lt]
  rw [if_pos (by simp [h, g]), if_pos q]
theorem cb_lt_b {C S : Nat → Bool} {w : Nat → Nat} {x : Nat} (q : ¬ cb_lt C S w x = 0) (q2 : ¬ w x < w (cb_lt C S w x)) : cb_lt C S w (x + 1) = cb_lt C S w x := by
  simp only [cb_lt]
  rw [if_neg (c := _ ∨ _) (fun z => z.elim q q2)]
  split <;> rfl
theorem cb_lt_in (C S : Nat → Bool) (w : Nat → Nat) : ∀ n, cb_lt C S w n = 0 ∨ (cb_lt C S w n < n ∧ C (cb_lt C S w n) = true ∧ S (cb_lt C S w n) = false) := by
  intro n
  induction n with
  | zero => exact Or.inl rfl
  | succ n ih =>
    have ih' : cb_lt C S w n = 0 ∨ (cb_lt C S w n < n + 1 ∧ C (cb_lt C S w n) = true ∧ S (cb_lt C S w n) = false) := by
      rcases ih with h | h
      · exact Or.inl h
      · exact Or.inr ⟨by omega, h.2⟩
    cases h : C n with
    | false => rw [cb_lt_n (Or.inl h)]; exact ih'
    | true =>
      cases g : S n with
      | true => rw [cb_lt_n (Or.inr g)]; exact ih'
      | false =>
        by_cases q : cb_lt C S w n = 0 ∨ w n < w (cb_lt C S w n)
        · rw [cb_lt_a h g q]; exact Or.inr ⟨by omega, h, g⟩
        · rw [cb_lt_b (fun z => q (Or.inl z)) (fun z => q (Or.inr z))]; exact ih'
theorem cb_lt_0 {C S : Nat → Bool} {w : Nat → Nat} (hS : S 0 = true) : ∀ n, cb_lt C S w n = 0 → ∀ x, x < n → C x = true → S x = true := by
  intro n
  induction n with
  | zero => intro _ x hx; omega
  | succ n ih =>
    intro h x hx hC
    cases g : S n with
    | true =>
      rw [cb_lt_n (Or.inr g)] at h
      by_cases e : x = n
      · rw [e]; exact g
      · exact ih h x (by omega) hC
    | false =>
      cases hn : C n with
      | false =>
        rw [cb_lt_n (Or.inl hn)] at h
        by_cases e : x = n
        · rw [e, hn] at hC; exact absurd hC (by decide)
        · exact ih h x (by omega) hC
      | true =>
        have n0 : n ≠ 0 := by intro e; rw [e, hS] at g; exact absurd g (by decide)
        by_cases q : cb_lt C S w n = 0 ∨ w n < w (cb_lt C S w n)
        · rw [cb_lt_a hn g q] at h; exact absurd h n0
        · rw [cb_lt_b (fun z => q (Or.inl z)) (fun z => q (Or.inr z))] at h; exact absurd (Or.inl h) q
/-! the rounds -/
def cb_nx (C : Nat → Bool) (w : Nat → Nat) (S : Nat → Bool) : Nat → Bool := fun x => S x || S (x ^^^ cb_lt C S w 4096)
def cb_S (C : Nat → Bool) (w : Nat → Nat) : Nat → Nat → Bool
  | 0 => fun x => decide (x = 0)
  | k + 1 => cb_nx C w (cb_S C w k)
def cb_t (C : Nat → Bool) (w : Nat → Nat) (k : Nat) : Nat := cb_lt C (cb_S C w k) w 4096
def cb_g (C : Nat → Bool) (w : Nat → Nat) (k : Nat) : Nat := if cb_t C w k = 0 then 0 else w (cb_t C w k)
theorem cb_S_0 (C : Nat → Bool) (w : Nat → Nat) : ∀ k, cb_S C w k 0 = true := by
  intro k
  induction k with
  | zero => rfl
  | succ k ih => simp only [cb_S, cb_nx, ih, Bool.true_or]
theorem cb_S_same {C : Nat → Bool} {w : Nat → Nat} {k : Nat} (h : cb_t C w k = 0) : cb_S C w (k + 1) = cb_S C w k := by
  funext x
  show (cb_S C w k x || cb_S C w k (x ^^^ cb_t C w k)) = _
  rw [h, cb_x0, Bool.or_self]
theorem cb_t_same {C : Nat → Bool} {w : Nat → Nat} {k : Nat} (h : cb_t C w k = 0) : cb_t C w (k + 1) = 0 := by
  unfold cb_t
  rw [cb_S_same h]
  exact h
theorem cb_t_0 {C : Nat → Bool} {w : Nat → Nat} {k : Nat} (h : cb_t C w k = 0) : ∀ d, cb_t C w (k + d) = 0 := by
  intro d
  induction d with
  | zero => exact h
  | succ d ih => exact cb_t_same ih
/-- what is asked of the closed sets and their weights -/
def cb_K (C : Nat → Bool) (w : Nat → Nat) : Prop := C 0 = true ∧ (∀ x y, C x = true → C y = true → C (x ^^^ y) = true) ∧ (∀ x, C x = true → x < 4096) ∧ (∀ x, C x = true → x ≠ 0 → 0 < w x) ∧ (∀ x, w x ≤ 1200)
theorem cb_t_C {C : Nat → Bool} {w : Nat → Nat} (K : cb_K C w) (k : Nat) : C (cb_t C w k) = true := by
  rcases cb_lt_in C (cb_S C w k) w 4096 with h | h
  · unfold cb_t; rw [h]; exact K.1
  · exact h.2.1
theorem cb_t_lt {C : Nat → Bool} {w : Nat → Nat} (K : cb_K C w) (k : Nat) : cb_t C w k < 4096 := K.2.2.1 _ (cb_t_C K k)
theorem cb_g_0 {C : Nat → Bool} {w : Nat → Nat} (K : cb_K C w) (k : Nat) : cb_g C w k = 0 ↔ cb_t C w k = 0 := by
  unfold cb_g
  by_cases h : cb_t C w k = 0
  · rw [if_pos h]; simp [h]
  · rw [if_neg h]
    have := K.2.2.2.1 _ (cb_t_C K k) h
    constructor
    · intro z; omega
    · intro z; exact absurd z h
theorem cb_g_le {C : Nat → Bool} {w : Nat → Nat} (K : cb_K C w) (k : Nat) : cb_g C w k ≤ 1200 := by
  unfold cb_g; split
  · omega
  · exact K.2.2.2.2 _
theorem cb_S_C {C : Nat → Bool} {w : Nat → Nat} (K : cb_K C w) : ∀ k x, cb_S C w k x = true → C x = true := by
  intro k
  induction k with
  | zero => intro x h; have e : x = 0 := of_decide_eq_true h; rw [e]; exact K.1
  | succ k ih =>
    intro x h
    have h' : (cb_S C w k x || cb_S C w k (x ^^^ cb_t C w k)) = true := h
    rw [Bool.or_eq_true] at h'
    rcases h' with h' | h'
    · exact ih x h'
    · have := K.2.1 _ _ (ih _ h') (cb_t_C K k)
      rw [cb_xx] at this
      exact this
theorem cb_S_xor {C : Nat → Bool} {w : Nat → Nat} : ∀ k x y, cb_S C w k x = true → cb_S C w k y = true → cb_S C w k (x ^^^ y) = true := by
  intro k
  induction k with
  | zero =>
    intro x y h g
    have e : x = 0 := of_decide_eq_true h
    have f : y = 0 := of_decide_eq_true g
    rw [e, f]; rfl
  | succ k ih =>
    intro x y h g
    have h' : (cb_S C w k x || cb_S C w k (x ^^^ cb_t C w k)) = true := h
    have g' : (cb_S C w k y || cb_S C w k (y ^^^ cb_t C w k)) = true := g
    show (cb_S C w k (x ^^^ y) || cb_S C w k ((x ^^^ y) ^^^ cb_t C w k)) = true
    rw [Bool.or_eq_true] at *
    rcases h' with h' | h' <;> rcases g' with g' | g'
    · exact Or.inl (ih _ _ h' g')
    · have := ih _ _ h' g'; rw [cb_xr] at this; exact Or.inr this
    · have := ih _ _ h' g'; rw [cb_xl] at this; exact Or.inr this
    · have := ih _ _ h' g'; rw [cb_x4] at this; exact Or.inl this
def cb_rk (C : Nat → Bool) (w : Nat → Nat) (k : Nat) : Nat := cb_su (fun j => if cb_t C w j = 0 then 0 else 1) k
theorem cb_rk_le (C : Nat → Bool) (w : Nat → Nat) (k : Nat) : cb_rk C w k ≤ k := by
  have := cb_su_le (f := fun j => if cb_t C w j = 0 then 0 else 1) (g := fun _ => 1) k (fun x _ => by split <;> omega)
  rw [cb_su_1] at this
  exact this
theorem cb_S_ct {C : Nat → Bool} {w : Nat → Nat} (K : cb_K C w) : ∀ k, cb_ct (cb_S C w k) 4096 = 2 ^ cb_rk C w k ∧ (cb_rk C w k = k ∨ ∀ x, x < 4096 → C x = true → cb_S C w k x = true) := by
  intro k
  induction k with
  | zero =>
    refine ⟨?_, Or.inl rfl⟩
    have := cb_su_d 0 1 4096 (by decide)
    rw [show 2 ^ cb_rk C w 0 = 1 from rfl, ← this]
    apply cb_su_c
    intro x _
    simp [cb_S]
  | succ k ih =>
    by_cases h : cb_t C w k = 0
    · have e : cb_rk C w (k + 1) = cb_rk C w k := by
        show cb_rk C w k + (if cb_t C w k = 0 then 0 else 1) = _
        rw [if_pos h]; rfl
      rw [e, cb_S_same h]
      exact ⟨ih.1, Or.inr (cb_lt_0 (cb_S_0 C w k) 4096 h)⟩
    · have e : cb_rk C w (k + 1) = cb_rk C w k + 1 := by
        show cb_rk C w k + (if cb_t C w k = 0 then 0 else 1) = _
        rw [if_neg h]
      have hS : cb_S C w k (cb_t C w k) = false := (cb_lt_in C (cb_S C w k) w 4096).resolve_left h |>.2.2
      refine ⟨?_, ?_⟩
      · rw [e, Nat.pow_succ, Nat.mul_two, ← ih.1]
        have s1 : cb_ct (cb_S C w (k + 1)) 4096 = cb_su (fun x => (if cb_S C w k x then 1 else 0) + (if cb_S C w k (x ^^^ cb_t C w k) then 1 else 0)) 4096 := by
          apply cb_su_c
          intro x _
          show (if (cb_S C w k x || cb_S C w k (x ^^^ cb_t C w k)) = true then 1 else 0) = _
          cases a : cb_S C w k x <;> cases b : cb_S C w k (x ^^^ cb_t C w k) <;> simp
          have := cb_S_xor k _ _ b a
          rw [cb_xl, cb_xs] at this
          have e2 : 0 ^^^ cb_t C w k = cb_t C w k := by rw [← cb_xs x, cb_xl]; rw [cb_xl, cb_xs]; apply Nat.eq_of_testBit_eq; intro i; simp [Nat.testBit_xor]
          rw [e2, hS] at this
          exact absurd this (by decide)
        rw [s1, cb_su_add]
        exact congrArg (cb_ct (cb_S C w k) 4096 + ·) (cb_ct_x (cb_S C w k) (cb_t_lt K k))
      · rcases ih.2 with g | g
        · exact Or.inl (by rw [e, g])
        · exfalso
          have := g _ (cb_t_lt K k) (cb_t_C K k)
          rw [hS] at this
          exact absurd this (by decide)
theorem cb_C_ct {C : Nat → Bool} {w : Nat → Nat} (K : cb_K C w) : cb_ct C 4096 = 2 ^ cb_rk C w 12 := by
  obtain ⟨h, g⟩ := cb_S_ct K 12
  have l1 : cb_ct (cb_S C w 12) 4096 ≤ cb_ct C 4096 := by
    apply cb_su_le
    intro x _
    cases a : cb_S C w 12 x with
    | false => simp
    | true => rw [cb_S_C K 12 x a]; exact Nat.le_refl _
  rcases g with g | g
  · have l2 : cb_ct C 4096 ≤ 4096 := by
      have := cb_su_le (f := fun x => if C x = true then 1 else 0) (g := fun _ => 1) 4096 (fun x _ => by split <;> omega)
      rw [cb_su_1] at this
      exact this
    rw [g] at h ⊢
    have e : (2 : Nat) ^ 12 = 4096 := by decide
    omega
  · have l2 : cb_ct C 4096 ≤ cb_ct (cb_S C w 12) 4096 := by
      apply cb_su_le
      intro x hx
      cases a : C x with
      | false => simp
      | true => rw [g x hx a]; exact Nat.le_refl _
    omega
/-- how many closed sets, the empty one left out, lie below x -/
def cb_n (C : Nat → Bool) (x : Nat) : Nat := cb_su (fun y => if C y = true ∧ y ≠ 0 then 1 else 0) x
theorem cb_n_t {C : Nat → Bool} {x : Nat} (h : C x = true) (g : x ≠ 0) : cb_n C (x + 1) = cb_n C x + 1 := by
  show cb_n C x + (if C x = true ∧ x ≠ 0 then 1 else 0) = _
  rw [if_pos ⟨h, g⟩]
theorem cb_n_f {C : Nat → Bool} {x : Nat} (h : C x = false ∨ x = 0) : cb_n C (x + 1) = cb_n C x := by
  show cb_n C x + (if C x = true ∧ x ≠ 0 then 1 else 0) = _
  rw [if_neg]; rfl
  rintro ⟨a, b⟩
  rcases h with h | h
  · rw [h] at a; exact absurd a (by decide)
  · exact b h
theorem cb_n_s (C : Nat → Bool) (x : Nat) : cb_n C x ≤ cb_n C (x + 1) := Nat.le_add_right _ _
theorem cb_n_m (C : Nat → Bool) {x : Nat} : ∀ d, cb_n C x ≤ cb_n C (x + d) := by
  intro d
  induction d with
  | zero => exact Nat.le_refl _
  | succ d ih => exact Nat.le_trans ih (cb_n_s C (x + d))
theorem cb_n_lt {C : Nat → Bool} {x y : Nat} (h : C x = true) (g : x ≠ 0) (hy : x < y) : cb_n C x < cb_n C y := by
  have := cb_n_m C (x := x + 1) (y - (x + 1))
  rw [cb_n_t h g, show x + 1 + (y - (x + 1)) = y from by omega] at this
  omega
theorem cb_n_le (C : Nat → Bool) (x : Nat) : cb_n C x ≤ x := by
  have := cb_su_le (f := fun y => if C y = true ∧ y ≠ 0 then 1 else 0) (g := fun _ => 1) x (fun x _ => by split <;> omega)
  rw [cb_su_1] at this
  exact this
theorem cb_n_ct {C : Nat → Bool} (h : C 0 = true) : ∀ n, cb_n C (n + 1) + 1 = cb_ct C (n + 1) := by
  intro n
  induction n with
  | zero => rw [cb_n_f (Or.inr rfl)]; show _ = 0 + (if C 0 = true then 1 else 0); rw [if_pos h]; rfl
  | succ n ih =>
    show _ = cb_ct C (n + 1) + (if C (n + 1) = true then 1 else 0)
    cases g : C (n + 1) with
    | true => rw [cb_n_t g (by omega), ← ih]; simp
    | false => rw [cb_n_f (Or.inl g), ← ih]; simp
theorem cb_ext {α : Type} {f : Nat → α} {m : Nat} (h : ∀ x, m ≤ x → f (x + 1) = f x) : ∀ d, f (m + d) = f m := by
  intro d
  induction d with
  | zero => rfl
  | succ d ih => rw [← ih]; exact h (m + d) (by omega)
end
section
/-! the class's own walks, each against the pure picture -/
def xc_ok (c : Nat) (en wt : Nat → Nat) (ends ws : Nat → Int32) : Prop := c ≤ 12 ∧ ∀ e, e < c → en e < 128 ∧ 1 ≤ wt e ∧ wt e ≤ 100 ∧ ends e = nI (en e) ∧ ws e = nI (wt e)
theorem xc_suc {n d : Nat} (h : d < n) : ∃ m, n = m + 1 := ⟨n - 1, by omega⟩
theorem xc_K {c : Nat} {en wt : Nat → Nat} {ends ws : Nat → Int32} (H : xc_ok c en wt ends ws) : cb_K (cb_C en c) (fun x => cb_w wt x c) := by
  refine ⟨cb_C_0 en c, fun x y => cb_C_xor, fun x h => Nat.lt_of_lt_of_le (cb_C_lt h) (cb_pow H.1), fun x h g => cb_w_pos c (fun e he => (H.2 e he).2.1) (cb_C_lt h) g, fun x => ?_⟩
  have := cb_w_le (wt := wt) (s := x) c (fun e he => (H.2 e he).2.2.1)
  have := H.1
  show cb_w wt x c ≤ 1200
  omega
theorem xc_has {post : Int32 → Prop} {s e : Nat} (hs : s < 2 ^ 31) (he : e < 32) (h1 : s.testBit e = true → post 1) (h0 : s.testBit e = false → post 0) : wpX_has post (nI s) (nI e) := by
  refine ⟨fun h => h1 ((cb_bit1 hs he).mp h), fun h => h0 ?_⟩
  rw [cb_bit1 hs he] at h
  cases g : s.testBit e
  · rfl
  · exact absurd g h
section
variable {c : Nat} {en wt : Nat → Nat} {ends ws : Nat → Int32} (H : xc_ok c en wt ends ws)
theorem xc_isClosed_l (H : xc_ok c en wt ends ws) {s : Nat} (hs : s < 4096) (post : Int32 → Prop) (cc : Int32) (cs rows : Nat → Int32) (hp : post (if cb_od en s c = 0 then 1 else 0)) :
    ∀ d e n, e + d = c → d < n → wX_isClosed_4 post (nI s) (nI c) cc ends ws cs rows n (nI (cb_od en s e)) (nI e) := by
  have hc := H.1
  have hl : cb_od en s c < 128 := cb_od_lt c (fun e he => (H.2 e he).1)
  intro d
  induction d with
  | zero =>
    intro e n h hn
    obtain ⟨m, rfl⟩ := xc_suc hn
    obtain rfl : e = c := by omega
    refine br_t (nI_le (Nat.le_refl _) (by omega)) ?_
    refine pk_eq (cb_od en s e) 0 (fun h => ?_) (fun h => ?_) rfl rfl (by omega) (by omega)
    · rw [if_pos h] at hp; exact hp
    · rw [if_neg h] at hp; exact hp
  | succ d ih =>
    intro e n h hn
    obtain ⟨m, rfl⟩ := xc_suc hn
    refine br_f (nI_ge (by omega) (by omega)) ?_
    have i := ih (e + 1) m (by omega) (by omega)
    refine xc_has (by omega) (by omega) (fun ht => ?_) (fun hf => ?_)
    · rw [cb_od_t ht] at i
      refine br_f (by decide) ⟨vp_in_nI (by omega) (by omega), nm_r (e' := nI (cb_od en s e ^^^ en e)) ?_ (nm_r (nI_1 e) i)⟩
      rw [nI_clamp (by omega), (H.2 e (by omega)).2.2.2.1, nx_xor]
    · rw [cb_od_f hf] at i
      exact br_t rfl (nm_r (nI_1 e) i)
theorem xc_isClosed (H : xc_ok c en wt ends ws) {s : Nat} (hs : s < 4096) {post : Int32 → Prop} {cc : Int32} {cs rows : Nat → Int32} (hp : post (if cb_od en s c = 0 then 1 else 0)) : wpX_isClosed post (nI c, cc, ends, ws, cs, rows) (nI s) :=
  ⟨c + 1, xc_isClosed_l H hs post cc cs rows hp c 0 (c + 1) (by omega) (by omega)⟩
theorem xc_weightOf_l (H : xc_ok c en wt ends ws) {s : Nat} (hs : s < 4096) (post : Int32 → Prop) (cc : Int32) (cs rows : Nat → Int32) (hp : post (nI (cb_w wt s c))) :
    ∀ d e n, e + d = c → d < n → wX_weightOf_4 post (nI s) (nI c) cc ends ws cs rows n (nI (cb_w wt s e)) (nI e) := by
  have hc := H.1
  intro d
  induction d with
  | zero =>
    intro e n h hn
    obtain ⟨m, rfl⟩ := xc_suc hn
    obtain rfl : e = c := by omega
    exact br_t (nI_le (Nat.le_refl _) (by omega)) hp
  | succ d ih =>
    intro e n h hn
    obtain ⟨m, rfl⟩ := xc_suc hn
    refine br_f (nI_ge (by omega) (by omega)) ?_
    have i := ih (e + 1) m (by omega) (by omega)
    refine xc_has (by omega) (by omega) (fun ht => ?_) (fun hf => ?_)
    · rw [cb_w_t ht] at i
      refine br_f (by decide) ⟨vp_in_nI (by omega) (by omega), nm_r (e' := nI (cb_w wt s e + wt e)) ?_ (nm_r (nI_1 e) i)⟩
      rw [nI_clamp (by omega), (H.2 e (by omega)).2.2.2.2, nI_add]
    · rw [cb_w_f hf] at i
      exact br_t rfl (nm_r (nI_1 e) i)
theorem xc_weightOf (H : xc_ok c en wt ends ws) {s : Nat} (hs : s < 4096) {post : Int32 → Prop} {cc : Int32} {cs rows : Nat → Int32} (hp : post (nI (cb_w wt s c))) : wpX_weightOf post (nI c, cc, ends, ws, cs, rows) (nI s) :=
  ⟨c + 1, xc_weightOf_l H hs post cc cs rows hp c 0 (c + 1) (by omega) (by omega)⟩
def xc_G (C : Nat → Bool) (cs : Nat → Int32) : Prop := ∀ y, y < 4096 → C y = true → y ≠ 0 → cs (cb_n C y) = nI y
theorem xc_gather_l (H : xc_ok c en wt ends ws) (post : SX → Prop) (cc : Int32) (rows : Nat → Int32) (hp : ∀ cs', xc_G (cb_C en c) cs' → post (nI c, nI (cb_n (cb_C en c) 4096), ends, ws, cs', rows)) :
    ∀ d x n cs, x + d = 2 ^ c → 1 ≤ x → d < n → (∀ y, y < x → cb_C en c y = true → y ≠ 0 → cs (cb_n (cb_C en c) y) = nI y) → wX_gatherClosedSets_11 post (nI (2 ^ c)) (nI c) cc n (nI (cb_n (cb_C en c) x)) (nI x) ends ws cs rows := by
  have hc := H.1
  have hq := cb_pow hc
  intro d
  induction d with
  | zero =>
    intro x n cs h h1 hn hi
    obtain ⟨m, rfl⟩ := xc_suc hn
    obtain rfl : x = 2 ^ c := by omega
    refine br_t (nI_le (Nat.le_refl _) (by omega)) ?_
    have e : cb_n (cb_C en c) 4096 = cb_n (cb_C en c) (2 ^ c) := by
      have := cb_ext (f := cb_n (cb_C en c)) (m := 2 ^ c) (fun x hx => cb_n_f (Or.inl (by simp [cb_C]; omega))) (4096 - 2 ^ c)
      rwa [show 2 ^ c + (4096 - 2 ^ c) = 4096 from by omega] at this
    rw [← e]
    apply hp
    intro y hy hC h0
    exact hi y (cb_C_lt hC) hC h0
  | succ d ih =>
    intro x n cs h h1 hn hi
    obtain ⟨m, rfl⟩ := xc_suc hn
    refine br_f (nI_ge (by omega) (by omega)) ?_
    have hle := cb_n_le (cb_C en c) x
    refine xc_isClosed H (by omega) ?_
    by_cases ho : cb_od en x c = 0
    · have hC : cb_C en c x = true := by simp [cb_C, ho]; omega
      rw [if_pos ho]
      refine br_f (by decide) ⟨vp_in_nI (by omega) (by omega), nm_r (e' := upd cs (cb_n (cb_C en c) x) (nI x)) (by rw [nI_clamp (by omega)]) (nm_r (nI_1 _) (nm_r (nI_1 x) ?_))⟩
      rw [← cb_n_t hC (by omega)]
      refine ih (x + 1) m _ (by omega) (by omega) (by omega) ?_
      intro y hy hyC h0
      by_cases e : y = x
      · subst e; exact pk_us
      · have := cb_n_lt hyC h0 (show y < x by omega)
        rw [pk_un (by omega)]
        exact hi y (by omega) hyC h0
    · have hC : cb_C en c x = false := by simp [cb_C, ho]
      rw [if_neg ho]
      refine br_t rfl (nm_r (nI_1 x) ?_)
      rw [← cb_n_f (C := cb_C en c) (Or.inl hC)]
      refine ih (x + 1) m cs (by omega) (by omega) (by omega) ?_
      intro y hy hyC h0
      by_cases e : y = x
      · subst e; rw [hC] at hyC; exact absurd hyC (by decide)
      · exact hi y (by omega) hyC h0
theorem xc_gather (H : xc_ok c en wt ends ws) {post : SX → Prop} {cc : Int32} {cs rows : Nat → Int32} (hp : ∀ cs', xc_G (cb_C en c) cs' → post (nI c, nI (cb_n (cb_C en c) 4096), ends, ws, cs', rows)) : wpX_gatherClosedSets post (nI c, cc, ends, ws, cs, rows) := by
  have hc := H.1
  have h0 : 0 < 2 ^ c := Nat.two_pow_pos c
  refine nm_r (cb_shl (by omega)) ⟨2 ^ c + 1, ?_⟩
  have := xc_gather_l H post cc rows hp (2 ^ c - 1) 1 (2 ^ c + 1) cs (by omega) (by omega) (by omega) (fun y hy _ h => absurd (show y = 0 by omega) h)
  rw [show cb_n (cb_C en c) 1 = 0 from cb_n_f (Or.inr rfl)] at this
  exact this
theorem xc_start_l (post : SX → Prop) (f g : Int32) (cs : Nat → Int32) (hp : ∀ rows', (∀ b, b < 12 → rows' b = 0) → post (f, g, ends, ws, cs, rows')) :
    ∀ d b n rows, b + d = 12 → d < n → (∀ j, j < b → rows j = 0) → wX_startSpan_6 post f g n (nI b) ends ws cs rows := by
  intro d
  induction d with
  | zero =>
    intro b n rows h hn hi
    obtain ⟨m, rfl⟩ := xc_suc hn
    obtain rfl : b = 12 := by omega
    exact br_t (by decide) (hp rows hi)
  | succ d ih =>
    intro b n rows h hn hi
    obtain ⟨m, rfl⟩ := xc_suc hn
    refine br_f (nI_ge (b := 12) (by omega) (by decide)) ⟨vp_in_nI (by omega) (by omega), nm_r (e' := upd rows b 0) (by rw [nI_clamp (by omega)]) (nm_r (nI_1 b) (ih (b + 1) m _ (by omega) (by omega) ?_))⟩
    intro j hj
    by_cases e : j = b
    · subst e; exact pk_us
    · rw [pk_un e]; exact hi j (by omega)
def xc_I (rows : Nat → Int32) (S : Nat → Bool) : Prop := ∃ r : Nat → Nat, (∀ b, b < 12 → rows b = nI (r b)) ∧ cb_E r ∧ ∀ x, x < 4096 → (cb_R r 12 x = 0 ↔ S x = true)
theorem xc_I_0 {rows : Nat → Int32} (h : ∀ b, b < 12 → rows b = 0) (C : Nat → Bool) (w : Nat → Nat) : xc_I rows (cb_S C w 0) := by
  refine ⟨fun _ => 0, h, fun b _ => ⟨Nat.two_pow_pos _, Or.inl rfl⟩, fun x _ => ?_⟩
  rw [cb_R_fix 12 x (fun b _ z => absurd rfl z)]
  exact (decide_eq_true_iff).symm
theorem xc_start (H : xc_ok c en wt ends ws) {post : SX → Prop} {cc : Int32} {cs rows : Nat → Int32} (hp : ∀ cs' rows', xc_G (cb_C en c) cs' → xc_I rows' (cb_S (cb_C en c) (fun x => cb_w wt x c) 0) → post (nI c, nI (cb_n (cb_C en c) 4096), ends, ws, cs', rows')) : wpX_startSpan post (nI c, cc, ends, ws, cs, rows) := by
  refine xc_gather H (fun cs' hG => ?_)
  exact ⟨13, xc_start_l post _ _ cs' (fun rows' h => hp cs' rows' hG (xc_I_0 h _ _)) 12 0 13 rows (by omega) (by omega) (fun j hj => absurd hj (by omega))⟩
theorem xc_remainder_l {r : Nat → Nat} {rows : Nat → Int32} (hr : ∀ b, b < 12 → rows b = nI (r b)) (hE : cb_E r) (post : Int32 → Prop) (f g : Int32) (cs : Nat → Int32) :
    ∀ k x n, k ≤ 12 → x < 4096 → k < n → post (nI (cb_R r k x)) → wX_remainder_5 post f g ends ws cs rows n (nI x) (nI k + (-1)) := by
  intro k
  induction k with
  | zero =>
    intro x n _ hx hn hp
    obtain ⟨m, rfl⟩ := xc_suc hn
    exact br_t (by decide) hp
  | succ k ih =>
    intro x n hk hx hn hp
    obtain ⟨m, rfl⟩ := xc_suc hn
    rw [pk_m1]
    refine br_f (nI_pos (by omega)) ?_
    rw [cb_R_s] at hp
    refine xc_has (by omega) (by omega) (fun ht => ?_) (fun hf => ?_)
    · rw [cb_L_t ht] at hp
      have hl : r k < 4096 := Nat.lt_of_lt_of_le (hE k (by omega)).1 (cb_pow hk)
      refine br_f (by decide) ⟨vp_in_nI (by omega) (by omega), nm_r (e' := nI (x ^^^ r k)) ?_ (nm_e (ih (x ^^^ r k) m (by omega) (cb_xlt hx hl) (by omega) hp))⟩
      rw [nI_clamp (by omega), hr k (by omega), nx_xor]
    · rw [cb_L_f hf] at hp
      exact br_t rfl (nm_e (ih x m (by omega) hx (by omega) hp))
theorem xc_remainder {r : Nat → Nat} {rows : Nat → Int32} (hr : ∀ b, b < 12 → rows b = nI (r b)) (hE : cb_E r) {post : Int32 → Prop} {f g : Int32} {cs : Nat → Int32} {x : Nat} (hx : x < 4096) (hp : post (nI (cb_R r 12 x))) : wpX_remainder post (f, g, ends, ws, cs, rows) (nI x) :=
  ⟨13, xc_remainder_l hr hE post f g cs 12 x 13 (by omega) hx (by omega) hp⟩
/-- a remainder is asked for whether it is nothing -/
theorem xc_rem {rows : Nat → Int32} {S : Nat → Bool} (hI : xc_I rows S) {post : Int32 → Prop} {f g : Int32} {cs : Nat → Int32} {x : Nat} (hx : x < 4096) (h0 : S x = true → post 0) (h1 : S x = false → ∀ y, ¬ y = 0 → post y) : wpX_remainder post (f, g, ends, ws, cs, rows) (nI x) := by
  obtain ⟨r, hr, hE, hS⟩ := hI
  refine xc_remainder hr hE hx ?_
  have q := hS x hx
  have hl := cb_R_lt (rw_ := r) 12 x (Nat.le_refl _) (fun b hb => (hE b hb).1) hx
  cases e : S x with
  | true => rw [q.mpr e]; exact h0 e
  | false =>
    refine h1 e _ (nI_ne0 ?_ (by omega))
    apply Nat.pos_of_ne_zero
    intro z
    rw [q.mp z] at e
    exact absurd e (by decide)
theorem xc_greatest_l {x : Nat} (hx : x < 4096) (post : Int32 → Prop) (hp : post (nI (cb_ge x 12))) : ∀ d e n, e + d = 12 → d < n → wX_greatestEdge_4 post (nI x) n (nI (cb_ge x e)) (nI e) := by
  intro d
  induction d with
  | zero =>
    intro e n h hn
    obtain ⟨m, rfl⟩ := xc_suc hn
    obtain rfl : e = 12 := by omega
    exact br_t (by decide) hp
  | succ d ih =>
    intro e n h hn
    obtain ⟨m, rfl⟩ := xc_suc hn
    refine br_f (nI_ge (b := 12) (by omega) (by decide)) ?_
    have i := ih (e + 1) m (by omega) (by omega)
    refine xc_has (by omega) (by omega) (fun ht => ?_) (fun hf => ?_)
    · rw [cb_ge_t ht] at i
      exact br_f (by decide) (nm_r (nI_1 e) i)
    · rw [cb_ge_f hf] at i
      exact br_t rfl (nm_r (nI_1 e) i)
theorem xc_greatest {x : Nat} (hx : x < 4096) {post : Int32 → Prop} (hp : post (nI (cb_ge x 12))) : wpX_greatestEdge post (nI x) :=
  ⟨13, xc_greatest_l hx post hp 12 0 13 (by omega) (by omega)⟩
def xc_lw (C S : Nat → Bool) (w : Nat → Nat) (x : Nat) : Nat := if cb_lt C S w x = 0 then 0 else w (cb_lt C S w x)
theorem xc_lightest_l (H : xc_ok c en wt ends ws) {cs rows : Nat → Int32} {S : Nat → Bool} (hG : xc_G (cb_C en c) cs) (hI : xc_I rows S) (hS : S 0 = true) (post : Int32 → Prop) (hp : post (nI (cb_lt (cb_C en c) S (fun x => cb_w wt x c) 4096))) :
    ∀ d x n, x + d = 4096 → d < n → wX_lightestOutsideSpan_6 post (nI c) (nI (cb_n (cb_C en c) 4096)) ends ws cs rows n (nI (cb_lt (cb_C en c) S (fun x => cb_w wt x c) x)) (nI (xc_lw (cb_C en c) S (fun x => cb_w wt x c) x)) (nI (cb_n (cb_C en c) x)) := by
  have K := xc_K H
  have hN := cb_n_le (cb_C en c) 4096
  intro d
  induction d with
  | zero =>
    intro x n h hn
    obtain ⟨m, rfl⟩ := xc_suc hn
    obtain rfl : x = 4096 := by omega
    exact br_t (nI_le (Nat.le_refl _) (by omega)) hp
  | succ d ih =>
    intro x n h hn
    by_cases hC : cb_C en c x = true ∧ x ≠ 0
    · obtain ⟨m, rfl⟩ := xc_suc hn
      have i := ih (x + 1) m (by omega) (by omega)
      have hlt := cb_n_lt hC.1 hC.2 (show x < 4096 by omega)
      rw [cb_n_t hC.1 hC.2] at i
      refine br_f (nI_ge hlt (by omega)) ⟨vp_in_nI (by omega) (by omega), nm_r (e' := nI x) (by rw [nI_clamp (by omega)]; exact hG x (by omega) hC.1 hC.2) ?_⟩
      refine xc_rem hI (by omega) (fun hs => ?_) (fun hs y hy => ?_)
      · unfold xc_lw at i ⊢
        rw [cb_lt_n (Or.inr hs)] at i
        exact br_t rfl (nm_r (nI_1 _) i)
      · refine br_f hy (xc_weightOf H (by omega) ?_)
        have hb := K.2.2.2.2 x
        have hb2 := K.2.2.2.2 (cb_lt (cb_C en c) S (fun x => cb_w wt x c) x)
        have hb3 : cb_lt (cb_C en c) S (fun x => cb_w wt x c) x ≤ x := by
          rcases cb_lt_in (cb_C en c) S (fun x => cb_w wt x c) x with z | z
          · omega
          · omega
        dsimp only at hb hb2
        refine pk_eq (cb_lt (cb_C en c) S (fun x => cb_w wt x c) x) 0 (fun z => ?_) (fun z => ?_) rfl rfl (by omega) (by omega)
        · unfold xc_lw at i
          rw [cb_lt_a hC.1 hs (Or.inl z), if_neg hC.2] at i
          exact nm_r (nI_1 _) i
        · unfold xc_lw at i ⊢
          rw [if_neg z]
          refine pk_le (cb_w wt (cb_lt (cb_C en c) S (fun x => cb_w wt x c) x) c) (cb_w wt x c) (fun g => ?_) (fun g => ?_) rfl rfl (by omega) (by omega)
          · rw [cb_lt_b z (by omega), if_neg z] at i
            exact nm_r (nI_1 _) i
          · rw [cb_lt_a hC.1 hs (Or.inr g), if_neg hC.2] at i
            exact nm_r (nI_1 _) i
    · have i := ih (x + 1) n (by omega) (by omega)
      have e1 : cb_C en c x = false ∨ x = 0 := by
        cases g : cb_C en c x with
        | false => exact Or.inl rfl
        | true => exact Or.inr (by by_cases z : x = 0; exact z; exact absurd ⟨g, z⟩ hC)
      have e2 : cb_C en c x = false ∨ S x = true := by
        rcases e1 with g | g
        · exact Or.inl g
        · exact Or.inr (by rw [g]; exact hS)
      unfold xc_lw at i ⊢
      rw [cb_n_f e1, cb_lt_n e2] at i
      exact i
theorem xc_lightest (H : xc_ok c en wt ends ws) {cs rows : Nat → Int32} {S : Nat → Bool} (hG : xc_G (cb_C en c) cs) (hI : xc_I rows S) (hS : S 0 = true) {post : Int32 → Prop} (hp : post (nI (cb_lt (cb_C en c) S (fun x => cb_w wt x c) 4096))) : wpX_lightestOutsideSpan post (nI c, nI (cb_n (cb_C en c) 4096), ends, ws, cs, rows) :=
  ⟨4097, xc_lightest_l H hG hI hS post hp 4096 0 4097 (by omega) (by omega)⟩
theorem xc_growS (H : xc_ok c en wt ends ws) {cs rows : Nat → Int32} {S : Nat → Bool} (hG : xc_G (cb_C en c) cs) (hI : xc_I rows S) (hS : S 0 = true) {post : Int32 → SX → Prop}
    (hp : ∀ rows', xc_I rows' (cb_nx (cb_C en c) (fun x => cb_w wt x c) S) → post (nI (if cb_lt (cb_C en c) S (fun x => cb_w wt x c) 4096 = 0 then 0 else cb_w wt (cb_lt (cb_C en c) S (fun x => cb_w wt x c) 4096) c)) (nI c, nI (cb_n (cb_C en c) 4096), ends, ws, cs, rows')) :
    wpX_growSpan post (nI c, nI (cb_n (cb_C en c) 4096), ends, ws, cs, rows) := by
  refine xc_lightest H hG hI hS ?_
  have hin := cb_lt_in (cb_C en c) S (fun x => cb_w wt x c) 4096
  unfold cb_nx at hp
  generalize cb_lt (cb_C en c) S (fun x => cb_w wt x c) 4096 = t at *
  have ht : t < 4096 := by rcases hin with h | h <;> omega
  refine pk_eq t 0 (fun z => ?_) (fun z => ?_) rfl rfl (by omega) (by omega)
  · subst z
    have := hp rows (by
      obtain ⟨r, h1, h2, h3⟩ := hI
      refine ⟨r, h1, h2, fun x hx => ?_⟩
      dsimp only
      rw [cb_x0, Bool.or_self]
      exact h3 x hx)
    exact this
  · obtain ⟨r, h1, h2, h3⟩ := hI
    obtain ⟨g1, g2, g3, g4, g5⟩ := cb_grow h2 h3 ht (hin.resolve_left z).2.2
    refine xc_remainder h1 h2 ht (xc_greatest g2 ⟨vp_in_nI g3 (by omega), nm_r (e' := upd rows (cb_ge (cb_R r 12 t) 12) (nI (cb_R r 12 t))) (by rw [nI_clamp (by omega)]) (xc_weightOf H ht ?_)⟩)
    have := hp (upd rows (cb_ge (cb_R r 12 t) 12) (nI (cb_R r 12 t))) ⟨_, fun b hb => ?_, g4, g5⟩
    · rw [if_neg z] at this; exact this
    · by_cases e : b = cb_ge (cb_R r 12 t) 12
      · rw [e, cb_set_s]; exact pk_us
      · rw [cb_set_n e, pk_un e]; exact h1 b hb
/-- one round: from round k's span to the next one's -/
theorem xc_grow (H : xc_ok c en wt ends ws) {cs rows : Nat → Int32} {k : Nat} (hG : xc_G (cb_C en c) cs) (hI : xc_I rows (cb_S (cb_C en c) (fun x => cb_w wt x c) k)) {post : Int32 → SX → Prop}
    (hp : ∀ rows', xc_I rows' (cb_S (cb_C en c) (fun x => cb_w wt x c) (k + 1)) → post (nI (cb_g (cb_C en c) (fun x => cb_w wt x c) k)) (nI c, nI (cb_n (cb_C en c) 4096), ends, ws, cs, rows')) :
    wpX_growSpan post (nI c, nI (cb_n (cb_C en c) 4096), ends, ws, cs, rows) :=
  xc_growS H hG hI (cb_S_0 _ _ k) hp
end
end
section
/-! the lightest closed set through an edge; what the closed sets cover; the level -/
def cb_th (C : Nat → Bool) (w : Nat → Nat) (e : Nat) : Nat → Nat
  | 0 => 0
  | x + 1 => if C x = true ∧ x.testBit e = true then (if cb_th C w e x = 0 ∨ w x < cb_th C w e x then w x else cb_th C w e x) else cb_th C w e x
theorem cb_th_n {C : Nat → Bool} {w : Nat → Nat} {e x : Nat} (h : ¬ (C x = true ∧ x.testBit e = true)) : cb_th C w e (x + 1) = cb_th C w e x := if_neg h
theorem cb_th_a {C : Nat → Bool} {w : Nat → Nat} {e x : Nat} (h : C x = true) (g : x.testBit e = true) (q : cb_th C w e x = 0 ∨ w x < cb_th C w e x) : cb_th C w e (x + 1) = w x := by
  simp only [cb_th]; rw [if_pos ⟨h, g⟩, if_pos q]
theorem cb_th_b {C : Nat → Bool} {w : Nat → Nat} {e x : Nat} (q : ¬ cb_th C w e x = 0) (q2 : ¬ w x < cb_th C w e x) : cb_th C w e (x + 1) = cb_th C w e x := by
  simp only [cb_th]
  rw [if_neg (c := _ ∨ _) (fun z => z.elim q q2)]
  split <;> rfl
theorem cb_th_le {C : Nat → Bool} {w : Nat → Nat} (K : cb_K C w) (e : Nat) : ∀ n, cb_th C w e n ≤ 1200 := by
  intro n
  induction n with
  | zero => exact Nat.zero_le _
  | succ n ih =>
    have := K.2.2.2.2 n
    simp only [cb_th]
    split
    · split <;> assumption
    · exact ih
def cb_cv (C : Nat → Bool) : Nat → Nat
  | 0 => 0
  | x + 1 => if C x = true then cb_cv C x ||| x else cb_cv C x
theorem cb_cv_t {C : Nat → Bool} {x : Nat} (h : C x = true) : cb_cv C (x + 1) = cb_cv C x ||| x := if_pos h
theorem cb_cv_f {C : Nat → Bool} {x : Nat} (h : C x = false) : cb_cv C (x + 1) = cb_cv C x := if_neg (by rw [h]; decide)
theorem cb_cv_lt (C : Nat → Bool) : ∀ n, n ≤ 4096 → cb_cv C n < 4096 := by
  intro n
  induction n with
  | zero => intro _; exact (by decide : 0 < 4096)
  | succ n ih =>
    intro h
    cases g : C n with
    | true => rw [cb_cv_t g]; exact Nat.or_lt_two_pow (n := 12) (ih (by omega)) (show n < 2 ^ 12 by omega)
    | false => rw [cb_cv_f g]; exact ih (by omega)
theorem cb_cv_th {C : Nat → Bool} {w : Nat → Nat} (K : cb_K C w) (e : Nat) : ∀ n, (cb_cv C n).testBit e = true ↔ cb_th C w e n ≠ 0 := by
  intro n
  induction n with
  | zero => simp [cb_cv, cb_th]
  | succ n ih =>
    cases g : C n with
    | false => rw [cb_cv_f g, cb_th_n (by rw [g]; exact fun z => absurd z.1 (by decide))]; exact ih
    | true =>
      rw [cb_cv_t g, Nat.testBit_or]
      cases b : n.testBit e with
      | false => rw [cb_th_n (by rw [b]; exact fun z => absurd z.2 (by decide)), Bool.or_false]; exact ih
      | true =>
        rw [Bool.or_true]
        refine ⟨fun _ => ?_, fun _ => rfl⟩
        have n0 : n ≠ 0 := by intro z; rw [z, Nat.zero_testBit] at b; exact absurd b (by decide)
        have := K.2.2.2.1 n g n0
        by_cases q : cb_th C w e n = 0 ∨ w n < cb_th C w e n
        · rw [cb_th_a g b q]; omega
        · rw [cb_th_b (fun z => q (Or.inl z)) (fun z => q (Or.inr z))]; exact fun z => q (Or.inl z)
def cb_lv (s : Nat → Bool) (g : Nat → Nat) : Nat → Nat → Nat → Nat
  | 0, _, l => l
  | d + 1, k, l => if s k = true then l else cb_lv s g d (k + 1) (g k)
theorem cb_lv_t {s : Nat → Bool} {g : Nat → Nat} {d k l : Nat} (h : s k = true) : cb_lv s g (d + 1) k l = l := if_pos h
theorem cb_lv_f {s : Nat → Bool} {g : Nat → Nat} {d k l : Nat} (h : s k = false) : cb_lv s g (d + 1) k l = cb_lv s g d (k + 1) (g k) := if_neg (by rw [h]; decide)
def cb_pv (g : Nat → Nat) : Nat → Nat
  | 0 => 0
  | k + 1 => g k
def cb_br (cv : Nat) (n : Nat) : Nat := cb_su (fun e => if cv.testBit e = true then 0 else 1) n
theorem cb_br_t {cv e : Nat} (h : cv.testBit e = true) : cb_br cv (e + 1) = cb_br cv e := by
  show cb_br cv e + (if cv.testBit e = true then 0 else 1) = _
  rw [if_pos h]; rfl
theorem cb_br_f {cv e : Nat} (h : cv.testBit e = false) : cb_br cv (e + 1) = cb_br cv e + 1 := by
  show cb_br cv e + (if cv.testBit e = true then 0 else 1) = _
  rw [if_neg (by rw [h]; decide)]
theorem cb_rk_0 {C : Nat → Bool} {w : Nat → Nat} {k : Nat} (h : cb_t C w k = 0) : cb_rk C w (k + 1) = cb_rk C w k := by
  show cb_rk C w k + (if cb_t C w k = 0 then 0 else 1) = _
  rw [if_pos h]; rfl
theorem cb_rk_1 {C : Nat → Bool} {w : Nat → Nat} {k : Nat} (h : ¬ cb_t C w k = 0) : cb_rk C w (k + 1) = cb_rk C w k + 1 := by
  show cb_rk C w k + (if cb_t C w k = 0 then 0 else 1) = _
  rw [if_neg h]
/-! the class's public questions -/
section
variable {c : Nat} {en wt : Nat → Nat} {ends ws : Nat → Int32}
theorem xm_total_l (H : xc_ok c en wt ends ws) {cs : Nat → Int32} (hG : xc_G (cb_C en c) cs) (post : Int32 → SX → Prop)
    (hp : ∀ rows', post (nI (cb_su (cb_g (cb_C en c) (fun x => cb_w wt x c)) 12)) (nI c, nI (cb_n (cb_C en c) 4096), ends, ws, cs, rows')) :
    ∀ d k n rows, k + d = 12 → d < n → xc_I rows (cb_S (cb_C en c) (fun x => cb_w wt x c) k) → wX_total_8 post n (nI (cb_su (cb_g (cb_C en c) (fun x => cb_w wt x c)) k)) (nI k) (nI c) (nI (cb_n (cb_C en c) 4096)) ends ws cs rows := by
  intro d
  induction d with
  | zero =>
    intro k n rows h hn hI
    obtain ⟨m, rfl⟩ := xc_suc hn
    obtain rfl : k = 12 := by omega
    exact br_t (by decide) (hp rows)
  | succ d ih =>
    intro k n rows h hn hI
    obtain ⟨m, rfl⟩ := xc_suc hn
    refine br_f (nI_ge (b := 12) (by omega) (by decide)) (xc_grow H hG hI (fun rows' hI' => ?_))
    exact nm_r (nI_add _ _) (nm_r (nI_1 k) (ih (k + 1) m rows' (by omega) (by omega) hI'))
theorem xm_total (H : xc_ok c en wt ends ws) {cc : Int32} {cs rows : Nat → Int32} {post : Int32 → SX → Prop} (hp : ∀ cc' cs' rows', post (nI (cb_su (cb_g (cb_C en c) (fun x => cb_w wt x c)) 12)) (nI c, cc', ends, ws, cs', rows')) : wpX_total post (nI c, cc, ends, ws, cs, rows) :=
  xc_start H (fun cs' rows' hG hI => ⟨13, xm_total_l H hG post (fun rows' => hp _ _ _) 12 0 13 rows' (by omega) (by omega) hI⟩)
theorem xm_rank_l (H : xc_ok c en wt ends ws) {cs : Nat → Int32} (hG : xc_G (cb_C en c) cs) (post : Int32 → SX → Prop)
    (hp : ∀ rows', post (nI (cb_rk (cb_C en c) (fun x => cb_w wt x c) 12)) (nI c, nI (cb_n (cb_C en c) 4096), ends, ws, cs, rows')) :
    ∀ d k n rows, k + d = 12 → d < n → xc_I rows (cb_S (cb_C en c) (fun x => cb_w wt x c) k) → wX_rank_8 post n (nI (cb_rk (cb_C en c) (fun x => cb_w wt x c) k)) (nI k) (nI c) (nI (cb_n (cb_C en c) 4096)) ends ws cs rows := by
  have K := xc_K H
  intro d
  induction d with
  | zero =>
    intro k n rows h hn hI
    obtain ⟨m, rfl⟩ := xc_suc hn
    obtain rfl : k = 12 := by omega
    exact br_t (by decide) (hp rows)
  | succ d ih =>
    intro k n rows h hn hI
    obtain ⟨m, rfl⟩ := xc_suc hn
    refine br_f (nI_ge (b := 12) (by omega) (by decide)) (xc_grow H hG hI (fun rows' hI' => ?_))
    have i := ih (k + 1) m rows' (by omega) (by omega) hI'
    have hb := cb_g_le K k
    refine pk_le (cb_g (cb_C en c) (fun x => cb_w wt x c) k) 0 (fun z => ?_) (fun z => ?_) rfl rfl (by omega) (by omega)
    · have z0 := (cb_g_0 K k).mp (by omega)
      rw [cb_rk_0 z0] at i
      exact nm_r (nI_1 k) i
    · have z0 : ¬ cb_t (cb_C en c) (fun x => cb_w wt x c) k = 0 := fun q => by have := (cb_g_0 K k).mpr q; omega
      rw [cb_rk_1 z0] at i
      exact nm_r (nI_1 _) (nm_r (nI_1 k) i)
theorem xm_rank (H : xc_ok c en wt ends ws) {cc : Int32} {cs rows : Nat → Int32} {post : Int32 → SX → Prop} (hp : ∀ cc' cs' rows', post (nI (cb_rk (cb_C en c) (fun x => cb_w wt x c) 12)) (nI c, cc', ends, ws, cs', rows')) : wpX_rank post (nI c, cc, ends, ws, cs, rows) :=
  xc_start H (fun cs' rows' hG hI => ⟨13, xm_rank_l H hG post (fun rows' => hp _ _ _) 12 0 13 rows' (by omega) (by omega) hI⟩)
theorem xm_part_l (H : xc_ok c en wt ends ws) {cs : Nat → Int32} (hG : xc_G (cb_C en c) cs) {i : Nat} (hi : i < 12) (post : Int32 → SX → Prop)
    (hp : ∀ rows', post (if cb_g (cb_C en c) (fun x => cb_w wt x c) i = 0 then -5 else nI (cb_g (cb_C en c) (fun x => cb_w wt x c) i)) (nI c, nI (cb_n (cb_C en c) 4096), ends, ws, cs, rows')) :
    ∀ d k n rows, k + d = i + 1 → d < n → xc_I rows (cb_S (cb_C en c) (fun x => cb_w wt x c) k) → wX_part_21 post (nI i) n (nI (cb_pv (cb_g (cb_C en c) (fun x => cb_w wt x c)) k)) (nI k) (nI c) (nI (cb_n (cb_C en c) 4096)) ends ws cs rows := by
  have K := xc_K H
  intro d
  induction d with
  | zero =>
    intro k n rows h hn hI
    obtain ⟨m, rfl⟩ := xc_suc hn
    obtain rfl : k = i + 1 := by omega
    have hb := cb_g_le K i
    have hp' := hp rows
    refine br_t (nI_lt (by omega) (by omega)) (pk_le (cb_g (cb_C en c) (fun x => cb_w wt x c) i) 0 (fun z => ?_) (fun z => ?_) rfl rfl (by omega) (by omega))
    · rw [if_pos (by omega)] at hp'; exact hp'
    · rw [if_neg (by omega)] at hp'; exact hp'
  | succ d ih =>
    intro k n rows h hn hI
    obtain ⟨m, rfl⟩ := xc_suc hn
    refine br_f (nI_nlt (by omega) (by omega)) (xc_grow H hG hI (fun rows' hI' => ?_))
    exact nm_r (nI_1 k) (ih (k + 1) m rows' (by omega) (by omega) hI')
theorem xm_part (H : xc_ok c en wt ends ws) {cc : Int32} {cs rows : Nat → Int32} {i : Nat} (hi : i < 12) {post : Int32 → SX → Prop} (hp : ∀ cc' cs' rows', post (if cb_g (cb_C en c) (fun x => cb_w wt x c) i = 0 then -5 else nI (cb_g (cb_C en c) (fun x => cb_w wt x c) i)) (nI c, cc', ends, ws, cs', rows')) : wpX_part post (nI c, cc, ends, ws, cs, rows) (nI i) :=
  br_f (nI_pos (by omega)) (br_t (nI_lt (b := 12) hi (by decide)) (xc_start H (fun cs' rows' hG hI => ⟨14, xm_part_l H hG hi post (fun rows' => hp _ _ _) (i + 1) 0 14 rows' (by omega) (by omega) hI⟩)))
theorem xm_part_o {cc f : Int32} {cs rows : Nat → Int32} {v : Int32} (hv : v < 0 ∨ nI 12 ≤ v) {post : Int32 → SX → Prop} (hp : post (-5) (f, cc, ends, ws, cs, rows)) : wpX_part post (f, cc, ends, ws, cs, rows) v := by
  by_cases h : v < 0
  · exact br_t h hp
  · exact br_f h (br_f (Int32.not_lt.mpr (hv.resolve_left h)) hp)
theorem xm_only_t {s : Nat} (hc : c ≤ 12) (hs : s < 2 ^ c) {cc : Int32} {cs rows : Nat → Int32} {post : Int32 → Prop} (hp : post 1) : wpX_hasOnlyEdges post (nI c, cc, ends, ws, cs, rows) (nI s) :=
  br_t ((cb_ush hc (nI s)).mpr ⟨s, hs, rfl⟩) hp
theorem xm_only {v : Int32} (hc : c ≤ 12) {cc : Int32} {cs rows : Nat → Int32} {post : Int32 → Prop} (h1 : ∀ s, s < 2 ^ c → v = nI s → post 1) (h0 : post 0) : wpX_hasOnlyEdges post (nI c, cc, ends, ws, cs, rows) v :=
  br_c (fun h => by obtain ⟨s, hs, e⟩ := (cb_ush hc v).mp h; exact h1 s hs e) (fun _ => h0)
theorem xm_C {s : Nat} (h : cb_C en c s = true) : cb_od en s c = 0 := by
  simp [cb_C] at h; exact h.2
theorem xm_closed_t (H : xc_ok c en wt ends ws) {s : Nat} (h : cb_C en c s = true) {cc : Int32} {cs rows : Nat → Int32} {post : Int32 → Prop} (hp : post 1) : wpX_closed post (nI c, cc, ends, ws, cs, rows) (nI s) := by
  have hs := cb_C_lt h
  have hq := cb_pow H.1
  unfold wpX_closed
  refine xm_only_t H.1 hs ?_
  refine br_f (by decide) ?_
  refine xc_isClosed H (by omega) ?_
  rw [if_pos (xm_C h)]
  exact br_f (by decide) hp
theorem xm_closed_f (H : xc_ok c en wt ends ws) {v : Int32} (h : ¬ ∃ s, v = nI s ∧ cb_C en c s = true) {cc : Int32} {cs rows : Nat → Int32} {post : Int32 → Prop} (hp : post 0) : wpX_closed post (nI c, cc, ends, ws, cs, rows) v := by
  have hq := cb_pow H.1
  unfold wpX_closed
  refine xm_only H.1 (fun s hs e => ?_) ?_
  rotate_left
  · exact br_t rfl hp
  refine br_f (by decide) ?_
  subst e
  refine xc_isClosed H (by omega) ?_
  rw [if_neg (fun z => h ⟨s, rfl, by simp [cb_C, z]; omega⟩)]
  exact br_t rfl hp
theorem xm_level_l (H : xc_ok c en wt ends ws) {cs : Nat → Int32} (hG : xc_G (cb_C en c) cs) {s : Nat} (hs : s < 4096) (post : Int32 → SX → Prop) :
    ∀ d k l n rows, k + d = 12 → d < n → xc_I rows (cb_S (cb_C en c) (fun x => cb_w wt x c) k) → (∀ rows', post (nI (cb_lv (fun k => cb_S (cb_C en c) (fun x => cb_w wt x c) k s) (cb_g (cb_C en c) (fun x => cb_w wt x c)) d k l)) (nI c, nI (cb_n (cb_C en c) 4096), ends, ws, cs, rows')) → wX_level_27 post (nI s) n (nI l) (nI k) (nI c) (nI (cb_n (cb_C en c) 4096)) ends ws cs rows := by
  intro d
  induction d with
  | zero =>
    intro k l n rows h hn hI hp
    obtain ⟨m, rfl⟩ := xc_suc hn
    obtain rfl : k = 12 := by omega
    exact br_t (by decide) (hp rows)
  | succ d ih =>
    intro k l n rows h hn hI hp
    obtain ⟨m, rfl⟩ := xc_suc hn
    refine br_f (nI_ge (b := 12) (by omega) (by decide)) (xc_rem hI hs (fun z => ?_) (fun z y hy => ?_))
    · have hp' := hp rows
      rw [cb_lv_t (s := fun k => cb_S (cb_C en c) (fun x => cb_w wt x c) k s) z] at hp'
      exact br_t rfl hp'
    · refine br_f hy (xc_grow H hG hI (fun rows' hI' => nm_r (nI_1 k) (ih (k + 1) _ m rows' (by omega) (by omega) hI' (fun rows2 => ?_))))
      have hp' := hp rows2
      rw [cb_lv_f (s := fun k => cb_S (cb_C en c) (fun x => cb_w wt x c) k s) z] at hp'
      exact hp'
theorem xm_level_t (H : xc_ok c en wt ends ws) {s : Nat} (h : cb_C en c s = true) {cc : Int32} {cs rows : Nat → Int32} {post : Int32 → SX → Prop} (hp : ∀ cc' cs' rows', post (nI (cb_lv (fun k => cb_S (cb_C en c) (fun x => cb_w wt x c) k s) (cb_g (cb_C en c) (fun x => cb_w wt x c)) 12 0 0)) (nI c, cc', ends, ws, cs', rows')) : wpX_level post (nI c, cc, ends, ws, cs, rows) (nI s) := by
  have hs := cb_C_lt h
  have hq := cb_pow H.1
  unfold wpX_level
  refine xm_only_t H.1 hs ?_
  refine br_f (by decide) ?_
  refine xc_isClosed H (by omega) ?_
  rw [if_pos (xm_C h)]
  exact br_f (by decide) (xc_start H (fun cs' rows' hG hI => ⟨13, xm_level_l H hG (by omega) post 12 0 0 13 rows' (by omega) (by omega) hI (fun rows' => hp _ _ _)⟩))
theorem xm_level_f (H : xc_ok c en wt ends ws) {v : Int32} (h : ¬ ∃ s, v = nI s ∧ cb_C en c s = true) {cc : Int32} {cs rows : Nat → Int32} {post : Int32 → SX → Prop} (hp : post (-5) (nI c, cc, ends, ws, cs, rows)) : wpX_level post (nI c, cc, ends, ws, cs, rows) v := by
  have hq := cb_pow H.1
  unfold wpX_level
  refine xm_only H.1 (fun s hs e => ?_) ?_
  rotate_left
  · exact br_t rfl hp
  refine br_f (by decide) ?_
  subst e
  refine xc_isClosed H (by omega) ?_
  rw [if_neg (fun z => h ⟨s, rfl, by simp [cb_C, z]; omega⟩)]
  exact br_t rfl hp
theorem xm_isEdge_t {e : Nat} (hc : c ≤ 12) (he : e < c) {cc : Int32} {cs rows : Nat → Int32} {post : Int32 → Prop} (hp : post 1) : wpX_isEdge post (nI c, cc, ends, ws, cs, rows) (nI e) :=
  br_f (nI_pos (by omega)) (br_f (nI_ge he (by omega)) hp)
theorem xm_isEdge_f {f v : Int32} (hv : v < 0 ∨ f ≤ v) {cc : Int32} {cs rows : Nat → Int32} {post : Int32 → Prop} (hp : post 0) : wpX_isEdge post (f, cc, ends, ws, cs, rows) v := by
  by_cases h : v < 0
  · exact br_t h hp
  · exact br_f h (br_t (hv.resolve_left h) hp)
theorem xm_through_l (H : xc_ok c en wt ends ws) {cs rows : Nat → Int32} (hG : xc_G (cb_C en c) cs) {e : Nat} (he : e < 12) (post : Int32 → SX → Prop)
    (hp : post (if cb_th (cb_C en c) (fun x => cb_w wt x c) e 4096 = 0 then -5 else nI (cb_th (cb_C en c) (fun x => cb_w wt x c) e 4096)) (nI c, nI (cb_n (cb_C en c) 4096), ends, ws, cs, rows)) :
    ∀ d x n, x + d = 4096 → d < n → wX_through_19 post (nI e) (nI c) (nI (cb_n (cb_C en c) 4096)) ends ws cs rows n (nI (cb_th (cb_C en c) (fun x => cb_w wt x c) e x)) (nI (cb_n (cb_C en c) x)) := by
  have K := xc_K H
  have hN := cb_n_le (cb_C en c) 4096
  intro d
  induction d with
  | zero =>
    intro x n h hn
    obtain ⟨m, rfl⟩ := xc_suc hn
    obtain rfl : x = 4096 := by omega
    have hb := cb_th_le K e 4096
    refine br_t (nI_le (Nat.le_refl _) (by omega)) (pk_le (cb_th (cb_C en c) (fun x => cb_w wt x c) e 4096) 0 (fun z => ?_) (fun z => ?_) rfl rfl (by omega) (by omega))
    · rw [if_pos (by omega)] at hp; exact hp
    · rw [if_neg (by omega)] at hp; exact hp
  | succ d ih =>
    intro x n h hn
    by_cases hC : cb_C en c x = true ∧ x ≠ 0
    · obtain ⟨m, rfl⟩ := xc_suc hn
      have i := ih (x + 1) m (by omega) (by omega)
      have hlt := cb_n_lt hC.1 hC.2 (show x < 4096 by omega)
      rw [cb_n_t hC.1 hC.2] at i
      refine br_f (nI_ge hlt (by omega)) ⟨vp_in_nI (by omega) (by omega), nm_r (e' := nI x) (by rw [nI_clamp (by omega)]; exact hG x (by omega) hC.1 hC.2) ?_⟩
      refine xc_has (by omega) (by omega) (fun hs => ?_) (fun hs => ?_)
      · refine br_f (by decide) (xc_weightOf H (by omega) ?_)
        have hb := K.2.2.2.2 x
        have hb2 := cb_th_le K e x
        dsimp only at hb
        refine pk_eq (cb_th (cb_C en c) (fun x => cb_w wt x c) e x) 0 (fun z => ?_) (fun z => ?_) rfl rfl (by omega) (by omega)
        · rw [cb_th_a hC.1 hs (Or.inl z)] at i
          exact nm_r (nI_1 _) i
        · refine pk_le (cb_th (cb_C en c) (fun x => cb_w wt x c) e x) (cb_w wt x c) (fun g => ?_) (fun g => ?_) rfl rfl (by omega) (by omega)
          · rw [cb_th_b z (by omega)] at i
            exact nm_r (nI_1 _) i
          · rw [cb_th_a hC.1 hs (Or.inr g)] at i
            exact nm_r (nI_1 _) i
      · rw [cb_th_n (by rw [hs]; exact fun z => absurd z.2 (by decide))] at i
        exact br_t rfl (nm_r (nI_1 _) i)
    · have i := ih (x + 1) n (by omega) (by omega)
      have e1 : cb_C en c x = false ∨ x = 0 := by
        cases g : cb_C en c x with
        | false => exact Or.inl rfl
        | true => exact Or.inr (by by_cases z : x = 0; exact z; exact absurd ⟨g, z⟩ hC)
      have e2 : ¬ (cb_C en c x = true ∧ x.testBit e = true) := by
        rintro ⟨a, b⟩
        rcases e1 with g | g
        · rw [g] at a; exact absurd a (by decide)
        · rw [g, Nat.zero_testBit] at b; exact absurd b (by decide)
      rw [cb_n_f e1, cb_th_n e2] at i
      exact i
theorem xm_through_t (H : xc_ok c en wt ends ws) {e : Nat} (he : e < c) {cc : Int32} {cs rows : Nat → Int32} {post : Int32 → SX → Prop}
    (hp : ∀ cc' cs' rows', post (if cb_th (cb_C en c) (fun x => cb_w wt x c) e 4096 = 0 then -5 else nI (cb_th (cb_C en c) (fun x => cb_w wt x c) e 4096)) (nI c, cc', ends, ws, cs', rows')) : wpX_through post (nI c, cc, ends, ws, cs, rows) (nI e) := by
  have hc := H.1
  unfold wpX_through
  refine xm_isEdge_t H.1 he ?_
  refine br_f (by decide) ?_
  exact xc_gather H (fun cs' hG => ⟨4097, xm_through_l H hG (by omega) post (hp _ _ _) 4096 0 4097 (by omega) (by omega)⟩)
theorem xm_through_f {f v : Int32} (hv : v < 0 ∨ f ≤ v) {cc : Int32} {cs rows : Nat → Int32} {post : Int32 → SX → Prop} (hp : post (-4) (f, cc, ends, ws, cs, rows)) : wpX_through post (f, cc, ends, ws, cs, rows) v := by
  unfold wpX_through
  refine xm_isEdge_f hv ?_
  exact br_t rfl hp
theorem xm_bridges_2 (hc : c ≤ 12) {cv : Nat} (hv : cv < 4096) {cc : Int32} {cs rows : Nat → Int32} (post : Int32 → SX → Prop) (hp : post (nI (cb_br cv c)) (nI c, cc, ends, ws, cs, rows)) :
    ∀ d e n, e + d = c → d < n → wX_bridges_35 post (nI cv) (nI c) cc ends ws cs rows n (nI (cb_br cv e)) (nI e) := by
  intro d
  induction d with
  | zero =>
    intro e n h hn
    obtain ⟨m, rfl⟩ := xc_suc hn
    obtain rfl : e = c := by omega
    exact br_t (nI_le (Nat.le_refl _) (by omega)) hp
  | succ d ih =>
    intro e n h hn
    obtain ⟨m, rfl⟩ := xc_suc hn
    have i := ih (e + 1) m (by omega) (by omega)
    refine br_f (nI_ge (by omega) (by omega)) (xc_has (by omega) (by omega) (fun ht => ?_) (fun hf => ?_))
    · rw [cb_br_t ht] at i
      exact br_f (by decide) (nm_r (nI_1 e) i)
    · rw [cb_br_f hf] at i
      exact br_t rfl (nm_r (nI_1 _) (nm_r (nI_1 e) i))
theorem xm_bridges_l (H : xc_ok c en wt ends ws) {cs rows : Nat → Int32} (hG : xc_G (cb_C en c) cs) (post : Int32 → SX → Prop)
    (hp : post (nI (cb_br (cb_cv (cb_C en c) 4096) c)) (nI c, nI (cb_n (cb_C en c) 4096), ends, ws, cs, rows)) :
    ∀ d x n, x + d = 4096 → d < n → wX_bridges_8 post (nI c) (nI (cb_n (cb_C en c) 4096)) ends ws cs rows n (nI (cb_cv (cb_C en c) x)) (nI (cb_n (cb_C en c) x)) := by
  have hN := cb_n_le (cb_C en c) 4096
  have hc := H.1
  intro d
  induction d with
  | zero =>
    intro x n h hn
    obtain ⟨m, rfl⟩ := xc_suc hn
    obtain rfl : x = 4096 := by omega
    exact br_t (nI_le (Nat.le_refl _) (by omega)) ⟨13, xm_bridges_2 hc (cb_cv_lt _ 4096 (by omega)) post hp c 0 13 (by omega) (by omega)⟩
  | succ d ih =>
    intro x n h hn
    by_cases hC : cb_C en c x = true ∧ x ≠ 0
    · obtain ⟨m, rfl⟩ := xc_suc hn
      have i := ih (x + 1) m (by omega) (by omega)
      have hlt := cb_n_lt hC.1 hC.2 (show x < 4096 by omega)
      rw [cb_n_t hC.1 hC.2, cb_cv_t hC.1] at i
      refine br_f (nI_ge hlt (by omega)) ⟨vp_in_nI (by omega) (by omega), nm_r (e' := nI (cb_cv (cb_C en c) x ||| x)) ?_ (nm_r (nI_1 _) i)⟩
      rw [nI_clamp (by omega), hG x (by omega) hC.1 hC.2, cb_or]
    · have i := ih (x + 1) n (by omega) (by omega)
      cases g : cb_C en c x with
      | false => rw [cb_n_f (Or.inl g), cb_cv_f g] at i; exact i
      | true =>
        have z : x = 0 := by by_cases z : x = 0; exact z; exact absurd ⟨g, z⟩ hC
        rw [cb_n_f (Or.inr z), cb_cv_t g] at i
        rw [z] at i ⊢
        rw [Nat.or_zero] at i
        exact i
theorem xm_bridges (H : xc_ok c en wt ends ws) {cc : Int32} {cs rows : Nat → Int32} {post : Int32 → SX → Prop} (hp : ∀ cc' cs' rows', post (nI (cb_br (cb_cv (cb_C en c) 4096) c)) (nI c, cc', ends, ws, cs', rows')) : wpX_bridges post (nI c, cc, ends, ws, cs, rows) :=
  xc_gather H (fun cs' hG => ⟨4097, xm_bridges_l H hG post (hp _ _ _) 4096 0 4097 (by omega) (by omega)⟩)
end
end
section
/-! the reference's own walks, each against the pure picture -/
def yc_ok (c : Nat) (U V wt : Nat → Nat) (us vs ws : Nat → Int32) : Prop := c ≤ 12 ∧ ∀ e, e < c → U e < 7 ∧ V e < 7 ∧ U e ≠ V e ∧ 1 ≤ wt e ∧ wt e ≤ 100 ∧ us e = nI (U e) ∧ vs e = nI (V e) ∧ ws e = nI (wt e)
def yc_val (C : Nat → Bool) (w : Nat → Nat) (x : Nat) : Int32 := if C x = true then nI (w x) else -1
def yc_T (C : Nat → Bool) (w : Nat → Nat) (cw : Nat → Int32) : Prop := ∀ x, x < 4096 → cw x = yc_val C w x
theorem yc_val_t {C : Nat → Bool} {w : Nat → Nat} {x : Nat} (h : C x = true) : yc_val C w x = nI (w x) := if_pos h
theorem yc_val_f {C : Nat → Bool} {w : Nat → Nat} {x : Nat} (h : C x = false) : yc_val C w x = -1 := if_neg (by rw [h]; decide)
theorem yc_neg {C : Nat → Bool} {w : Nat → Nat} (K : cb_K C w) {cw : Nat → Int32} (hT : yc_T C w cw) {x : Nat} (hx : x < 4096) {A B : Prop} (f : C x = false → A) (g : C x = true → cw x = nI (w x) → B) : (cw (nI x).toNatClampNeg < 0 → A) ∧ (¬ cw (nI x).toNatClampNeg < 0 → B) := by
  rw [nI_clamp (by omega), hT x hx]
  have := K.2.2.2.2 x
  cases h : C x with
  | true => rw [yc_val_t h]; exact br_f (nI_pos (by omega)) (g h (by rw [hT x hx, yc_val_t h]))
  | false => rw [yc_val_f h]; exact br_t (by decide) (f h)
section
variable {c : Nat} {U V wt : Nat → Nat} {us vs ws : Nat → Int32}
theorem yc_K (H : yc_ok c U V wt us vs ws) : cb_K (cb_C (cb_en U V) c) (fun x => cb_w wt x c) := by
  refine ⟨cb_C_0 _ c, fun x y => cb_C_xor, fun x h => Nat.lt_of_lt_of_le (cb_C_lt h) (cb_pow H.1), fun x h g => cb_w_pos c (fun e he => (H.2 e he).2.2.2.1) (cb_C_lt h) g, fun x => ?_⟩
  have := cb_w_le (wt := wt) (s := x) c (fun e he => (H.2 e he).2.2.2.2.1)
  have := H.1
  show cb_w wt x c ≤ 1200
  omega
theorem yc_dg_le {s v : Nat} : ∀ c, cb_dg U V s v c ≤ c := by
  intro c
  induction c with
  | zero => exact Nat.le_refl _
  | succ c ih => simp only [cb_dg]; split <;> omega
theorem yc_degree_l (H : yc_ok c U V wt us vs ws) {s v : Nat} (hs : s < 4096) (hv : v < 7) (post : Int32 → Prop) (sums cw : Nat → Int32) (hp : post (nI (cb_dg U V s v c))) :
    ∀ d e n, e + d = c → d < n → wY_degree_5 post (nI s) (nI v) (nI c) us vs ws sums cw n (nI (cb_dg U V s v e)) (nI e) := by
  have hc := H.1
  intro d
  induction d with
  | zero =>
    intro e n h hn
    obtain ⟨m, rfl⟩ := xc_suc hn
    obtain rfl : e = c := by omega
    exact br_t (nI_le (Nat.le_refl _) (by omega)) hp
  | succ d ih =>
    intro e n h hn
    obtain ⟨m, rfl⟩ := xc_suc hn
    have i := ih (e + 1) m (by omega) (by omega)
    obtain ⟨h1, h2, h3, h4, h5, h6, h7, h8⟩ := H.2 e (by omega)
    refine br_f (nI_ge (by omega) (by omega)) ?_
    cases b : s.testBit e with
    | false =>
      rw [cb_dg_f b] at i
      exact br_t ((cb_bit0 (by omega) (by omega)).mpr b) (nm_r (nI_1 e) i)
    | true =>
      refine br_f (fun z => by rw [cb_bit0 (by omega) (by omega), b] at z; exact absurd z (by decide)) ⟨vp_in_nI (by omega) (by omega), ?_⟩
      rw [nI_clamp (by omega), h6]
      refine pk_eq (U e) v (fun g => ?_) (fun g => ?_) rfl rfl (by omega) (by omega)
      · rw [cb_dg_t b (Or.inl g)] at i
        exact nm_r (nI_1 _) (nm_r (nI_1 e) i)
      · refine ⟨vp_in_nI (by omega) (by omega), ?_⟩
        rw [h7]
        refine pk_eq (V e) v (fun g2 => ?_) (fun g2 => ?_) rfl rfl (by omega) (by omega)
        · rw [cb_dg_t b (Or.inr g2)] at i
          exact nm_r (nI_1 _) (nm_r (nI_1 e) i)
        · rw [cb_dg_n g g2] at i
          exact nm_r (nI_1 e) i
theorem yc_degree (H : yc_ok c U V wt us vs ws) {s v : Nat} (hs : s < 4096) (hv : v < 7) {post : Int32 → Prop} {sums cw : Nat → Int32} (hp : post (nI (cb_dg U V s v c))) : wpY_degree post (nI c, us, vs, ws, sums, cw) (nI s) (nI v) :=
  ⟨c + 1, yc_degree_l H hs hv post sums cw hp c 0 (c + 1) (by omega) (by omega)⟩
theorem yc_even_l (H : yc_ok c U V wt us vs ws) {s : Nat} (hs : s < 4096) (post : Int32 → Prop) (sums cw : Nat → Int32) (hp : post (if cb_od (cb_en U V) s c = 0 then 1 else 0)) :
    ∀ d v n, v + d = 7 → d < n → (∀ j, j < v → cb_dg U V s j c % 2 = 0) → wY_even_2 post (nI s) (nI c) us vs ws sums cw n (nI v) := by
  have hc := H.1
  have hE := cb_od_even (s := s) (fun e he => ⟨(H.2 e he).1, (H.2 e he).2.1, (H.2 e he).2.2.1⟩)
  intro d
  induction d with
  | zero =>
    intro v n h hn hi
    obtain ⟨m, rfl⟩ := xc_suc hn
    obtain rfl : v = 7 := by omega
    rw [if_pos (hE.mpr hi)] at hp
    exact br_t (by decide) hp
  | succ d ih =>
    intro v n h hn hi
    obtain ⟨m, rfl⟩ := xc_suc hn
    have hl := yc_dg_le (U := U) (V := V) (s := s) (v := v) c
    refine br_f (nI_ge (b := 7) (by omega) (by decide)) ?_
    refine yc_degree H hs (by omega) ⟨by decide, ?_⟩
    refine pk_eq (cb_dg U V s v c % 2) 0 (fun z => ?_) (fun z => ?_) (pk_rem (d := 2) (by omega) (by omega) (by omega)) rfl (by omega) (by omega)
    · refine nm_r (nI_1 v) (ih (v + 1) m (by omega) (by omega) (fun j hj => ?_))
      by_cases e : j = v
      · rw [e]; exact z
      · exact hi j (by omega)
    · rw [if_neg (fun q => z (hE.mp q v (by omega)))] at hp
      exact hp
theorem yc_even (H : yc_ok c U V wt us vs ws) {s : Nat} (hs : s < 4096) {post : Int32 → Prop} {sums cw : Nat → Int32} (hp : post (if cb_od (cb_en U V) s c = 0 then 1 else 0)) : wpY_even post (nI c, us, vs, ws, sums, cw) (nI s) :=
  ⟨8, yc_even_l H hs post sums cw hp 7 0 8 (by omega) (by omega) (fun j hj => absurd hj (by omega))⟩
theorem yc_refresh_i (H : yc_ok c U V wt us vs ws) {s : Nat} (hs : s < 4096) (post : SY → Prop) (J : Int32 → (Nat → Int32) → (Nat → Int32) → (Nat → Int32) → (Nat → Int32) → (Nat → Int32) → Prop) (sums cw : Nat → Int32) (hp : J (nI (s + 1)) us vs ws sums (upd cw s (yc_val (cb_C (cb_en U V) c) (fun x => cb_w wt x c) s))) :
    ∀ d e n, e + d = c → d < n → wY_refresh_13 post J (nI s) (nI c) us vs ws sums cw n (nI (cb_w wt s e)) (nI e) := by
  have hc := H.1
  have hq := cb_pow hc
  intro d
  induction d with
  | zero =>
    intro e n h hn
    obtain ⟨m, rfl⟩ := xc_suc hn
    obtain rfl : e = c := by omega
    refine br_t (nI_le (Nat.le_refl _) (by omega)) ?_
    refine pk_le (2 ^ e) s (fun g => ?_) (fun g => ?_) (cb_shl (by omega)) rfl (by omega) (by omega)
    · rw [yc_val_f (by simp [cb_C]; omega)] at hp
      exact ⟨vp_in_nI (by omega) (by omega), nm_r (by rw [nI_clamp (by omega)]) (nm_r (nI_1 s) hp)⟩
    · refine yc_even H hs ?_
      by_cases z : cb_od (cb_en U V) s e = 0
      · rw [if_pos z]
        rw [yc_val_t (by simp [cb_C, z]; omega)] at hp
        exact br_f (by decide) ⟨vp_in_nI (by omega) (by omega), nm_r (by rw [nI_clamp (by omega)]) (nm_r (nI_1 s) hp)⟩
      · rw [if_neg z]
        rw [yc_val_f (by simp [cb_C, z])] at hp
        exact br_t rfl ⟨vp_in_nI (by omega) (by omega), nm_r (by rw [nI_clamp (by omega)]) (nm_r (nI_1 s) hp)⟩
  | succ d ih =>
    intro e n h hn
    obtain ⟨m, rfl⟩ := xc_suc hn
    have i := ih (e + 1) m (by omega) (by omega)
    obtain ⟨h1, h2, h3, h4, h5, h6, h7, h8⟩ := H.2 e (by omega)
    refine br_f (nI_ge (by omega) (by omega)) ?_
    cases b : s.testBit e with
    | false =>
      rw [cb_w_f b] at i
      exact br_t ((cb_bit0 (by omega) (by omega)).mpr b) (nm_r (nI_1 e) i)
    | true =>
      rw [cb_w_t b] at i
      refine br_f (fun z => by rw [cb_bit0 (by omega) (by omega), b] at z; exact absurd z (by decide)) ⟨vp_in_nI (by omega) (by omega), nm_r (e' := nI (cb_w wt s e + wt e)) ?_ (nm_r (nI_1 e) i)⟩
      rw [nI_clamp (by omega), h8, nI_add]
theorem yc_refresh_l (H : yc_ok c U V wt us vs ws) (post : SY → Prop) (sums : Nat → Int32) (hp : ∀ cw', yc_T (cb_C (cb_en U V) c) (fun x => cb_w wt x c) cw' → post (nI c, us, vs, ws, sums, cw')) :
    ∀ d s n cw, s + d = 4096 → d < n → (∀ y, y < s → cw y = yc_val (cb_C (cb_en U V) c) (fun x => cb_w wt x c) y) → wY_refresh_2 post (nI c) n (nI s) us vs ws sums cw := by
  have hc := H.1
  intro d
  induction d with
  | zero =>
    intro s n cw h hn hi
    obtain ⟨m, rfl⟩ := xc_suc hn
    obtain rfl : s = 4096 := by omega
    exact br_t (by decide) (hp cw hi)
  | succ d ih =>
    intro s n cw h hn hi
    obtain ⟨m, rfl⟩ := xc_suc hn
    refine br_f (nI_ge (b := 4096) (by omega) (by decide)) ⟨c + 1, ?_⟩
    refine yc_refresh_i H (by omega) post _ sums cw (ih (s + 1) m _ (by omega) (by omega) (fun y hy => ?_)) c 0 (c + 1) (by omega) (by omega)
    by_cases e : y = s
    · rw [e]; exact pk_us
    · rw [pk_un e]; exact hi y (by omega)
theorem yc_refresh (H : yc_ok c U V wt us vs ws) {post : SY → Prop} {sums cw : Nat → Int32} (hp : ∀ cw', yc_T (cb_C (cb_en U V) c) (fun x => cb_w wt x c) cw' → post (nI c, us, vs, ws, sums, cw')) : wpY_refresh post (nI c, us, vs, ws, sums, cw) :=
  ⟨4097, yc_refresh_l H post sums hp 4096 0 4097 cw (by omega) (by omega) (fun y hy => absurd hy (by omega))⟩
end
/-! spans as tables -/
def yc_Q (sums : Nat → Int32) (S : Nat → Bool) : Prop := ∀ x, x < 4096 → (sums x = 0 ↔ S x = false)
theorem yc_b1 : vp_nar .boolean 1 = 1 := rfl
theorem yc_b0 : vp_nar .boolean 0 = 0 := rfl
theorem yc_forget_l {f : Int32} {us vs ws cw : Nat → Int32} (C : Nat → Bool) (w : Nat → Nat) (post : SY → Prop) (hp : ∀ sums', yc_Q sums' (cb_S C w 0) → post (f, us, vs, ws, sums', cw)) :
    ∀ d x n sums, x + d = 4096 → d < n → (∀ y, y < x → (sums y = 0 ↔ cb_S C w 0 y = false)) → wY_forget_2 post f n (nI x) us vs ws sums cw := by
  intro d
  induction d with
  | zero =>
    intro x n sums h hn hi
    obtain ⟨m, rfl⟩ := xc_suc hn
    obtain rfl : x = 4096 := by omega
    exact br_t (by decide) (hp sums hi)
  | succ d ih =>
    intro x n sums h hn hi
    obtain ⟨m, rfl⟩ := xc_suc hn
    refine br_f (nI_ge (b := 4096) (by omega) (by decide)) ?_
    refine pk_eq x 0 (fun z => ?_) (fun z => ?_) rfl rfl (by omega) (by omega)
    · refine ⟨vp_in_nI (by omega) (by omega), nm_r (e' := upd sums x 1) (by rw [nI_clamp (by omega), yc_b1]) (nm_r (nI_1 x) (ih (x + 1) m _ (by omega) (by omega) (fun y hy => ?_)))⟩
      by_cases e : y = x
      · rw [e, pk_us, z]; simp [cb_S]
      · rw [pk_un e]; exact hi y (by omega)
    · refine ⟨vp_in_nI (by omega) (by omega), nm_r (e' := upd sums x 0) (by rw [nI_clamp (by omega), yc_b0]) (nm_r (nI_1 x) (ih (x + 1) m _ (by omega) (by omega) (fun y hy => ?_)))⟩
      by_cases e : y = x
      · rw [e, pk_us]; simp [cb_S, z]
      · rw [pk_un e]; exact hi y (by omega)
theorem yc_forget {f : Int32} {us vs ws sums cw : Nat → Int32} (C : Nat → Bool) (w : Nat → Nat) {post : SY → Prop} (hp : ∀ sums', yc_Q sums' (cb_S C w 0) → post (f, us, vs, ws, sums', cw)) : wpY_forget post (f, us, vs, ws, sums, cw) :=
  ⟨4097, yc_forget_l C w post hp 4096 0 4097 sums (by omega) (by omega) (fun y hy => absurd hy (by omega))⟩
def yc_b (z : Nat) : Int32 := if z = 0 then -1 else nI z
theorem yc_b_0 {z : Nat} (h : z = 0) : yc_b z = -1 := if_pos h
theorem yc_b_n {z : Nat} (h : ¬ z = 0) : yc_b z = nI z := if_neg h
theorem yc_lightest_l {f : Int32} {us vs ws sums cw : Nat → Int32} {C S : Nat → Bool} {w : Nat → Nat} (K : cb_K C w) (hT : yc_T C w cw) (hQ : yc_Q sums S) (hS : S 0 = true) (post : Int32 → Prop) (hp : post (yc_b (cb_lt C S w 4096))) :
    ∀ d x n, x + d = 4096 → d < n → wY_lightest_4 post f us vs ws sums cw n (yc_b (cb_lt C S w x)) (nI x) := by
  intro d
  induction d with
  | zero =>
    intro x n h hn
    obtain ⟨m, rfl⟩ := xc_suc hn
    obtain rfl : x = 4096 := by omega
    exact br_t (by decide) hp
  | succ d ih =>
    intro x n h hn
    obtain ⟨m, rfl⟩ := xc_suc hn
    have i := ih (x + 1) m (by omega) (by omega)
    refine br_f (nI_ge (b := 4096) (by omega) (by decide)) ⟨vp_in_nI (by omega) (by omega), ?_⟩
    refine yc_neg K hT (by omega) (fun hC => ?_) (fun hC hw => ⟨vp_in_nI (by omega) (by omega), ?_⟩)
    · rw [cb_lt_n (Or.inl hC)] at i
      exact br_t rfl (nm_r (nI_1 x) i)
    · rw [nI_clamp (by omega)]
      have q := hQ x (by omega)
      cases hs : S x with
      | true =>
        rw [cb_lt_n (Or.inr hs)] at i
        exact br_f (fun z => by rw [q, hs] at z; exact absurd z (by decide)) (br_t rfl (nm_r (nI_1 x) i))
      | false =>
        refine br_t (q.mpr hs) (br_f (by decide) ?_)
        have x0 : x ≠ 0 := by intro z; rw [z, hS] at hs; exact absurd hs (by decide)
        by_cases z : cb_lt C S w x = 0
        · rw [cb_lt_a hC hs (Or.inl z), yc_b_n x0] at i
          rw [yc_b_0 z]
          exact br_t (by decide) (nm_r (nI_1 x) i)
        · obtain ⟨l1, l2, l3⟩ := (cb_lt_in C S w x).resolve_left z
          have hb := K.2.2.2.2 x
          have hb2 := K.2.2.2.2 (cb_lt C S w x)
          rw [yc_b_n z]
          refine br_f (nI_pos (by omega)) ⟨vp_in_nI (by omega) (by omega), vp_in_nI (by omega) (by omega), ?_⟩
          rw [nI_clamp (by omega), nI_clamp (by omega), hw, hT _ (by omega), yc_val_t l2]
          refine pk_le (w (cb_lt C S w x)) (w x) (fun g => ?_) (fun g => ?_) rfl rfl (by omega) (by omega)
          · rw [cb_lt_b z (by omega), yc_b_n z] at i
            exact nm_r (nI_1 x) i
          · rw [cb_lt_a hC hs (Or.inr g), yc_b_n x0] at i
            exact nm_r (nI_1 x) i
theorem yc_lightest {f : Int32} {us vs ws sums cw : Nat → Int32} {C S : Nat → Bool} {w : Nat → Nat} (K : cb_K C w) (hT : yc_T C w cw) (hQ : yc_Q sums S) (hS : S 0 = true) {post : Int32 → Prop} (hp : post (yc_b (cb_lt C S w 4096))) : wpY_lightest post (f, us, vs, ws, sums, cw) :=
  ⟨4097, yc_lightest_l K hT hQ hS post hp 4096 0 4097 (by omega) (by omega)⟩
def yc_P (S : Nat → Bool) (t i : Nat) (sums : Nat → Int32) : Prop := ∀ x, x < 4096 → (¬ sums x = 0 ↔ (S x = true ∨ (S (x ^^^ t) = true ∧ x ^^^ t < i)))
theorem yc_take_l {f : Int32} {us vs ws cw : Nat → Int32} {S : Nat → Bool} {t : Nat} (ht : t < 4096) (post : SY → Prop) (hp : ∀ sums', yc_Q sums' (fun x => S x || S (x ^^^ t)) → post (f, us, vs, ws, sums', cw)) :
    ∀ d i n sums, i + d = 4096 → d < n → yc_P S t i sums → wY_take_2 post (nI t) f n (nI i) us vs ws sums cw := by
  intro d
  induction d with
  | zero =>
    intro i n sums h hn hi
    obtain ⟨m, rfl⟩ := xc_suc hn
    obtain rfl : i = 4096 := by omega
    refine br_t (by decide) (hp sums (fun x hx => ?_))
    have q := hi x hx
    have hl := cb_xlt hx ht
    dsimp only
    by_cases z : sums x = 0
    · have q2 : ¬ (S x = true ∨ (S (x ^^^ t) = true ∧ x ^^^ t < 4096)) := fun r => q.mpr r z
      refine ⟨fun _ => ?_, fun _ => z⟩
      cases a : S x <;> cases b : S (x ^^^ t) <;> simp_all
    · have q2 := q.mp z
      refine ⟨fun y => absurd y z, fun y => ?_⟩
      rcases q2 with r | r
      · rw [r] at y; exact absurd y (by simp)
      · rw [r.1] at y; exact absurd y (by simp)
  | succ d ih =>
    intro i n sums h hn hi
    obtain ⟨m, rfl⟩ := xc_suc hn
    have hl := cb_xlt (show i < 4096 by omega) ht
    refine br_f (nI_ge (b := 4096) (by omega) (by decide)) ⟨vp_in_nI (by omega) (by omega), ?_⟩
    rw [nI_clamp (by omega)]
    have qi := hi i (by omega)
    -- the next turn's claim, where nothing is stored
    have keep : (S i = true → ¬ sums (i ^^^ t) = 0) → yc_P S t (i + 1) sums := by
      intro hk x hx
      rw [hi x hx]
      constructor
      · rintro (r | r)
        · exact Or.inl r
        · exact Or.inr ⟨r.1, by omega⟩
      · rintro (r | r)
        · exact Or.inl r
        · by_cases g : x ^^^ t = i
          · have hx2 : x = i ^^^ t := by rw [← g, cb_xx]
            rw [g] at r
            have := hk r.1
            rw [← hx2] at this
            exact (hi x hx).mp this
          · exact Or.inr ⟨r.1, by omega⟩
    by_cases z : sums i = 0
    · refine br_t z (nm_r (nI_1 i) (ih (i + 1) m sums (by omega) (by omega) (keep (fun a => absurd z (qi.mpr (Or.inl a))))))
    · refine br_f z ?_
      rw [nx_xor]
      refine ⟨vp_in_nI hl (by omega), ?_⟩
      rw [nI_clamp (by omega)]
      by_cases y : sums (i ^^^ t) = 0
      · refine br_t y ⟨vp_in_nI hl (by omega), nm_r (e' := upd sums (i ^^^ t) 1) (by rw [yc_b1]) (nm_r (nI_1 i) (ih (i + 1) m _ (by omega) (by omega) ?_))⟩
        have hSi : S i = true := by
          rcases qi.mp z with r | r
          · exact r
          · exact absurd y ((hi (i ^^^ t) hl).mpr (Or.inl r.1))
        intro x hx
        by_cases e : x = i ^^^ t
        · rw [e, pk_us, cb_xx]
          exact ⟨fun _ => Or.inr ⟨hSi, by omega⟩, fun _ => by decide⟩
        · rw [pk_un e, hi x hx]
          have hne : x ^^^ t ≠ i := fun g => e (by rw [← g, cb_xx])
          constructor
          · rintro (r | r)
            · exact Or.inl r
            · exact Or.inr ⟨r.1, by omega⟩
          · rintro (r | r)
            · exact Or.inl r
            · exact Or.inr ⟨r.1, by omega⟩
      · exact br_f y (nm_r (nI_1 i) (ih (i + 1) m sums (by omega) (by omega) (keep (fun _ => y))))
theorem yc_take {f : Int32} {us vs ws sums cw : Nat → Int32} {S : Nat → Bool} {t : Nat} (ht : t < 4096) (hQ : yc_Q sums S) {post : SY → Prop} (hp : ∀ sums', yc_Q sums' (fun x => S x || S (x ^^^ t)) → post (f, us, vs, ws, sums', cw)) : wpY_take post (f, us, vs, ws, sums, cw) (nI t) := by
  refine ⟨4097, yc_take_l ht post hp 4096 0 4097 sums (by omega) (by omega) (fun x hx => ?_)⟩
  rw [hQ x hx]
  cases S x <;> simp
end
section
/-! the reference's public questions -/
section
variable {f : Int32} {us vs ws sums cw : Nat → Int32} {C : Nat → Bool} {w : Nat → Nat} {k : Nat}
theorem ym_light (K : cb_K C w) (hT : yc_T C w cw) (hQ : yc_Q sums (cb_S C w k)) {post : Int32 → Prop} (h0 : cb_t C w k = 0 → post (-1)) (h1 : ¬ cb_t C w k = 0 → cw (nI (cb_t C w k)).toNatClampNeg = nI (cb_g C w k) → post (nI (cb_t C w k))) : wpY_lightest post (f, us, vs, ws, sums, cw) := by
  refine yc_lightest K hT hQ (cb_S_0 C w k) ?_
  have hl := cb_t_lt K k
  by_cases z : cb_t C w k = 0
  · rw [yc_b_0 (show cb_lt C (cb_S C w k) w 4096 = 0 from z)]
    exact h0 z
  · rw [yc_b_n (show ¬ cb_lt C (cb_S C w k) w 4096 = 0 from z)]
    refine h1 z ?_
    rw [nI_clamp (by omega), hT _ hl, yc_val_t (cb_t_C K k)]
    unfold cb_g
    rw [if_neg z]
theorem ym_take (K : cb_K C w) (hQ : yc_Q sums (cb_S C w k)) {post : SY → Prop} (hp : ∀ sums', yc_Q sums' (cb_S C w (k + 1)) → post (f, us, vs, ws, sums', cw)) : wpY_take post (f, us, vs, ws, sums, cw) (nI (cb_t C w k)) :=
  yc_take (cb_t_lt K k) hQ hp
end
section
variable {f : Int32} {us vs ws cw : Nat → Int32} {C : Nat → Bool} {w : Nat → Nat}
theorem ym_total_l (K : cb_K C w) (hT : yc_T C w cw) (post : Int32 → SY → Prop) (hp : ∀ sums', post (nI (cb_su (cb_g C w) 12)) (f, us, vs, ws, sums', cw)) :
    ∀ d k n sums, k + d = 12 → d < n → yc_Q sums (cb_S C w k) → wY_total_8 post n (nI (cb_su (cb_g C w) k)) (nI k) f us vs ws sums cw := by
  intro d
  induction d with
  | zero =>
    intro k n sums h hn hQ
    obtain ⟨m, rfl⟩ := xc_suc hn
    obtain rfl : k = 12 := by omega
    exact br_t (by decide) (hp sums)
  | succ d ih =>
    intro k n sums h hn hQ
    obtain ⟨m, rfl⟩ := xc_suc hn
    have hl := cb_t_lt K k
    refine br_f (nI_ge (b := 12) (by omega) (by decide)) ?_
    refine ym_light K hT hQ (fun z => ?_) (fun z hw => ?_)
    · have i := ih (k + 1) m sums (by omega) (by omega) (by rw [cb_S_same z]; exact hQ)
      rw [show cb_su (cb_g C w) (k + 1) = cb_su (cb_g C w) k from by show _ + cb_g C w k = _; rw [(cb_g_0 K k).mpr z]; rfl] at i
      exact br_t (by decide) (nm_r (nI_1 k) i)
    · refine br_f (nI_pos (by omega)) ⟨vp_in_nI hl (by omega), nm_r (e' := nI (cb_su (cb_g C w) k + cb_g C w k)) (by rw [hw, nI_add]) ?_⟩
      exact ym_take K hQ (fun sums' hQ' => nm_r (nI_1 k) (ih (k + 1) m sums' (by omega) (by omega) hQ'))
theorem ym_total (K : cb_K C w) (hT : yc_T C w cw) {sums : Nat → Int32} {post : Int32 → SY → Prop} (hp : ∀ sums', post (nI (cb_su (cb_g C w) 12)) (f, us, vs, ws, sums', cw)) : wpY_total post (f, us, vs, ws, sums, cw) :=
  yc_forget C w (fun sums' hQ => ⟨13, ym_total_l K hT post hp 12 0 13 sums' (by omega) (by omega) hQ⟩)
theorem ym_part_l (K : cb_K C w) (hT : yc_T C w cw) {i : Nat} (hi : i < 12) (post : Int32 → SY → Prop) (hp : ∀ sums', post (if cb_g C w i = 0 then -5 else nI (cb_g C w i)) (f, us, vs, ws, sums', cw)) :
    ∀ d k n sums, k + d = i → d < n → yc_Q sums (cb_S C w k) → wY_part_6 post (nI i) n (nI k) f us vs ws sums cw := by
  intro d
  induction d with
  | zero =>
    intro k n sums h hn hQ
    obtain ⟨m, rfl⟩ := xc_suc hn
    obtain rfl : k = i := by omega
    have hl := cb_t_lt K k
    have hp' := hp sums
    refine br_f (nI_ge (b := 12) (by omega) (by decide)) ?_
    refine ym_light K hT hQ (fun z => ?_) (fun z hw => ?_)
    · rw [if_pos ((cb_g_0 K k).mpr z)] at hp'
      exact br_f (by decide) hp'
    · rw [if_neg (fun q => z ((cb_g_0 K k).mp q))] at hp'
      refine br_t (nI_pos' (by omega)) (br_t rfl ⟨vp_in_nI hl (by omega), ?_⟩)
      rw [hw]; exact hp'
  | succ d ih =>
    intro k n sums h hn hQ
    obtain ⟨m, rfl⟩ := xc_suc hn
    have hl := cb_t_lt K k
    refine br_f (nI_ge (b := 12) (by omega) (by decide)) ?_
    refine ym_light K hT hQ (fun z => ?_) (fun z hw => ?_)
    · have hp' := hp sums
      have z2 := cb_t_0 z (i - k)
      rw [show k + (i - k) = i from by omega] at z2
      rw [if_pos ((cb_g_0 K i).mpr z2)] at hp'
      exact br_f (by decide) hp'
    · refine br_t (nI_pos' (by omega)) (br_f (fun q => by rw [nI_eq (by omega) (by omega)] at q; omega) ?_)
      exact ym_take K hQ (fun sums' hQ' => nm_r (nI_1 k) (ih (k + 1) m sums' (by omega) (by omega) hQ'))
theorem ym_part (K : cb_K C w) (hT : yc_T C w cw) {i : Nat} (hi : i < 12) {sums : Nat → Int32} {post : Int32 → SY → Prop} (hp : ∀ sums', post (if cb_g C w i = 0 then -5 else nI (cb_g C w i)) (f, us, vs, ws, sums', cw)) : wpY_part post (f, us, vs, ws, sums, cw) (nI i) :=
  yc_forget C w (fun sums' hQ => ⟨13, ym_part_l K hT hi post hp i 0 13 sums' (by omega) (by omega) hQ⟩)
theorem ym_part_ol (K : cb_K C w) (hT : yc_T C w cw) {v : Int32} (hv : v < 0 ∨ nI 12 ≤ v) (post : Int32 → SY → Prop) (hp : ∀ sums', post (-5) (f, us, vs, ws, sums', cw)) :
    ∀ d k n sums, k + d = 12 → d < n → yc_Q sums (cb_S C w k) → wY_part_6 post v n (nI k) f us vs ws sums cw := by
  intro d
  induction d with
  | zero =>
    intro k n sums h hn hQ
    obtain ⟨m, rfl⟩ := xc_suc hn
    obtain rfl : k = 12 := by omega
    exact br_t (by decide) (hp sums)
  | succ d ih =>
    intro k n sums h hn hQ
    obtain ⟨m, rfl⟩ := xc_suc hn
    have hl := cb_t_lt K k
    refine br_f (nI_ge (b := 12) (by omega) (by decide)) ?_
    refine ym_light K hT hQ (fun z => ?_) (fun z hw => ?_)
    · exact br_f (by decide) (hp sums)
    · refine br_t (nI_pos' (by omega)) (br_f (fun q => ?_) ?_)
      · rw [← q] at hv
        rcases hv with g | g
        · exact nI_pos (by omega) g
        · exact nI_ge (by omega) (by decide) g
      · exact ym_take K hQ (fun sums' hQ' => nm_r (nI_1 k) (ih (k + 1) m sums' (by omega) (by omega) hQ'))
theorem ym_part_o (K : cb_K C w) (hT : yc_T C w cw) {v : Int32} (hv : v < 0 ∨ nI 12 ≤ v) {sums : Nat → Int32} {post : Int32 → SY → Prop} (hp : ∀ sums', post (-5) (f, us, vs, ws, sums', cw)) : wpY_part post (f, us, vs, ws, sums, cw) v :=
  yc_forget C w (fun sums' hQ => ⟨13, ym_part_ol K hT hv post hp 12 0 13 sums' (by omega) (by omega) hQ⟩)
theorem ym_closed_t (K : cb_K C w) (hT : yc_T C w cw) {s : Nat} (h : C s = true) {sums : Nat → Int32} {post : Int32 → Prop} (hp : post 1) : wpY_closed post (f, us, vs, ws, sums, cw) (nI s) := by
  have hs := K.2.2.1 s h
  refine br_f (nI_pos (by omega)) (br_f (nI_ge (b := 4096) hs (by decide)) ⟨vp_in_nI hs (by omega), ?_⟩)
  exact yc_neg K hT hs (fun z => absurd (h.symm.trans z) (by decide)) (fun _ _ => hp)
theorem ym_closed_f (K : cb_K C w) (hT : yc_T C w cw) {v : Int32} (h : ¬ ∃ s, v = nI s ∧ C s = true) {sums : Nat → Int32} {post : Int32 → Prop} (hp : post 0) : wpY_closed post (f, us, vs, ws, sums, cw) v := by
  by_cases h0 : v < 0
  · exact br_t h0 hp
  · refine br_f h0 ?_
    rcases pk_ix v (n := 4096) (by decide) with g | g | ⟨j, hj, rfl⟩
    · exact absurd g h0
    · exact br_t g hp
    · refine br_f (nI_ge (b := 4096) hj (by decide)) ⟨vp_in_nI hj (by omega), ?_⟩
      exact yc_neg K hT hj (fun _ => hp) (fun z _ => absurd ⟨j, rfl, z⟩ h)
theorem ym_level_l (K : cb_K C w) (hT : yc_T C w cw) {s : Nat} (hC : C s = true) (post : Int32 → SY → Prop) :
    ∀ d k l n sums, k + d = 12 → d < n → yc_Q sums (cb_S C w k) → (∀ sums', post (nI (cb_lv (fun k => cb_S C w k s) (cb_g C w) d k l)) (f, us, vs, ws, sums', cw)) → wY_level_19 post (nI s) n (nI l) (nI k) f us vs ws sums cw := by
  have hs := K.2.2.1 s hC
  intro d
  induction d with
  | zero =>
    intro k l n sums h hn hQ hp
    obtain ⟨m, rfl⟩ := xc_suc hn
    obtain rfl : k = 12 := by omega
    exact br_t (by decide) (hp sums)
  | succ d ih =>
    intro k l n sums h hn hQ hp
    obtain ⟨m, rfl⟩ := xc_suc hn
    have hl := cb_t_lt K k
    refine br_f (nI_ge (b := 12) (by omega) (by decide)) ⟨vp_in_nI hs (by omega), ?_⟩
    rw [nI_clamp (by omega)]
    have q := hQ s hs
    cases e : cb_S C w k s with
    | true =>
      have hp' := hp sums
      rw [cb_lv_t (s := fun k => cb_S C w k s) e] at hp'
      exact br_f (fun z => by rw [q, e] at z; exact absurd z (by decide)) hp'
    | false =>
      refine br_t (q.mpr e) ?_
      refine ym_light K hT hQ (fun z => ?_) (fun z hw => ?_)
      · have := cb_lt_0 (cb_S_0 C w k) 4096 z s hs hC
        rw [e] at this
        exact absurd this (by decide)
      · refine ⟨vp_in_nI hl (by omega), nm_r hw ?_⟩
        refine ym_take K hQ (fun sums' hQ' => nm_r (nI_1 k) (ih (k + 1) _ m sums' (by omega) (by omega) hQ' (fun sums2 => ?_)))
        have hp' := hp sums2
        rw [cb_lv_f (s := fun k => cb_S C w k s) e] at hp'
        exact hp'
theorem ym_level_t (K : cb_K C w) (hT : yc_T C w cw) {s : Nat} (hC : C s = true) {sums : Nat → Int32} {post : Int32 → SY → Prop} (hp : ∀ sums', post (nI (cb_lv (fun k => cb_S C w k s) (cb_g C w) 12 0 0)) (f, us, vs, ws, sums', cw)) : wpY_level post (f, us, vs, ws, sums, cw) (nI s) := by
  unfold wpY_level
  refine ym_closed_t K hT hC ?_
  refine br_f (by decide) ?_
  exact yc_forget C w (fun sums' hQ => ⟨13, ym_level_l K hT hC post 12 0 0 13 sums' (by omega) (by omega) hQ hp⟩)
theorem ym_level_f (K : cb_K C w) (hT : yc_T C w cw) {v : Int32} (h : ¬ ∃ s, v = nI s ∧ C s = true) {sums : Nat → Int32} {post : Int32 → SY → Prop} (hp : post (-5) (f, us, vs, ws, sums, cw)) : wpY_level post (f, us, vs, ws, sums, cw) v := by
  unfold wpY_level
  refine ym_closed_f K hT h ?_
  exact br_t rfl hp
theorem ym_rank_2 {sums : Nat → Int32} {r : Nat} (hr : r ≤ 12) {x : Nat} (hx : x + 1 = 2 ^ r) (post : Int32 → Prop) (hp : post (nI r)) : ∀ d k n, k + d = r → d < n → wY_rank_31 post (nI x) f us vs ws sums cw n (nI k) := by
  have hq := cb_pow hr
  intro d
  induction d with
  | zero =>
    intro k n h hn
    obtain ⟨m, rfl⟩ := xc_suc hn
    obtain rfl : k = r := by omega
    refine pk_le 12 k (fun _ => hp) (fun z => ?_) rfl rfl (by omega) (by omega)
    exact pk_le (x + 1) (2 ^ k) (fun _ => hp) (fun q => by omega) (nI_1 x) (cb_shl (by omega)) (by omega) (by omega)
  | succ d ih =>
    intro k n h hn
    obtain ⟨m, rfl⟩ := xc_suc hn
    have hlt : 2 ^ k < 2 ^ r := Nat.pow_lt_pow_right (by decide) (by omega)
    refine pk_le 12 k (fun _ => by omega) (fun z => ?_) rfl rfl (by omega) (by omega)
    exact pk_le (x + 1) (2 ^ k) (fun q => by omega) (fun q => nm_r (nI_1 k) (ih (k + 1) m (by omega) (by omega))) (nI_1 x) (cb_shl (by omega)) (by omega) (by omega)
theorem ym_rank_l (K : cb_K C w) (hT : yc_T C w cw) {sums : Nat → Int32} (post : Int32 → Prop) (hp : post (nI (cb_rk C w 12))) : ∀ d x n, x + d = 4096 → 1 ≤ x → d < n → wY_rank_4 post f us vs ws sums cw n (nI (cb_n C x)) (nI x) := by
  intro d
  induction d with
  | zero =>
    intro x n h h1 hn
    obtain ⟨m, rfl⟩ := xc_suc hn
    obtain rfl : x = 4096 := by omega
    have e := cb_n_ct K.1 4095
    rw [cb_C_ct K] at e
    have hr := cb_rk_le C w 12
    exact br_t (by decide) ⟨13, ym_rank_2 hr e post hp _ 0 13 (Nat.zero_add _) (by omega)⟩
  | succ d ih =>
    intro x n h h1 hn
    obtain ⟨m, rfl⟩ := xc_suc hn
    have i := ih (x + 1) m (by omega) (by omega) (by omega)
    refine br_f (nI_ge (b := 4096) (by omega) (by decide)) ⟨vp_in_nI (by omega) (by omega), ?_⟩
    refine yc_neg K hT (by omega) (fun hC => ?_) (fun hC hw => ?_)
    · rw [cb_n_f (Or.inl hC)] at i
      exact nm_r (nI_1 x) i
    · rw [cb_n_t hC (by omega)] at i
      exact nm_r (nI_1 _) (nm_r (nI_1 x) i)
theorem ym_rank (K : cb_K C w) (hT : yc_T C w cw) {sums : Nat → Int32} {post : Int32 → Prop} (hp : post (nI (cb_rk C w 12))) : wpY_rank post (f, us, vs, ws, sums, cw) := by
  have := ym_rank_l (f := f) (us := us) (vs := vs) (ws := ws) K hT (sums := sums) post hp 4095 1 4097 (by omega) (by omega) (by omega)
  rw [show cb_n C 1 = 0 from cb_n_f (Or.inr rfl)] at this
  exact ⟨4097, this⟩
def yc_5 (z : Nat) : Int32 := if z = 0 then -5 else nI z
theorem yc_5_0 {z : Nat} (h : z = 0) : yc_5 z = -5 := if_pos h
theorem yc_5_n {z : Nat} (h : ¬ z = 0) : yc_5 z = nI z := if_neg h
theorem ym_through_l (K : cb_K C w) (hT : yc_T C w cw) {sums : Nat → Int32} {e : Nat} (he : e < 12) (post : Int32 → Prop) (hp : post (yc_5 (cb_th C w e 4096))) : ∀ d x n, x + d = 4096 → d < n → wY_through_16 post (nI e) f us vs ws sums cw n (yc_5 (cb_th C w e x)) (nI x) := by
  intro d
  induction d with
  | zero =>
    intro x n h hn
    obtain ⟨m, rfl⟩ := xc_suc hn
    obtain rfl : x = 4096 := by omega
    exact br_t (by decide) hp
  | succ d ih =>
    intro x n h hn
    obtain ⟨m, rfl⟩ := xc_suc hn
    have i := ih (x + 1) m (by omega) (by omega)
    refine br_f (nI_ge (b := 4096) (by omega) (by decide)) ⟨vp_in_nI (by omega) (by omega), nm_r (e' := yc_val C w x) (by rw [nI_clamp (by omega)]; exact hT x (by omega)) ?_⟩
    cases b : x.testBit e with
    | false =>
      rw [cb_th_n (by rw [b]; exact fun z => absurd z.2 (by decide))] at i
      exact br_t ((cb_bit0 (by omega) (by omega)).mpr b) (nm_r (nI_1 x) i)
    | true =>
      refine br_f (fun z => by rw [cb_bit0 (by omega) (by omega), b] at z; exact absurd z (by decide)) ?_
      cases hC : C x with
      | false =>
        rw [cb_th_n (by rw [hC]; exact fun z => absurd z.1 (by decide))] at i
        rw [yc_val_f hC]
        exact br_t (by decide) (nm_r (nI_1 x) i)
      | true =>
        have x0 : x ≠ 0 := by intro z; rw [z, Nat.zero_testBit] at b; exact absurd b (by decide)
        have hb := K.2.2.2.2 x
        have hw0 := K.2.2.2.1 x hC x0
        have hb2 := cb_th_le K e x
        rw [yc_val_t hC]
        refine br_f (nI_pos (by omega)) ?_
        by_cases z : cb_th C w e x = 0
        · rw [cb_th_a hC b (Or.inl z), yc_5_n (by omega)] at i
          rw [yc_5_0 z]
          exact br_t (by decide) (nm_r (nI_1 x) i)
        · rw [yc_5_n z]
          refine br_f (nI_pos (by omega)) (pk_le (cb_th C w e x) (w x) (fun g => ?_) (fun g => ?_) rfl rfl (by omega) (by omega))
          · rw [cb_th_b z (by omega), yc_5_n z] at i
            exact nm_r (nI_1 x) i
          · rw [cb_th_a hC b (Or.inr g), yc_5_n (by omega)] at i
            exact nm_r (nI_1 x) i
end
section
variable {c : Nat} {us vs ws cw : Nat → Int32} {C : Nat → Bool} {w : Nat → Nat}
theorem ym_isEdge_t {e : Nat} (hc : c ≤ 12) (he : e < c) {sums : Nat → Int32} {post : Int32 → Prop} (hp : post 1) : wpY_isEdge post (nI c, us, vs, ws, sums, cw) (nI e) :=
  br_f (nI_pos (by omega)) (br_f (nI_ge he (by omega)) hp)
theorem ym_isEdge_f {f v : Int32} (hv : v < 0 ∨ f ≤ v) {sums : Nat → Int32} {post : Int32 → Prop} (hp : post 0) : wpY_isEdge post (f, us, vs, ws, sums, cw) v := by
  by_cases h : v < 0
  · exact br_t h hp
  · exact br_f h (br_t (hv.resolve_left h) hp)
theorem ym_through_t (K : cb_K C w) (hT : yc_T C w cw) (hc : c ≤ 12) {e : Nat} (he : e < c) {sums : Nat → Int32} {post : Int32 → Prop} (hp : post (yc_5 (cb_th C w e 4096))) : wpY_through post (nI c, us, vs, ws, sums, cw) (nI e) := by
  unfold wpY_through
  refine ym_isEdge_t hc he ?_
  refine br_f (by decide) ?_
  have := ym_through_l (f := nI c) (us := us) (vs := vs) (ws := ws) K hT (sums := sums) (show e < 12 by omega) post hp 4095 1 4097 (by omega) (by omega)
  rw [yc_5_0 (show cb_th C w e 1 = 0 from cb_th_n (by rw [Nat.zero_testBit]; exact fun z => absurd z.2 (by decide)))] at this
  exact ⟨4097, this⟩
theorem ym_through_f {f v : Int32} (hv : v < 0 ∨ f ≤ v) {sums : Nat → Int32} {post : Int32 → Prop} (hp : post (-4)) : wpY_through post (f, us, vs, ws, sums, cw) v := by
  unfold wpY_through
  refine ym_isEdge_f hv ?_
  exact br_t rfl hp
theorem ym_bridges_l (K : cb_K C w) (hT : yc_T C w cw) (hc : c ≤ 12) {sums : Nat → Int32} (post : Int32 → Prop) (hp : post (nI (cb_br (cb_cv C 4096) c))) : ∀ d e n, e + d = c → d < n → wY_bridges_4 post (nI c) us vs ws sums cw n (nI (cb_br (cb_cv C 4096) e)) (nI e) := by
  intro d
  induction d with
  | zero =>
    intro e n h hn
    obtain ⟨m, rfl⟩ := xc_suc hn
    obtain rfl : e = c := by omega
    exact br_t (nI_le (Nat.le_refl _) (by omega)) hp
  | succ d ih =>
    intro e n h hn
    obtain ⟨m, rfl⟩ := xc_suc hn
    have i := ih (e + 1) m (by omega) (by omega)
    refine br_f (nI_ge (by omega) (by omega)) ?_
    refine ym_through_t K hT hc (by omega) ?_
    have q := cb_cv_th K e 4096
    have hb := cb_th_le K e 4096
    by_cases z : cb_th C w e 4096 = 0
    · rw [yc_5_0 z]
      have b : (cb_cv C 4096).testBit e = false := by
        cases b : (cb_cv C 4096).testBit e with
        | false => rfl
        | true => exact absurd z (q.mp b)
      rw [cb_br_f b] at i
      exact br_t rfl (nm_r (nI_1 _) (nm_r (nI_1 e) i))
    · rw [yc_5_n z]
      rw [cb_br_t (q.mpr z)] at i
      refine br_f (fun y => ?_) (nm_r (nI_1 e) i)
      have := nI_pos (n := cb_th C w e 4096) (by omega)
      rw [y] at this
      exact this (by decide)
theorem ym_bridges (K : cb_K C w) (hT : yc_T C w cw) (hc : c ≤ 12) {sums : Nat → Int32} {post : Int32 → Prop} (hp : post (nI (cb_br (cb_cv C 4096) c))) : wpY_bridges post (nI c, us, vs, ws, sums, cw) :=
  ⟨13, ym_bridges_l K hT hc post hp c 0 13 (by omega) (by omega)⟩
end
end
section
/-! the relation, and what is owed -/
def i_Rel (_ : Nat) (u : SX) (v : SY) : Prop := ∃ (c : Nat) (U V wt : Nat → Nat) (cc : Int32) (ends ws cs rows us vs ws' sums cw : Nat → Int32), u = (nI c, cc, ends, ws, cs, rows) ∧ v = (nI c, us, vs, ws', sums, cw) ∧ xc_ok c (cb_en U V) wt ends ws ∧ yc_ok c U V wt us vs ws' ∧ yc_T (cb_C (cb_en U V) c) (fun x => cb_w wt x c) cw
theorem i_up {k : Nat} {u : SX} {v : SY} (h : i_Rel k u v) : i_Rel (k + 4) u v := h
theorem ir_mk {k c : Nat} {U V wt : Nat → Nat} {cc : Int32} {ends ws cs rows us vs ws' sums cw : Nat → Int32} (HX : xc_ok c (cb_en U V) wt ends ws) (HY : yc_ok c U V wt us vs ws') (hT : yc_T (cb_C (cb_en U V) c) (fun x => cb_w wt x c) cw) : i_Rel k (nI c, cc, ends, ws, cs, rows) (nI c, us, vs, ws', sums, cw) :=
  ⟨c, U, V, wt, cc, ends, ws, cs, rows, us, vs, ws', sums, cw, rfl, rfl, HX, HY, hT⟩
theorem i_vc0 : wpX_init (fun u => wpY_init (fun v => i_Rel 0 u v)) := by
  have HX : xc_ok 0 (cb_en (fun _ => 0) (fun _ => 0)) (fun _ => 0) (fun _ => 0) (fun _ => 0) := ⟨by decide, fun e he => absurd he (by omega)⟩
  have HY : yc_ok 0 (fun _ => 0) (fun _ => 0) (fun _ => 0) (fun _ => 0) (fun _ => 0) (fun _ => 0) := ⟨by decide, fun e he => absurd he (by omega)⟩
  unfold wpX_init wpY_init
  exact yc_refresh HY (fun cw' hT => ir_mk HX HY hT)
theorem ir_vxX_t {a : Nat} (h : a < 7) {post : Int32 → Prop} (hp : post 1) : wpX_isVertex post (nI a) :=
  br_f (nI_pos (by omega)) (br_f (nI_ge (b := 7) h (by decide)) hp)
theorem ir_vxX_f {v : Int32} (h : v < 0 ∨ nI 7 ≤ v) {post : Int32 → Prop} (hp : post 0) : wpX_isVertex post v := by
  by_cases z : v < 0
  · exact br_t z hp
  · exact br_f z (br_t (h.resolve_left z) hp)
theorem ir_vxY_t {a : Nat} (h : a < 7) {u : SY} {post : Int32 → Prop} (hp : post 1) : wpY_isVertex post u (nI a) :=
  br_f (nI_pos (by omega)) (br_f (nI_nlt (a := 6) (by omega) (by decide)) hp)
theorem ir_vxY_f {v : Int32} (h : v < 0 ∨ nI 7 ≤ v) {u : SY} {post : Int32 → Prop} (hp : post 0) : wpY_isVertex post u v := by
  by_cases z : v < 0
  · exact br_t z hp
  · obtain ⟨j, hj, rfl⟩ := nI_of z
    have g := h.resolve_left z
    rw [nI_leI (by omega) hj] at g
    exact br_f z (br_t (nI_lt (a := 6) (by omega) hj) hp)
theorem ir_wt (v : Int32) : v < 1 ∨ (¬ v < 1 ∧ 100 < v ∧ ¬ v ≤ 100) ∨ ∃ q : Nat, 1 ≤ q ∧ q ≤ 100 ∧ v = nI q ∧ ¬ v < 1 ∧ ¬ 100 < v ∧ v ≤ 100 := by
  by_cases h : v < 1
  · exact Or.inl h
  · refine Or.inr ?_
    have h0 : ¬ v < 0 := fun z => h (Int32.lt_trans z (by decide))
    obtain ⟨j, hj, rfl⟩ := nI_of h0
    have h1 : 1 ≤ j := by
      rcases Nat.lt_or_ge j 1 with g | g
      · exact absurd (nI_lt (b := 1) g (by decide)) h
      · exact g
    rcases Nat.lt_or_ge 100 j with g | g
    · exact Or.inl ⟨h, nI_lt (a := 100) g hj, nI_ge (a := 100) g hj⟩
    · exact Or.inr ⟨j, h1, g, rfl, h, nI_nlt (a := 100) g (by decide), nI_le (b := 100) g (by decide)⟩
theorem ir_wtX_f {v : Int32} (h : v < 1 ∨ 100 < v) {post : Int32 → Prop} (hp : post 0) : wpX_isWeight post v := by
  by_cases z : v < 1
  · exact br_t z hp
  · exact br_f z (br_t (h.resolve_left z) hp)
theorem ir_wtX_t {v : Int32} (h1 : ¬ v < 1) (h2 : ¬ 100 < v) {post : Int32 → Prop} (hp : post 1) : wpX_isWeight post v := br_f h1 (br_f h2 hp)
theorem ir_set_en {U V : Nat → Nat} {c a b e : Nat} (h : e ≠ c) : cb_en (cb_set U c a) (cb_set V c b) e = cb_en U V e := by
  unfold cb_en; rw [cb_set_n h, cb_set_n h]
theorem ir_set_en2 {U V : Nat → Nat} {c a b : Nat} : cb_en (cb_set U c a) (cb_set V c b) c = 2 ^ a ||| 2 ^ b := by
  unfold cb_en; rw [cb_set_s, cb_set_s]
theorem i_vc_edge {k : Nat} {u : SX} {v : SY} (I : i_Rel k u v) (hk : k + 4 ≤ 2048) (v1 : Int32) (v2 : Int32) (v3 : Int32) : wpX_edge (fun r u' => wpY_edge (fun r' v' => r' = r ∧ i_Rel (k + 4) u' v') v v1 v2 v3) u v1 v2 v3 := by
  obtain ⟨c, U, V, wt, cc, ends, ws, cs, rows, us, vs, ws', sums, cw, rfl, rfl, HX, HY, hT⟩ := I
  have hc := HX.1
  have J : i_Rel (k + 4) (nI c, cc, ends, ws, cs, rows) (nI c, us, vs, ws', sums, cw) := ir_mk HX HY hT
  unfold wpX_edge wpY_edge
  have bad : ∀ x : Int32, (x < 0 ∨ nI 7 ≤ x) ∨ ∃ a, a < 7 ∧ x = nI a := by
    intro x
    rcases pk_ix x (n := 7) (by decide) with g | g | g
    · exact Or.inl (Or.inl g)
    · exact Or.inl (Or.inr g)
    · exact Or.inr g
  rcases bad v1 with g | ⟨a, ha, rfl⟩
  · refine ir_vxX_f g ?_
    refine br_t rfl ?_
    refine ir_vxY_f g ?_
    exact br_t rfl ⟨rfl, J⟩
  refine ir_vxX_t ha ?_
  refine br_f (by decide) ?_
  rcases bad v2 with g | ⟨b, hb, rfl⟩
  · refine ir_vxX_f g ?_
    refine br_t rfl ?_
    refine ir_vxY_t ha ?_
    refine br_f (by decide) ?_
    refine ir_vxY_f g ?_
    exact br_t rfl ⟨rfl, J⟩
  refine ir_vxX_t hb ?_
  refine br_f (by decide) ?_
  by_cases hab : nI a = nI b
  · refine br_t hab ?_
    refine ir_vxY_t ha ?_
    refine br_f (by decide) ?_
    refine ir_vxY_t hb ?_
    refine br_f (by decide) ?_
    exact br_t hab ⟨rfl, J⟩
  refine br_f hab ?_
  rcases ir_wt v3 with g | ⟨g1, g2, g3⟩ | ⟨q, q1, q2, rfl, q3, q4, q5⟩
  · refine ir_wtX_f (Or.inl g) ?_
    refine br_t rfl ?_
    refine ir_vxY_t ha ?_
    refine br_f (by decide) ?_
    refine ir_vxY_t hb ?_
    refine br_f (by decide) ?_
    exact br_f hab (br_t g ⟨rfl, J⟩)
  · refine ir_wtX_f (Or.inr g2) ?_
    refine br_t rfl ?_
    refine ir_vxY_t ha ?_
    refine br_f (by decide) ?_
    refine ir_vxY_t hb ?_
    refine br_f (by decide) ?_
    exact br_f hab (br_f g1 (br_f g3 ⟨rfl, J⟩))
  refine ir_wtX_t q3 q4 ?_
  refine br_f (by decide) ?_
  by_cases hf : c = 12
  · refine br_f (nI_nlt (b := 12) (by omega) (by omega)) ?_
    refine ir_vxY_t ha ?_
    refine br_f (by decide) ?_
    refine ir_vxY_t hb ?_
    refine br_f (by decide) ?_
    refine br_f hab (br_f q3 (br_t q5 (br_t ?_ ⟨rfl, J⟩)))
    rw [hf]; rfl
  refine br_t (nI_lt (b := 12) (by omega) (by decide)) ?_
  have hin : vp_in (nI c) 12 := vp_in_nI (by omega) (by omega)
  have hcl : (nI c).toNatClampNeg = c := nI_clamp (by omega)
  have hne : a ≠ b := fun z => hab (by rw [z])
  refine ⟨hin, nm_r (e' := upd ends c (nI (2 ^ a ||| 2 ^ b))) (by rw [hcl, cb_shl (by omega), cb_shl (by omega), cb_or]) ⟨hin, nm_r (e' := upd ws c (nI q)) (by rw [hcl]) (nm_r (nI_1 c) ?_)⟩⟩
  refine ir_vxY_t ha ?_
  refine br_f (by decide) ?_
  refine ir_vxY_t hb ?_
  refine br_f (by decide) ?_
  refine br_f hab (br_f q3 (br_t q5 (br_f (fun z => hf (by rwa [show (12 : Int32) = nI 12 from rfl, nI_eq (by omega) (by omega)] at z)) ?_)))
  refine ⟨hin, nm_r (e' := upd us c (nI a)) (by rw [hcl]) ⟨hin, nm_r (e' := upd vs c (nI b)) (by rw [hcl]) ⟨hin, nm_r (e' := upd ws' c (nI q)) (by rw [hcl]) (nm_r (nI_1 c) ?_)⟩⟩⟩
  have HX' : xc_ok (c + 1) (cb_en (cb_set U c a) (cb_set V c b)) (cb_set wt c q) (upd ends c (nI (2 ^ a ||| 2 ^ b))) (upd ws c (nI q)) := by
    refine ⟨by omega, fun e he => ?_⟩
    by_cases z : e = c
    · subst z
      have h1 : cb_en (cb_set U e a) (cb_set V e b) e < 128 := cb_en_lt (by rw [cb_set_s]; exact ha) (by rw [cb_set_s]; exact hb)
      refine ⟨h1, ?_⟩
      rw [cb_set_s, pk_us, pk_us, ir_set_en2]
      exact ⟨q1, q2, rfl, rfl⟩
    · rw [ir_set_en z, cb_set_n z, pk_un z, pk_un z]
      exact HX.2 e (by omega)
  have HY' : yc_ok (c + 1) (cb_set U c a) (cb_set V c b) (cb_set wt c q) (upd us c (nI a)) (upd vs c (nI b)) (upd ws' c (nI q)) := by
    refine ⟨by omega, fun e he => ?_⟩
    by_cases z : e = c
    · subst z
      rw [cb_set_s, cb_set_s, cb_set_s, pk_us, pk_us, pk_us]
      exact ⟨ha, hb, hne, q1, q2, rfl, rfl, rfl⟩
    · rw [cb_set_n z, cb_set_n z, cb_set_n z, pk_un z, pk_un z, pk_un z]
      exact HY.2 e (by omega)
  exact yc_refresh HY' (fun cw' hT' => ⟨nI_pred c, ir_mk HX' HY' hT'⟩)
theorem i_vc_reweigh {k : Nat} {u : SX} {v : SY} (I : i_Rel k u v) (hk : k + 4 ≤ 2048) (v1 : Int32) (v2 : Int32) : wpX_reweigh (fun r u' => wpY_reweigh (fun r' v' => r' = r ∧ i_Rel (k + 4) u' v') v v1 v2) u v1 v2 := by
  obtain ⟨c, U, V, wt, cc, ends, ws, cs, rows, us, vs, ws', sums, cw, rfl, rfl, HX, HY, hT⟩ := I
  have hc := HX.1
  have J : i_Rel (k + 4) (nI c, cc, ends, ws, cs, rows) (nI c, us, vs, ws', sums, cw) := ir_mk HX HY hT
  unfold wpX_reweigh wpY_reweigh
  have bad : (v1 < 0 ∨ nI c ≤ v1) ∨ ∃ a, a < c ∧ v1 = nI a := by
    rcases pk_ix v1 (n := c) (by omega) with g | g | g
    · exact Or.inl (Or.inl g)
    · exact Or.inl (Or.inr g)
    · exact Or.inr g
  rcases bad with g | ⟨e, he, rfl⟩
  · refine xm_isEdge_f g ?_
    refine br_t rfl ?_
    refine ym_isEdge_f g ?_
    exact br_t rfl ⟨rfl, J⟩
  refine xm_isEdge_t hc he ?_
  refine br_f (by decide) ?_
  rcases ir_wt v2 with g | ⟨g1, g2, g3⟩ | ⟨q, q1, q2, rfl, q3, q4, q5⟩
  · refine ir_wtX_f (Or.inl g) ?_
    refine br_t rfl ?_
    refine ym_isEdge_t hc he ?_
    exact br_f (by decide) (br_t g ⟨rfl, J⟩)
  · refine ir_wtX_f (Or.inr g2) ?_
    refine br_t rfl ?_
    refine ym_isEdge_t hc he ?_
    exact br_f (by decide) (br_f g1 (br_f g3 ⟨rfl, J⟩))
  refine ir_wtX_t q3 q4 ?_
  refine br_f (by decide) ?_
  have hin : vp_in (nI e) 12 := vp_in_nI (by omega) (by omega)
  have hcl : (nI e).toNatClampNeg = e := nI_clamp (by omega)
  refine ⟨hin, nm_r (e' := nI (wt e)) (by rw [hcl]; exact (HX.2 e he).2.2.2.2) ⟨hin, nm_r (e' := upd ws e (nI q)) (by rw [hcl]) ?_⟩⟩
  refine ym_isEdge_t hc he ?_
  refine br_f (by decide) (br_f q3 (br_t q5 ?_))
  refine ⟨hin, nm_r (e' := nI (wt e)) (by rw [hcl]; exact (HY.2 e he).2.2.2.2.2.2.2) ⟨hin, nm_r (e' := upd ws' e (nI q)) (by rw [hcl]) ?_⟩⟩
  have HX' : xc_ok c (cb_en U V) (cb_set wt e q) ends (upd ws e (nI q)) := by
    refine ⟨hc, fun j hj => ?_⟩
    by_cases z : j = e
    · subst z
      rw [cb_set_s, pk_us]
      exact ⟨(HX.2 j hj).1, q1, q2, (HX.2 j hj).2.2.2.1, rfl⟩
    · rw [cb_set_n z, pk_un z]
      exact HX.2 j hj
  have HY' : yc_ok c U V (cb_set wt e q) us vs (upd ws' e (nI q)) := by
    refine ⟨hc, fun j hj => ?_⟩
    obtain ⟨a1, a2, a3, a4, a5, a6, a7, a8⟩ := HY.2 j hj
    by_cases z : j = e
    · subst z
      rw [cb_set_s, pk_us]
      exact ⟨a1, a2, a3, q1, q2, a6, a7, rfl⟩
    · rw [cb_set_n z, pk_un z]
      exact ⟨a1, a2, a3, a4, a5, a6, a7, a8⟩
  exact yc_refresh HY' (fun cw' hT' => ⟨rfl, ir_mk HX' HY' hT'⟩)
theorem i_vc_dropLast {k : Nat} {u : SX} {v : SY} (I : i_Rel k u v) (hk : k + 4 ≤ 2048) : wpX_dropLast (fun r u' => wpY_dropLast (fun r' v' => r' = r ∧ i_Rel (k + 4) u' v') v) u := by
  obtain ⟨c, U, V, wt, cc, ends, ws, cs, rows, us, vs, ws', sums, cw, rfl, rfl, HX, HY, hT⟩ := I
  have hc := HX.1
  by_cases z : c = 0
  · subst z
    exact br_t rfl (br_t rfl ⟨rfl, ir_mk HX HY hT⟩)
  · obtain ⟨d, rfl⟩ : ∃ d, c = d + 1 := ⟨c - 1, by omega⟩
    have n0 : ¬ nI (d + 1) = 0 := nI_ne0 (by omega) (by omega)
    have HX' : xc_ok d (cb_en U V) wt ends ws := ⟨by omega, fun e he => HX.2 e (by omega)⟩
    have HY' : yc_ok d U V wt us vs ws' := ⟨by omega, fun e he => HY.2 e (by omega)⟩
    exact br_f n0 (nm_r (nI_pred d) (br_f n0 (nm_r (nI_pred d) (yc_refresh HY' (fun cw' hT' => ⟨rfl, ir_mk HX' HY' hT'⟩)))))
theorem i_vc_rank {k : Nat} {u : SX} {v : SY} (I : i_Rel k u v) (hk : k + 4 ≤ 2048) : wpX_rank (fun r u' => wpY_rank (fun r' => r' = r ∧ i_Rel (k + 4) u' v) v) u := by
  obtain ⟨c, U, V, wt, cc, ends, ws, cs, rows, us, vs, ws', sums, cw, rfl, rfl, HX, HY, hT⟩ := I
  exact xm_rank HX (fun cc' cs' rows' => ym_rank (xc_K HX) hT ⟨rfl, ir_mk HX HY hT⟩)
theorem i_vc_total {k : Nat} {u : SX} {v : SY} (I : i_Rel k u v) (hk : k + 4 ≤ 2048) : wpX_total (fun r u' => wpY_total (fun r' v' => r' = r ∧ i_Rel (k + 4) u' v') v) u := by
  obtain ⟨c, U, V, wt, cc, ends, ws, cs, rows, us, vs, ws', sums, cw, rfl, rfl, HX, HY, hT⟩ := I
  exact xm_total HX (fun cc' cs' rows' => ym_total (xc_K HX) hT (fun sums' => ⟨rfl, ir_mk HX HY hT⟩))
theorem i_vc_part {k : Nat} {u : SX} {v : SY} (I : i_Rel k u v) (hk : k + 4 ≤ 2048) (v1 : Int32) : wpX_part (fun r u' => wpY_part (fun r' v' => r' = r ∧ i_Rel (k + 4) u' v') v v1) u v1 := by
  obtain ⟨c, U, V, wt, cc, ends, ws, cs, rows, us, vs, ws', sums, cw, rfl, rfl, HX, HY, hT⟩ := I
  rcases pk_ix v1 (n := 12) (by decide) with g | g | ⟨i, hi, rfl⟩
  · exact xm_part_o (Or.inl g) (ym_part_o (xc_K HX) hT (Or.inl g) (fun sums' => ⟨rfl, ir_mk HX HY hT⟩))
  · exact xm_part_o (Or.inr g) (ym_part_o (xc_K HX) hT (Or.inr g) (fun sums' => ⟨rfl, ir_mk HX HY hT⟩))
  · exact xm_part HX hi (fun cc' cs' rows' => ym_part (xc_K HX) hT hi (fun sums' => ⟨rfl, ir_mk HX HY hT⟩))
theorem i_vc_through {k : Nat} {u : SX} {v : SY} (I : i_Rel k u v) (hk : k + 4 ≤ 2048) (v1 : Int32) : wpX_through (fun r u' => wpY_through (fun r' => r' = r ∧ i_Rel (k + 4) u' v) v v1) u v1 := by
  obtain ⟨c, U, V, wt, cc, ends, ws, cs, rows, us, vs, ws', sums, cw, rfl, rfl, HX, HY, hT⟩ := I
  have hc := HX.1
  rcases pk_ix v1 (n := c) (by omega) with g | g | ⟨e, he, rfl⟩
  · exact xm_through_f (Or.inl g) (ym_through_f (Or.inl g) ⟨rfl, ir_mk HX HY hT⟩)
  · exact xm_through_f (Or.inr g) (ym_through_f (Or.inr g) ⟨rfl, ir_mk HX HY hT⟩)
  · exact xm_through_t HX he (fun cc' cs' rows' => ym_through_t (xc_K HX) hT hc he ⟨rfl, ir_mk HX HY hT⟩)
theorem i_vc_closed {k : Nat} {u : SX} {v : SY} (I : i_Rel k u v) (hk : k + 4 ≤ 2048) (v1 : Int32) : wpX_closed (fun r => wpY_closed (fun r' => r' = r ∧ i_Rel (k + 4) u v) v v1) u v1 := by
  obtain ⟨c, U, V, wt, cc, ends, ws, cs, rows, us, vs, ws', sums, cw, rfl, rfl, HX, HY, hT⟩ := I
  by_cases h : ∃ s, v1 = nI s ∧ cb_C (cb_en U V) c s = true
  · obtain ⟨s, rfl, hs⟩ := h
    exact xm_closed_t HX hs (ym_closed_t (xc_K HX) hT hs ⟨rfl, ir_mk HX HY hT⟩)
  · exact xm_closed_f HX h (ym_closed_f (xc_K HX) hT h ⟨rfl, ir_mk HX HY hT⟩)
theorem i_vc_level {k : Nat} {u : SX} {v : SY} (I : i_Rel k u v) (hk : k + 4 ≤ 2048) (v1 : Int32) : wpX_level (fun r u' => wpY_level (fun r' v' => r' = r ∧ i_Rel (k + 4) u' v') v v1) u v1 := by
  obtain ⟨c, U, V, wt, cc, ends, ws, cs, rows, us, vs, ws', sums, cw, rfl, rfl, HX, HY, hT⟩ := I
  by_cases h : ∃ s, v1 = nI s ∧ cb_C (cb_en U V) c s = true
  · obtain ⟨s, rfl, hs⟩ := h
    exact xm_level_t HX hs (fun cc' cs' rows' => ym_level_t (xc_K HX) hT hs (fun sums' => ⟨rfl, ir_mk HX HY hT⟩))
  · exact xm_level_f HX h (ym_level_f (xc_K HX) hT h ⟨rfl, ir_mk HX HY hT⟩)
theorem i_vc_bridges {k : Nat} {u : SX} {v : SY} (I : i_Rel k u v) (hk : k + 4 ≤ 2048) : wpX_bridges (fun r u' => wpY_bridges (fun r' => r' = r ∧ i_Rel (k + 4) u' v) v) u := by
  obtain ⟨c, U, V, wt, cc, ends, ws, cs, rows, us, vs, ws', sums, cw, rfl, rfl, HX, HY, hT⟩ := I
  exact xm_bridges HX (fun cc' cs' rows' => ym_bridges (xc_K HX) hT HX.1 ⟨rfl, ir_mk HX HY hT⟩)
end
