/-! the span: remainders over rows in echelon form; the lightest set; the greedy rounds -/
def cb_L (rw_ : Nat → Nat) (b x : Nat) : Nat := if x.testBit b then x ^^^ rw_ b else x
def cb_R (rw_ : Nat → Nat) : Nat → Nat → Nat
  | 0, x => x
  | k + 1, x => cb_R rw_ k (cb_L rw_ k x)
theorem cb_R_s (r : Nat → Nat) (k x : Nat) : cb_R r (k + 1) x = cb_R r k (cb_L r k x) := rfl
theorem cb_L_t {rw_ : Nat → Nat} {b x : Nat} (h : x.testBit b = true) : cb_L rw_ b x = x ^^^ rw_ b := if_pos h
theorem cb_L_f {rw_ : Nat → Nat} {b x : Nat} (h : x.testBit b = false) : cb_L rw_ b x = x := if_neg (by rw [h]; decide)
theorem cb_L_0 {rw_ : Nat → Nat} {b x : Nat} (h : rw_ b = 0) : cb_L rw_ b x = x := by
  unfold cb_L; split
  · rw [h, cb_x0]
  · rfl
theorem cb_L_xor (rw_ : Nat → Nat) (b x y : Nat) : cb_L rw_ b (x ^^^ y) = cb_L rw_ b x ^^^ cb_L rw_ b y := by
  have hx : (x ^^^ y).testBit b = (x.testBit b ^^ y.testBit b) := Nat.testBit_xor ..
  cases h1 : x.testBit b <;> cases h2 : y.testBit b <;> rw [h1, h2] at hx
  · rw [cb_L_f hx, cb_L_f h1, cb_L_f h2]
  · rw [cb_L_t hx, cb_L_f h1, cb_L_t h2]; exact (cb_xr _ _ _).symm
  · rw [cb_L_t hx, cb_L_t h1, cb_L_f h2]; exact (cb_xl _ _ _).symm
  · rw [cb_L_f hx, cb_L_t h1, cb_L_t h2]; exact (cb_x4 _ _ _).symm
theorem cb_R_xor (rw_ : Nat → Nat) : ∀ k x y, cb_R rw_ k (x ^^^ y) = cb_R rw_ k x ^^^ cb_R rw_ k y := by
  intro k
  induction k with
  | zero => intro x y; rfl
  | succ k ih => intro x y; simp only [cb_R]; rw [cb_L_xor, ih]
theorem cb_R_hi {rw_ : Nat → Nat} : ∀ k x i, (∀ b, b < k → rw_ b < 2 ^ (b + 1)) → k ≤ i → (cb_R rw_ k x).testBit i = x.testBit i := by
  intro k
  induction k with
  | zero => intro x i _ _; rfl
  | succ k ih =>
    intro x i h hi
    simp only [cb_R]
    rw [ih _ i (fun b hb => h b (by omega)) (by omega)]
    cases b : x.testBit k with
    | false => rw [cb_L_f b]
    | true =>
      have g : (rw_ k).testBit i = false := Nat.testBit_lt_two_pow (Nat.lt_of_lt_of_le (h k (by omega)) (Nat.pow_le_pow_right (by decide) hi))
      rw [cb_L_t b, Nat.testBit_xor, g]; cases x.testBit i <;> rfl
theorem cb_R_red {rw_ : Nat → Nat} : ∀ k x b, (∀ b, b < k → rw_ b < 2 ^ (b + 1) ∧ (rw_ b = 0 ∨ (rw_ b).testBit b = true)) → b < k → rw_ b ≠ 0 → (cb_R rw_ k x).testBit b = false := by
  intro k
  induction k with
  | zero => intro x b _ h; omega
  | succ k ih =>
    intro x b h hb h0
    simp only [cb_R]
    by_cases g : b < k
    · exact ih _ b (fun b hb => h b (by omega)) g h0
    · obtain rfl : b = k := by omega
      rw [cb_R_hi b _ b (fun d hd => (h d (by omega)).1) (Nat.le_refl _)]
      have hr := (h b (by omega)).2.resolve_left h0
      cases e : x.testBit b with
      | false => rw [cb_L_f e, e]
      | true => rw [cb_L_t e, Nat.testBit_xor, e, hr]; rfl
theorem cb_R_fix {rw_ : Nat → Nat} : ∀ k x, (∀ b, b < k → rw_ b ≠ 0 → x.testBit b = false) → cb_R rw_ k x = x := by
  intro k
  induction k with
  | zero => intro x _; rfl
  | succ k ih =>
    intro x h
    simp only [cb_R]
    have e : cb_L rw_ k x = x := by
      by_cases g : rw_ k = 0
      · exact cb_L_0 g
      · exact cb_L_f (h k (by omega) g)
    rw [e]
    exact ih x (fun b hb => h b (by omega))
theorem cb_R_c {r q : Nat → Nat} : ∀ k x, (∀ b, b < k → r b = q b) → cb_R r k x = cb_R q k x := by
  intro k
  induction k with
  | zero => intro x _; rfl
  | succ k ih =>
    intro x h
    simp only [cb_R]
    rw [show cb_L r k x = cb_L q k x from by unfold cb_L; rw [h k (by omega)], ih _ (fun b hb => h b (by omega))]
theorem cb_R_lt {rw_ : Nat → Nat} : ∀ k x, k ≤ 12 → (∀ b, b < k → rw_ b < 2 ^ (b + 1)) → x < 4096 → cb_R rw_ k x < 4096 := by
  intro k
  induction k with
  | zero => intro x _ _ h; exact h
  | succ k ih =>
    intro x hk h hx
    simp only [cb_R]
    apply ih _ (by omega) (fun b hb => h b (by omega))
    have hr : rw_ k < 4096 := Nat.lt_of_lt_of_le (h k (by omega)) (cb_pow hk)
    unfold cb_L; split
    · exact cb_xlt hx hr
    · exact hx
def cb_set (r : Nat → Nat) (t v : Nat) : Nat → Nat := fun b => if b = t then v else r b
theorem cb_set_s (r : Nat → Nat) (t v : Nat) : cb_set r t v t = v := if_pos rfl
theorem cb_set_n {r : Nat → Nat} {t v b : Nat} (h : b ≠ t) : cb_set r t v b = r b := if_neg h
def cb_E (r : Nat → Nat) : Prop := ∀ b, b < 12 → r b < 2 ^ (b + 1) ∧ (r b = 0 ∨ (r b).testBit b = true)
theorem cb_R_new {r : Nat → Nat} {t v : Nat} (hE : cb_E r) (h0 : r t = 0) (hv : ∀ b, b < 12 → r b ≠ 0 → v.testBit b = false) : ∀ k, t < k → k ≤ 12 → ∀ x, cb_R (cb_set r t v) k x = if (cb_R r k x).testBit t then cb_R r k x ^^^ v else cb_R r k x := by
  intro k
  induction k with
  | zero => intro h; omega
  | succ k ih =>
    intro ht hk x
    by_cases g : t < k
    · have e : cb_L (cb_set r t v) k x = cb_L r k x := by unfold cb_L; rw [cb_set_n (by omega)]
      simp only [cb_R]
      rw [e]
      exact ih g (by omega) _
    · obtain rfl : t = k := by omega
      rw [cb_R_s (cb_set r t v), cb_R_c (r := cb_set r t v) (q := r) t _ (fun b hb => cb_set_n (by omega))]
      have e1 : cb_R r (t + 1) x = cb_R r t x := by rw [cb_R_s, cb_L_0 h0]
      rw [e1]
      rw [cb_R_hi (rw_ := r) t x t (fun b hb => (hE b (by omega)).1) (Nat.le_refl _)]
      cases b : x.testBit t with
      | false => rw [cb_L_f b]; rfl
      | true =>
        rw [cb_L_t b, cb_set_s, cb_R_xor, cb_R_fix (rw_ := r) t v (fun b hb => hv b (by omega))]; rfl
def cb_ge (x : Nat) : Nat → Nat
  | 0 => 0
  | e + 1 => if x.testBit e then e else cb_ge x e
theorem cb_ge_t {x e : Nat} (h : x.testBit e = true) : cb_ge x (e + 1) = e := if_pos h
theorem cb_ge_f {x e : Nat} (h : x.testBit e = false) : cb_ge x (e + 1) = cb_ge x e := if_neg (by rw [h]; decide)
theorem cb_ge_p {x : Nat} (h0 : x ≠ 0) : ∀ n, x < 2 ^ n → x.testBit (cb_ge x n) = true ∧ x < 2 ^ (cb_ge x n + 1) ∧ cb_ge x n < n := by
  intro n
  induction n with
  | zero => intro h; exact absurd h (by simp; omega)
  | succ n ih =>
    intro h
    cases b : x.testBit n with
    | true => rw [cb_ge_t b]; exact ⟨b, h, by omega⟩
    | false =>
      rw [cb_ge_f b]
      obtain ⟨i1, i2, i3⟩ := ih (cb_low h b)
      exact ⟨i1, i2, by omega⟩
/-- one more row: the span grows by the set's coset -/
theorem cb_grow {r : Nat → Nat} {S : Nat → Bool} {t : Nat} (hE : cb_E r) (hS : ∀ x, x < 4096 → (cb_R r 12 x = 0 ↔ S x = true)) (ht : t < 4096) (hn : S t = false) :
    cb_R r 12 t ≠ 0 ∧ cb_R r 12 t < 4096 ∧ cb_ge (cb_R r 12 t) 12 < 12 ∧ cb_E (cb_set r (cb_ge (cb_R r 12 t) 12) (cb_R r 12 t)) ∧
    ∀ x, x < 4096 → (cb_R (cb_set r (cb_ge (cb_R r 12 t) 12) (cb_R r 12 t)) 12 x = 0 ↔ (S x || S (x ^^^ t)) = true) := by
  have h0 : cb_R r 12 t ≠ 0 := by
    intro h
    have := (hS t ht).mp h
    rw [hn] at this
    exact absurd this (by decide)
  have hl : cb_R r 12 t < 4096 := cb_R_lt 12 t (Nat.le_refl _) (fun b hb => (hE b hb).1) ht
  obtain ⟨g1, g2, g3⟩ := cb_ge_p h0 12 hl
  have hred := fun b hb h => cb_R_red (rw_ := r) 12 t b hE hb h
  generalize hv : cb_R r 12 t = v at *
  generalize hp : cb_ge v 12 = p at *
  have hr0 : r p = 0 := by
    by_cases z : r p = 0
    · exact z
    · have := hred p g3 z
      rw [g1] at this
      exact absurd this (by decide)
  refine ⟨h0, hl, g3, ?_, ?_⟩
  · intro b hb
    by_cases e : b = p
    · subst e; rw [cb_set_s]; exact ⟨g2, Or.inr g1⟩
    · rw [cb_set_n e]; exact hE b hb
  · intro x hx
    rw [cb_R_new hE hr0 hred 12 g3 (Nat.le_refl _) x]
    have hx2 : cb_R r 12 (x ^^^ t) = cb_R r 12 x ^^^ v := by rw [cb_R_xor, hv]
    have q1 := hS x hx
    have q2 := hS (x ^^^ t) (cb_xlt hx ht)
    rw [hx2] at q2
    rw [Bool.or_eq_true, ← q1, ← q2]
    cases b : (cb_R r 12 x).testBit p with
    | true =>
      rw [if_pos rfl]
      constructor
      · intro h; exact Or.inr h
      · intro h
        rcases h with h | h
        · rw [h, Nat.zero_testBit] at b; exact absurd b (by decide)
        · exact h
    | false =>
      rw [if_neg (by decide)]
      constructor
      · intro h; exact Or.inl h
      · intro h
        rcases h with h | h
        · exact h
        · rw [cb_xe] at h
          rw [h, g1] at b
          exact absurd b (by decide)
/-! the lightest set outside -/
def cb_lt (C S : Nat → Bool) (w : Nat → Nat) : Nat → Nat
  | 0 => 0
  | x + 1 => if (C x && !S x) = true then (if cb_lt C S w x = 0 ∨ w x < w (cb_lt C S w x) then x else cb_lt C S w x) else cb_lt C S w x
theorem cb_lt_n {C S : Nat → Bool} {w : Nat → Nat} {x : Nat} (h : C x = false ∨ S x = true) : cb_lt C S w (x + 1) = cb_lt C S w x := if_neg (by rcases h with h | h <;> simp [h])
theorem cb_lt_a {C S : Nat → Bool} {w : Nat → Nat} {x : Nat} (h : C x = true) (g : S x = false) (q : cb_lt C S w x = 0 ∨ w x < w (cb_lt C S w x)) : cb_lt C S w (x + 1) = x := by
  simp only [cb_lt]
  rw [if_pos (by simp [h, g]), if_pos q]
theorem cb_lt_b {C S : Nat → Bool} {w : Nat → Nat} {x : Nat} (q : ¬ cb_lt C S w x = 0) (q2 : ¬ w x < w (cb_lt C S w x)) : cb_lt C S w (x + 1) = cb_lt C S w x := by
  simp only [cb_lt]
  rw [if_neg (c := _ ∨ _) (fun z => z.elim q q2)]
  split <;> rfl
theorem cb_lt_in (C S : Nat → Bool) (w : Nat → Nat) : ∀ n, cb_lt C S w n = 0 ∨ (cb_lt C S w n < n ∧ C (cb_lt C S w n) = true ∧ S (cb_lt C S w n) = false) := by
  intro n
  induction n with
  | zero => exact Or.inl rfl
  | succ n ih =>
    have ih' : cb_lt C S w n = 0 ∨ (cb_lt C S w n < n + 1 ∧ C (cb_lt C S w n) = true ∧ S (cb_lt C S w n) = false) := by
      rcases ih with h | h
      · exact Or.inl h
      · exact Or.inr ⟨by omega, h.2⟩
    cases h : C n with
    | false => rw [cb_lt_n (Or.inl h)]; exact ih'
    | true =>
      cases g : S n with
      | true => rw [cb_lt_n (Or.inr g)]; exact ih'
      | false =>
        by_cases q : cb_lt C S w n = 0 ∨ w n < w (cb_lt C S w n)
        · rw [cb_lt_a h g q]; exact Or.inr ⟨by omega, h, g⟩
        · rw [cb_lt_b (fun z => q (Or.inl z)) (fun z => q (Or.inr z))]; exact ih'
theorem cb_lt_0 {C S : Nat → Bool} {w : Nat → Nat} (hS : S 0 = true) : ∀ n, cb_lt C S w n = 0 → ∀ x, x < n → C x = true → S x = true := by
  intro n
  induction n with
  | zero => intro _ x hx; omega
  | succ n ih =>
    intro h x hx hC
    cases g : S n with
    | true =>
      rw [cb_lt_n (Or.inr g)] at h
      by_cases e : x = n
      · rw [e]; exact g
      · exact ih h x (by omega) hC
    | false =>
      cases hn : C n with
      | false =>
        rw [cb_lt_n (Or.inl hn)] at h
        by_cases e : x = n
        · rw [e, hn] at hC; exact absurd hC (by decide)
        · exact ih h x (by omega) hC
      | true =>
        have n0 : n ≠ 0 := by intro e; rw [e, hS] at g; exact absurd g (by decide)
        by_cases q : cb_lt C S w n = 0 ∨ w n < w (cb_lt C S w n)
        · rw [cb_lt_a hn g q] at h; exact absurd h n0
        · rw [cb_lt_b (fun z => q (Or.inl z)) (fun z => q (Or.inr z))] at h; exact absurd (Or.inl h) q
/-! the rounds -/
def cb_nx (C : Nat → Bool) (w : Nat → Nat) (S : Nat → Bool) : Nat → Bool := fun x => S x || S (x ^^^ cb_lt C S w 4096)
def cb_S (C : Nat → Bool) (w : Nat → Nat) : Nat → Nat → Bool
  | 0 => fun x => decide (x = 0)
  | k + 1 => cb_nx C w (cb_S C w k)
def cb_t (C : Nat → Bool) (w : Nat → Nat) (k : Nat) : Nat := cb_lt C (cb_S C w k) w 4096
def cb_g (C : Nat → Bool) (w : Nat → Nat) (k : Nat) : Nat := if cb_t C w k = 0 then 0 else w (cb_t C w k)
theorem cb_S_0 (C : Nat → Bool) (w : Nat → Nat) : ∀ k, cb_S C w k 0 = true := by
  intro k
  induction k with
  | zero => rfl
  | succ k ih => simp only [cb_S, cb_nx, ih, Bool.true_or]
theorem cb_S_same {C : Nat → Bool} {w : Nat → Nat} {k : Nat} (h : cb_t C w k = 0) : cb_S C w (k + 1) = cb_S C w k := by
  funext x
  show (cb_S C w k x || cb_S C w k (x ^^^ cb_t C w k)) = _
  rw [h, cb_x0, Bool.or_self]
theorem cb_t_same {C : Nat → Bool} {w : Nat → Nat} {k : Nat} (h : cb_t C w k = 0) : cb_t C w (k + 1) = 0 := by
  unfold cb_t
  rw [cb_S_same h]
  exact h
theorem cb_t_0 {C : Nat → Bool} {w : Nat → Nat} {k : Nat} (h : cb_t C w k = 0) : ∀ d, cb_t C w (k + d) = 0 := by
  intro d
  induction d with
  | zero => exact h
  | succ d ih => exact cb_t_same ih
/-- what is asked of the closed sets and their weights -/
def cb_K (C : Nat → Bool) (w : Nat → Nat) : Prop := C 0 = true ∧ (∀ x y, C x = true → C y = true → C (x ^^^ y) = true) ∧ (∀ x, C x = true → x < 4096) ∧ (∀ x, C x = true → x ≠ 0 → 0 < w x) ∧ (∀ x, w x ≤ 1200)
theorem cb_t_C {C : Nat → Bool} {w : Nat → Nat} (K : cb_K C w) (k : Nat) : C (cb_t C w k) = true := by
  rcases cb_lt_in C (cb_S C w k) w 4096 with h | h
  · unfold cb_t; rw [h]; exact K.1
  · exact h.2.1
theorem cb_t_lt {C : Nat → Bool} {w : Nat → Nat} (K : cb_K C w) (k : Nat) : cb_t C w k < 4096 := K.2.2.1 _ (cb_t_C K k)
theorem cb_g_0 {C : Nat → Bool} {w : Nat → Nat} (K : cb_K C w) (k : Nat) : cb_g C w k = 0 ↔ cb_t C w k = 0 := by
  unfold cb_g
  by_cases h : cb_t C w k = 0
  · rw [if_pos h]; simp [h]
  · rw [if_neg h]
    have := K.2.2.2.1 _ (cb_t_C K k) h
    constructor
    · intro z; omega
    · intro z; exact absurd z h
theorem cb_g_le {C : Nat → Bool} {w : Nat → Nat} (K : cb_K C w) (k : Nat) : cb_g C w k ≤ 1200 := by
  unfold cb_g; split
  · omega
  · exact K.2.2.2.2 _
theorem cb_S_C {C : Nat → Bool} {w : Nat → Nat} (K : cb_K C w) : ∀ k x, cb_S C w k x = true → C x = true := by
  intro k
  induction k with
  | zero => intro x h; have e : x = 0 := of_decide_eq_true h; rw [e]; exact K.1
  | succ k ih =>
    intro x h
    have h' : (cb_S C w k x || cb_S C w k (x ^^^ cb_t C w k)) = true := h
    rw [Bool.or_eq_true] at h'
    rcases h' with h' | h'
    · exact ih x h'
    · have := K.2.1 _ _ (ih _ h') (cb_t_C K k)
      rw [cb_xx] at this
      exact this
theorem cb_S_xor {C : Nat → Bool} {w : Nat → Nat} : ∀ k x y, cb_S C w k x = true → cb_S C w k y = true → cb_S C w k (x ^^^ y) = true := by
  intro k
  induction k with
  | zero =>
    intro x y h g
    have e : x = 0 := of_decide_eq_true h
    have f : y = 0 := of_decide_eq_true g
    rw [e, f]; rfl
  | succ k ih =>
    intro x y h g
    have h' : (cb_S C w k x || cb_S C w k (x ^^^ cb_t C w k)) = true := h
    have g' : (cb_S C w k y || cb_S C w k (y ^^^ cb_t C w k)) = true := g
    show (cb_S C w k (x ^^^ y) || cb_S C w k ((x ^^^ y) ^^^ cb_t C w k)) = true
    rw [Bool.or_eq_true] at *
    rcases h' with h' | h' <;> rcases g' with g' | g'
    · exact Or.inl (ih _ _ h' g')
    · have := ih _ _ h' g'; rw [cb_xr] at this; exact Or.inr this
    · have := ih _ _ h' g'; rw [cb_xl] at this; exact Or.inr this
    · have := ih _ _ h' g'; rw [cb_x4] at this; exact Or.inl this
def cb_rk (C : Nat → Bool) (w : Nat → Nat) (k : Nat) : Nat := cb_su (fun j => if cb_t C w j = 0 then 0 else 1) k
theorem cb_rk_le (C : Nat → Bool) (w : Nat → Nat) (k : Nat) : cb_rk C w k ≤ k := by
  have := cb_su_le (f := fun j => if cb_t C w j = 0 then 0 else 1) (g := fun _ => 1) k (fun x _ => by split <;> omega)
  rw [cb_su_1] at this
  exact this
theorem cb_S_ct {C : Nat → Bool} {w : Nat → Nat} (K : cb_K C w) : ∀ k, cb_ct (cb_S C w k) 4096 = 2 ^ cb_rk C w k ∧ (cb_rk C w k = k ∨ ∀ x, x < 4096 → C x = true → cb_S C w k x = true) := by
  intro k
  induction k with
  | zero =>
    refine ⟨?_, Or.inl rfl⟩
    have := cb_su_d 0 1 4096 (by decide)
    rw [show 2 ^ cb_rk C w 0 = 1 from rfl, ← this]
    apply cb_su_c
    intro x _
    simp [cb_S]
  | succ k ih =>
    by_cases h : cb_t C w k = 0
    · have e : cb_rk C w (k + 1) = cb_rk C w k := by
        show cb_rk C w k + (if cb_t C w k = 0 then 0 else 1) = _
        rw [if_pos h]; rfl
      rw [e, cb_S_same h]
      exact ⟨ih.1, Or.inr (cb_lt_0 (cb_S_0 C w k) 4096 h)⟩
    · have e : cb_rk C w (k + 1) = cb_rk C w k + 1 := by
        show cb_rk C w k + (if cb_t C w k = 0 then 0 else 1) = _
        rw [if_neg h]
      have hS : cb_S C w k (cb_t C w k) = false := (cb_lt_in C (cb_S C w k) w 4096).resolve_left h |>.2.2
      refine ⟨?_, ?_⟩
      · rw [e, Nat.pow_succ, Nat.mul_two, ← ih.1]
        have s1 : cb_ct (cb_S C w (k + 1)) 4096 = cb_su (fun x => (if cb_S C w k x then 1 else 0) + (if cb_S C w k (x ^^^ cb_t C w k) then 1 else 0)) 4096 := by
          apply cb_su_c
          intro x _
          show (if (cb_S C w k x || cb_S C w k (x ^^^ cb_t C w k)) = true then 1 else 0) = _
          cases a : cb_S C w k x <;> cases b : cb_S C w k (x ^^^ cb_t C w k) <;> simp
          have := cb_S_xor k _ _ b a
          rw [cb_xl, cb_xs] at this
          have e2 : 0 ^^^ cb_t C w k = cb_t C w k := by rw [← cb_xs x, cb_xl]; rw [cb_xl, cb_xs]; apply Nat.eq_of_testBit_eq; intro i; simp [Nat.testBit_xor]
          rw [e2, hS] at this
          exact absurd this (by decide)
        rw [s1, cb_su_add]
        exact congrArg (cb_ct (cb_S C w k) 4096 + ·) (cb_ct_x (cb_S C w k) (cb_t_lt K k))
      · rcases ih.2 with g | g
        · exact Or.inl (by rw [e, g])
        · exfalso
          have := g _ (cb_t_lt K k) (cb_t_C K k)
          rw [hS] at this
          exact absurd this (by decide)
theorem cb_C_ct {C : Nat → Bool} {w : Nat → Nat} (K : cb_K C w) : cb_ct C 4096 = 2 ^ cb_rk C w 12 := by
  obtain ⟨h, g⟩ := cb_S_ct K 12
  have l1 : cb_ct (cb_S C w 12) 4096 ≤ cb_ct C 4096 := by
    apply cb_su_le
    intro x _
    cases a : cb_S C w 12 x with
    | false => simp
    | true => rw [cb_S_C K 12 x a]; exact Nat.le_refl _
  rcases g with g | g
  · have l2 : cb_ct C 4096 ≤ 4096 := by
      have := cb_su_le (f := fun x => if C x = true then 1 else 0) (g := fun _ => 1) 4096 (fun x _ => by split <;> omega)
      rw [cb_su_1] at this
      exact this
    rw [g] at h ⊢
    have e : (2 : Nat) ^ 12 = 4096 := by decide
    omega
  · have l2 : cb_ct C 4096 ≤ cb_ct (cb_S C w 12) 4096 := by
      apply cb_su_le
      intro x hx
      cases a : C x with
      | false => simp
      | true => rw [g x hx a]; exact Nat.le_refl _
    omega
/-- how many closed sets, the empty one left out, lie below x -/
def cb_n (C : Nat → Bool) (x : Nat) : Nat := cb_su (fun y => if C y = true ∧ y ≠ 0 then 1 else 0) x
theorem cb_n_t {C : Nat → Bool} {x : Nat} (h : C x = true) (g : x ≠ 0) : cb_n C (x + 1) = cb_n C x + 1 := by
  show cb_n C x + (if C x = true ∧ x ≠ 0 then 1 else 0) = _
  rw [if_pos ⟨h, g⟩]
theorem cb_n_f {C : Nat → Bool} {x : Nat} (h : C x = false ∨ x = 0) : cb_n C (x + 1) = cb_n C x := by
  show cb_n C x + (if C x = true ∧ x ≠ 0 then 1 else 0) = _
  rw [if_neg]; rfl
  rintro ⟨a, b⟩
  rcases h with h | h
  · rw [h] at a; exact absurd a (by decide)
  · exact b h
theorem cb_n_s (C : Nat → Bool) (x : Nat) : cb_n C x ≤ cb_n C (x + 1) := Nat.le_add_right _ _
theorem cb_n_m (C : Nat → Bool) {x : Nat} : ∀ d, cb_n C x ≤ cb_n C (x + d) := by
  intro d
  induction d with
  | zero => exact Nat.le_refl _
  | succ d ih => exact Nat.le_trans ih (cb_n_s C (x + d))
theorem cb_n_lt {C : Nat → Bool} {x y : Nat} (h : C x = true) (g : x ≠ 0) (hy : x < y) : cb_n C x < cb_n C y := by
  have := cb_n_m C (x := x + 1) (y - (x + 1))
  rw [cb_n_t h g, show x + 1 + (y - (x + 1)) = y from by omega] at this
  omega
theorem cb_n_le (C : Nat → Bool) (x : Nat) : cb_n C x ≤ x := by
  have := cb_su_le (f := fun y => if C y = true ∧ y ≠ 0 then 1 else 0) (g := fun _ => 1) x (fun x _ => by split <;> omega)
  rw [cb_su_1] at this
  exact this
theorem cb_n_ct {C : Nat → Bool} (h : C 0 = true) : ∀ n, cb_n C (n + 1) + 1 = cb_ct C (n + 1) := by
  intro n
  induction n with
  | zero => rw [cb_n_f (Or.inr rfl)]; show _ = 0 + (if C 0 = true then 1 else 0); rw [if_pos h]; rfl
  | succ n ih =>
    show _ = cb_ct C (n + 1) + (if C (n + 1) = true then 1 else 0)
    cases g : C (n + 1) with
    | true => rw [cb_n_t g (by omega), ← ih]; simp
    | false => rw [cb_n_f (Or.inl g), ← ih]; simp
theorem cb_ext {α : Type} {f : Nat → α} {m : Nat} (h : ∀ x, m ≤ x → f (x + 1) = f x) : ∀ d, f (m + d) = f m := by
  intro d
  induction d with
  | zero => rfl
  | succ d ih => rw [← ih]; exact h (m + d) (by omega)
