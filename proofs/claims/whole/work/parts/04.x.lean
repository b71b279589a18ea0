/-! the class's own walks, each against the pure picture -/
def xc_ok (c : Nat) (en wt : Nat → Nat) (ends ws : Nat → Int32) : Prop := c ≤ 12 ∧ ∀ e, e < c → en e < 128 ∧ 1 ≤ wt e ∧ wt e ≤ 100 ∧ ends e = nI (en e) ∧ ws e = nI (wt e)
theorem xc_suc {n d : Nat} (h : d < n) : ∃ m, n = m + 1 := ⟨n - 1, by omega⟩
theorem xc_K {c : Nat} {en wt : Nat → Nat} {ends ws : Nat → Int32} (H : xc_ok c en wt ends ws) : cb_K (cb_C en c) (fun x => cb_w wt x c) := by
  refine ⟨cb_C_0 en c, fun x y => cb_C_xor, fun x h => Nat.lt_of_lt_of_le (cb_C_lt h) (cb_pow H.1), fun x h g => cb_w_pos c (fun e he => (H.2 e he).2.1) (cb_C_lt h) g, fun x => ?_⟩
  have := cb_w_le (wt := wt) (s := x) c (fun e he => (H.2 e he).2.2.1)
  have := H.1
  show cb_w wt x c ≤ 1200
  omega
theorem xc_has {post : Int32 → Prop} {s e : Nat} (hs : s < 2 ^ 31) (he : e < 32) (h1 : s.testBit e = true → post 1) (h0 : s.testBit e = false → post 0) : wpX_has post (nI s) (nI e) := by
  refine ⟨fun h => h1 ((cb_bit1 hs he).mp h), fun h => h0 ?_⟩
  rw [cb_bit1 hs he] at h
  cases g : s.testBit e
  · rfl
  · exact absurd g h
section
variable {c : Nat} {en wt : Nat → Nat} {ends ws : Nat → Int32} (H : xc_ok c en wt ends ws)
theorem xc_isClosed_l (H : xc_ok c en wt ends ws) {s : Nat} (hs : s < 4096) (post : Int32 → Prop) (cc : Int32) (cs rows : Nat → Int32) (hp : post (if cb_od en s c = 0 then 1 else 0)) :
    ∀ d e n, e + d = c → d < n → wX_isClosed_4 post (nI s) (nI c) cc ends ws cs rows n (nI (cb_od en s e)) (nI e) := by
  have hc := H.1
  have hl : cb_od en s c < 128 := cb_od_lt c (fun e he => (H.2 e he).1)
  intro d
  induction d with
  | zero =>
    intro e n h hn
    obtain ⟨m, rfl⟩ := xc_suc hn
    obtain rfl : e = c := by omega
    refine br_t (nI_le (Nat.le_refl _) (by omega)) ?_
    refine pk_eq (cb_od en s e) 0 (fun h => ?_) (fun h => ?_) rfl rfl (by omega) (by omega)
    · rw [if_pos h] at hp; exact hp
    · rw [if_neg h] at hp; exact hp
  | succ d ih =>
    intro e n h hn
    obtain ⟨m, rfl⟩ := xc_suc hn
    refine br_f (nI_ge (by omega) (by omega)) ?_
    have i := ih (e + 1) m (by omega) (by omega)
    refine xc_has (by omega) (by omega) (fun ht => ?_) (fun hf => ?_)
    · rw [cb_od_t ht] at i
      refine br_f (by decide) ⟨vp_in_nI (by omega) (by omega), nm_r (e' := nI (cb_od en s e ^^^ en e)) ?_ (nm_r (nI_1 e) i)⟩
      rw [nI_clamp (by omega), (H.2 e (by omega)).2.2.2.1, nx_xor]
    · rw [cb_od_f hf] at i
      exact br_t rfl (nm_r (nI_1 e) i)
theorem xc_isClosed (H : xc_ok c en wt ends ws) {s : Nat} (hs : s < 4096) {post : Int32 → Prop} {cc : Int32} {cs rows : Nat → Int32} (hp : post (if cb_od en s c = 0 then 1 else 0)) : wpX_isClosed post (nI c, cc, ends, ws, cs, rows) (nI s) :=
  ⟨c + 1, xc_isClosed_l H hs post cc cs rows hp c 0 (c + 1) (by omega) (by omega)⟩
theorem xc_weightOf_l (H : xc_ok c en wt ends ws) {s : Nat} (hs : s < 4096) (post : Int32 → Prop) (cc : Int32) (cs rows : Nat → Int32) (hp : post (nI (cb_w wt s c))) :
    ∀ d e n, e + d = c → d < n → wX_weightOf_4 post (nI s) (nI c) cc ends ws cs rows n (nI (cb_w wt s e)) (nI e) := by
  have hc := H.1
  intro d
  induction d with
  | zero =>
    intro e n h hn
    obtain ⟨m, rfl⟩ := xc_suc hn
    obtain rfl : e = c := by omega
    exact br_t (nI_le (Nat.le_refl _) (by omega)) hp
  | succ d ih =>
    intro e n h hn
    obtain ⟨m, rfl⟩ := xc_suc hn
    refine br_f (nI_ge (by omega) (by omega)) ?_
    have i := ih (e + 1) m (by omega) (by omega)
    refine xc_has (by omega) (by omega) (fun ht => ?_) (fun hf => ?_)
    · rw [cb_w_t ht] at i
      refine br_f (by decide) ⟨vp_in_nI (by omega) (by omega), nm_r (e' := nI (cb_w wt s e + wt e)) ?_ (nm_r (nI_1 e) i)⟩
      rw [nI_clamp (by omega), (H.2 e (by omega)).2.2.2.2, nI_add]
    · rw [cb_w_f hf] at i
      exact br_t rfl (nm_r (nI_1 e) i)
theorem xc_weightOf (H : xc_ok c en wt ends ws) {s : Nat} (hs : s < 4096) {post : Int32 → Prop} {cc : Int32} {cs rows : Nat → Int32} (hp : post (nI (cb_w wt s c))) : wpX_weightOf post (nI c, cc, ends, ws, cs, rows) (nI s) :=
  ⟨c + 1, xc_weightOf_l H hs post cc cs rows hp c 0 (c + 1) (by omega) (by omega)⟩
def xc_G (C : Nat → Bool) (cs : Nat → Int32) : Prop := ∀ y, y < 4096 → C y = true → y ≠ 0 → cs (cb_n C y) = nI y
theorem xc_gather_l (H : xc_ok c en wt ends ws) (post : SX → Prop) (cc : Int32) (rows : Nat → Int32) (hp : ∀ cs', xc_G (cb_C en c) cs' → post (nI c, nI (cb_n (cb_C en c) 4096), ends, ws, cs', rows)) :
    ∀ d x n cs, x + d = 2 ^ c → 1 ≤ x → d < n → (∀ y, y < x → cb_C en c y = true → y ≠ 0 → cs (cb_n (cb_C en c) y) = nI y) → wX_gatherClosedSets_11 post (nI (2 ^ c)) (nI c) cc n (nI (cb_n (cb_C en c) x)) (nI x) ends ws cs rows := by
  have hc := H.1
  have hq := cb_pow hc
  intro d
  induction d with
  | zero =>
    intro x n cs h h1 hn hi
    obtain ⟨m, rfl⟩ := xc_suc hn
    obtain rfl : x = 2 ^ c := by omega
    refine br_t (nI_le (Nat.le_refl _) (by omega)) ?_
    have e : cb_n (cb_C en c) 4096 = cb_n (cb_C en c) (2 ^ c) := by
      have := cb_ext (f := cb_n (cb_C en c)) (m := 2 ^ c) (fun x hx => cb_n_f (Or.inl (by simp [cb_C]; omega))) (4096 - 2 ^ c)
      rwa [show 2 ^ c + (4096 - 2 ^ c) = 4096 from by omega] at this
    rw [← e]
    apply hp
    intro y hy hC h0
    exact hi y (cb_C_lt hC) hC h0
  | succ d ih =>
    intro x n cs h h1 hn hi
    obtain ⟨m, rfl⟩ := xc_suc hn
    refine br_f (nI_ge (by omega) (by omega)) ?_
    have hle := cb_n_le (cb_C en c) x
    refine xc_isClosed H (by omega) ?_
    by_cases ho : cb_od en x c = 0
    · have hC : cb_C en c x = true := by simp [cb_C, ho]; omega
      rw [if_pos ho]
      refine br_f (by decide) ⟨vp_in_nI (by omega) (by omega), nm_r (e' := upd cs (cb_n (cb_C en c) x) (nI x)) (by rw [nI_clamp (by omega)]) (nm_r (nI_1 _) (nm_r (nI_1 x) ?_))⟩
      rw [← cb_n_t hC (by omega)]
      refine ih (x + 1) m _ (by omega) (by omega) (by omega) ?_
      intro y hy hyC h0
      by_cases e : y = x
      · subst e; exact pk_us
      · have := cb_n_lt hyC h0 (show y < x by omega)
        rw [pk_un (by omega)]
        exact hi y (by omega) hyC h0
    · have hC : cb_C en c x = false := by simp [cb_C, ho]
      rw [if_neg ho]
      refine br_t rfl (nm_r (nI_1 x) ?_)
      rw [← cb_n_f (C := cb_C en c) (Or.inl hC)]
      refine ih (x + 1) m cs (by omega) (by omega) (by omega) ?_
      intro y hy hyC h0
      by_cases e : y = x
      · subst e; rw [hC] at hyC; exact absurd hyC (by decide)
      · exact hi y (by omega) hyC h0
theorem xc_gather (H : xc_ok c en wt ends ws) {post : SX → Prop} {cc : Int32} {cs rows : Nat → Int32} (hp : ∀ cs', xc_G (cb_C en c) cs' → post (nI c, nI (cb_n (cb_C en c) 4096), ends, ws, cs', rows)) : wpX_gatherClosedSets post (nI c, cc, ends, ws, cs, rows) := by
  have hc := H.1
  have h0 : 0 < 2 ^ c := Nat.two_pow_pos c
  refine nm_r (cb_shl (by omega)) ⟨2 ^ c + 1, ?_⟩
  have := xc_gather_l H post cc rows hp (2 ^ c - 1) 1 (2 ^ c + 1) cs (by omega) (by omega) (by omega) (fun y hy _ h => absurd (show y = 0 by omega) h)
  rw [show cb_n (cb_C en c) 1 = 0 from cb_n_f (Or.inr rfl)] at this
  exact this
theorem xc_start_l (post : SX → Prop) (f g : Int32) (cs : Nat → Int32) (hp : ∀ rows', (∀ b, b < 12 → rows' b = 0) → post (f, g, ends, ws, cs, rows')) :
    ∀ d b n rows, b + d = 12 → d < n → (∀ j, j < b → rows j = 0) → wX_startSpan_6 post f g n (nI b) ends ws cs rows := by
  intro d
  induction d with
  | zero =>
    intro b n rows h hn hi
    obtain ⟨m, rfl⟩ := xc_suc hn
    obtain rfl : b = 12 := by omega
    exact br_t (by decide) (hp rows hi)
  | succ d ih =>
    intro b n rows h hn hi
    obtain ⟨m, rfl⟩ := xc_suc hn
    refine br_f (nI_ge (b := 12) (by omega) (by decide)) ⟨vp_in_nI (by omega) (by omega), nm_r (e' := upd rows b 0) (by rw [nI_clamp (by omega)]) (nm_r (nI_1 b) (ih (b + 1) m _ (by omega) (by omega) ?_))⟩
    intro j hj
    by_cases e : j = b
    · subst e; exact pk_us
    · rw [pk_un e]; exact hi j (by omega)
def xc_I (rows : Nat → Int32) (S : Nat → Bool) : Prop := ∃ r : Nat → Nat, (∀ b, b < 12 → rows b = nI (r b)) ∧ cb_E r ∧ ∀ x, x < 4096 → (cb_R r 12 x = 0 ↔ S x = true)
theorem xc_I_0 {rows : Nat → Int32} (h : ∀ b, b < 12 → rows b = 0) (C : Nat → Bool) (w : Nat → Nat) : xc_I rows (cb_S C w 0) := by
  refine ⟨fun _ => 0, h, fun b _ => ⟨Nat.two_pow_pos _, Or.inl rfl⟩, fun x _ => ?_⟩
  rw [cb_R_fix 12 x (fun b _ z => absurd rfl z)]
  exact (decide_eq_true_iff).symm
theorem xc_start (H : xc_ok c en wt ends ws) {post : SX → Prop} {cc : Int32} {cs rows : Nat → Int32} (hp : ∀ cs' rows', xc_G (cb_C en c) cs' → xc_I rows' (cb_S (cb_C en c) (fun x => cb_w wt x c) 0) → post (nI c, nI (cb_n (cb_C en c) 4096), ends, ws, cs', rows')) : wpX_startSpan post (nI c, cc, ends, ws, cs, rows) := by
  refine xc_gather H (fun cs' hG => ?_)
  exact ⟨13, xc_start_l post _ _ cs' (fun rows' h => hp cs' rows' hG (xc_I_0 h _ _)) 12 0 13 rows (by omega) (by omega) (fun j hj => absurd hj (by omega))⟩
theorem xc_remainder_l {r : Nat → Nat} {rows : Nat → Int32} (hr : ∀ b, b < 12 → rows b = nI (r b)) (hE : cb_E r) (post : Int32 → Prop) (f g : Int32) (cs : Nat → Int32) :
    ∀ k x n, k ≤ 12 → x < 4096 → k < n → post (nI (cb_R r k x)) → wX_remainder_5 post f g ends ws cs rows n (nI x) (nI k + (-1)) := by
  intro k
  induction k with
  | zero =>
    intro x n _ hx hn hp
    obtain ⟨m, rfl⟩ := xc_suc hn
    exact br_t (by decide) hp
  | succ k ih =>
    intro x n hk hx hn hp
    obtain ⟨m, rfl⟩ := xc_suc hn
    rw [pk_m1]
    refine br_f (nI_pos (by omega)) ?_
    rw [cb_R_s] at hp
    refine xc_has (by omega) (by omega) (fun ht => ?_) (fun hf => ?_)
    · rw [cb_L_t ht] at hp
      have hl : r k < 4096 := Nat.lt_of_lt_of_le (hE k (by omega)).1 (cb_pow hk)
      refine br_f (by decide) ⟨vp_in_nI (by omega) (by omega), nm_r (e' := nI (x ^^^ r k)) ?_ (nm_e (ih (x ^^^ r k) m (by omega) (cb_xlt hx hl) (by omega) hp))⟩
      rw [nI_clamp (by omega), hr k (by omega), nx_xor]
    · rw [cb_L_f hf] at hp
      exact br_t rfl (nm_e (ih x m (by omega) hx (by omega) hp))
theorem xc_remainder {r : Nat → Nat} {rows : Nat → Int32} (hr : ∀ b, b < 12 → rows b = nI (r b)) (hE : cb_E r) {post : Int32 → Prop} {f g : Int32} {cs : Nat → Int32} {x : Nat} (hx : x < 4096) (hp : post (nI (cb_R r 12 x))) : wpX_remainder post (f, g, ends, ws, cs, rows) (nI x) :=
  ⟨13, xc_remainder_l hr hE post f g cs 12 x 13 (by omega) hx (by omega) hp⟩
/-- a remainder is asked for whether it is nothing -/
theorem xc_rem {rows : Nat → Int32} {S : Nat → Bool} (hI : xc_I rows S) {post : Int32 → Prop} {f g : Int32} {cs : Nat → Int32} {x : Nat} (hx : x < 4096) (h0 : S x = true → post 0) (h1 : S x = false → ∀ y, ¬ y = 0 → post y) : wpX_remainder post (f, g, ends, ws, cs, rows) (nI x) := by
  obtain ⟨r, hr, hE, hS⟩ := hI
  refine xc_remainder hr hE hx ?_
  have q := hS x hx
  have hl := cb_R_lt (rw_ := r) 12 x (Nat.le_refl _) (fun b hb => (hE b hb).1) hx
  cases e : S x with
  | true => rw [q.mpr e]; exact h0 e
  | false =>
    refine h1 e _ (nI_ne0 ?_ (by omega))
    apply Nat.pos_of_ne_zero
    intro z
    rw [q.mp z] at e
    exact absurd e (by decide)
theorem xc_greatest_l {x : Nat} (hx : x < 4096) (post : Int32 → Prop) (hp : post (nI (cb_ge x 12))) : ∀ d e n, e + d = 12 → d < n → wX_greatestEdge_4 post (nI x) n (nI (cb_ge x e)) (nI e) := by
  intro d
  induction d with
  | zero =>
    intro e n h hn
    obtain ⟨m, rfl⟩ := xc_suc hn
    obtain rfl : e = 12 := by omega
    exact br_t (by decide) hp
  | succ d ih =>
    intro e n h hn
    obtain ⟨m, rfl⟩ := xc_suc hn
    refine br_f (nI_ge (b := 12) (by omega) (by decide)) ?_
    have i := ih (e + 1) m (by omega) (by omega)
    refine xc_has (by omega) (by omega) (fun ht => ?_) (fun hf => ?_)
    · rw [cb_ge_t ht] at i
      exact br_f (by decide) (nm_r (nI_1 e) i)
    · rw [cb_ge_f hf] at i
      exact br_t rfl (nm_r (nI_1 e) i)
theorem xc_greatest {x : Nat} (hx : x < 4096) {post : Int32 → Prop} (hp : post (nI (cb_ge x 12))) : wpX_greatestEdge post (nI x) :=
  ⟨13, xc_greatest_l hx post hp 12 0 13 (by omega) (by omega)⟩
def xc_lw (C S : Nat → Bool) (w : Nat → Nat) (x : Nat) : Nat := if cb_lt C S w x = 0 then 0 else w (cb_lt C S w x)
theorem xc_lightest_l (H : xc_ok c en wt ends ws) {cs rows : Nat → Int32} {S : Nat → Bool} (hG : xc_G (cb_C en c) cs) (hI : xc_I rows S) (hS : S 0 = true) (post : Int32 → Prop) (hp : post (nI (cb_lt (cb_C en c) S (fun x => cb_w wt x c) 4096))) :
    ∀ d x n, x + d = 4096 → d < n → wX_lightestOutsideSpan_6 post (nI c) (nI (cb_n (cb_C en c) 4096)) ends ws cs rows n (nI (cb_lt (cb_C en c) S (fun x => cb_w wt x c) x)) (nI (xc_lw (cb_C en c) S (fun x => cb_w wt x c) x)) (nI (cb_n (cb_C en c) x)) := by
  have K := xc_K H
  have hN := cb_n_le (cb_C en c) 4096
  intro d
  induction d with
  | zero =>
    intro x n h hn
    obtain ⟨m, rfl⟩ := xc_suc hn
    obtain rfl : x = 4096 := by omega
    exact br_t (nI_le (Nat.le_refl _) (by omega)) hp
  | succ d ih =>
    intro x n h hn
    by_cases hC : cb_C en c x = true ∧ x ≠ 0
    · obtain ⟨m, rfl⟩ := xc_suc hn
      have i := ih (x + 1) m (by omega) (by omega)
      have hlt := cb_n_lt hC.1 hC.2 (show x < 4096 by omega)
      rw [cb_n_t hC.1 hC.2] at i
      refine br_f (nI_ge hlt (by omega)) ⟨vp_in_nI (by omega) (by omega), nm_r (e' := nI x) (by rw [nI_clamp (by omega)]; exact hG x (by omega) hC.1 hC.2) ?_⟩
      refine xc_rem hI (by omega) (fun hs => ?_) (fun hs y hy => ?_)
      · unfold xc_lw at i ⊢
        rw [cb_lt_n (Or.inr hs)] at i
        exact br_t rfl (nm_r (nI_1 _) i)
      · refine br_f hy (xc_weightOf H (by omega) ?_)
        have hb := K.2.2.2.2 x
        have hb2 := K.2.2.2.2 (cb_lt (cb_C en c) S (fun x => cb_w wt x c) x)
        have hb3 : cb_lt (cb_C en c) S (fun x => cb_w wt x c) x ≤ x := by
          rcases cb_lt_in (cb_C en c) S (fun x => cb_w wt x c) x with z | z
          · omega
          · omega
        dsimp only at hb hb2
        refine pk_eq (cb_lt (cb_C en c) S (fun x => cb_w wt x c) x) 0 (fun z => ?_) (fun z => ?_) rfl rfl (by omega) (by omega)
        · unfold xc_lw at i
          rw [cb_lt_a hC.1 hs (Or.inl z), if_neg hC.2] at i
          exact nm_r (nI_1 _) i
        · unfold xc_lw at i ⊢
          rw [if_neg z]
          refine pk_le (cb_w wt (cb_lt (cb_C en c) S (fun x => cb_w wt x c) x) c) (cb_w wt x c) (fun g => ?_) (fun g => ?_) rfl rfl (by omega) (by omega)
          · rw [cb_lt_b z (by omega), if_neg z] at i
            exact nm_r (nI_1 _) i
          · rw [cb_lt_a hC.1 hs (Or.inr g), if_neg hC.2] at i
            exact nm_r (nI_1 _) i
    · have i := ih (x + 1) n (by omega) (by omega)
      have e1 : cb_C en c x = false ∨ x = 0 := by
        cases g : cb_C en c x with
        | false => exact Or.inl rfl
        | true => exact Or.inr (by by_cases z : x = 0; exact z; exact absurd ⟨g, z⟩ hC)
      have e2 : cb_C en c x = false ∨ S x = true := by
        rcases e1 with g | g
        · exact Or.inl g
        · exact Or.inr (by rw [g]; exact hS)
      unfold xc_lw at i ⊢
      rw [cb_n_f e1, cb_lt_n e2] at i
      exact i
theorem xc_lightest (H : xc_ok c en wt ends ws) {cs rows : Nat → Int32} {S : Nat → Bool} (hG : xc_G (cb_C en c) cs) (hI : xc_I rows S) (hS : S 0 = true) {post : Int32 → Prop} (hp : post (nI (cb_lt (cb_C en c) S (fun x => cb_w wt x c) 4096))) : wpX_lightestOutsideSpan post (nI c, nI (cb_n (cb_C en c) 4096), ends, ws, cs, rows) :=
  ⟨4097, xc_lightest_l H hG hI hS post hp 4096 0 4097 (by omega) (by omega)⟩
theorem xc_growS (H : xc_ok c en wt ends ws) {cs rows : Nat → Int32} {S : Nat → Bool} (hG : xc_G (cb_C en c) cs) (hI : xc_I rows S) (hS : S 0 = true) {post : Int32 → SX → Prop}
    (hp : ∀ rows', xc_I rows' (cb_nx (cb_C en c) (fun x => cb_w wt x c) S) → post (nI (if cb_lt (cb_C en c) S (fun x => cb_w wt x c) 4096 = 0 then 0 else cb_w wt (cb_lt (cb_C en c) S (fun x => cb_w wt x c) 4096) c)) (nI c, nI (cb_n (cb_C en c) 4096), ends, ws, cs, rows')) :
    wpX_growSpan post (nI c, nI (cb_n (cb_C en c) 4096), ends, ws, cs, rows) := by
  refine xc_lightest H hG hI hS ?_
  have hin := cb_lt_in (cb_C en c) S (fun x => cb_w wt x c) 4096
  unfold cb_nx at hp
  generalize cb_lt (cb_C en c) S (fun x => cb_w wt x c) 4096 = t at *
  have ht : t < 4096 := by rcases hin with h | h <;> omega
  refine pk_eq t 0 (fun z => ?_) (fun z => ?_) rfl rfl (by omega) (by omega)
  · subst z
    have := hp rows (by
      obtain ⟨r, h1, h2, h3⟩ := hI
      refine ⟨r, h1, h2, fun x hx => ?_⟩
      dsimp only
      rw [cb_x0, Bool.or_self]
      exact h3 x hx)
    exact this
  · obtain ⟨r, h1, h2, h3⟩ := hI
    obtain ⟨g1, g2, g3, g4, g5⟩ := cb_grow h2 h3 ht (hin.resolve_left z).2.2
    refine xc_remainder h1 h2 ht (xc_greatest g2 ⟨vp_in_nI g3 (by omega), nm_r (e' := upd rows (cb_ge (cb_R r 12 t) 12) (nI (cb_R r 12 t))) (by rw [nI_clamp (by omega)]) (xc_weightOf H ht ?_)⟩)
    have := hp (upd rows (cb_ge (cb_R r 12 t) 12) (nI (cb_R r 12 t))) ⟨_, fun b hb => ?_, g4, g5⟩
    · rw [if_neg z] at this; exact this
    · by_cases e : b = cb_ge (cb_R r 12 t) 12
      · rw [e, cb_set_s]; exact pk_us
      · rw [cb_set_n e, pk_un e]; exact h1 b hb
/-- one round: from round k's span to the next one's -/
theorem xc_grow (H : xc_ok c en wt ends ws) {cs rows : Nat → Int32} {k : Nat} (hG : xc_G (cb_C en c) cs) (hI : xc_I rows (cb_S (cb_C en c) (fun x => cb_w wt x c) k)) {post : Int32 → SX → Prop}
    (hp : ∀ rows', xc_I rows' (cb_S (cb_C en c) (fun x => cb_w wt x c) (k + 1)) → post (nI (cb_g (cb_C en c) (fun x => cb_w wt x c) k)) (nI c, nI (cb_n (cb_C en c) 4096), ends, ws, cs, rows')) :
    wpX_growSpan post (nI c, nI (cb_n (cb_C en c) 4096), ends, ws, cs, rows) :=
  xc_growS H hG hI (cb_S_0 _ _ k) hp
end
