/-! the reference's own walks, each against the pure picture -/
def yc_ok (c : Nat) (U V wt : Nat → Nat) (us vs ws : Nat → Int32) : Prop := c ≤ 12 ∧ ∀ e, e < c → U e < 7 ∧ V e < 7 ∧ U e ≠ V e ∧ 1 ≤ wt e ∧ wt e ≤ 100 ∧ us e = nI (U e) ∧ vs e = nI (V e) ∧ ws e = nI (wt e)
def yc_val (C : Nat → Bool) (w : Nat → Nat) (x : Nat) : Int32 := if C x = true then nI (w x) else -1
def yc_T (C : Nat → Bool) (w : Nat → Nat) (cw : Nat → Int32) : Prop := ∀ x, x < 4096 → cw x = yc_val C w x
theorem yc_val_t {C : Nat → Bool} {w : Nat → Nat} {x : Nat} (h : C x = true) : yc_val C w x = nI (w x) := if_pos h
theorem yc_val_f {C : Nat → Bool} {w : Nat → Nat} {x : Nat} (h : C x = false) : yc_val C w x = -1 := if_neg (by rw [h]; decide)
theorem yc_neg {C : Nat → Bool} {w : Nat → Nat} (K : cb_K C w) {cw : Nat → Int32} (hT : yc_T C w cw) {x : Nat} (hx : x < 4096) {A B : Prop} (f : C x = false → A) (g : C x = true → cw x = nI (w x) → B) : (cw (nI x).toNatClampNeg < 0 → A) ∧ (¬ cw (nI x).toNatClampNeg < 0 → B) := by
  rw [nI_clamp (by omega), hT x hx]
  have := K.2.2.2.2 x
  cases h : C x with
  | true => rw [yc_val_t h]; exact br_f (nI_pos (by omega)) (g h (by rw [hT x hx, yc_val_t h]))
  | false => rw [yc_val_f h]; exact br_t (by decide) (f h)
section
variable {c : Nat} {U V wt : Nat → Nat} {us vs ws : Nat → Int32}
theorem yc_K (H : yc_ok c U V wt us vs ws) : cb_K (cb_C (cb_en U V) c) (fun x => cb_w wt x c) := by
  refine ⟨cb_C_0 _ c, fun x y => cb_C_xor, fun x h => Nat.lt_of_lt_of_le (cb_C_lt h) (cb_pow H.1), fun x h g => cb_w_pos c (fun e he => (H.2 e he).2.2.2.1) (cb_C_lt h) g, fun x => ?_⟩
  have := cb_w_le (wt := wt) (s := x) c (fun e he => (H.2 e he).2.2.2.2.1)
  have := H.1
  show cb_w wt x c ≤ 1200
  omega
theorem yc_dg_le {s v : Nat} : ∀ c, cb_dg U V s v c ≤ c := by
  intro c
  induction c with
  | zero => exact Nat.le_refl _
  | succ c ih => simp only [cb_dg]; split <;> omega
theorem yc_degree_l (H : yc_ok c U V wt us vs ws) {s v : Nat} (hs : s < 4096) (hv : v < 7) (post : Int32 → Prop) (sums cw : Nat → Int32) (hp : post (nI (cb_dg U V s v c))) :
    ∀ d e n, e + d = c → d < n → wY_degree_5 post (nI s) (nI v) (nI c) us vs ws sums cw n (nI (cb_dg U V s v e)) (nI e) := by
  have hc := H.1
  intro d
  induction d with
  | zero =>
    intro e n h hn
    obtain ⟨m, rfl⟩ := xc_suc hn
    obtain rfl : e = c := by omega
    exact br_t (nI_le (Nat.le_refl _) (by omega)) hp
  | succ d ih =>
    intro e n h hn
    obtain ⟨m, rfl⟩ := xc_suc hn
    have i := ih (e + 1) m (by omega) (by omega)
    obtain ⟨h1, h2, h3, h4, h5, h6, h7, h8⟩ := H.2 e (by omega)
    refine br_f (nI_ge (by omega) (by omega)) ?_
    cases b : s.testBit e with
    | false =>
      rw [cb_dg_f b] at i
      exact br_t ((cb_bit0 (by omega) (by omega)).mpr b) (nm_r (nI_1 e) i)
    | true =>
      refine br_f (fun z => by rw [cb_bit0 (by omega) (by omega), b] at z; exact absurd z (by decide)) ⟨vp_in_nI (by omega) (by omega), ?_⟩
      rw [nI_clamp (by omega), h6]
      refine pk_eq (U e) v (fun g => ?_) (fun g => ?_) rfl rfl (by omega) (by omega)
      · rw [cb_dg_t b (Or.inl g)] at i
        exact nm_r (nI_1 _) (nm_r (nI_1 e) i)
      · refine ⟨vp_in_nI (by omega) (by omega), ?_⟩
        rw [h7]
        refine pk_eq (V e) v (fun g2 => ?_) (fun g2 => ?_) rfl rfl (by omega) (by omega)
        · rw [cb_dg_t b (Or.inr g2)] at i
          exact nm_r (nI_1 _) (nm_r (nI_1 e) i)
        · rw [cb_dg_n g g2] at i
          exact nm_r (nI_1 e) i
theorem yc_degree (H : yc_ok c U V wt us vs ws) {s v : Nat} (hs : s < 4096) (hv : v < 7) {post : Int32 → Prop} {sums cw : Nat → Int32} (hp : post (nI (cb_dg U V s v c))) : wpY_degree post (nI c, us, vs, ws, sums, cw) (nI s) (nI v) :=
  ⟨c + 1, yc_degree_l H hs hv post sums cw hp c 0 (c + 1) (by omega) (by omega)⟩
theorem yc_even_l (H : yc_ok c U V wt us vs ws) {s : Nat} (hs : s < 4096) (post : Int32 → Prop) (sums cw : Nat → Int32) (hp : post (if cb_od (cb_en U V) s c = 0 then 1 else 0)) :
    ∀ d v n, v + d = 7 → d < n → (∀ j, j < v → cb_dg U V s j c % 2 = 0) → wY_even_2 post (nI s) (nI c) us vs ws sums cw n (nI v) := by
  have hc := H.1
  have hE := cb_od_even (s := s) (fun e he => ⟨(H.2 e he).1, (H.2 e he).2.1, (H.2 e he).2.2.1⟩)
  intro d
  induction d with
  | zero =>
    intro v n h hn hi
    obtain ⟨m, rfl⟩ := xc_suc hn
    obtain rfl : v = 7 := by omega
    rw [if_pos (hE.mpr hi)] at hp
    exact br_t (by decide) hp
  | succ d ih =>
    intro v n h hn hi
    obtain ⟨m, rfl⟩ := xc_suc hn
    have hl := yc_dg_le (U := U) (V := V) (s := s) (v := v) c
    refine br_f (nI_ge (b := 7) (by omega) (by decide)) ?_
    refine yc_degree H hs (by omega) ⟨by decide, ?_⟩
    refine pk_eq (cb_dg U V s v c % 2) 0 (fun z => ?_) (fun z => ?_) (pk_rem (d := 2) (by omega) (by omega) (by omega)) rfl (by omega) (by omega)
    · refine nm_r (nI_1 v) (ih (v + 1) m (by omega) (by omega) (fun j hj => ?_))
      by_cases e : j = v
      · rw [e]; exact z
      · exact hi j (by omega)
    · rw [if_neg (fun q => z (hE.mp q v (by omega)))] at hp
      exact hp
theorem yc_even (H : yc_ok c U V wt us vs ws) {s : Nat} (hs : s < 4096) {post : Int32 → Prop} {sums cw : Nat → Int32} (hp : post (if cb_od (cb_en U V) s c = 0 then 1 else 0)) : wpY_even post (nI c, us, vs, ws, sums, cw) (nI s) :=
  ⟨8, yc_even_l H hs post sums cw hp 7 0 8 (by omega) (by omega) (fun j hj => absurd hj (by omega))⟩
theorem yc_refresh_i (H : yc_ok c U V wt us vs ws) {s : Nat} (hs : s < 4096) (post : SY → Prop) (J : Int32 → (Nat → Int32) → (Nat → Int32) → (Nat → Int32) → (Nat → Int32) → (Nat → Int32) → Prop) (sums cw : Nat → Int32) (hp : J (nI (s + 1)) us vs ws sums (upd cw s (yc_val (cb_C (cb_en U V) c) (fun x => cb_w wt x c) s))) :
    ∀ d e n, e + d = c → d < n → wY_refresh_13 post J (nI s) (nI c) us vs ws sums cw n (nI (cb_w wt s e)) (nI e) := by
  have hc := H.1
  have hq := cb_pow hc
  intro d
  induction d with
  | zero =>
    intro e n h hn
    obtain ⟨m, rfl⟩ := xc_suc hn
    obtain rfl : e = c := by omega
    refine br_t (nI_le (Nat.le_refl _) (by omega)) ?_
    refine pk_le (2 ^ e) s (fun g => ?_) (fun g => ?_) (cb_shl (by omega)) rfl (by omega) (by omega)
    · rw [yc_val_f (by simp [cb_C]; omega)] at hp
      exact ⟨vp_in_nI (by omega) (by omega), nm_r (by rw [nI_clamp (by omega)]) (nm_r (nI_1 s) hp)⟩
    · refine yc_even H hs ?_
      by_cases z : cb_od (cb_en U V) s e = 0
      · rw [if_pos z]
        rw [yc_val_t (by simp [cb_C, z]; omega)] at hp
        exact br_f (by decide) ⟨vp_in_nI (by omega) (by omega), nm_r (by rw [nI_clamp (by omega)]) (nm_r (nI_1 s) hp)⟩
      · rw [if_neg z]
        rw [yc_val_f (by simp [cb_C, z])] at hp
        exact br_t rfl ⟨vp_in_nI (by omega) (by omega), nm_r (by rw [nI_clamp (by omega)]) (nm_r (nI_1 s) hp)⟩
  | succ d ih =>
    intro e n h hn
    obtain ⟨m, rfl⟩ := xc_suc hn
    have i := ih (e + 1) m (by omega) (by omega)
    obtain ⟨h1, h2, h3, h4, h5, h6, h7, h8⟩ := H.2 e (by omega)
    refine br_f (nI_ge (by omega) (by omega)) ?_
    cases b : s.testBit e with
    | false =>
      rw [cb_w_f b] at i
      exact br_t ((cb_bit0 (by omega) (by omega)).mpr b) (nm_r (nI_1 e) i)
    | true =>
      rw [cb_w_t b] at i
      refine br_f (fun z => by rw [cb_bit0 (by omega) (by omega), b] at z; exact absurd z (by decide)) ⟨vp_in_nI (by omega) (by omega), nm_r (e' := nI (cb_w wt s e + wt e)) ?_ (nm_r (nI_1 e) i)⟩
      rw [nI_clamp (by omega), h8, nI_add]
theorem yc_refresh_l (H : yc_ok c U V wt us vs ws) (post : SY → Prop) (sums : Nat → Int32) (hp : ∀ cw', yc_T (cb_C (cb_en U V) c) (fun x => cb_w wt x c) cw' → post (nI c, us, vs, ws, sums, cw')) :
    ∀ d s n cw, s + d = 4096 → d < n → (∀ y, y < s → cw y = yc_val (cb_C (cb_en U V) c) (fun x => cb_w wt x c) y) → wY_refresh_2 post (nI c) n (nI s) us vs ws sums cw := by
  have hc := H.1
  intro d
  induction d with
  | zero =>
    intro s n cw h hn hi
    obtain ⟨m, rfl⟩ := xc_suc hn
    obtain rfl : s = 4096 := by omega
    exact br_t (by decide) (hp cw hi)
  | succ d ih =>
    intro s n cw h hn hi
    obtain ⟨m, rfl⟩ := xc_suc hn
    refine br_f (nI_ge (b := 4096) (by omega) (by decide)) ⟨c + 1, ?_⟩
    refine yc_refresh_i H (by omega) post _ sums cw (ih (s + 1) m _ (by omega) (by omega) (fun y hy => ?_)) c 0 (c + 1) (by omega) (by omega)
    by_cases e : y = s
    · rw [e]; exact pk_us
    · rw [pk_un e]; exact hi y (by omega)
theorem yc_refresh (H : yc_ok c U V wt us vs ws) {post : SY → Prop} {sums cw : Nat → Int32} (hp : ∀ cw', yc_T (cb_C (cb_en U V) c) (fun x => cb_w wt x c) cw' → post (nI c, us, vs, ws, sums, cw')) : wpY_refresh post (nI c, us, vs, ws, sums, cw) :=
  ⟨4097, yc_refresh_l H post sums hp 4096 0 4097 cw (by omega) (by omega) (fun y hy => absurd hy (by omega))⟩
end
/-! spans as tables -/
def yc_Q (sums : Nat → Int32) (S : Nat → Bool) : Prop := ∀ x, x < 4096 → (sums x = 0 ↔ S x = false)
theorem yc_b1 : vp_nar .boolean 1 = 1 := rfl
theorem yc_b0 : vp_nar .boolean 0 = 0 := rfl
theorem yc_forget_l {f : Int32} {us vs ws cw : Nat → Int32} (C : Nat → Bool) (w : Nat → Nat) (post : SY → Prop) (hp : ∀ sums', yc_Q sums' (cb_S C w 0) → post (f, us, vs, ws, sums', cw)) :
    ∀ d x n sums, x + d = 4096 → d < n → (∀ y, y < x → (sums y = 0 ↔ cb_S C w 0 y = false)) → wY_forget_2 post f n (nI x) us vs ws sums cw := by
  intro d
  induction d with
  | zero =>
    intro x n sums h hn hi
    obtain ⟨m, rfl⟩ := xc_suc hn
    obtain rfl : x = 4096 := by omega
    exact br_t (by decide) (hp sums hi)
  | succ d ih =>
    intro x n sums h hn hi
    obtain ⟨m, rfl⟩ := xc_suc hn
    refine br_f (nI_ge (b := 4096) (by omega) (by decide)) ?_
    refine pk_eq x 0 (fun z => ?_) (fun z => ?_) rfl rfl (by omega) (by omega)
    · refine ⟨vp_in_nI (by omega) (by omega), nm_r (e' := upd sums x 1) (by rw [nI_clamp (by omega), yc_b1]) (nm_r (nI_1 x) (ih (x + 1) m _ (by omega) (by omega) (fun y hy => ?_)))⟩
      by_cases e : y = x
      · rw [e, pk_us, z]; simp [cb_S]
      · rw [pk_un e]; exact hi y (by omega)
    · refine ⟨vp_in_nI (by omega) (by omega), nm_r (e' := upd sums x 0) (by rw [nI_clamp (by omega), yc_b0]) (nm_r (nI_1 x) (ih (x + 1) m _ (by omega) (by omega) (fun y hy => ?_)))⟩
      by_cases e : y = x
      · rw [e, pk_us]; simp [cb_S, z]
      · rw [pk_un e]; exact hi y (by omega)
theorem yc_forget {f : Int32} {us vs ws sums cw : Nat → Int32} (C : Nat → Bool) (w : Nat → Nat) {post : SY → Prop} (hp : ∀ sums', yc_Q sums' (cb_S C w 0) → post (f, us, vs, ws, sums', cw)) : wpY_forget post (f, us, vs, ws, sums, cw) :=
  ⟨4097, yc_forget_l C w post hp 4096 0 4097 sums (by omega) (by omega) (fun y hy => absurd hy (by omega))⟩
def yc_b (z : Nat) : Int32 := if z = 0 then -1 else nI z
theorem yc_b_0 {z : Nat} (h : z = 0) : yc_b z = -1 := if_pos h
theorem yc_b_n {z : Nat} (h : ¬ z = 0) : yc_b z = nI z := if_neg h
theorem yc_lightest_l {f : Int32} {us vs ws sums cw : Nat → Int32} {C S : Nat → Bool} {w : Nat → Nat} (K : cb_K C w) (hT : yc_T C w cw) (hQ : yc_Q sums S) (hS : S 0 = true) (post : Int32 → Prop) (hp : post (yc_b (cb_lt C S w 4096))) :
    ∀ d x n, x + d = 4096 → d < n → wY_lightest_4 post f us vs ws sums cw n (yc_b (cb_lt C S w x)) (nI x) := by
  intro d
  induction d with
  | zero =>
    intro x n h hn
    obtain ⟨m, rfl⟩ := xc_suc hn
    obtain rfl : x = 4096 := by omega
    exact br_t (by decide) hp
  | succ d ih =>
    intro x n h hn
    obtain ⟨m, rfl⟩ := xc_suc hn
    have i := ih (x + 1) m (by omega) (by omega)
    refine br_f (nI_ge (b := 4096) (by omega) (by decide)) ⟨vp_in_nI (by omega) (by omega), ?_⟩
    refine yc_neg K hT (by omega) (fun hC => ?_) (fun hC hw => ⟨vp_in_nI (by omega) (by omega), ?_⟩)
    · rw [cb_lt_n (Or.inl hC)] at i
      exact br_t rfl (nm_r (nI_1 x) i)
    · rw [nI_clamp (by omega)]
      have q := hQ x (by omega)
      cases hs : S x with
      | true =>
        rw [cb_lt_n (Or.inr hs)] at i
        exact br_f (fun z => by rw [q, hs] at z; exact absurd z (by decide)) (br_t rfl (nm_r (nI_1 x) i))
      | false =>
        refine br_t (q.mpr hs) (br_f (by decide) ?_)
        have x0 : x ≠ 0 := by intro z; rw [z, hS] at hs; exact absurd hs (by decide)
        by_cases z : cb_lt C S w x = 0
        · rw [cb_lt_a hC hs (Or.inl z), yc_b_n x0] at i
          rw [yc_b_0 z]
          exact br_t (by decide) (nm_r (nI_1 x) i)
        · obtain ⟨l1, l2, l3⟩ := (cb_lt_in C S w x).resolve_left z
          have hb := K.2.2.2.2 x
          have hb2 := K.2.2.2.2 (cb_lt C S w x)
          rw [yc_b_n z]
          refine br_f (nI_pos (by omega)) ⟨vp_in_nI (by omega) (by omega), vp_in_nI (by omega) (by omega), ?_⟩
          rw [nI_clamp (by omega), nI_clamp (by omega), hw, hT _ (by omega), yc_val_t l2]
          refine pk_le (w (cb_lt C S w x)) (w x) (fun g => ?_) (fun g => ?_) rfl rfl (by omega) (by omega)
          · rw [cb_lt_b z (by omega), yc_b_n z] at i
            exact nm_r (nI_1 x) i
          · rw [cb_lt_a hC hs (Or.inr g), yc_b_n x0] at i
            exact nm_r (nI_1 x) i
theorem yc_lightest {f : Int32} {us vs ws sums cw : Nat → Int32} {C S : Nat → Bool} {w : Nat → Nat} (K : cb_K C w) (hT : yc_T C w cw) (hQ : yc_Q sums S) (hS : S 0 = true) {post : Int32 → Prop} (hp : post (yc_b (cb_lt C S w 4096))) : wpY_lightest post (f, us, vs, ws, sums, cw) :=
  ⟨4097, yc_lightest_l K hT hQ hS post hp 4096 0 4097 (by omega) (by omega)⟩
def yc_P (S : Nat → Bool) (t i : Nat) (sums : Nat → Int32) : Prop := ∀ x, x < 4096 → (¬ sums x = 0 ↔ (S x = true ∨ (S (x ^^^ t) = true ∧ x ^^^ t < i)))
theorem yc_take_l {f : Int32} {us vs ws cw : Nat → Int32} {S : Nat → Bool} {t : Nat} (ht : t < 4096) (post : SY → Prop) (hp : ∀ sums', yc_Q sums' (fun x => S x || S (x ^^^ t)) → post (f, us, vs, ws, sums', cw)) :
    ∀ d i n sums, i + d = 4096 → d < n → yc_P S t i sums → wY_take_2 post (nI t) f n (nI i) us vs ws sums cw := by
  intro d
  induction d with
  | zero =>
    intro i n sums h hn hi
    obtain ⟨m, rfl⟩ := xc_suc hn
    obtain rfl : i = 4096 := by omega
    refine br_t (by decide) (hp sums (fun x hx => ?_))
    have q := hi x hx
    have hl := cb_xlt hx ht
    dsimp only
    by_cases z : sums x = 0
    · have q2 : ¬ (S x = true ∨ (S (x ^^^ t) = true ∧ x ^^^ t < 4096)) := fun r => q.mpr r z
      refine ⟨fun _ => ?_, fun _ => z⟩
      cases a : S x <;> cases b : S (x ^^^ t) <;> simp_all
    · have q2 := q.mp z
      refine ⟨fun y => absurd y z, fun y => ?_⟩
      rcases q2 with r | r
      · rw [r] at y; exact absurd y (by simp)
      · rw [r.1] at y; exact absurd y (by simp)
  | succ d ih =>
    intro i n sums h hn hi
    obtain ⟨m, rfl⟩ := xc_suc hn
    have hl := cb_xlt (show i < 4096 by omega) ht
    refine br_f (nI_ge (b := 4096) (by omega) (by decide)) ⟨vp_in_nI (by omega) (by omega), ?_⟩
    rw [nI_clamp (by omega)]
    have qi := hi i (by omega)
    -- the next turn's claim, where nothing is stored
    have keep : (S i = true → ¬ sums (i ^^^ t) = 0) → yc_P S t (i + 1) sums := by
      intro hk x hx
      rw [hi x hx]
      constructor
      · rintro (r | r)
        · exact Or.inl r
        · exact Or.inr ⟨r.1, by omega⟩
      · rintro (r | r)
        · exact Or.inl r
        · by_cases g : x ^^^ t = i
          · have hx2 : x = i ^^^ t := by rw [← g, cb_xx]
            rw [g] at r
            have := hk r.1
            rw [← hx2] at this
            exact (hi x hx).mp this
          · exact Or.inr ⟨r.1, by omega⟩
    by_cases z : sums i = 0
    · refine br_t z (nm_r (nI_1 i) (ih (i + 1) m sums (by omega) (by omega) (keep (fun a => absurd z (qi.mpr (Or.inl a))))))
    · refine br_f z ?_
      rw [nx_xor]
      refine ⟨vp_in_nI hl (by omega), ?_⟩
      rw [nI_clamp (by omega)]
      by_cases y : sums (i ^^^ t) = 0
      · refine br_t y ⟨vp_in_nI hl (by omega), nm_r (e' := upd sums (i ^^^ t) 1) (by rw [yc_b1]) (nm_r (nI_1 i) (ih (i + 1) m _ (by omega) (by omega) ?_))⟩
        have hSi : S i = true := by
          rcases qi.mp z with r | r
          · exact r
          · exact absurd y ((hi (i ^^^ t) hl).mpr (Or.inl r.1))
        intro x hx
        by_cases e : x = i ^^^ t
        · rw [e, pk_us, cb_xx]
          exact ⟨fun _ => Or.inr ⟨hSi, by omega⟩, fun _ => by decide⟩
        · rw [pk_un e, hi x hx]
          have hne : x ^^^ t ≠ i := fun g => e (by rw [← g, cb_xx])
          constructor
          · rintro (r | r)
            · exact Or.inl r
            · exact Or.inr ⟨r.1, by omega⟩
          · rintro (r | r)
            · exact Or.inl r
            · exact Or.inr ⟨r.1, by omega⟩
      · exact br_f y (nm_r (nI_1 i) (ih (i + 1) m sums (by omega) (by omega) (keep (fun _ => y))))
theorem yc_take {f : Int32} {us vs ws sums cw : Nat → Int32} {S : Nat → Bool} {t : Nat} (ht : t < 4096) (hQ : yc_Q sums S) {post : SY → Prop} (hp : ∀ sums', yc_Q sums' (fun x => S x || S (x ^^^ t)) → post (f, us, vs, ws, sums', cw)) : wpY_take post (f, us, vs, ws, sums, cw) (nI t) := by
  refine ⟨4097, yc_take_l ht post hp 4096 0 4097 sums (by omega) (by omega) (fun x hx => ?_)⟩
  rw [hQ x hx]
  cases S x <;> simp
