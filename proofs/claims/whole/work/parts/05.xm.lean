/-! the lightest closed set through an edge; what the closed sets cover; the level -/
def cb_th (C : Nat → Bool) (w : Nat → Nat) (e : Nat) : Nat → Nat
  | 0 => 0
  | x + 1 => if C x = true ∧ x.testBit e = true then (if cb_th C w e x = 0 ∨ w x < cb_th C w e x then w x else cb_th C w e x) else cb_th C w e x
theorem cb_th_n {C : Nat → Bool} {w : Nat → Nat} {e x : Nat} (h : ¬ (C x = true ∧ x.testBit e = true)) : cb_th C w e (x + 1) = cb_th C w e x := if_neg h
theorem cb_th_a {C : Nat → Bool} {w : Nat → Nat} {e x : Nat} (h : C x = true) (g : x.testBit e = true) (q : cb_th C w e x = 0 ∨ w x < cb_th C w e x) : cb_th C w e (x + 1) = w x := by
  simp only [cb_th]; rw [if_pos ⟨h, g⟩, if_pos q]
theorem cb_th_b {C : Nat → Bool} {w : Nat → Nat} {e x : Nat} (q : ¬ cb_th C w e x = 0) (q2 : ¬ w x < cb_th C w e x) : cb_th C w e (x + 1) = cb_th C w e x := by
  simp only [cb_th]
  rw [if_neg (c := _ ∨ _) (fun z => z.elim q q2)]
  split <;> rfl
theorem cb_th_le {C : Nat → Bool} {w : Nat → Nat} (K : cb_K C w) (e : Nat) : ∀ n, cb_th C w e n ≤ 1200 := by
  intro n
  induction n with
  | zero => exact Nat.zero_le _
  | succ n ih =>
    have := K.2.2.2.2 n
    simp only [cb_th]
    split
    · split <;> assumption
    · exact ih
def cb_cv (C : Nat → Bool) : Nat → Nat
  | 0 => 0
  | x + 1 => if C x = true then cb_cv C x ||| x else cb_cv C x
theorem cb_cv_t {C : Nat → Bool} {x : Nat} (h : C x = true) : cb_cv C (x + 1) = cb_cv C x ||| x := if_pos h
theorem cb_cv_f {C : Nat → Bool} {x : Nat} (h : C x = false) : cb_cv C (x + 1) = cb_cv C x := if_neg (by rw [h]; decide)
theorem cb_cv_lt (C : Nat → Bool) : ∀ n, n ≤ 4096 → cb_cv C n < 4096 := by
  intro n
  induction n with
  | zero => intro _; exact (by decide : 0 < 4096)
  | succ n ih =>
    intro h
    cases g : C n with
    | true => rw [cb_cv_t g]; exact Nat.or_lt_two_pow (n := 12) (ih (by omega)) (show n < 2 ^ 12 by omega)
    | false => rw [cb_cv_f g]; exact ih (by omega)
theorem cb_cv_th {C : Nat → Bool} {w : Nat → Nat} (K : cb_K C w) (e : Nat) : ∀ n, (cb_cv C n).testBit e = true ↔ cb_th C w e n ≠ 0 := by
  intro n
  induction n with
  | zero => simp [cb_cv, cb_th]
  | succ n ih =>
    cases g : C n with
    | false => rw [cb_cv_f g, cb_th_n (by rw [g]; exact fun z => absurd z.1 (by decide))]; exact ih
    | true =>
      rw [cb_cv_t g, Nat.testBit_or]
      cases b : n.testBit e with
      | false => rw [cb_th_n (by rw [b]; exact fun z => absurd z.2 (by decide)), Bool.or_false]; exact ih
      | true =>
        rw [Bool.or_true]
        refine ⟨fun _ => ?_, fun _ => rfl⟩
        have n0 : n ≠ 0 := by intro z; rw [z, Nat.zero_testBit] at b; exact absurd b (by decide)
        have := K.2.2.2.1 n g n0
        by_cases q : cb_th C w e n = 0 ∨ w n < cb_th C w e n
        · rw [cb_th_a g b q]; omega
        · rw [cb_th_b (fun z => q (Or.inl z)) (fun z => q (Or.inr z))]; exact fun z => q (Or.inl z)
def cb_lv (s : Nat → Bool) (g : Nat → Nat) : Nat → Nat → Nat → Nat
  | 0, _, l => l
  | d + 1, k, l => if s k = true then l else cb_lv s g d (k + 1) (g k)
theorem cb_lv_t {s : Nat → Bool} {g : Nat → Nat} {d k l : Nat} (h : s k = true) : cb_lv s g (d + 1) k l = l := if_pos h
theorem cb_lv_f {s : Nat → Bool} {g : Nat → Nat} {d k l : Nat} (h : s k = false) : cb_lv s g (d + 1) k l = cb_lv s g d (k + 1) (g k) := if_neg (by rw [h]; decide)
def cb_pv (g : Nat → Nat) : Nat → Nat
  | 0 => 0
  | k + 1 => g k
def cb_br (cv : Nat) (n : Nat) : Nat := cb_su (fun e => if cv.testBit e = true then 0 else 1) n
theorem cb_br_t {cv e : Nat} (h : cv.testBit e = true) : cb_br cv (e + 1) = cb_br cv e := by
  show cb_br cv e + (if cv.testBit e = true then 0 else 1) = _
  rw [if_pos h]; rfl
theorem cb_br_f {cv e : Nat} (h : cv.testBit e = false) : cb_br cv (e + 1) = cb_br cv e + 1 := by
  show cb_br cv e + (if cv.testBit e = true then 0 else 1) = _
  rw [if_neg (by rw [h]; decide)]
theorem cb_rk_0 {C : Nat → Bool} {w : Nat → Nat} {k : Nat} (h : cb_t C w k = 0) : cb_rk C w (k + 1) = cb_rk C w k := by
  show cb_rk C w k + (if cb_t C w k = 0 then 0 else 1) = _
  rw [if_pos h]; rfl
theorem cb_rk_1 {C : Nat → Bool} {w : Nat → Nat} {k : Nat} (h : ¬ cb_t C w k = 0) : cb_rk C w (k + 1) = cb_rk C w k + 1 := by
  show cb_rk C w k + (if cb_t C w k = 0 then 0 else 1) = _
  rw [if_neg h]
/-! the class's public questions -/
section
variable {c : Nat} {en wt : Nat → Nat} {ends ws : Nat → Int32}
theorem xm_total_l (H : xc_ok c en wt ends ws) {cs : Nat → Int32} (hG : xc_G (cb_C en c) cs) (post : Int32 → SX → Prop)
    (hp : ∀ rows', post (nI (cb_su (cb_g (cb_C en c) (fun x => cb_w wt x c)) 12)) (nI c, nI (cb_n (cb_C en c) 4096), ends, ws, cs, rows')) :
    ∀ d k n rows, k + d = 12 → d < n → xc_I rows (cb_S (cb_C en c) (fun x => cb_w wt x c) k) → wX_total_8 post n (nI (cb_su (cb_g (cb_C en c) (fun x => cb_w wt x c)) k)) (nI k) (nI c) (nI (cb_n (cb_C en c) 4096)) ends ws cs rows := by
  intro d
  induction d with
  | zero =>
    intro k n rows h hn hI
    obtain ⟨m, rfl⟩ := xc_suc hn
    obtain rfl : k = 12 := by omega
    exact br_t (by decide) (hp rows)
  | succ d ih =>
    intro k n rows h hn hI
    obtain ⟨m, rfl⟩ := xc_suc hn
    refine br_f (nI_ge (b := 12) (by omega) (by decide)) (xc_grow H hG hI (fun rows' hI' => ?_))
    exact nm_r (nI_add _ _) (nm_r (nI_1 k) (ih (k + 1) m rows' (by omega) (by omega) hI'))
theorem xm_total (H : xc_ok c en wt ends ws) {cc : Int32} {cs rows : Nat → Int32} {post : Int32 → SX → Prop} (hp : ∀ cc' cs' rows', post (nI (cb_su (cb_g (cb_C en c) (fun x => cb_w wt x c)) 12)) (nI c, cc', ends, ws, cs', rows')) : wpX_total post (nI c, cc, ends, ws, cs, rows) :=
  xc_start H (fun cs' rows' hG hI => ⟨13, xm_total_l H hG post (fun rows' => hp _ _ _) 12 0 13 rows' (by omega) (by omega) hI⟩)
theorem xm_rank_l (H : xc_ok c en wt ends ws) {cs : Nat → Int32} (hG : xc_G (cb_C en c) cs) (post : Int32 → SX → Prop)
    (hp : ∀ rows', post (nI (cb_rk (cb_C en c) (fun x => cb_w wt x c) 12)) (nI c, nI (cb_n (cb_C en c) 4096), ends, ws, cs, rows')) :
    ∀ d k n rows, k + d = 12 → d < n → xc_I rows (cb_S (cb_C en c) (fun x => cb_w wt x c) k) → wX_rank_8 post n (nI (cb_rk (cb_C en c) (fun x => cb_w wt x c) k)) (nI k) (nI c) (nI (cb_n (cb_C en c) 4096)) ends ws cs rows := by
  have K := xc_K H
  intro d
  induction d with
  | zero =>
    intro k n rows h hn hI
    obtain ⟨m, rfl⟩ := xc_suc hn
    obtain rfl : k = 12 := by omega
    exact br_t (by decide) (hp rows)
  | succ d ih =>
    intro k n rows h hn hI
    obtain ⟨m, rfl⟩ := xc_suc hn
    refine br_f (nI_ge (b := 12) (by omega) (by decide)) (xc_grow H hG hI (fun rows' hI' => ?_))
    have i := ih (k + 1) m rows' (by omega) (by omega) hI'
    have hb := cb_g_le K k
    refine pk_le (cb_g (cb_C en c) (fun x => cb_w wt x c) k) 0 (fun z => ?_) (fun z => ?_) rfl rfl (by omega) (by omega)
    · have z0 := (cb_g_0 K k).mp (by omega)
      rw [cb_rk_0 z0] at i
      exact nm_r (nI_1 k) i
    · have z0 : ¬ cb_t (cb_C en c) (fun x => cb_w wt x c) k = 0 := fun q => by have := (cb_g_0 K k).mpr q; omega
      rw [cb_rk_1 z0] at i
      exact nm_r (nI_1 _) (nm_r (nI_1 k) i)
theorem xm_rank (H : xc_ok c en wt ends ws) {cc : Int32} {cs rows : Nat → Int32} {post : Int32 → SX → Prop} (hp : ∀ cc' cs' rows', post (nI (cb_rk (cb_C en c) (fun x => cb_w wt x c) 12)) (nI c, cc', ends, ws, cs', rows')) : wpX_rank post (nI c, cc, ends, ws, cs, rows) :=
  xc_start H (fun cs' rows' hG hI => ⟨13, xm_rank_l H hG post (fun rows' => hp _ _ _) 12 0 13 rows' (by omega) (by omega) hI⟩)
theorem xm_part_l (H : xc_ok c en wt ends ws) {cs : Nat → Int32} (hG : xc_G (cb_C en c) cs) {i : Nat} (hi : i < 12) (post : Int32 → SX → Prop)
    (hp : ∀ rows', post (if cb_g (cb_C en c) (fun x => cb_w wt x c) i = 0 then -5 else nI (cb_g (cb_C en c) (fun x => cb_w wt x c) i)) (nI c, nI (cb_n (cb_C en c) 4096), ends, ws, cs, rows')) :
    ∀ d k n rows, k + d = i + 1 → d < n → xc_I rows (cb_S (cb_C en c) (fun x => cb_w wt x c) k) → wX_part_21 post (nI i) n (nI (cb_pv (cb_g (cb_C en c) (fun x => cb_w wt x c)) k)) (nI k) (nI c) (nI (cb_n (cb_C en c) 4096)) ends ws cs rows := by
  have K := xc_K H
  intro d
  induction d with
  | zero =>
    intro k n rows h hn hI
    obtain ⟨m, rfl⟩ := xc_suc hn
    obtain rfl : k = i + 1 := by omega
    have hb := cb_g_le K i
    have hp' := hp rows
    refine br_t (nI_lt (by omega) (by omega)) (pk_le (cb_g (cb_C en c) (fun x => cb_w wt x c) i) 0 (fun z => ?_) (fun z => ?_) rfl rfl (by omega) (by omega))
    · rw [if_pos (by omega)] at hp'; exact hp'
    · rw [if_neg (by omega)] at hp'; exact hp'
  | succ d ih =>
    intro k n rows h hn hI
    obtain ⟨m, rfl⟩ := xc_suc hn
    refine br_f (nI_nlt (by omega) (by omega)) (xc_grow H hG hI (fun rows' hI' => ?_))
    exact nm_r (nI_1 k) (ih (k + 1) m rows' (by omega) (by omega) hI')
theorem xm_part (H : xc_ok c en wt ends ws) {cc : Int32} {cs rows : Nat → Int32} {i : Nat} (hi : i < 12) {post : Int32 → SX → Prop} (hp : ∀ cc' cs' rows', post (if cb_g (cb_C en c) (fun x => cb_w wt x c) i = 0 then -5 else nI (cb_g (cb_C en c) (fun x => cb_w wt x c) i)) (nI c, cc', ends, ws, cs', rows')) : wpX_part post (nI c, cc, ends, ws, cs, rows) (nI i) :=
  br_f (nI_pos (by omega)) (br_t (nI_lt (b := 12) hi (by decide)) (xc_start H (fun cs' rows' hG hI => ⟨14, xm_part_l H hG hi post (fun rows' => hp _ _ _) (i + 1) 0 14 rows' (by omega) (by omega) hI⟩)))
theorem xm_part_o {cc f : Int32} {cs rows : Nat → Int32} {v : Int32} (hv : v < 0 ∨ nI 12 ≤ v) {post : Int32 → SX → Prop} (hp : post (-5) (f, cc, ends, ws, cs, rows)) : wpX_part post (f, cc, ends, ws, cs, rows) v := by
  by_cases h : v < 0
  · exact br_t h hp
  · exact br_f h (br_f (Int32.not_lt.mpr (hv.resolve_left h)) hp)
theorem xm_only_t {s : Nat} (hc : c ≤ 12) (hs : s < 2 ^ c) {cc : Int32} {cs rows : Nat → Int32} {post : Int32 → Prop} (hp : post 1) : wpX_hasOnlyEdges post (nI c, cc, ends, ws, cs, rows) (nI s) :=
  br_t ((cb_ush hc (nI s)).mpr ⟨s, hs, rfl⟩) hp
theorem xm_only {v : Int32} (hc : c ≤ 12) {cc : Int32} {cs rows : Nat → Int32} {post : Int32 → Prop} (h1 : ∀ s, s < 2 ^ c → v = nI s → post 1) (h0 : post 0) : wpX_hasOnlyEdges post (nI c, cc, ends, ws, cs, rows) v :=
  br_c (fun h => by obtain ⟨s, hs, e⟩ := (cb_ush hc v).mp h; exact h1 s hs e) (fun _ => h0)
theorem xm_C {s : Nat} (h : cb_C en c s = true) : cb_od en s c = 0 := by
  simp [cb_C] at h; exact h.2
theorem xm_closed_t (H : xc_ok c en wt ends ws) {s : Nat} (h : cb_C en c s = true) {cc : Int32} {cs rows : Nat → Int32} {post : Int32 → Prop} (hp : post 1) : wpX_closed post (nI c, cc, ends, ws, cs, rows) (nI s) := by
  have hs := cb_C_lt h
  have hq := cb_pow H.1
  unfold wpX_closed
  refine xm_only_t H.1 hs ?_
  refine br_f (by decide) ?_
  refine xc_isClosed H (by omega) ?_
  rw [if_pos (xm_C h)]
  exact br_f (by decide) hp
theorem xm_closed_f (H : xc_ok c en wt ends ws) {v : Int32} (h : ¬ ∃ s, v = nI s ∧ cb_C en c s = true) {cc : Int32} {cs rows : Nat → Int32} {post : Int32 → Prop} (hp : post 0) : wpX_closed post (nI c, cc, ends, ws, cs, rows) v := by
  have hq := cb_pow H.1
  unfold wpX_closed
  refine xm_only H.1 (fun s hs e => ?_) ?_
  rotate_left
  · exact br_t rfl hp
  refine br_f (by decide) ?_
  subst e
  refine xc_isClosed H (by omega) ?_
  rw [if_neg (fun z => h ⟨s, rfl, by simp [cb_C, z]; omega⟩)]
  exact br_t rfl hp
theorem xm_level_l (H : xc_ok c en wt ends ws) {cs : Nat → Int32} (hG : xc_G (cb_C en c) cs) {s : Nat} (hs : s < 4096) (post : Int32 → SX → Prop) :
    ∀ d k l n rows, k + d = 12 → d < n → xc_I rows (cb_S (cb_C en c) (fun x => cb_w wt x c) k) → (∀ rows', post (nI (cb_lv (fun k => cb_S (cb_C en c) (fun x => cb_w wt x c) k s) (cb_g (cb_C en c) (fun x => cb_w wt x c)) d k l)) (nI c, nI (cb_n (cb_C en c) 4096), ends, ws, cs, rows')) → wX_level_27 post (nI s) n (nI l) (nI k) (nI c) (nI (cb_n (cb_C en c) 4096)) ends ws cs rows := by
  intro d
  induction d with
  | zero =>
    intro k l n rows h hn hI hp
    obtain ⟨m, rfl⟩ := xc_suc hn
    obtain rfl : k = 12 := by omega
    exact br_t (by decide) (hp rows)
  | succ d ih =>
    intro k l n rows h hn hI hp
    obtain ⟨m, rfl⟩ := xc_suc hn
    refine br_f (nI_ge (b := 12) (by omega) (by decide)) (xc_rem hI hs (fun z => ?_) (fun z y hy => ?_))
    · have hp' := hp rows
      rw [cb_lv_t (s := fun k => cb_S (cb_C en c) (fun x => cb_w wt x c) k s) z] at hp'
      exact br_t rfl hp'
    · refine br_f hy (xc_grow H hG hI (fun rows' hI' => nm_r (nI_1 k) (ih (k + 1) _ m rows' (by omega) (by omega) hI' (fun rows2 => ?_))))
      have hp' := hp rows2
      rw [cb_lv_f (s := fun k => cb_S (cb_C en c) (fun x => cb_w wt x c) k s) z] at hp'
      exact hp'
theorem xm_level_t (H : xc_ok c en wt ends ws) {s : Nat} (h : cb_C en c s = true) {cc : Int32} {cs rows : Nat → Int32} {post : Int32 → SX → Prop} (hp : ∀ cc' cs' rows', post (nI (cb_lv (fun k => cb_S (cb_C en c) (fun x => cb_w wt x c) k s) (cb_g (cb_C en c) (fun x => cb_w wt x c)) 12 0 0)) (nI c, cc', ends, ws, cs', rows')) : wpX_level post (nI c, cc, ends, ws, cs, rows) (nI s) := by
  have hs := cb_C_lt h
  have hq := cb_pow H.1
  unfold wpX_level
  refine xm_only_t H.1 hs ?_
  refine br_f (by decide) ?_
  refine xc_isClosed H (by omega) ?_
  rw [if_pos (xm_C h)]
  exact br_f (by decide) (xc_start H (fun cs' rows' hG hI => ⟨13, xm_level_l H hG (by omega) post 12 0 0 13 rows' (by omega) (by omega) hI (fun rows' => hp _ _ _)⟩))
theorem xm_level_f (H : xc_ok c en wt ends ws) {v : Int32} (h : ¬ ∃ s, v = nI s ∧ cb_C en c s = true) {cc : Int32} {cs rows : Nat → Int32} {post : Int32 → SX → Prop} (hp : post (-5) (nI c, cc, ends, ws, cs, rows)) : wpX_level post (nI c, cc, ends, ws, cs, rows) v := by
  have hq := cb_pow H.1
  unfold wpX_level
  refine xm_only H.1 (fun s hs e => ?_) ?_
  rotate_left
  · exact br_t rfl hp
  refine br_f (by decide) ?_
  subst e
  refine xc_isClosed H (by omega) ?_
  rw [if_neg (fun z => h ⟨s, rfl, by simp [cb_C, z]; omega⟩)]
  exact br_t rfl hp
theorem xm_isEdge_t {e : Nat} (hc : c ≤ 12) (he : e < c) {cc : Int32} {cs rows : Nat → Int32} {post : Int32 → Prop} (hp : post 1) : wpX_isEdge post (nI c, cc, ends, ws, cs, rows) (nI e) :=
  br_f (nI_pos (by omega)) (br_f (nI_ge he (by omega)) hp)
theorem xm_isEdge_f {f v : Int32} (hv : v < 0 ∨ f ≤ v) {cc : Int32} {cs rows : Nat → Int32} {post : Int32 → Prop} (hp : post 0) : wpX_isEdge post (f, cc, ends, ws, cs, rows) v := by
  by_cases h : v < 0
  · exact br_t h hp
  · exact br_f h (br_t (hv.resolve_left h) hp)
theorem xm_through_l (H : xc_ok c en wt ends ws) {cs rows : Nat → Int32} (hG : xc_G (cb_C en c) cs) {e : Nat} (he : e < 12) (post : Int32 → SX → Prop)
    (hp : post (if cb_th (cb_C en c) (fun x => cb_w wt x c) e 4096 = 0 then -5 else nI (cb_th (cb_C en c) (fun x => cb_w wt x c) e 4096)) (nI c, nI (cb_n (cb_C en c) 4096), ends, ws, cs, rows)) :
    ∀ d x n, x + d = 4096 → d < n → wX_through_19 post (nI e) (nI c) (nI (cb_n (cb_C en c) 4096)) ends ws cs rows n (nI (cb_th (cb_C en c) (fun x => cb_w wt x c) e x)) (nI (cb_n (cb_C en c) x)) := by
  have K := xc_K H
  have hN := cb_n_le (cb_C en c) 4096
  intro d
  induction d with
  | zero =>
    intro x n h hn
    obtain ⟨m, rfl⟩ := xc_suc hn
    obtain rfl : x = 4096 := by omega
    have hb := cb_th_le K e 4096
    refine br_t (nI_le (Nat.le_refl _) (by omega)) (pk_le (cb_th (cb_C en c) (fun x => cb_w wt x c) e 4096) 0 (fun z => ?_) (fun z => ?_) rfl rfl (by omega) (by omega))
    · rw [if_pos (by omega)] at hp; exact hp
    · rw [if_neg (by omega)] at hp; exact hp
  | succ d ih =>
    intro x n h hn
    by_cases hC : cb_C en c x = true ∧ x ≠ 0
    · obtain ⟨m, rfl⟩ := xc_suc hn
      have i := ih (x + 1) m (by omega) (by omega)
      have hlt := cb_n_lt hC.1 hC.2 (show x < 4096 by omega)
      rw [cb_n_t hC.1 hC.2] at i
      refine br_f (nI_ge hlt (by omega)) ⟨vp_in_nI (by omega) (by omega), nm_r (e' := nI x) (by rw [nI_clamp (by omega)]; exact hG x (by omega) hC.1 hC.2) ?_⟩
      refine xc_has (by omega) (by omega) (fun hs => ?_) (fun hs => ?_)
      · refine br_f (by decide) (xc_weightOf H (by omega) ?_)
        have hb := K.2.2.2.2 x
        have hb2 := cb_th_le K e x
        dsimp only at hb
        refine pk_eq (cb_th (cb_C en c) (fun x => cb_w wt x c) e x) 0 (fun z => ?_) (fun z => ?_) rfl rfl (by omega) (by omega)
        · rw [cb_th_a hC.1 hs (Or.inl z)] at i
          exact nm_r (nI_1 _) i
        · refine pk_le (cb_th (cb_C en c) (fun x => cb_w wt x c) e x) (cb_w wt x c) (fun g => ?_) (fun g => ?_) rfl rfl (by omega) (by omega)
          · rw [cb_th_b z (by omega)] at i
            exact nm_r (nI_1 _) i
          · rw [cb_th_a hC.1 hs (Or.inr g)] at i
            exact nm_r (nI_1 _) i
      · rw [cb_th_n (by rw [hs]; exact fun z => absurd z.2 (by decide))] at i
        exact br_t rfl (nm_r (nI_1 _) i)
    · have i := ih (x + 1) n (by omega) (by omega)
      have e1 : cb_C en c x = false ∨ x = 0 := by
        cases g : cb_C en c x with
        | false => exact Or.inl rfl
        | true => exact Or.inr (by by_cases z : x = 0; exact z; exact absurd ⟨g, z⟩ hC)
      have e2 : ¬ (cb_C en c x = true ∧ x.testBit e = true) := by
        rintro ⟨a, b⟩
        rcases e1 with g | g
        · rw [g] at a; exact absurd a (by decide)
        · rw [g, Nat.zero_testBit] at b; exact absurd b (by decide)
      rw [cb_n_f e1, cb_th_n e2] at i
      exact i
theorem xm_through_t (H : xc_ok c en wt ends ws) {e : Nat} (he : e < c) {cc : Int32} {cs rows : Nat → Int32} {post : Int32 → SX → Prop}
    (hp : ∀ cc' cs' rows', post (if cb_th (cb_C en c) (fun x => cb_w wt x c) e 4096 = 0 then -5 else nI (cb_th (cb_C en c) (fun x => cb_w wt x c) e 4096)) (nI c, cc', ends, ws, cs', rows')) : wpX_through post (nI c, cc, ends, ws, cs, rows) (nI e) := by
  have hc := H.1
  unfold wpX_through
  refine xm_isEdge_t H.1 he ?_
  refine br_f (by decide) ?_
  exact xc_gather H (fun cs' hG => ⟨4097, xm_through_l H hG (by omega) post (hp _ _ _) 4096 0 4097 (by omega) (by omega)⟩)
theorem xm_through_f {f v : Int32} (hv : v < 0 ∨ f ≤ v) {cc : Int32} {cs rows : Nat → Int32} {post : Int32 → SX → Prop} (hp : post (-4) (f, cc, ends, ws, cs, rows)) : wpX_through post (f, cc, ends, ws, cs, rows) v := by
  unfold wpX_through
  refine xm_isEdge_f hv ?_
  exact br_t rfl hp
theorem xm_bridges_2 (hc : c ≤ 12) {cv : Nat} (hv : cv < 4096) {cc : Int32} {cs rows : Nat → Int32} (post : Int32 → SX → Prop) (hp : post (nI (cb_br cv c)) (nI c, cc, ends, ws, cs, rows)) :
    ∀ d e n, e + d = c → d < n → wX_bridges_35 post (nI cv) (nI c) cc ends ws cs rows n (nI (cb_br cv e)) (nI e) := by
  intro d
  induction d with
  | zero =>
    intro e n h hn
    obtain ⟨m, rfl⟩ := xc_suc hn
    obtain rfl : e = c := by omega
    exact br_t (nI_le (Nat.le_refl _) (by omega)) hp
  | succ d ih =>
    intro e n h hn
    obtain ⟨m, rfl⟩ := xc_suc hn
    have i := ih (e + 1) m (by omega) (by omega)
    refine br_f (nI_ge (by omega) (by omega)) (xc_has (by omega) (by omega) (fun ht => ?_) (fun hf => ?_))
    · rw [cb_br_t ht] at i
      exact br_f (by decide) (nm_r (nI_1 e) i)
    · rw [cb_br_f hf] at i
      exact br_t rfl (nm_r (nI_1 _) (nm_r (nI_1 e) i))
theorem xm_bridges_l (H : xc_ok c en wt ends ws) {cs rows : Nat → Int32} (hG : xc_G (cb_C en c) cs) (post : Int32 → SX → Prop)
    (hp : post (nI (cb_br (cb_cv (cb_C en c) 4096) c)) (nI c, nI (cb_n (cb_C en c) 4096), ends, ws, cs, rows)) :
    ∀ d x n, x + d = 4096 → d < n → wX_bridges_8 post (nI c) (nI (cb_n (cb_C en c) 4096)) ends ws cs rows n (nI (cb_cv (cb_C en c) x)) (nI (cb_n (cb_C en c) x)) := by
  have hN := cb_n_le (cb_C en c) 4096
  have hc := H.1
  intro d
  induction d with
  | zero =>
    intro x n h hn
    obtain ⟨m, rfl⟩ := xc_suc hn
    obtain rfl : x = 4096 := by omega
    exact br_t (nI_le (Nat.le_refl _) (by omega)) ⟨13, xm_bridges_2 hc (cb_cv_lt _ 4096 (by omega)) post hp c 0 13 (by omega) (by omega)⟩
  | succ d ih =>
    intro x n h hn
    by_cases hC : cb_C en c x = true ∧ x ≠ 0
    · obtain ⟨m, rfl⟩ := xc_suc hn
      have i := ih (x + 1) m (by omega) (by omega)
      have hlt := cb_n_lt hC.1 hC.2 (show x < 4096 by omega)
      rw [cb_n_t hC.1 hC.2, cb_cv_t hC.1] at i
      refine br_f (nI_ge hlt (by omega)) ⟨vp_in_nI (by omega) (by omega), nm_r (e' := nI (cb_cv (cb_C en c) x ||| x)) ?_ (nm_r (nI_1 _) i)⟩
      rw [nI_clamp (by omega), hG x (by omega) hC.1 hC.2, cb_or]
    · have i := ih (x + 1) n (by omega) (by omega)
      cases g : cb_C en c x with
      | false => rw [cb_n_f (Or.inl g), cb_cv_f g] at i; exact i
      | true =>
        have z : x = 0 := by by_cases z : x = 0; exact z; exact absurd ⟨g, z⟩ hC
        rw [cb_n_f (Or.inr z), cb_cv_t g] at i
        rw [z] at i ⊢
        rw [Nat.or_zero] at i
        exact i
theorem xm_bridges (H : xc_ok c en wt ends ws) {cc : Int32} {cs rows : Nat → Int32} {post : Int32 → SX → Prop} (hp : ∀ cc' cs' rows', post (nI (cb_br (cb_cv (cb_C en c) 4096) c)) (nI c, cc', ends, ws, cs', rows')) : wpX_bridges post (nI c, cc, ends, ws, cs, rows) :=
  xc_gather H (fun cs' hG => ⟨4097, xm_bridges_l H hG post (hp _ _ _) 4096 0 4097 (by omega) (by omega)⟩)
end
