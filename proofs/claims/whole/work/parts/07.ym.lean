/-! the reference's public questions -/
section
variable {f : Int32} {us vs ws sums cw : Nat → Int32} {C : Nat → Bool} {w : Nat → Nat} {k : Nat}
theorem ym_light (K : cb_K C w) (hT : yc_T C w cw) (hQ : yc_Q sums (cb_S C w k)) {post : Int32 → Prop} (h0 : cb_t C w k = 0 → post (-1)) (h1 : ¬ cb_t C w k = 0 → cw (nI (cb_t C w k)).toNatClampNeg = nI (cb_g C w k) → post (nI (cb_t C w k))) : wpY_lightest post (f, us, vs, ws, sums, cw) := by
  refine yc_lightest K hT hQ (cb_S_0 C w k) ?_
  have hl := cb_t_lt K k
  by_cases z : cb_t C w k = 0
  · rw [yc_b_0 (show cb_lt C (cb_S C w k) w 4096 = 0 from z)]
    exact h0 z
  · rw [yc_b_n (show ¬ cb_lt C (cb_S C w k) w 4096 = 0 from z)]
    refine h1 z ?_
    rw [nI_clamp (by omega), hT _ hl, yc_val_t (cb_t_C K k)]
    unfold cb_g
    rw [if_neg z]
theorem ym_take (K : cb_K C w) (hQ : yc_Q sums (cb_S C w k)) {post : SY → Prop} (hp : ∀ sums', yc_Q sums' (cb_S C w (k + 1)) → post (f, us, vs, ws, sums', cw)) : wpY_take post (f, us, vs, ws, sums, cw) (nI (cb_t C w k)) :=
  yc_take (cb_t_lt K k) hQ hp
end
section
variable {f : Int32} {us vs ws cw : Nat → Int32} {C : Nat → Bool} {w : Nat → Nat}
theorem ym_total_l (K : cb_K C w) (hT : yc_T C w cw) (post : Int32 → SY → Prop) (hp : ∀ sums', post (nI (cb_su (cb_g C w) 12)) (f, us, vs, ws, sums', cw)) :
    ∀ d k n sums, k + d = 12 → d < n → yc_Q sums (cb_S C w k) → wY_total_8 post n (nI (cb_su (cb_g C w) k)) (nI k) f us vs ws sums cw := by
  intro d
  induction d with
  | zero =>
    intro k n sums h hn hQ
    obtain ⟨m, rfl⟩ := xc_suc hn
    obtain rfl : k = 12 := by omega
    exact br_t (by decide) (hp sums)
  | succ d ih =>
    intro k n sums h hn hQ
    obtain ⟨m, rfl⟩ := xc_suc hn
    have hl := cb_t_lt K k
    refine br_f (nI_ge (b := 12) (by omega) (by decide)) ?_
    refine ym_light K hT hQ (fun z => ?_) (fun z hw => ?_)
    · have i := ih (k + 1) m sums (by omega) (by omega) (by rw [cb_S_same z]; exact hQ)
      rw [show cb_su (cb_g C w) (k + 1) = cb_su (cb_g C w) k from by show _ + cb_g C w k = _; rw [(cb_g_0 K k).mpr z]; rfl] at i
      exact br_t (by decide) (nm_r (nI_1 k) i)
    · refine br_f (nI_pos (by omega)) ⟨vp_in_nI hl (by omega), nm_r (e' := nI (cb_su (cb_g C w) k + cb_g C w k)) (by rw [hw, nI_add]) ?_⟩
      exact ym_take K hQ (fun sums' hQ' => nm_r (nI_1 k) (ih (k + 1) m sums' (by omega) (by omega) hQ'))
theorem ym_total (K : cb_K C w) (hT : yc_T C w cw) {sums : Nat → Int32} {post : Int32 → SY → Prop} (hp : ∀ sums', post (nI (cb_su (cb_g C w) 12)) (f, us, vs, ws, sums', cw)) : wpY_total post (f, us, vs, ws, sums, cw) :=
  yc_forget C w (fun sums' hQ => ⟨13, ym_total_l K hT post hp 12 0 13 sums' (by omega) (by omega) hQ⟩)
theorem ym_part_l (K : cb_K C w) (hT : yc_T C w cw) {i : Nat} (hi : i < 12) (post : Int32 → SY → Prop) (hp : ∀ sums', post (if cb_g C w i = 0 then -5 else nI (cb_g C w i)) (f, us, vs, ws, sums', cw)) :
    ∀ d k n sums, k + d = i → d < n → yc_Q sums (cb_S C w k) → wY_part_6 post (nI i) n (nI k) f us vs ws sums cw := by
  intro d
  induction d with
  | zero =>
    intro k n sums h hn hQ
    obtain ⟨m, rfl⟩ := xc_suc hn
    obtain rfl : k = i := by omega
    have hl := cb_t_lt K k
    have hp' := hp sums
    refine br_f (nI_ge (b := 12) (by omega) (by decide)) ?_
    refine ym_light K hT hQ (fun z => ?_) (fun z hw => ?_)
    · rw [if_pos ((cb_g_0 K k).mpr z)] at hp'
      exact br_f (by decide) hp'
    · rw [if_neg (fun q => z ((cb_g_0 K k).mp q))] at hp'
      refine br_t (nI_pos' (by omega)) (br_t rfl ⟨vp_in_nI hl (by omega), ?_⟩)
      rw [hw]; exact hp'
  | succ d ih =>
    intro k n sums h hn hQ
    obtain ⟨m, rfl⟩ := xc_suc hn
    have hl := cb_t_lt K k
    refine br_f (nI_ge (b := 12) (by omega) (by decide)) ?_
    refine ym_light K hT hQ (fun z => ?_) (fun z hw => ?_)
    · have hp' := hp sums
      have z2 := cb_t_0 z (i - k)
      rw [show k + (i - k) = i from by omega] at z2
      rw [if_pos ((cb_g_0 K i).mpr z2)] at hp'
      exact br_f (by decide) hp'
    · refine br_t (nI_pos' (by omega)) (br_f (fun q => by rw [nI_eq (by omega) (by omega)] at q; omega) ?_)
      exact ym_take K hQ (fun sums' hQ' => nm_r (nI_1 k) (ih (k + 1) m sums' (by omega) (by omega) hQ'))
theorem ym_part (K : cb_K C w) (hT : yc_T C w cw) {i : Nat} (hi : i < 12) {sums : Nat → Int32} {post : Int32 → SY → Prop} (hp : ∀ sums', post (if cb_g C w i = 0 then -5 else nI (cb_g C w i)) (f, us, vs, ws, sums', cw)) : wpY_part post (f, us, vs, ws, sums, cw) (nI i) :=
  yc_forget C w (fun sums' hQ => ⟨13, ym_part_l K hT hi post hp i 0 13 sums' (by omega) (by omega) hQ⟩)
theorem ym_part_ol (K : cb_K C w) (hT : yc_T C w cw) {v : Int32} (hv : v < 0 ∨ nI 12 ≤ v) (post : Int32 → SY → Prop) (hp : ∀ sums', post (-5) (f, us, vs, ws, sums', cw)) :
    ∀ d k n sums, k + d = 12 → d < n → yc_Q sums (cb_S C w k) → wY_part_6 post v n (nI k) f us vs ws sums cw := by
  intro d
  induction d with
  | zero =>
    intro k n sums h hn hQ
    obtain ⟨m, rfl⟩ := xc_suc hn
    obtain rfl : k = 12 := by omega
    exact br_t (by decide) (hp sums)
  | succ d ih =>
    intro k n sums h hn hQ
    obtain ⟨m, rfl⟩ := xc_suc hn
    have hl := cb_t_lt K k
    refine br_f (nI_ge (b := 12) (by omega) (by decide)) ?_
    refine ym_light K hT hQ (fun z => ?_) (fun z hw => ?_)
    · exact br_f (by decide) (hp sums)
    · refine br_t (nI_pos' (by omega)) (br_f (fun q => ?_) ?_)
      · rw [← q] at hv
        rcases hv with g | g
        · exact nI_pos (by omega) g
        · exact nI_ge (by omega) (by decide) g
      · exact ym_take K hQ (fun sums' hQ' => nm_r (nI_1 k) (ih (k + 1) m sums' (by omega) (by omega) hQ'))
theorem ym_part_o (K : cb_K C w) (hT : yc_T C w cw) {v : Int32} (hv : v < 0 ∨ nI 12 ≤ v) {sums : Nat → Int32} {post : Int32 → SY → Prop} (hp : ∀ sums', post (-5) (f, us, vs, ws, sums', cw)) : wpY_part post (f, us, vs, ws, sums, cw) v :=
  yc_forget C w (fun sums' hQ => ⟨13, ym_part_ol K hT hv post hp 12 0 13 sums' (by omega) (by omega) hQ⟩)
theorem ym_closed_t (K : cb_K C w) (hT : yc_T C w cw) {s : Nat} (h : C s = true) {sums : Nat → Int32} {post : Int32 → Prop} (hp : post 1) : wpY_closed post (f, us, vs, ws, sums, cw) (nI s) := by
  have hs := K.2.2.1 s h
  refine br_f (nI_pos (by omega)) (br_f (nI_ge (b := 4096) hs (by decide)) ⟨vp_in_nI hs (by omega), ?_⟩)
  exact yc_neg K hT hs (fun z => absurd (h.symm.trans z) (by decide)) (fun _ _ => hp)
theorem ym_closed_f (K : cb_K C w) (hT : yc_T C w cw) {v : Int32} (h : ¬ ∃ s, v = nI s ∧ C s = true) {sums : Nat → Int32} {post : Int32 → Prop} (hp : post 0) : wpY_closed post (f, us, vs, ws, sums, cw) v := by
  by_cases h0 : v < 0
  · exact br_t h0 hp
  · refine br_f h0 ?_
    rcases pk_ix v (n := 4096) (by decide) with g | g | ⟨j, hj, rfl⟩
    · exact absurd g h0
    · exact br_t g hp
    · refine br_f (nI_ge (b := 4096) hj (by decide)) ⟨vp_in_nI hj (by omega), ?_⟩
      exact yc_neg K hT hj (fun _ => hp) (fun z _ => absurd ⟨j, rfl, z⟩ h)
theorem ym_level_l (K : cb_K C w) (hT : yc_T C w cw) {s : Nat} (hC : C s = true) (post : Int32 → SY → Prop) :
    ∀ d k l n sums, k + d = 12 → d < n → yc_Q sums (cb_S C w k) → (∀ sums', post (nI (cb_lv (fun k => cb_S C w k s) (cb_g C w) d k l)) (f, us, vs, ws, sums', cw)) → wY_level_19 post (nI s) n (nI l) (nI k) f us vs ws sums cw := by
  have hs := K.2.2.1 s hC
  intro d
  induction d with
  | zero =>
    intro k l n sums h hn hQ hp
    obtain ⟨m, rfl⟩ := xc_suc hn
    obtain rfl : k = 12 := by omega
    exact br_t (by decide) (hp sums)
  | succ d ih =>
    intro k l n sums h hn hQ hp
    obtain ⟨m, rfl⟩ := xc_suc hn
    have hl := cb_t_lt K k
    refine br_f (nI_ge (b := 12) (by omega) (by decide)) ⟨vp_in_nI hs (by omega), ?_⟩
    rw [nI_clamp (by omega)]
    have q := hQ s hs
    cases e : cb_S C w k s with
    | true =>
      have hp' := hp sums
      rw [cb_lv_t (s := fun k => cb_S C w k s) e] at hp'
      exact br_f (fun z => by rw [q, e] at z; exact absurd z (by decide)) hp'
    | false =>
      refine br_t (q.mpr e) ?_
      refine ym_light K hT hQ (fun z => ?_) (fun z hw => ?_)
      · have := cb_lt_0 (cb_S_0 C w k) 4096 z s hs hC
        rw [e] at this
        exact absurd this (by decide)
      · refine ⟨vp_in_nI hl (by omega), nm_r hw ?_⟩
        refine ym_take K hQ (fun sums' hQ' => nm_r (nI_1 k) (ih (k + 1) _ m sums' (by omega) (by omega) hQ' (fun sums2 => ?_)))
        have hp' := hp sums2
        rw [cb_lv_f (s := fun k => cb_S C w k s) e] at hp'
        exact hp'
theorem ym_level_t (K : cb_K C w) (hT : yc_T C w cw) {s : Nat} (hC : C s = true) {sums : Nat → Int32} {post : Int32 → SY → Prop} (hp : ∀ sums', post (nI (cb_lv (fun k => cb_S C w k s) (cb_g C w) 12 0 0)) (f, us, vs, ws, sums', cw)) : wpY_level post (f, us, vs, ws, sums, cw) (nI s) := by
  unfold wpY_level
  refine ym_closed_t K hT hC ?_
  refine br_f (by decide) ?_
  exact yc_forget C w (fun sums' hQ => ⟨13, ym_level_l K hT hC post 12 0 0 13 sums' (by omega) (by omega) hQ hp⟩)
theorem ym_level_f (K : cb_K C w) (hT : yc_T C w cw) {v : Int32} (h : ¬ ∃ s, v = nI s ∧ C s = true) {sums : Nat → Int32} {post : Int32 → SY → Prop} (hp : post (-5) (f, us, vs, ws, sums, cw)) : wpY_level post (f, us, vs, ws, sums, cw) v := by
  unfold wpY_level
  refine ym_closed_f K hT h ?_
  exact br_t rfl hp
theorem ym_rank_2 {sums : Nat → Int32} {r : Nat} (hr : r ≤ 12) {x : Nat} (hx : x + 1 = 2 ^ r) (post : Int32 → Prop) (hp : post (nI r)) : ∀ d k n, k + d = r → d < n → wY_rank_31 post (nI x) f us vs ws sums cw n (nI k) := by
  have hq := cb_pow hr
  intro d
  induction d with
  | zero =>
    intro k n h hn
    obtain ⟨m, rfl⟩ := xc_suc hn
    obtain rfl : k = r := by omega
    refine pk_le 12 k (fun _ => hp) (fun z => ?_) rfl rfl (by omega) (by omega)
    exact pk_le (x + 1) (2 ^ k) (fun _ => hp) (fun q => by omega) (nI_1 x) (cb_shl (by omega)) (by omega) (by omega)
  | succ d ih =>
    intro k n h hn
    obtain ⟨m, rfl⟩ := xc_suc hn
    have hlt : 2 ^ k < 2 ^ r := Nat.pow_lt_pow_right (by decide) (by omega)
    refine pk_le 12 k (fun _ => by omega) (fun z => ?_) rfl rfl (by omega) (by omega)
    exact pk_le (x + 1) (2 ^ k) (fun q => by omega) (fun q => nm_r (nI_1 k) (ih (k + 1) m (by omega) (by omega))) (nI_1 x) (cb_shl (by omega)) (by omega) (by omega)
theorem ym_rank_l (K : cb_K C w) (hT : yc_T C w cw) {sums : Nat → Int32} (post : Int32 → Prop) (hp : post (nI (cb_rk C w 12))) : ∀ d x n, x + d = 4096 → 1 ≤ x → d < n → wY_rank_4 post f us vs ws sums cw n (nI (cb_n C x)) (nI x) := by
  intro d
  induction d with
  | zero =>
    intro x n h h1 hn
    obtain ⟨m, rfl⟩ := xc_suc hn
    obtain rfl : x = 4096 := by omega
    have e := cb_n_ct K.1 4095
    rw [cb_C_ct K] at e
    have hr := cb_rk_le C w 12
    exact br_t (by decide) ⟨13, ym_rank_2 hr e post hp _ 0 13 (Nat.zero_add _) (by omega)⟩
  | succ d ih =>
    intro x n h h1 hn
    obtain ⟨m, rfl⟩ := xc_suc hn
    have i := ih (x + 1) m (by omega) (by omega) (by omega)
    refine br_f (nI_ge (b := 4096) (by omega) (by decide)) ⟨vp_in_nI (by omega) (by omega), ?_⟩
    refine yc_neg K hT (by omega) (fun hC => ?_) (fun hC hw => ?_)
    · rw [cb_n_f (Or.inl hC)] at i
      exact nm_r (nI_1 x) i
    · rw [cb_n_t hC (by omega)] at i
      exact nm_r (nI_1 _) (nm_r (nI_1 x) i)
theorem ym_rank (K : cb_K C w) (hT : yc_T C w cw) {sums : Nat → Int32} {post : Int32 → Prop} (hp : post (nI (cb_rk C w 12))) : wpY_rank post (f, us, vs, ws, sums, cw) := by
  have := ym_rank_l (f := f) (us := us) (vs := vs) (ws := ws) K hT (sums := sums) post hp 4095 1 4097 (by omega) (by omega) (by omega)
  rw [show cb_n C 1 = 0 from cb_n_f (Or.inr rfl)] at this
  exact ⟨4097, this⟩
def yc_5 (z : Nat) : Int32 := if z = 0 then -5 else nI z
theorem yc_5_0 {z : Nat} (h : z = 0) : yc_5 z = -5 := if_pos h
theorem yc_5_n {z : Nat} (h : ¬ z = 0) : yc_5 z = nI z := if_neg h
theorem ym_through_l (K : cb_K C w) (hT : yc_T C w cw) {sums : Nat → Int32} {e : Nat} (he : e < 12) (post : Int32 → Prop) (hp : post (yc_5 (cb_th C w e 4096))) : ∀ d x n, x + d = 4096 → d < n → wY_through_16 post (nI e) f us vs ws sums cw n (yc_5 (cb_th C w e x)) (nI x) := by
  intro d
  induction d with
  | zero =>
    intro x n h hn
    obtain ⟨m, rfl⟩ := xc_suc hn
    obtain rfl : x = 4096 := by omega
    exact br_t (by decide) hp
  | succ d ih =>
    intro x n h hn
    obtain ⟨m, rfl⟩ := xc_suc hn
    have i := ih (x + 1) m (by omega) (by omega)
    refine br_f (nI_ge (b := 4096) (by omega) (by decide)) ⟨vp_in_nI (by omega) (by omega), nm_r (e' := yc_val C w x) (by rw [nI_clamp (by omega)]; exact hT x (by omega)) ?_⟩
    cases b : x.testBit e with
    | false =>
      rw [cb_th_n (by rw [b]; exact fun z => absurd z.2 (by decide))] at i
      exact br_t ((cb_bit0 (by omega) (by omega)).mpr b) (nm_r (nI_1 x) i)
    | true =>
      refine br_f (fun z => by rw [cb_bit0 (by omega) (by omega), b] at z; exact absurd z (by decide)) ?_
      cases hC : C x with
      | false =>
        rw [cb_th_n (by rw [hC]; exact fun z => absurd z.1 (by decide))] at i
        rw [yc_val_f hC]
        exact br_t (by decide) (nm_r (nI_1 x) i)
      | true =>
        have x0 : x ≠ 0 := by intro z; rw [z, Nat.zero_testBit] at b; exact absurd b (by decide)
        have hb := K.2.2.2.2 x
        have hw0 := K.2.2.2.1 x hC x0
        have hb2 := cb_th_le K e x
        rw [yc_val_t hC]
        refine br_f (nI_pos (by omega)) ?_
        by_cases z : cb_th C w e x = 0
        · rw [cb_th_a hC b (Or.inl z), yc_5_n (by omega)] at i
          rw [yc_5_0 z]
          exact br_t (by decide) (nm_r (nI_1 x) i)
        · rw [yc_5_n z]
          refine br_f (nI_pos (by omega)) (pk_le (cb_th C w e x) (w x) (fun g => ?_) (fun g => ?_) rfl rfl (by omega) (by omega))
          · rw [cb_th_b z (by omega), yc_5_n z] at i
            exact nm_r (nI_1 x) i
          · rw [cb_th_a hC b (Or.inr g), yc_5_n (by omega)] at i
            exact nm_r (nI_1 x) i
end
section
variable {c : Nat} {us vs ws cw : Nat → Int32} {C : Nat → Bool} {w : Nat → Nat}
theorem ym_isEdge_t {e : Nat} (hc : c ≤ 12) (he : e < c) {sums : Nat → Int32} {post : Int32 → Prop} (hp : post 1) : wpY_isEdge post (nI c, us, vs, ws, sums, cw) (nI e) :=
  br_f (nI_pos (by omega)) (br_f (nI_ge he (by omega)) hp)
theorem ym_isEdge_f {f v : Int32} (hv : v < 0 ∨ f ≤ v) {sums : Nat → Int32} {post : Int32 → Prop} (hp : post 0) : wpY_isEdge post (f, us, vs, ws, sums, cw) v := by
  by_cases h : v < 0
  · exact br_t h hp
  · exact br_f h (br_t (hv.resolve_left h) hp)
theorem ym_through_t (K : cb_K C w) (hT : yc_T C w cw) (hc : c ≤ 12) {e : Nat} (he : e < c) {sums : Nat → Int32} {post : Int32 → Prop} (hp : post (yc_5 (cb_th C w e 4096))) : wpY_through post (nI c, us, vs, ws, sums, cw) (nI e) := by
  unfold wpY_through
  refine ym_isEdge_t hc he ?_
  refine br_f (by decide) ?_
  have := ym_through_l (f := nI c) (us := us) (vs := vs) (ws := ws) K hT (sums := sums) (show e < 12 by omega) post hp 4095 1 4097 (by omega) (by omega)
  rw [yc_5_0 (show cb_th C w e 1 = 0 from cb_th_n (by rw [Nat.zero_testBit]; exact fun z => absurd z.2 (by decide)))] at this
  exact ⟨4097, this⟩
theorem ym_through_f {f v : Int32} (hv : v < 0 ∨ f ≤ v) {sums : Nat → Int32} {post : Int32 → Prop} (hp : post (-4)) : wpY_through post (f, us, vs, ws, sums, cw) v := by
  unfold wpY_through
  refine ym_isEdge_f hv ?_
  exact br_t rfl hp
theorem ym_bridges_l (K : cb_K C w) (hT : yc_T C w cw) (hc : c ≤ 12) {sums : Nat → Int32} (post : Int32 → Prop) (hp : post (nI (cb_br (cb_cv C 4096) c))) : ∀ d e n, e + d = c → d < n → wY_bridges_4 post (nI c) us vs ws sums cw n (nI (cb_br (cb_cv C 4096) e)) (nI e) := by
  intro d
  induction d with
  | zero =>
    intro e n h hn
    obtain ⟨m, rfl⟩ := xc_suc hn
    obtain rfl : e = c := by omega
    exact br_t (nI_le (Nat.le_refl _) (by omega)) hp
  | succ d ih =>
    intro e n h hn
    obtain ⟨m, rfl⟩ := xc_suc hn
    have i := ih (e + 1) m (by omega) (by omega)
    refine br_f (nI_ge (by omega) (by omega)) ?_
    refine ym_through_t K hT hc (by omega) ?_
    have q := cb_cv_th K e 4096
    have hb := cb_th_le K e 4096
    by_cases z : cb_th C w e 4096 = 0
    · rw [yc_5_0 z]
      have b : (cb_cv C 4096).testBit e = false := by
        cases b : (cb_cv C 4096).testBit e with
        | false => rfl
        | true => exact absurd z (q.mp b)
      rw [cb_br_f b] at i
      exact br_t rfl (nm_r (nI_1 _) (nm_r (nI_1 e) i))
    · rw [yc_5_n z]
      rw [cb_br_t (q.mpr z)] at i
      refine br_f (fun y => ?_) (nm_r (nI_1 e) i)
      have := nI_pos (n := cb_th C w e 4096) (by omega)
      rw [y] at this
      exact this (by decide)
theorem ym_bridges (K : cb_K C w) (hT : yc_T C w cw) (hc : c ≤ 12) {sums : Nat → Int32} {post : Int32 → Prop} (hp : post (nI (cb_br (cb_cv C 4096) c))) : wpY_bridges post (nI c, us, vs, ws, sums, cw) :=
  ⟨13, ym_bridges_l K hT hc post hp c 0 13 (by omega) (by omega)⟩
end
