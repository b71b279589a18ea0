/-! the relation, and what is owed -/
def i_Rel (_ : Nat) (u : SX) (v : SY) : Prop := ∃ (c : Nat) (U V wt : Nat → Nat) (cc : Int32) (ends ws cs rows us vs ws' sums cw : Nat → Int32), u = (nI c, cc, ends, ws, cs, rows) ∧ v = (nI c, us, vs, ws', sums, cw) ∧ xc_ok c (cb_en U V) wt ends ws ∧ yc_ok c U V wt us vs ws' ∧ yc_T (cb_C (cb_en U V) c) (fun x => cb_w wt x c) cw
theorem i_up {k : Nat} {u : SX} {v : SY} (h : i_Rel k u v) : i_Rel (k + 4) u v := h
theorem ir_mk {k c : Nat} {U V wt : Nat → Nat} {cc : Int32} {ends ws cs rows us vs ws' sums cw : Nat → Int32} (HX : xc_ok c (cb_en U V) wt ends ws) (HY : yc_ok c U V wt us vs ws') (hT : yc_T (cb_C (cb_en U V) c) (fun x => cb_w wt x c) cw) : i_Rel k (nI c, cc, ends, ws, cs, rows) (nI c, us, vs, ws', sums, cw) :=
  ⟨c, U, V, wt, cc, ends, ws, cs, rows, us, vs, ws', sums, cw, rfl, rfl, HX, HY, hT⟩
theorem i_vc0 : wpX_init (fun u => wpY_init (fun v => i_Rel 0 u v)) := by
  have HX : xc_ok 0 (cb_en (fun _ => 0) (fun _ => 0)) (fun _ => 0) (fun _ => 0) (fun _ => 0) := ⟨by decide, fun e he => absurd he (by omega)⟩
  have HY : yc_ok 0 (fun _ => 0) (fun _ => 0) (fun _ => 0) (fun _ => 0) (fun _ => 0) (fun _ => 0) := ⟨by decide, fun e he => absurd he (by omega)⟩
  unfold wpX_init wpY_init
  exact yc_refresh HY (fun cw' hT => ir_mk HX HY hT)
theorem ir_vxX_t {a : Nat} (h : a < 7) {post : Int32 → Prop} (hp : post 1) : wpX_isVertex post (nI a) :=
  br_f (nI_pos (by omega)) (br_f (nI_ge (b := 7) h (by decide)) hp)
theorem ir_vxX_f {v : Int32} (h : v < 0 ∨ nI 7 ≤ v) {post : Int32 → Prop} (hp : post 0) : wpX_isVertex post v := by
  by_cases z : v < 0
  · exact br_t z hp
  · exact br_f z (br_t (h.resolve_left z) hp)
theorem ir_vxY_t {a : Nat} (h : a < 7) {u : SY} {post : Int32 → Prop} (hp : post 1) : wpY_isVertex post u (nI a) :=
  br_f (nI_pos (by omega)) (br_f (nI_nlt (a := 6) (by omega) (by decide)) hp)
theorem ir_vxY_f {v : Int32} (h : v < 0 ∨ nI 7 ≤ v) {u : SY} {post : Int32 → Prop} (hp : post 0) : wpY_isVertex post u v := by
  by_cases z : v < 0
  · exact br_t z hp
  · obtain ⟨j, hj, rfl⟩ := nI_of z
    have g := h.resolve_left z
    rw [nI_leI (by omega) hj] at g
    exact br_f z (br_t (nI_lt (a := 6) (by omega) hj) hp)
theorem ir_wt (v : Int32) : v < 1 ∨ (¬ v < 1 ∧ 100 < v ∧ ¬ v ≤ 100) ∨ ∃ q : Nat, 1 ≤ q ∧ q ≤ 100 ∧ v = nI q ∧ ¬ v < 1 ∧ ¬ 100 < v ∧ v ≤ 100 := by
  by_cases h : v < 1
  · exact Or.inl h
  · refine Or.inr ?_
    have h0 : ¬ v < 0 := fun z => h (Int32.lt_trans z (by decide))
    obtain ⟨j, hj, rfl⟩ := nI_of h0
    have h1 : 1 ≤ j := by
      rcases Nat.lt_or_ge j 1 with g | g
      · exact absurd (nI_lt (b := 1) g (by decide)) h
      · exact g
    rcases Nat.lt_or_ge 100 j with g | g
    · exact Or.inl ⟨h, nI_lt (a := 100) g hj, nI_ge (a := 100) g hj⟩
    · exact Or.inr ⟨j, h1, g, rfl, h, nI_nlt (a := 100) g (by decide), nI_le (b := 100) g (by decide)⟩
theorem ir_wtX_f {v : Int32} (h : v < 1 ∨ 100 < v) {post : Int32 → Prop} (hp : post 0) : wpX_isWeight post v := by
  by_cases z : v < 1
  · exact br_t z hp
  · exact br_f z (br_t (h.resolve_left z) hp)
theorem ir_wtX_t {v : Int32} (h1 : ¬ v < 1) (h2 : ¬ 100 < v) {post : Int32 → Prop} (hp : post 1) : wpX_isWeight post v := br_f h1 (br_f h2 hp)
theorem ir_set_en {U V : Nat → Nat} {c a b e : Nat} (h : e ≠ c) : cb_en (cb_set U c a) (cb_set V c b) e = cb_en U V e := by
  unfold cb_en; rw [cb_set_n h, cb_set_n h]
theorem ir_set_en2 {U V : Nat → Nat} {c a b : Nat} : cb_en (cb_set U c a) (cb_set V c b) c = 2 ^ a ||| 2 ^ b := by
  unfold cb_en; rw [cb_set_s, cb_set_s]
theorem i_vc_edge {k : Nat} {u : SX} {v : SY} (I : i_Rel k u v) (hk : k + 4 ≤ 2048) (v1 : Int32) (v2 : Int32) (v3 : Int32) : wpX_edge (fun r u' => wpY_edge (fun r' v' => r' = r ∧ i_Rel (k + 4) u' v') v v1 v2 v3) u v1 v2 v3 := by
  obtain ⟨c, U, V, wt, cc, ends, ws, cs, rows, us, vs, ws', sums, cw, rfl, rfl, HX, HY, hT⟩ := I
  have hc := HX.1
  have J : i_Rel (k + 4) (nI c, cc, ends, ws, cs, rows) (nI c, us, vs, ws', sums, cw) := ir_mk HX HY hT
  unfold wpX_edge wpY_edge
  have bad : ∀ x : Int32, (x < 0 ∨ nI 7 ≤ x) ∨ ∃ a, a < 7 ∧ x = nI a := by
    intro x
    rcases pk_ix x (n := 7) (by decide) with g | g | g
    · exact Or.inl (Or.inl g)
    · exact Or.inl (Or.inr g)
    · exact Or.inr g
  rcases bad v1 with g | ⟨a, ha, rfl⟩
  · refine ir_vxX_f g ?_
    refine br_t rfl ?_
    refine ir_vxY_f g ?_
    exact br_t rfl ⟨rfl, J⟩
  refine ir_vxX_t ha ?_
  refine br_f (by decide) ?_
  rcases bad v2 with g | ⟨b, hb, rfl⟩
  · refine ir_vxX_f g ?_
    refine br_t rfl ?_
    refine ir_vxY_t ha ?_
    refine br_f (by decide) ?_
    refine ir_vxY_f g ?_
    exact br_t rfl ⟨rfl, J⟩
  refine ir_vxX_t hb ?_
  refine br_f (by decide) ?_
  by_cases hab : nI a = nI b
  · refine br_t hab ?_
    refine ir_vxY_t ha ?_
    refine br_f (by decide) ?_
    refine ir_vxY_t hb ?_
    refine br_f (by decide) ?_
    exact br_t hab ⟨rfl, J⟩
  refine br_f hab ?_
  rcases ir_wt v3 with g | ⟨g1, g2, g3⟩ | ⟨q, q1, q2, rfl, q3, q4, q5⟩
  · refine ir_wtX_f (Or.inl g) ?_
    refine br_t rfl ?_
    refine ir_vxY_t ha ?_
    refine br_f (by decide) ?_
    refine ir_vxY_t hb ?_
    refine br_f (by decide) ?_
    exact br_f hab (br_t g ⟨rfl, J⟩)
  · refine ir_wtX_f (Or.inr g2) ?_
    refine br_t rfl ?_
    refine ir_vxY_t ha ?_
    refine br_f (by decide) ?_
    refine ir_vxY_t hb ?_
    refine br_f (by decide) ?_
    exact br_f hab (br_f g1 (br_f g3 ⟨rfl, J⟩))
  refine ir_wtX_t q3 q4 ?_
  refine br_f (by decide) ?_
  by_cases hf : c = 12
  · refine br_f (nI_nlt (b := 12) (by omega) (by omega)) ?_
    refine ir_vxY_t ha ?_
    refine br_f (by decide) ?_
    refine ir_vxY_t hb ?_
    refine br_f (by decide) ?_
    refine br_f hab (br_f q3 (br_t q5 (br_t ?_ ⟨rfl, J⟩)))
    rw [hf]; rfl
  refine br_t (nI_lt (b := 12) (by omega) (by decide)) ?_
  have hin : vp_in (nI c) 12 := vp_in_nI (by omega) (by omega)
  have hcl : (nI c).toNatClampNeg = c := nI_clamp (by omega)
  have hne : a ≠ b := fun z => hab (by rw [z])
  refine ⟨hin, nm_r (e' := upd ends c (nI (2 ^ a ||| 2 ^ b))) (by rw [hcl, cb_shl (by omega), cb_shl (by omega), cb_or]) ⟨hin, nm_r (e' := upd ws c (nI q)) (by rw [hcl]) (nm_r (nI_1 c) ?_)⟩⟩
  refine ir_vxY_t ha ?_
  refine br_f (by decide) ?_
  refine ir_vxY_t hb ?_
  refine br_f (by decide) ?_
  refine br_f hab (br_f q3 (br_t q5 (br_f (fun z => hf (by rwa [show (12 : Int32) = nI 12 from rfl, nI_eq (by omega) (by omega)] at z)) ?_)))
  refine ⟨hin, nm_r (e' := upd us c (nI a)) (by rw [hcl]) ⟨hin, nm_r (e' := upd vs c (nI b)) (by rw [hcl]) ⟨hin, nm_r (e' := upd ws' c (nI q)) (by rw [hcl]) (nm_r (nI_1 c) ?_)⟩⟩⟩
  have HX' : xc_ok (c + 1) (cb_en (cb_set U c a) (cb_set V c b)) (cb_set wt c q) (upd ends c (nI (2 ^ a ||| 2 ^ b))) (upd ws c (nI q)) := by
    refine ⟨by omega, fun e he => ?_⟩
    by_cases z : e = c
    · subst z
      have h1 : cb_en (cb_set U e a) (cb_set V e b) e < 128 := cb_en_lt (by rw [cb_set_s]; exact ha) (by rw [cb_set_s]; exact hb)
      refine ⟨h1, ?_⟩
      rw [cb_set_s, pk_us, pk_us, ir_set_en2]
      exact ⟨q1, q2, rfl, rfl⟩
    · rw [ir_set_en z, cb_set_n z, pk_un z, pk_un z]
      exact HX.2 e (by omega)
  have HY' : yc_ok (c + 1) (cb_set U c a) (cb_set V c b) (cb_set wt c q) (upd us c (nI a)) (upd vs c (nI b)) (upd ws' c (nI q)) := by
    refine ⟨by omega, fun e he => ?_⟩
    by_cases z : e = c
    · subst z
      rw [cb_set_s, cb_set_s, cb_set_s, pk_us, pk_us, pk_us]
      exact ⟨ha, hb, hne, q1, q2, rfl, rfl, rfl⟩
    · rw [cb_set_n z, cb_set_n z, cb_set_n z, pk_un z, pk_un z, pk_un z]
      exact HY.2 e (by omega)
  exact yc_refresh HY' (fun cw' hT' => ⟨nI_pred c, ir_mk HX' HY' hT'⟩)
theorem i_vc_reweigh {k : Nat} {u : SX} {v : SY} (I : i_Rel k u v) (hk : k + 4 ≤ 2048) (v1 : Int32) (v2 : Int32) : wpX_reweigh (fun r u' => wpY_reweigh (fun r' v' => r' = r ∧ i_Rel (k + 4) u' v') v v1 v2) u v1 v2 := by
  obtain ⟨c, U, V, wt, cc, ends, ws, cs, rows, us, vs, ws', sums, cw, rfl, rfl, HX, HY, hT⟩ := I
  have hc := HX.1
  have J : i_Rel (k + 4) (nI c, cc, ends, ws, cs, rows) (nI c, us, vs, ws', sums, cw) := ir_mk HX HY hT
  unfold wpX_reweigh wpY_reweigh
  have bad : (v1 < 0 ∨ nI c ≤ v1) ∨ ∃ a, a < c ∧ v1 = nI a := by
    rcases pk_ix v1 (n := c) (by omega) with g | g | g
    · exact Or.inl (Or.inl g)
    · exact Or.inl (Or.inr g)
    · exact Or.inr g
  rcases bad with g | ⟨e, he, rfl⟩
  · refine xm_isEdge_f g ?_
    refine br_t rfl ?_
    refine ym_isEdge_f g ?_
    exact br_t rfl ⟨rfl, J⟩
  refine xm_isEdge_t hc he ?_
  refine br_f (by decide) ?_
  rcases ir_wt v2 with g | ⟨g1, g2, g3⟩ | ⟨q, q1, q2, rfl, q3, q4, q5⟩
  · refine ir_wtX_f (Or.inl g) ?_
    refine br_t rfl ?_
    refine ym_isEdge_t hc he ?_
    exact br_f (by decide) (br_t g ⟨rfl, J⟩)
  · refine ir_wtX_f (Or.inr g2) ?_
    refine br_t rfl ?_
    refine ym_isEdge_t hc he ?_
    exact br_f (by decide) (br_f g1 (br_f g3 ⟨rfl, J⟩))
  refine ir_wtX_t q3 q4 ?_
  refine br_f (by decide) ?_
  have hin : vp_in (nI e) 12 := vp_in_nI (by omega) (by omega)
  have hcl : (nI e).toNatClampNeg = e := nI_clamp (by omega)
  refine ⟨hin, nm_r (e' := nI (wt e)) (by rw [hcl]; exact (HX.2 e he).2.2.2.2) ⟨hin, nm_r (e' := upd ws e (nI q)) (by rw [hcl]) ?_⟩⟩
  refine ym_isEdge_t hc he ?_
  refine br_f (by decide) (br_f q3 (br_t q5 ?_))
  refine ⟨hin, nm_r (e' := nI (wt e)) (by rw [hcl]; exact (HY.2 e he).2.2.2.2.2.2.2) ⟨hin, nm_r (e' := upd ws' e (nI q)) (by rw [hcl]) ?_⟩⟩
  have HX' : xc_ok c (cb_en U V) (cb_set wt e q) ends (upd ws e (nI q)) := by
    refine ⟨hc, fun j hj => ?_⟩
    by_cases z : j = e
    · subst z
      rw [cb_set_s, pk_us]
      exact ⟨(HX.2 j hj).1, q1, q2, (HX.2 j hj).2.2.2.1, rfl⟩
    · rw [cb_set_n z, pk_un z]
      exact HX.2 j hj
  have HY' : yc_ok c U V (cb_set wt e q) us vs (upd ws' e (nI q)) := by
    refine ⟨hc, fun j hj => ?_⟩
    obtain ⟨a1, a2, a3, a4, a5, a6, a7, a8⟩ := HY.2 j hj
    by_cases z : j = e
    · subst z
      rw [cb_set_s, pk_us]
      exact ⟨a1, a2, a3, q1, q2, a6, a7, rfl⟩
    · rw [cb_set_n z, pk_un z]
      exact ⟨a1, a2, a3, a4, a5, a6, a7, a8⟩
  exact yc_refresh HY' (fun cw' hT' => ⟨rfl, ir_mk HX' HY' hT'⟩)
theorem i_vc_dropLast {k : Nat} {u : SX} {v : SY} (I : i_Rel k u v) (hk : k + 4 ≤ 2048) : wpX_dropLast (fun r u' => wpY_dropLast (fun r' v' => r' = r ∧ i_Rel (k + 4) u' v') v) u := by
  obtain ⟨c, U, V, wt, cc, ends, ws, cs, rows, us, vs, ws', sums, cw, rfl, rfl, HX, HY, hT⟩ := I
  have hc := HX.1
  by_cases z : c = 0
  · subst z
    exact br_t rfl (br_t rfl ⟨rfl, ir_mk HX HY hT⟩)
  · obtain ⟨d, rfl⟩ : ∃ d, c = d + 1 := ⟨c - 1, by omega⟩
    have n0 : ¬ nI (d + 1) = 0 := nI_ne0 (by omega) (by omega)
    have HX' : xc_ok d (cb_en U V) wt ends ws := ⟨by omega, fun e he => HX.2 e (by omega)⟩
    have HY' : yc_ok d U V wt us vs ws' := ⟨by omega, fun e he => HY.2 e (by omega)⟩
    exact br_f n0 (nm_r (nI_pred d) (br_f n0 (nm_r (nI_pred d) (yc_refresh HY' (fun cw' hT' => ⟨rfl, ir_mk HX' HY' hT'⟩)))))
theorem i_vc_rank {k : Nat} {u : SX} {v : SY} (I : i_Rel k u v) (hk : k + 4 ≤ 2048) : wpX_rank (fun r u' => wpY_rank (fun r' => r' = r ∧ i_Rel (k + 4) u' v) v) u := by
  obtain ⟨c, U, V, wt, cc, ends, ws, cs, rows, us, vs, ws', sums, cw, rfl, rfl, HX, HY, hT⟩ := I
  exact xm_rank HX (fun cc' cs' rows' => ym_rank (xc_K HX) hT ⟨rfl, ir_mk HX HY hT⟩)
theorem i_vc_total {k : Nat} {u : SX} {v : SY} (I : i_Rel k u v) (hk : k + 4 ≤ 2048) : wpX_total (fun r u' => wpY_total (fun r' v' => r' = r ∧ i_Rel (k + 4) u' v') v) u := by
  obtain ⟨c, U, V, wt, cc, ends, ws, cs, rows, us, vs, ws', sums, cw, rfl, rfl, HX, HY, hT⟩ := I
  exact xm_total HX (fun cc' cs' rows' => ym_total (xc_K HX) hT (fun sums' => ⟨rfl, ir_mk HX HY hT⟩))
theorem i_vc_part {k : Nat} {u : SX} {v : SY} (I : i_Rel k u v) (hk : k + 4 ≤ 2048) (v1 : Int32) : wpX_part (fun r u' => wpY_part (fun r' v' => r' = r ∧ i_Rel (k + 4) u' v') v v1) u v1 := by
  obtain ⟨c, U, V, wt, cc, ends, ws, cs, rows, us, vs, ws', sums, cw, rfl, rfl, HX, HY, hT⟩ := I
  rcases pk_ix v1 (n := 12) (by decide) with g | g | ⟨i, hi, rfl⟩
  · exact xm_part_o (Or.inl g) (ym_part_o (xc_K HX) hT (Or.inl g) (fun sums' => ⟨rfl, ir_mk HX HY hT⟩))
  · exact xm_part_o (Or.inr g) (ym_part_o (xc_K HX) hT (Or.inr g) (fun sums' => ⟨rfl, ir_mk HX HY hT⟩))
  · exact xm_part HX hi (fun cc' cs' rows' => ym_part (xc_K HX) hT hi (fun sums' => ⟨rfl, ir_mk HX HY hT⟩))
theorem i_vc_through {k : Nat} {u : SX} {v : SY} (I : i_Rel k u v) (hk : k + 4 ≤ 2048) (v1 : Int32) : wpX_through (fun r u' => wpY_through (fun r' => r' = r ∧ i_Rel (k + 4) u' v) v v1) u v1 := by
  obtain ⟨c, U, V, wt, cc, ends, ws, cs, rows, us, vs, ws', sums, cw, rfl, rfl, HX, HY, hT⟩ := I
  have hc := HX.1
  rcases pk_ix v1 (n := c) (by omega) with g | g | ⟨e, he, rfl⟩
  · exact xm_through_f (Or.inl g) (ym_through_f (Or.inl g) ⟨rfl, ir_mk HX HY hT⟩)
  · exact xm_through_f (Or.inr g) (ym_through_f (Or.inr g) ⟨rfl, ir_mk HX HY hT⟩)
  · exact xm_through_t HX he (fun cc' cs' rows' => ym_through_t (xc_K HX) hT hc he ⟨rfl, ir_mk HX HY hT⟩)
theorem i_vc_closed {k : Nat} {u : SX} {v : SY} (I : i_Rel k u v) (hk : k + 4 ≤ 2048) (v1 : Int32) : wpX_closed (fun r => wpY_closed (fun r' => r' = r ∧ i_Rel (k + 4) u v) v v1) u v1 := by
  obtain ⟨c, U, V, wt, cc, ends, ws, cs, rows, us, vs, ws', sums, cw, rfl, rfl, HX, HY, hT⟩ := I
  by_cases h : ∃ s, v1 = nI s ∧ cb_C (cb_en U V) c s = true
  · obtain ⟨s, rfl, hs⟩ := h
    exact xm_closed_t HX hs (ym_closed_t (xc_K HX) hT hs ⟨rfl, ir_mk HX HY hT⟩)
  · exact xm_closed_f HX h (ym_closed_f (xc_K HX) hT h ⟨rfl, ir_mk HX HY hT⟩)
theorem i_vc_level {k : Nat} {u : SX} {v : SY} (I : i_Rel k u v) (hk : k + 4 ≤ 2048) (v1 : Int32) : wpX_level (fun r u' => wpY_level (fun r' v' => r' = r ∧ i_Rel (k + 4) u' v') v v1) u v1 := by
  obtain ⟨c, U, V, wt, cc, ends, ws, cs, rows, us, vs, ws', sums, cw, rfl, rfl, HX, HY, hT⟩ := I
  by_cases h : ∃ s, v1 = nI s ∧ cb_C (cb_en U V) c s = true
  · obtain ⟨s, rfl, hs⟩ := h
    exact xm_level_t HX hs (fun cc' cs' rows' => ym_level_t (xc_K HX) hT hs (fun sums' => ⟨rfl, ir_mk HX HY hT⟩))
  · exact xm_level_f HX h (ym_level_f (xc_K HX) hT h ⟨rfl, ir_mk HX HY hT⟩)
theorem i_vc_bridges {k : Nat} {u : SX} {v : SY} (I : i_Rel k u v) (hk : k + 4 ≤ 2048) : wpX_bridges (fun r u' => wpY_bridges (fun r' => r' = r ∧ i_Rel (k + 4) u' v) v) u := by
  obtain ⟨c, U, V, wt, cc, ends, ws, cs, rows, us, vs, ws', sums, cw, rfl, rfl, HX, HY, hT⟩ := I
  exact xm_bridges HX (fun cc' cs' rows' => ym_bridges (xc_K HX) hT HX.1 ⟨rfl, ir_mk HX HY hT⟩)
