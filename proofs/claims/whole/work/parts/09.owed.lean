/-! the relation: one graph in both states -/
def st_X (E : Nat → Nat → Prop) (n : Nat) (u : SX) : Prop := ∃ eF rF co, u = (nI n, nI (cn_c (gr_own E) n), eF, rF, co) ∧ xs_B n eF E ∧ xs_B n rF (gr_R E) ∧ xs_B n co (gr_T E)
def st_Y (E : Nat → Nat → Prop) (n : Nat) (v : SY) : Prop := ∃ ed re hi, v = (nI n, ed, re, hi) ∧ mx_M 16 ed E
def i_Rel (_ : Nat) (u : SX) (v : SY) : Prop := ∃ n E, n ≤ 16 ∧ gr_In E n ∧ st_X E n u ∧ st_Y E n v
theorem i_up {k : Nat} {u : SX} {v : SY} (h : i_Rel k u v) : i_Rel (k + 3) u v := h
theorem rl_i {k n : Nat} {E : Nat → Nat → Prop} (hn : n ≤ 16) (hE : gr_In E n) {eF rF co ed re hi : Nat → Int32} (he : xs_B n eF E) (hr : xs_B n rF (gr_R E)) (hc : xs_B n co (gr_T E)) (hed : mx_M 16 ed E) : i_Rel k (nI n, nI (cn_c (gr_own E) n), eF, rF, co) (nI n, ed, re, hi) :=
  ⟨n, E, hn, hE, ⟨eF, rF, co, rfl, he, hr, hc⟩, ⟨ed, re, hi, rfl, hed⟩⟩
theorem rl_0 {n : Nat} (hn : n ≤ 16) {post : SX → Prop} (hp : ∀ u, i_Rel 1 u (nI n, (fun _ => 0), (fun _ => 0), (fun _ => 0)) → post u) : wpX_rebuild post (nI n, 0, (fun _ => 0), (fun _ => 0), (fun _ => 0)) := by
  have hE : gr_In (fun _ _ => False) n := fun _ _ z => z.elim
  have he : xs_B n (fun _ => 0) (fun _ _ => False) := fun _ _ => bb_0
  exact xf_all hE hn he (fun a c ha hc => hp _ (rl_i hn hE he ha hc (fun _ _ _ _ => .inr ⟨rfl, fun z => z⟩)))
theorem i_vc0 (k0 : Int32) : wpX_init (fun u => wpY_init (fun v => i_Rel 1 u v) k0) k0 := by
  unfold wpX_init wpX_clampVertices
  refine br_c (fun h => br_c (fun g => ?_) (fun g => ?_)) (fun h => ?_)
  · obtain ⟨j, hj, rfl⟩ := nI_of2 (x := k0) (M := 16) (n := 16) (by decide) (Int32.not_lt.mpr (Int32.le_trans (by decide) h)) g
    exact rl_0 hj (fun u hu => br_t h (br_t g hu))
  · exact rl_0 (n := 16) (Nat.le_refl 16) (fun u hu => br_t h (br_f g hu))
  · exact rl_0 (n := 2) (by decide) (fun u hu => br_f h hu)
theorem i_vc_addEdge {k : Nat} {u : SX} {v : SY} (I : i_Rel k u v) (hk : k + 3 ≤ 1537) (v1 : Int32) (v2 : Int32) : wpX_addEdge (fun r u' => wpY_addEdge (fun r' v' => r' = r ∧ i_Rel (k + 3) u' v') v v1 v2) u v1 v2 := by
  obtain ⟨n, E, hn, hE, ⟨eF, rF, co, rfl, he, hr, hc⟩, ⟨ed, re, hi, rfl, hed⟩⟩ := I
  unfold wpX_addEdge
  dsimp only
  rcases vx_pair hn v1 v2 with c | ⟨a, b, ha, hb, rfl, rfl, e⟩
  · exact xp_0 hn c (br_t rfl (ya_0 hn c ⟨rfl, rl_i hn hE he hr hc hed⟩))
  · have va : vp_in (nI a) 16 := vp_in_nI (by omega) (by omega)
    have ca : (nI a).toNatClampNeg = a := nI_clamp (by omega)
    have hE' := gr_addIn hE ha hb
    have he' := xs_add he ha (b := b) (by omega)
    refine xp_1 hn ha hb e (br_f xh_10 ⟨va, ?_⟩)
    rw [ca]
    refine xh_b (he a ha) (by omega) (fun t => ya_2 hn ha hb e hed t ⟨rfl, rl_i hn hE he hr hc hed⟩) (fun t => ⟨va, va, nm_e (xf_all hE' hn he' (fun x y hx hy => ?_))⟩)
    dsimp only
    exact ya_1 hE hn ha hb e hed t (fun ed' re' h' => ⟨rfl, rl_i hn hE' he' hx hy h'⟩)
theorem i_vc_removeEdge {k : Nat} {u : SX} {v : SY} (I : i_Rel k u v) (hk : k + 3 ≤ 1537) (v1 : Int32) (v2 : Int32) : wpX_removeEdge (fun r u' => wpY_removeEdge (fun r' v' => r' = r ∧ i_Rel (k + 3) u' v') v v1 v2) u v1 v2 := by
  obtain ⟨n, E, hn, hE, ⟨eF, rF, co, rfl, he, hr, hc⟩, ⟨ed, re, hi, rfl, hed⟩⟩ := I
  unfold wpX_removeEdge
  dsimp only
  rcases vx_pair hn v1 v2 with c | ⟨a, b, ha, hb, rfl, rfl, e⟩
  · exact xp_0 hn c (br_t rfl (ye_0 hn c ⟨rfl, rl_i hn hE he hr hc hed⟩))
  · have va : vp_in (nI a) 16 := vp_in_nI (by omega) (by omega)
    have ca : (nI a).toNatClampNeg = a := nI_clamp (by omega)
    have hE' : gr_In (gr_del E a b) n := gr_delIn hE
    have he' := xs_del he ha (b := b) (by omega)
    refine xp_1 hn ha hb e (br_f xh_10 ⟨va, ?_⟩)
    rw [ca]
    refine xh_b (he a ha) (by omega) (fun t => ⟨va, va, nm_e (xf_all hE' hn he' (fun x y hx hy => ?_))⟩) (fun t => ye_2 hn ha hb e hed t ⟨rfl, rl_i hn hE he hr hc hed⟩)
    dsimp only
    exact ye_1 hE hn ha hb e hed t (fun ed' re' h' => ⟨rfl, rl_i hn hE' he' hx hy h'⟩)
theorem i_vc_components {k : Nat} {u : SX} {v : SY} (I : i_Rel k u v) (hk : k + 3 ≤ 1537) : wpX_components (fun r => wpY_components (fun r' v' => r' = r ∧ i_Rel (k + 3) u v') v) u := by
  obtain ⟨n, E, hn, hE, ⟨eF, rF, co, rfl, he, hr, hc⟩, ⟨ed, re, hi, rfl, hed⟩⟩ := I
  exact yc_h hE hn hed (fun a _ => ⟨rfl, rl_i hn hE he hr hc hed⟩)
theorem i_vc_leader {k : Nat} {u : SX} {v : SY} (I : i_Rel k u v) (hk : k + 3 ≤ 1537) (v1 : Int32) : wpX_leader (fun r => wpY_leader (fun r' v' => r' = r ∧ i_Rel (k + 3) u v') v v1) u v1 := by
  obtain ⟨n, E, hn, hE, ⟨eF, rF, co, rfl, he, hr, hc⟩, ⟨ed, re, hi, rfl, hed⟩⟩ := I
  unfold wpX_leader
  dsimp only
  rcases vx_case hn v1 with ⟨a, ha, rfl⟩ | c
  · exact xv_bt hn ha (xf_small hn ha hc (fun r h => yq_leader hE hn ha hed (fun r' x h' => ⟨gr_lead_u h' h, rl_i hn hE he hr hc hed⟩)))
  · refine xv_bf c ?_
    unfold wpY_leader
    dsimp only
    exact yv_bf c ⟨rfl, rl_i hn hE he hr hc hed⟩
theorem i_vc_componentSize {k : Nat} {u : SX} {v : SY} (I : i_Rel k u v) (hk : k + 3 ≤ 1537) (v1 : Int32) : wpX_componentSize (fun r => wpY_componentSize (fun r' v' => r' = r ∧ i_Rel (k + 3) u v') v v1) u v1 := by
  obtain ⟨n, E, hn, hE, ⟨eF, rF, co, rfl, he, hr, hc⟩, ⟨ed, re, hi, rfl, hed⟩⟩ := I
  unfold wpX_componentSize
  dsimp only
  rcases vx_case hn v1 with ⟨a, ha, rfl⟩ | c
  · have ca : (nI a).toNatClampNeg = a := nI_clamp (by omega)
    rw [ca]
    exact xv_bt hn ha ⟨vp_in_nI (by omega) (by omega), xz_h hn (hc a ha) (yq_size hE hn ha hed (fun x => ⟨rfl, rl_i hn hE he hr hc hed⟩))⟩
  · refine xv_bf c ?_
    unfold wpY_componentSize
    dsimp only
    exact yv_bf c ⟨rfl, rl_i hn hE he hr hc hed⟩
theorem i_vc_reaches {k : Nat} {u : SX} {v : SY} (I : i_Rel k u v) (hk : k + 3 ≤ 1537) (v1 : Int32) (v2 : Int32) : wpX_reaches (fun r => wpY_reaches (fun r' v' => r' = r ∧ i_Rel (k + 3) u v') v v1 v2) u v1 v2 := by
  obtain ⟨n, E, hn, hE, ⟨eF, rF, co, rfl, he, hr, hc⟩, ⟨ed, re, hi, rfl, hed⟩⟩ := I
  unfold wpX_reaches
  dsimp only
  rcases vx_case hn v1 with ⟨a, ha, rfl⟩ | c
  · refine xv_bt hn ha ?_
    rcases vx_case hn v2 with ⟨b, hb, rfl⟩ | c
    · have ca : (nI a).toNatClampNeg = a := nI_clamp (by omega)
      rw [ca]
      refine xv_bt hn hb ⟨vp_in_nI (by omega) (by omega), xh_b (hr a ha) (by omega) (fun t => ?_) (fun t => ?_)⟩
      · exact yq_reach hE hn ha hb hed (fun x _ => ⟨rfl, rl_i hn hE he hr hc hed⟩) (fun x z => absurd t z)
      · exact yq_reach hE hn ha hb hed (fun x z => absurd z t) (fun x _ => ⟨rfl, rl_i hn hE he hr hc hed⟩)
    · refine xv_bf c ?_
      unfold wpY_reaches
      dsimp only
      exact yv_bt hn ha (yv_bf c ⟨rfl, rl_i hn hE he hr hc hed⟩)
  · refine xv_bf c ?_
    unfold wpY_reaches
    dsimp only
    exact yv_bf c ⟨rfl, rl_i hn hE he hr hc hed⟩
theorem i_vc_height {k : Nat} {u : SX} {v : SY} (I : i_Rel k u v) (hk : k + 3 ≤ 1537) (v1 : Int32) : wpX_height (fun r => wpY_height (fun r' v' => r' = r ∧ i_Rel (k + 3) u v') v v1) u v1 := by
  obtain ⟨n, E, hn, hE, ⟨eF, rF, co, rfl, he, hr, hc⟩, ⟨ed, re, hi, rfl, hed⟩⟩ := I
  unfold wpX_height wpX_allVertices
  dsimp only
  rcases vx_case hn v1 with ⟨a, ha, rfl⟩ | c
  · refine xv_bt hn ha ⟨n + 1, ?_⟩
    exact xg_20 hE hn ha _ hr hc (fun r h => yq_height hE hn ha hed (fun r' x y h' => ⟨gr_hgt_u h' h, rl_i hn hE he hr hc hed⟩)) (n + 1) 0 0 _ (by omega) (by omega) (bb_all hn) ha (fun j z _ => z)
  · refine xv_bf c ?_
    unfold wpY_height
    dsimp only
    exact yv_bf c ⟨rfl, rl_i hn hE he hr hc hed⟩
theorem i_vc_cycle {k : Nat} {u : SX} {v : SY} (I : i_Rel k u v) (hk : k + 3 ≤ 1537) (v1 : Int32) : wpX_cycle (fun r => wpY_cycle (fun r' => r' = r ∧ i_Rel (k + 3) u v) v v1) u v1 := by
  obtain ⟨n, E, hn, hE, ⟨eF, rF, co, rfl, he, hr, hc⟩, ⟨ed, re, hi, rfl, hed⟩⟩ := I
  unfold wpX_cycle
  dsimp only
  rcases vx_case hn v1 with ⟨a, ha, rfl⟩ | c
  · have ca : (nI a).toNatClampNeg = a := nI_clamp (by omega)
    rw [ca]
    refine xv_bt hn ha ⟨vp_in_nI (by omega) (by omega), nm_e ⟨n + 1, ?_⟩⟩
    exact xy_19 hE hn ha _ he (fun r h => yq_cycle hE hn ha hed (fun r' h' => ⟨gr_cyc_u h' h, rl_i hn hE he hr hc hed⟩)) (n + 1) 1 _ (by omega) (by omega) (by omega) (bb_c (he a ha) (fun v _ => ⟨fun q => ⟨a, rfl, q⟩, fun ⟨w, z, q⟩ => by have z' : w = a := z; subst z'; exact q⟩)) (fun j x y => absurd x (by omega))
  · refine xv_bf c ?_
    unfold wpY_cycle
    dsimp only
    exact yv_bf c ⟨rfl, rl_i hn hE he hr hc hed⟩
theorem i_vc_outerEdges {k : Nat} {u : SX} {v : SY} (I : i_Rel k u v) (hk : k + 3 ≤ 1537) : wpX_outerEdges (fun r => wpY_outerEdges (fun r' v' => r' = r ∧ i_Rel (k + 3) u v') v) u := by
  obtain ⟨n, E, hn, hE, ⟨eF, rF, co, rfl, he, hr, hc⟩, ⟨ed, re, hi, rfl, hed⟩⟩ := I
  exact ⟨n + 1, xw_4 hn _ he hc (yq_outer hE hn hed (fun x => ⟨rfl, rl_i hn hE he hr hc hed⟩)) (n + 1) 0 (by omega) (by omega)⟩
theorem i_vc_inOneLine {k : Nat} {u : SX} {v : SY} (I : i_Rel k u v) (hk : k + 3 ≤ 1537) : wpX_inOneLine (fun r => wpY_inOneLine (fun r' v' => r' = r ∧ i_Rel (k + 3) u v') v) u := by
  obtain ⟨n, E, hn, hE, ⟨eF, rF, co, rfl, he, hr, hc⟩, ⟨ed, re, hi, rfl, hed⟩⟩ := I
  refine ⟨n + 1, xl_2 hn _ hr (fun l => ?_) (fun l => ?_) (n + 1) 0 (by omega) (by omega) (fun x y c => absurd c (by omega))⟩
  · exact yq_line hE hn hed (fun x z => absurd z l) (fun x _ => ⟨rfl, rl_i hn hE he hr hc hed⟩)
  · exact yq_line hE hn hed (fun x _ => ⟨rfl, rl_i hn hE he hr hc hed⟩) (fun x z => absurd l z)
