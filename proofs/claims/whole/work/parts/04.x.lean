/-! the class: a lemma a private method -/
theorem xh_10 : ¬ (1 : Int32) = 0 := by decide
theorem xh_h {set : Int32} {P : Nat → Prop} (h : bb_S set P) {l : Nat} (hl : l < 32) {post : Int32 → Prop} (t : P l → post 1) (f : ¬ P l → post 0) : wpX_holds post set (nI l) :=
  ek_if (bb_h0 h hl) f (fun z => t (Classical.byContradiction z))
theorem xh_b {set : Int32} {P : Nat → Prop} (h : bb_S set P) {l : Nat} (hl : l < 32) {A B : Prop} (t : P l → B) (f : ¬ P l → A) : wpX_holds (fun r => (r = 0 → A) ∧ (¬ r = 0 → B)) set (nI l) :=
  xh_h h hl (fun z => br_f xh_10 (t z)) (fun z => br_t rfl (f z))
/-- the first n cells of a hold the rows of r as sets of bits -/
def xs_B (n : Nat) (a : Nat → Int32) (r : Nat → Nat → Prop) : Prop := ∀ u, u < n → bb_S (a u) (r u)
theorem xs_up {i : Nat} {a : Nat → Int32} {r : Nat → Nat → Prop} {x : Int32} (h : xs_B i a r) (hx : bb_S x (r i)) : xs_B (i + 1) (upd a i x) r := by
  intro u hu
  by_cases e : u = i
  · subst e
    rw [pk_us]; exact hx
  · rw [pk_un e]; exact h u (by omega)
theorem xs_set {n i : Nat} {a : Nat → Int32} {r s : Nat → Nat → Prop} {x : Int32} (h : xs_B n a r) (hx : bb_S x (s i)) (e : ∀ u v, u < n → v < 32 → u ≠ i → (r u v ↔ s u v)) : xs_B n (upd a i x) s := by
  intro u hu
  by_cases z : u = i
  · subst z
    rw [pk_us]; exact hx
  · rw [pk_un z]; exact bb_c (h u hu) (fun v hv => e u v hu hv z)
section
variable {E : Nat → Nat → Prop} {n : Nat}
/-- row i of the pass of way point w is next -/
def xr_M (r : Nat → Nat → Prop) (w i u v : Nat) : Prop := r u v ∨ (u < i ∧ r u w ∧ r w v)
theorem xr_44 {r : Nat → Nat → Prop} {w : Nat} (hw : w < n) (hn : n ≤ 16) (post : SX → Prop) (J : Int32 → (Nat → Int32) → (Nat → Int32) → (Nat → Int32) → Prop) {cc : Int32} {eF co : Nat → Int32}
    (hJ : ∀ a, xs_B n a (gr_V r w) → J (nI (w + 1)) eF a co) :
    ∀ f i a, i ≤ n → n - i < f → xs_B n a (xr_M r w i) → wX_findReached_44 post J (nI w) (nI n) cc f (nI i) eF a co := by
  intro f
  induction f with
  | zero => intro i a _ h; omega
  | succ f ih =>
    intro i a hi hf hI
    refine pk_le n i (fun z => ?_) (fun z => ?_)
    · refine nm_r (nI_1 w) (hJ a ?_)
      have e : i = n := by omega
      subst e
      exact fun u hu => bb_c (hI u hu) (fun v _ => ⟨fun q => q.elim .inl (fun q => .inr q.2), fun q => q.elim .inl (fun q => .inr ⟨hu, q⟩)⟩)
    · have ci : (nI i).toNatClampNeg = i := nI_clamp (by omega)
      have cw : (nI w).toNatClampNeg = w := nI_clamp (by omega)
      have vi : vp_in (nI i) 16 := vp_in_nI (by omega) (by omega)
      have vw : vp_in (nI w) 16 := vp_in_nI (by omega) (by omega)
      rw [ci, cw]
      refine ⟨vi, xh_b (hI i z) (by omega) (fun t => ?_) (fun t => ?_)⟩
      · have t' : r i w := t.elim id (fun q => absurd q.1 (Nat.lt_irrefl i))
        refine ⟨vi, vw, vi, nm_e (nm_r (nI_1 i) (ih (i + 1) _ (by omega) (by omega) ?_))⟩
        refine xs_set hI (bb_c (bb_or (hI i z) (hI w hw)) (fun v _ => ?_)) (fun u v _ _ e => ?_)
        · constructor
          · intro q
            rcases q with (q | q) | (q | q)
            · exact .inl q
            · exact absurd q.1 (Nat.lt_irrefl i)
            · exact .inr ⟨Nat.lt_succ_self i, t', q⟩
            · exact .inr ⟨Nat.lt_succ_self i, t', q.2.2⟩
          · intro q
            rcases q with q | q
            · exact .inl (.inl q)
            · exact .inr (.inl q.2.2)
        · exact ⟨fun q => q.elim .inl (fun q => .inr ⟨Nat.lt_succ_of_lt q.1, q.2⟩), fun q => q.elim .inl (fun q => .inr ⟨Nat.lt_of_le_of_ne (Nat.le_of_lt_succ q.1) e, q.2⟩)⟩
      · refine nm_r (nI_1 i) (ih (i + 1) a (by omega) (by omega) (fun u hu => bb_c (hI u hu) (fun v _ => ?_)))
        constructor
        · exact fun q => q.elim .inl (fun q => .inr ⟨Nat.lt_succ_of_lt q.1, q.2⟩)
        · intro q
          rcases q with q | q
          · exact .inl q
          · by_cases e : u = i
            · subst e
              exact absurd (.inl q.2.1) t
            · exact .inr ⟨Nat.lt_of_le_of_ne (Nat.le_of_lt_succ q.1) e, q.2⟩
theorem xr_34 (hE : gr_In E n) (hn : n ≤ 16) (post : SX → Prop) {cc : Int32} {eF co : Nat → Int32} (hp : ∀ a, xs_B n a (gr_R E) → post (nI n, cc, eF, a, co)) :
    ∀ f w a r, w ≤ n → n - w < f → xs_B n a r → gr_P E n w r → wX_findReached_34 post (nI n) cc f (nI w) eF a co := by
  intro f
  induction f with
  | zero => intro w a r _ h; omega
  | succ f ih =>
    intro w a r hw hf hI hP
    refine pk_le n w (fun z => ?_) (fun z => ?_)
    · have e : w = n := by omega
      subst e
      exact hp a (fun u hu => bb_c (hI u hu) (fun v _ => gr_Pn hE hP hu v))
    · have h := xr_44 (cc := cc) (eF := eF) (co := co) z hn post (wX_findReached_34 post (nI n) cc f) (fun a' h' => ih (w + 1) a' _ (by omega) (by omega) h' (gr_Ps z hP)) (n + 1) 0 a (by omega) (by omega)
        (fun u hu => bb_c (hI u hu) (fun v _ => ⟨.inl, fun q => q.elim id (fun q => absurd q.1 (Nat.not_lt_zero u))⟩))
      exact ⟨n + 1, h⟩
theorem xr_2 (hE : gr_In E n) (hn : n ≤ 16) (post : SX → Prop) {cc : Int32} {eF co : Nat → Int32} (he : xs_B n eF E) (hp : ∀ a, xs_B n a (gr_R E) → post (nI n, cc, eF, a, co)) :
    ∀ f i a, i ≤ n → n - i < f → xs_B i a (fun u v => E u v ∨ v = u) → wX_findReached_2 post (nI n) cc f (nI i) eF a co := by
  intro f
  induction f with
  | zero => intro i a _ h; omega
  | succ f ih =>
    intro i a hi hf hI
    refine pk_le n i (fun z => ?_) (fun z => ?_)
    · have e : i = n := by omega
      subst e
      exact ⟨i + 1, xr_34 hE hn post hp (i + 1) 0 a _ (by omega) (by omega) hI gr_P0⟩
    · have ci : (nI i).toNatClampNeg = i := nI_clamp (by omega)
      have vi : vp_in (nI i) 16 := vp_in_nI (by omega) (by omega)
      rw [ci]
      exact ⟨vi, vi, nm_e (nm_r (nI_1 i) (ih (i + 1) _ (by omega) (by omega) (xs_up hI (bb_or (he i z) (bb_one (by omega))))))⟩
theorem xf_reach (hE : gr_In E n) (hn : n ≤ 16) {post : SX → Prop} {cc : Int32} {eF rF co : Nat → Int32} (he : xs_B n eF E) (hp : ∀ a, xs_B n a (gr_R E) → post (nI n, cc, eF, a, co)) : wpX_findReached post (nI n, cc, eF, rF, co) :=
  ⟨n + 1, xr_2 hE hn post he hp (n + 1) 0 rF (by omega) (by omega) (fun u hu => absurd hu (Nat.not_lt_zero u))⟩
theorem xc_14 (hE : gr_In E n) (hn : n ≤ 16) {u : Nat} (hu : u < n) (post : SX → Prop) (J : Int32 → (Nat → Int32) → (Nat → Int32) → (Nat → Int32) → Prop) {cc : Int32} {eF rF co : Nat → Int32} (hr : xs_B n rF (gr_R E))
    (hJ : ∀ x, bb_S x (gr_T E u) → J (nI (u + 1)) eF rF (upd co u x)) :
    ∀ f i x, i ≤ n → n - i < f → bb_S x (fun v => v < i ∧ gr_T E u v) → wX_findComponents_14 post J (nI u) (nI n) cc eF rF co f x (nI i) := by
  have cu : (nI u).toNatClampNeg = u := nI_clamp (by omega)
  have vu : vp_in (nI u) 16 := vp_in_nI (by omega) (by omega)
  intro f
  induction f with
  | zero => intro i x _ h; omega
  | succ f ih =>
    intro i x hi hf hI
    refine pk_le n i (fun z => ?_) (fun z => ?_)
    · rw [cu]
      refine ⟨vu, nm_e (nm_r (nI_1 u) (hJ x (bb_c hI (fun v _ => ⟨fun q => q.2, fun q => ⟨?_, q⟩⟩))))⟩
      have := gr_Rin hE hu q.1
      omega
    · have ci : (nI i).toNatClampNeg = i := nI_clamp (by omega)
      have vi : vp_in (nI i) 16 := vp_in_nI (by omega) (by omega)
      have sk : ¬ gr_T E u i → bb_S x (fun v => v < i + 1 ∧ gr_T E u v) := fun t => bb_c hI (fun v _ => ⟨fun q => ⟨Nat.lt_succ_of_lt q.1, q.2⟩, fun q => ⟨Nat.lt_of_le_of_ne (Nat.le_of_lt_succ q.1) (fun e => t (e ▸ q.2)), q.2⟩⟩)
      rw [ci, cu]
      refine ⟨vu, xh_b (hr u hu) (by omega) (fun t => ⟨vi, xh_b (hr i z) (by omega) (fun s => ?_) (fun s => ?_)⟩) (fun t => ?_)⟩
      · refine nm_e (nm_r (nI_1 i) (ih (i + 1) _ (by omega) (by omega) (bb_c (bb_or hI (bb_one (l := i) (by omega))) (fun v _ => ?_))))
        constructor
        · intro q
          rcases q with q | q
          · exact ⟨Nat.lt_succ_of_lt q.1, q.2⟩
          · subst q
            exact ⟨Nat.lt_succ_self v, t, s⟩
        · intro q
          rcases Nat.lt_or_ge v i with y | y
          · exact .inl ⟨y, q.2⟩
          · exact .inr (Nat.le_antisymm (Nat.le_of_lt_succ q.1) y)
      · exact nm_r (nI_1 i) (ih (i + 1) x (by omega) (by omega) (sk (fun q => s q.2)))
      · exact nm_r (nI_1 i) (ih (i + 1) x (by omega) (by omega) (sk (fun q => t q.1)))
theorem xc_2 (hE : gr_In E n) (hn : n ≤ 16) (post : SX → Prop) {cc : Int32} {eF rF : Nat → Int32} (hr : xs_B n rF (gr_R E)) (hp : ∀ c, xs_B n c (gr_T E) → post (nI n, cc, eF, rF, c)) :
    ∀ f i co, i ≤ n → n - i < f → xs_B i co (gr_T E) → wX_findComponents_2 post (nI n) cc f (nI i) eF rF co := by
  intro f
  induction f with
  | zero => intro i co _ h; omega
  | succ f ih =>
    intro i co hi hf hI
    refine pk_le n i (fun z => ?_) (fun z => ?_)
    · have e : i = n := by omega
      subst e
      exact hp co hI
    · have h := xc_14 (cc := cc) (eF := eF) (co := co) hE hn z post (wX_findComponents_2 post (nI n) cc f) hr (fun x hx => ih (i + 1) _ (by omega) (by omega) (xs_up hI hx)) (n + 1) 0 0 (by omega) (by omega)
        (bb_c bb_0 (fun v _ => ⟨fun q => q.elim, fun q => absurd q.1 (Nat.not_lt_zero v)⟩))
      exact ⟨n + 1, h⟩
theorem xf_comp (hE : gr_In E n) (hn : n ≤ 16) {post : SX → Prop} {cc : Int32} {eF rF co : Nat → Int32} (hr : xs_B n rF (gr_R E)) (hp : ∀ c, xs_B n c (gr_T E) → post (nI n, cc, eF, rF, c)) : wpX_findComponents post (nI n, cc, eF, rF, co) :=
  ⟨n + 1, xc_2 hE hn post hr hp (n + 1) 0 co (by omega) (by omega) (fun u hu => absurd hu (Nat.not_lt_zero u))⟩
theorem xm_2 (hn : n ≤ 16) {u : Nat} (hu : u < n) (post : Int32 → Prop) {fv cc : Int32} {eF rF co : Nat → Int32} (hc : xs_B n co (gr_T E)) (hp : ∀ r, gr_lead E u r → post r) :
    ∀ f i, i ≤ u → u - i < f → (∀ v, v < i → ¬ gr_T E u v) → wX_smallestWith_2 post (nI u) fv cc eF rF co f (nI i) := by
  have cu : (nI u).toNatClampNeg = u := nI_clamp (by omega)
  have vu : vp_in (nI u) 16 := vp_in_nI (by omega) (by omega)
  intro f
  induction f with
  | zero => intro i _ h; omega
  | succ f ih =>
    intro i hi hf hI
    refine pk_le u i (fun z => ?_) (fun z => ?_)
    · have e : i = u := by omega
      subst e
      exact hp _ ⟨i, Nat.le_refl i, rfl, gr_Tr E i, hI⟩
    · rw [cu]
      refine ⟨vu, xh_b (hc u hu) (by omega) (fun t => hp _ ⟨i, hi, rfl, t, hI⟩) (fun t => nm_r (nI_1 i) (ih (i + 1) (by omega) (by omega) (fun v hv => ?_)))⟩
      by_cases e : v = i
      · rw [e]; exact t
      · exact hI v (by omega)
theorem xf_small (hn : n ≤ 16) {u : Nat} (hu : u < n) {post : Int32 → Prop} {fv cc : Int32} {eF rF co : Nat → Int32} (hc : xs_B n co (gr_T E)) (hp : ∀ r, gr_lead E u r → post r) : wpX_smallestWith post (fv, cc, eF, rF, co) (nI u) :=
  ⟨u + 1, xm_2 hn hu post hc hp (u + 1) 0 (by omega) (by omega) (fun v hv => absurd hv (Nat.not_lt_zero v))⟩
theorem xn_7 (hn : n ≤ 16) (post : SX → Prop) {eF rF co : Nat → Int32} (hc : xs_B n co (gr_T E)) (hp : post (nI n, nI (cn_c (gr_own E) n), eF, rF, co)) :
    ∀ f i, i ≤ n → n - i < f → wX_countComponents_7 post (nI n) eF rF co f (nI i) (nI (cn_c (gr_own E) i)) := by
  intro f
  induction f with
  | zero => intro i _ h; omega
  | succ f ih =>
    intro i hi hf
    refine pk_le n i (fun z => ?_) (fun z => ?_)
    · have e : i = n := by omega
      subst e
      exact hp
    · refine xf_small hn z hc (fun r hr => ek_if (gr_lead_own (by omega) hr) (fun o => ?_) (fun o => ?_))
      · have h := ih (i + 1) (by omega) (by omega)
        rw [cn_t o] at h
        exact nm_r (nI_1 _) (nm_r (nI_1 i) h)
      · have h := ih (i + 1) (by omega) (by omega)
        rw [cn_f o] at h
        exact nm_r (nI_1 i) h
theorem xf_count (hn : n ≤ 16) {post : SX → Prop} {cc : Int32} {eF rF co : Nat → Int32} (hc : xs_B n co (gr_T E)) (hp : post (nI n, nI (cn_c (gr_own E) n), eF, rF, co)) : wpX_countComponents post (nI n, cc, eF, rF, co) :=
  ⟨n + 1, xn_7 hn post hc hp (n + 1) 0 (by omega) (by omega)⟩
theorem xf_all (hE : gr_In E n) (hn : n ≤ 16) {post : SX → Prop} {cc : Int32} {eF rF co : Nat → Int32} (he : xs_B n eF E)
    (hp : ∀ a c, xs_B n a (gr_R E) → xs_B n c (gr_T E) → post (nI n, nI (cn_c (gr_own E) n), eF, a, c)) : wpX_rebuild post (nI n, cc, eF, rF, co) := by
  unfold wpX_rebuild
  dsimp only
  refine xf_reach hE hn he (fun a ha => ?_)
  dsimp only
  refine xf_comp hE hn ha (fun c hc => ?_)
  dsimp only
  exact xf_count hn hc (hp a c ha hc)
end
