/-! the class: the questions -/
section
variable {E : Nat → Nat → Prop} {n : Nat}
theorem xz_4 (hn : n ≤ 16) (post : Int32 → Prop) {s cc : Int32} {eF rF co : Nat → Int32} {P : Nat → Prop} (hs : bb_S s P) (hp : post (nI (cn_c P n))) :
    ∀ f i, i ≤ n → n - i < f → wX_sizeOf_4 post s (nI n) cc eF rF co f (nI (cn_c P i)) (nI i) := by
  intro f
  induction f with
  | zero => intro i _ h; omega
  | succ f ih =>
    intro i hi hf
    refine pk_le n i (fun z => ?_) (fun z => ?_)
    · have e : i = n := by omega
      subst e
      exact hp
    · have h := ih (i + 1) (by omega) (by omega)
      refine xh_b hs (by omega) (fun t => ?_) (fun t => ?_)
      · rw [cn_t t] at h
        exact nm_r (nI_1 _) (nm_r (nI_1 i) h)
      · rw [cn_f t] at h
        exact nm_r (nI_1 i) h
theorem xz_h (hn : n ≤ 16) {post : Int32 → Prop} {s cc : Int32} {eF rF co : Nat → Int32} {P : Nat → Prop} (hs : bb_S s P) (hp : post (nI (cn_c P n))) : wpX_sizeOf post (nI n, cc, eF, rF, co) s :=
  ⟨n + 1, xz_4 hn post hs hp (n + 1) 0 (by omega) (by omega)⟩
/-- the union of the rows of q below i that P names -/
def xu_U (P : Nat → Prop) (q : Nat → Nat → Prop) (i v : Nat) : Prop := ∃ w, w < i ∧ P w ∧ q w v
theorem xu_0 {P : Nat → Prop} {q : Nat → Nat → Prop} : bb_S 0 (xu_U P q 0) := bb_c bb_0 (fun _ _ => ⟨fun z => z.elim, fun ⟨_, z, _⟩ => absurd z (Nat.not_lt_zero _)⟩)
theorem xu_t {P : Nat → Prop} {q : Nat → Nat → Prop} {i : Nat} {x y : Int32} (t : P i) (h : bb_S x (xu_U P q i)) (g : bb_S y (q i)) : bb_S (x ||| y) (xu_U P q (i + 1)) := by
  refine bb_c (bb_or h g) (fun v _ => ⟨fun z => ?_, fun z => ?_⟩)
  · rcases z with ⟨w, a, b, c⟩ | z
    · exact ⟨w, by omega, b, c⟩
    · exact ⟨i, by omega, t, z⟩
  · obtain ⟨w, a, b, c⟩ := z
    by_cases e : w = i
    · subst e
      exact .inr c
    · exact .inl ⟨w, by omega, b, c⟩
theorem xu_f {P : Nat → Prop} {q : Nat → Nat → Prop} {i : Nat} {x : Int32} (t : ¬ P i) (h : bb_S x (xu_U P q i)) : bb_S x (xu_U P q (i + 1)) := by
  refine bb_c h (fun v _ => ⟨fun z => ?_, fun z => ?_⟩)
  · obtain ⟨w, a, b, c⟩ := z
    exact ⟨w, by omega, b, c⟩
  · obtain ⟨w, a, b, c⟩ := z
    by_cases e : w = i
    · subst e
      exact absurd b t
    · exact ⟨w, by omega, b, c⟩
theorem xo_4 (hn : n ≤ 16) (post : Int32 → Prop) {s cc : Int32} {eF rF co : Nat → Int32} {P : Nat → Prop} (hs : bb_S s P) (hr : xs_B n rF (gr_R E)) (hc : xs_B n co (gr_T E)) (hp : ∀ y, bb_S y (xu_U P (fun w v => gr_R E w v ∧ ¬ gr_T E w v) n) → post y) :
    ∀ f i y, i ≤ n → n - i < f → bb_S y (xu_U P (fun w v => gr_R E w v ∧ ¬ gr_T E w v) i) → wX_reachedFromOtherComponents_4 post s (nI n) cc eF rF co f y (nI i) := by
  intro f
  induction f with
  | zero => intro i y _ h; omega
  | succ f ih =>
    intro i y hi hf hI
    refine pk_le n i (fun z => ?_) (fun z => ?_)
    · have e : i = n := by omega
      subst e
      exact hp y hI
    · have ci : (nI i).toNatClampNeg = i := nI_clamp (by omega)
      have vi : vp_in (nI i) 16 := vp_in_nI (by omega) (by omega)
      rw [ci]
      refine xh_b hs (by omega) (fun t => ?_) (fun t => ?_)
      · exact ⟨vi, vi, nm_e (nm_r (nI_1 i) (ih (i + 1) _ (by omega) (by omega) (xu_t t hI (bb_andn (hr i z) (hc i z)))))⟩
      · exact nm_r (nI_1 i) (ih (i + 1) y (by omega) (by omega) (xu_f t hI))
theorem xo_h (hn : n ≤ 16) {post : Int32 → Prop} {s cc : Int32} {eF rF co : Nat → Int32} {P : Nat → Prop} (hs : bb_S s P) (hr : xs_B n rF (gr_R E)) (hc : xs_B n co (gr_T E)) (hp : ∀ y, bb_S y (xu_U P (fun w v => gr_R E w v ∧ ¬ gr_T E w v) n) → post y) : wpX_reachedFromOtherComponents post (nI n, cc, eF, rF, co) s :=
  ⟨n + 1, xo_4 hn post hs hr hc hp (n + 1) 0 0 (by omega) (by omega) xu_0⟩
theorem xg_20 (hE : gr_In E n) (hn : n ≤ 16) {u : Nat} (hu : u < n) (post : Int32 → Prop) {cc : Int32} {eF rF co : Nat → Int32} (hr : xs_B n rF (gr_R E)) (hc : xs_B n co (gr_T E)) (hp : ∀ r, gr_hgt E n u r → post r) :
    ∀ f m h x, m + 1 ≤ n → n - (m + 1) < f → bb_S x (gr_C E n m) → gr_C E n h u → (∀ j, j ≤ m → gr_C E n j u → j ≤ h) → wX_height_20 post (nI u) (nI n) cc eF rF co f (nI h) x (nI (m + 1)) := by
  intro f
  induction f with
  | zero => intro m h x _ z; omega
  | succ f ih =>
    intro m h x hm hf hx ch hj
    refine pk_le n (m + 1) (fun z => ?_) (fun z => ?_)
    · refine hp _ ⟨h, rfl, ch, fun j cj => hj j ?_ cj⟩
      have := gr_Cn hE cj
      omega
    · refine xo_h hn hx hr hc (fun y hy => ?_)
      have hy' : bb_S y (gr_C E n (m + 1)) := bb_c hy (fun v _ => ⟨fun ⟨w, a, b, c, d⟩ => ⟨w, a, b, c, fun t => d ⟨c, t⟩⟩, fun ⟨w, a, b, c, d⟩ => ⟨w, a, b, c, fun t => d t.2⟩⟩)
      refine xh_b hy' (by omega) (fun t => ?_) (fun t => ?_)
      · exact nm_r (nI_1 (m + 1)) (ih (m + 1) (m + 1) y (by omega) (by omega) hy' t (fun j a _ => a))
      · refine nm_r (nI_1 (m + 1)) (ih (m + 1) h y (by omega) (by omega) hy' ch (fun j a b => ?_))
        by_cases e : j = m + 1
        · subst e
          exact absurd b t
        · exact hj j (by omega) b
theorem xe_4 (hn : n ≤ 16) (post : Int32 → Prop) {s cc : Int32} {eF rF co : Nat → Int32} {P : Nat → Prop} (hs : bb_S s P) (he : xs_B n eF E) (hp : ∀ y, bb_S y (xu_U P E n) → post y) :
    ∀ f i y, i ≤ n → n - i < f → bb_S y (xu_U P E i) → wX_oneEdgeFurther_4 post s (nI n) cc eF rF co f y (nI i) := by
  intro f
  induction f with
  | zero => intro i y _ h; omega
  | succ f ih =>
    intro i y hi hf hI
    refine pk_le n i (fun z => ?_) (fun z => ?_)
    · have e : i = n := by omega
      subst e
      exact hp y hI
    · have ci : (nI i).toNatClampNeg = i := nI_clamp (by omega)
      have vi : vp_in (nI i) 16 := vp_in_nI (by omega) (by omega)
      rw [ci]
      refine xh_b hs (by omega) (fun t => ?_) (fun t => ?_)
      · exact ⟨vi, nm_e (nm_r (nI_1 i) (ih (i + 1) _ (by omega) (by omega) (xu_t t hI (he i z))))⟩
      · exact nm_r (nI_1 i) (ih (i + 1) y (by omega) (by omega) (xu_f t hI))
theorem xe_h (hn : n ≤ 16) {post : Int32 → Prop} {s cc : Int32} {eF rF co : Nat → Int32} {P : Nat → Prop} (hs : bb_S s P) (he : xs_B n eF E) (hp : ∀ y, bb_S y (xu_U P E n) → post y) : wpX_oneEdgeFurther post (nI n, cc, eF, rF, co) s :=
  ⟨n + 1, xe_4 hn post hs he hp (n + 1) 0 0 (by omega) (by omega) xu_0⟩
theorem xy_19 (hE : gr_In E n) (hn : n ≤ 16) {u : Nat} (hu : u < n) (post : Int32 → Prop) {cc : Int32} {eF rF co : Nat → Int32} (he : xs_B n eF E) (hp : ∀ r, gr_cyc E n u r → post r) :
    ∀ f l x, 1 ≤ l → l ≤ n + 1 → n + 1 - l < f → bb_S x (gr_W E u l) → (∀ j, 1 ≤ j → j < l → ¬ gr_W E u j u) → wX_cycle_19 post (nI u) (nI n) cc eF rF co f x (nI l) := by
  intro f
  induction f with
  | zero => intro l x _ _ z; omega
  | succ f ih =>
    intro l x h1 hl hf hx hj
    refine pk_lt n l (fun z => ?_) (fun z => ?_)
    · exact hp _ (.inr ⟨rfl, fun j a b => hj j a (by omega)⟩)
    · refine xh_b hx (by omega) (fun t => hp _ (.inl ⟨l, h1, z, rfl, t, hj⟩)) (fun t => xe_h hn hx he (fun y hy => nm_r (nI_1 l) (ih (l + 1) y (by omega) (by omega) (by omega) ?_ ?_)))
      · exact bb_c hy (fun v _ => ⟨fun ⟨w, _, b, c⟩ => ⟨w, b, c⟩, fun ⟨w, b, c⟩ => ⟨w, (hE w v c).1, b, c⟩⟩)
      · intro j a b
        by_cases e : j = l
        · rw [e]; exact t
        · exact hj j a (by omega)
theorem xw_4 (hn : n ≤ 16) (post : Int32 → Prop) {cc : Int32} {eF rF co : Nat → Int32} (he : xs_B n eF E) (hc : xs_B n co (gr_T E)) (hp : post (nI (cn_s (fun u => cn_c (gr_O E u) n) n))) :
    ∀ f i, i ≤ n → n - i < f → wX_outerEdges_4 post (nI n) cc eF rF co f (nI (cn_s (fun u => cn_c (gr_O E u) n) i)) (nI i) := by
  intro f
  induction f with
  | zero => intro i _ h; omega
  | succ f ih =>
    intro i hi hf
    refine pk_le n i (fun z => ?_) (fun z => ?_)
    · have e : i = n := by omega
      subst e
      exact hp
    · have ci : (nI i).toNatClampNeg = i := nI_clamp (by omega)
      have vi : vp_in (nI i) 16 := vp_in_nI (by omega) (by omega)
      rw [ci]
      exact ⟨vi, vi, xz_h hn (P := gr_O E i) (bb_andn (he i z) (hc i z)) (nm_r (nI_add _ _) (nm_r (nI_1 i) (ih (i + 1) (by omega) (by omega))))⟩
/-- all pairs ahead of (u, i) are comparable -/
def xl_I (E : Nat → Nat → Prop) (u i : Nat) : Prop := ∀ x y, (x < u ∧ y < x) ∨ (x = u ∧ y < i) → gr_R E x y ∨ gr_R E y x
theorem xl_12 (hn : n ≤ 16) {u : Nat} (hu : u < n) (post : Int32 → Prop) (J : Int32 → Prop) {cc : Int32} {eF rF co : Nat → Int32} (hr : xs_B n rF (gr_R E)) (h0 : ¬ gr_line E n → post 0) (hJ : xl_I E (u + 1) 0 → J (nI (u + 1))) :
    ∀ f i, i ≤ u → u - i < f → xl_I E u i → wX_inOneLine_12 post J (nI u) (nI n) cc eF rF co f (nI i) := by
  have cu : (nI u).toNatClampNeg = u := nI_clamp (by omega)
  have vu : vp_in (nI u) 16 := vp_in_nI (by omega) (by omega)
  intro f
  induction f with
  | zero => intro i _ h; omega
  | succ f ih =>
    intro i hi hf hI
    refine pk_le u i (fun z => ?_) (fun z => ?_)
    · exact nm_r (nI_1 u) (hJ (fun x y c => hI x y (by omega)))
    · have ci : (nI i).toNatClampNeg = i := nI_clamp (by omega)
      have vi : vp_in (nI i) 16 := vp_in_nI (by omega) (by omega)
      have nx : (gr_R E u i ∨ gr_R E i u) → wX_inOneLine_12 post J (nI u) (nI n) cc eF rF co f (nI (i + 1)) := by
        intro q
        refine ih (i + 1) (by omega) (by omega) (fun x y c => ?_)
        by_cases e : x = u ∧ y = i
        · rw [e.1, e.2]; exact q
        · exact hI x y (by omega)
      rw [cu, ci]
      refine ⟨vu, xh_b (hr u hu) (by omega) (fun t => nm_r (nI_1 i) (nx (.inl t))) (fun t => ⟨vi, xh_b (hr i (by omega)) (by omega) (fun s => nm_r (nI_1 i) (nx (.inr s))) (fun s => h0 (fun l => ?_))⟩)⟩
      exact (l u i hu (by omega)).elim t s
theorem xl_2 (hn : n ≤ 16) (post : Int32 → Prop) {cc : Int32} {eF rF co : Nat → Int32} (hr : xs_B n rF (gr_R E)) (h0 : ¬ gr_line E n → post 0) (h1 : gr_line E n → post 1) :
    ∀ f u, u ≤ n → n - u < f → xl_I E u 0 → wX_inOneLine_2 post (nI n) cc eF rF co f (nI u) := by
  intro f
  induction f with
  | zero => intro u _ h; omega
  | succ f ih =>
    intro u hu hf hI
    refine pk_le n u (fun z => ?_) (fun z => ?_)
    · refine h1 (fun x y hx hy => ?_)
      rcases Nat.lt_trichotomy x y with c | c | c
      · exact (hI y x (by omega)).symm
      · rw [c]; exact .inl (gr_refl E y)
      · exact hI x y (by omega)
    · exact ⟨u + 1, xl_12 hn z post (wX_inOneLine_2 post (nI n) cc eF rF co f) hr h0 (fun h => ih (u + 1) (by omega) (by omega) h) (u + 1) 0 (by omega) (by omega) hI⟩
end
