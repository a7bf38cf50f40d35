/-! the reference: a lemma a private method -/
theorem yb_1 : vp_nar .boolean 1 = 1 := rfl
theorem yb_0 : vp_nar .boolean 0 = 0 := rfl
theorem yb_g {g : Int32} {A : Prop} (h : g = 1 ∨ (g = 0 ∧ A)) : narrow .boolean (.int g) = .int g := by
  rcases h with rfl | ⟨rfl, -⟩ <;> rfl
theorem yb_4 {x : Nat} (h : x < 256) : nI x >>> ((4 : Int32) &&& 31) = nI (x / 16) := pk_shrN (by omega) _ 4 (by decide)
theorem yb_15 {x : Nat} (h : x < 256) : nI x &&& 15 = nI (x % 16) := pk_andN (by omega) 4 (by decide)
theorem yb_c {u v : Nat} (hu : u < 16) (hv : v < 16) : ((16 : Int32) * nI u + nI v).toNatClampNeg = 16 * u + v := by
  rw [mx_ix]; exact nI_clamp (by omega)
theorem yb_v {u v : Nat} (hu : u < 16) (hv : v < 16) : vp_in ((16 : Int32) * nI u + nI v) 256 := by
  rw [mx_ix]; exact vp_in_nI (by omega) (by omega)
theorem yb_x (x : Nat) : 16 * (x / 16) + x % 16 = x := by omega
section
variable {E : Nat → Nat → Prop} {n : Nat}
theorem yt_h (hn : n ≤ 16) {fn : Int32} {ed re hi : Nat → Int32} (h : mx_M n re (gr_R E)) {u v : Nat} (hu : u < n) (hv : v < n) {post : Int32 → Prop} (t : gr_T E u v → post 1) (f : ¬ gr_T E u v → post 0) : wpY_together post (fn, ed, re, hi) (nI u) (nI v) := by
  unfold wpY_together
  dsimp only
  rw [yb_c (show u < 16 by omega) (show v < 16 by omega), yb_c (show v < 16 by omega) (show u < 16 by omega)]
  exact ⟨yb_v (by omega) (by omega), ek_if (mx_0 h hu hv) (fun z => f (fun q => z q.1)) (fun z => ⟨yb_v (by omega) (by omega), ek_if (mx_0 h hv hu) (fun y => f (fun q => y q.2)) (fun y => t ⟨Classical.byContradiction z, Classical.byContradiction y⟩)⟩)⟩
theorem yt_b (hn : n ≤ 16) {fn : Int32} {ed re hi : Nat → Int32} (h : mx_M n re (gr_R E)) {u v : Nat} (hu : u < n) (hv : v < n) {A B : Prop} (t : gr_T E u v → B) (f : ¬ gr_T E u v → A) : wpY_together (fun r => (r = 0 → A) ∧ (¬ r = 0 → B)) (fn, ed, re, hi) (nI u) (nI v) :=
  yt_h hn h hu hv (fun z => br_f xh_10 (t z)) (fun z => br_t rfl (f z))
/-- where a round of lengthening stands: cell x, way i -/
def ln_I (E : Nat → Nat → Prop) (n : Nat) (a0 : Nat → Int32) (r0 : Nat → Nat → Prop) (x i : Nat) (g : Int32) (a : Nat → Int32) : Prop :=
  ∃ r, mx_M 16 a r ∧ (∀ u v, u < 16 → v < 16 → r0 u v → r u v) ∧ (∀ u v, u < 16 → v < 16 → r u v → gr_R E u v) ∧
  (∀ u v w, u < 16 → v < 16 → w < n → (16 * u + v < x ∨ (16 * u + v = x ∧ w < i)) → r0 u v → E v w → r u w) ∧ (g = 1 ∨ (g = 0 ∧ a = a0))
theorem yl_24 (hn : n ≤ 16) {ed hi a0 : Nat → Int32} {r0 : Nat → Nat → Prop} (hed : mx_M 16 ed E) {x : Nat} (hx : x < 256) (post : Int32 → SY → Prop) (J : Int32 → Int32 → (Nat → Int32) → (Nat → Int32) → (Nat → Int32) → Prop)
    (hJ : ∀ g a, ln_I E n a0 r0 (x + 1) 0 g a → J g (nI (x + 1)) ed a hi) :
    ∀ f i g a, i ≤ n → n - i < f → ln_I E n a0 r0 x i g a → wY_lengthen_24 post J (nI x) (nI (x / 16)) (nI (x % 16)) (nI n) f g (nI i) ed a hi := by
  have hu : x / 16 < 16 := by omega
  have hv : x % 16 < 16 := by omega
  have cx : (nI x).toNatClampNeg = x := nI_clamp (by omega)
  have vx : vp_in (nI x) 256 := vp_in_nI hx (by omega)
  intro f
  induction f with
  | zero => intro i g a _ h; omega
  | succ f ih =>
    intro i g a him hf hI
    obtain ⟨r, hM, h0, hR, hP, hg⟩ := hI
    refine pk_le n i (fun z => ?_) (fun z => ?_)
    · refine nm_r (nI_1 x) (hJ g a ⟨r, hM, h0, hR, fun u v w a1 a2 a3 c => hP u v w a1 a2 a3 ?_, hg⟩)
      omega
    · have hi16 : i < 16 := by omega
      have sk : (r0 (x / 16) (x % 16) → E (x % 16) i → r (x / 16) i) → wY_lengthen_24 post J (nI x) (nI (x / 16)) (nI (x % 16)) (nI n) f g (nI (i + 1)) ed a hi := by
        intro q
        refine ih (i + 1) g a (by omega) (by omega) ⟨r, hM, h0, hR, fun u v w a1 a2 a3 c b e => ?_, hg⟩
        by_cases y : 16 * u + v = x ∧ w = i
        · have e1 : u = x / 16 := by omega
          have e2 : v = x % 16 := by omega
          have e3 : w = i := y.2
          subst e1 e2 e3
          exact q b e
        · exact hP u v w a1 a2 a3 (by omega) b e
      rw [cx, yb_c hv hi16, yb_c hu hi16]
      have mx : a x = 0 ↔ ¬ r (x / 16) (x % 16) := by
        have := mx_0 hM hu hv
        rw [yb_x] at this
        exact this
      refine ⟨vx, ek_if mx (fun y => nm_r (nI_1 i) (sk (fun b => absurd (h0 _ _ hu hv b) y))) (fun y => ?_)⟩
      have y' : r (x / 16) (x % 16) := Classical.byContradiction y
      refine ⟨yb_v hv hi16, ek_if (mx_0 hed hv hi16) (fun t => nm_r (nI_1 i) (sk (fun _ e => absurd e t))) (fun t => ?_)⟩
      have t' : E (x % 16) i := Classical.byContradiction t
      refine ⟨yb_v hu hi16, ek_if (mx_0 hM hu hi16) (fun s => ?_) (fun s => nm_r (nI_1 i) (sk (fun _ _ => Classical.byContradiction s)))⟩
      refine ⟨yb_v hu hi16, nm_r (by rw [yb_1]) (nm_r (nI_1 i) (ih (i + 1) 1 _ (by omega) (by omega) ⟨_, mx_set (Nat.le_refl 16) hM hu hi16, fun u v a1 a2 b => .inl (h0 u v a1 a2 b), ?_, ?_, .inl rfl⟩))⟩
      · intro u v a1 a2 b
        rcases b with b | ⟨rfl, rfl⟩
        · exact hR u v a1 a2 b
        · exact gr_step (hR _ _ hu hv y') t'
      · intro u v w a1 a2 a3 c b e
        by_cases y : 16 * u + v = x ∧ w = i
        · have e1 : u = x / 16 := by omega
          exact .inr ⟨e1, y.2⟩
        · exact .inl (hP u v w a1 a2 a3 (by omega) b e)
theorem yl_4 (hn : n ≤ 16) {ed hi a0 : Nat → Int32} {r0 : Nat → Nat → Prop} (hed : mx_M 16 ed E) (post : Int32 → SY → Prop)
    (hp : ∀ g a, ln_I E n a0 r0 256 0 g a → post g (nI n, ed, a, hi)) :
    ∀ f x g a, x ≤ 256 → 256 - x < f → ln_I E n a0 r0 x 0 g a → wY_lengthen_4 post (nI n) f g (nI x) ed a hi := by
  intro f
  induction f with
  | zero => intro x g a _ h; omega
  | succ f ih =>
    intro x g a hx hf hI
    refine pk_le 256 x (fun z => ?_) (fun z => ?_)
    · have e : x = 256 := by omega
      subst e
      have hI' := hI
      obtain ⟨r, _, _, _, _, hg⟩ := hI'
      exact ⟨yb_g hg, hp g a hI⟩
    · refine nm_r (yb_4 z) (nm_r (yb_15 z) ⟨n + 1, ?_⟩)
      exact yl_24 hn hed z post (wY_lengthen_4 post (nI n) f) (fun g' a' h' => ih (x + 1) g' a' (by omega) (by omega) h') (n + 1) 0 g a (by omega) (by omega) hI
theorem yl_h (hn : n ≤ 16) {ed re hi : Nat → Int32} {r0 : Nat → Nat → Prop} (hed : mx_M 16 ed E) (hM : mx_M 16 re r0) (hR : ∀ u v, u < 16 → v < 16 → r0 u v → gr_R E u v) {post : Int32 → SY → Prop}
    (hp : ∀ g a, ln_I E n re r0 256 0 g a → post g (nI n, ed, a, hi)) : wpY_lengthen post (nI n, ed, re, hi) :=
  ⟨257, yl_4 hn hed post hp 257 0 0 re (by omega) (by omega) ⟨r0, hM, fun _ _ _ _ b => b, hR, fun u v w _ _ _ c => absurd c (by omega), .inr ⟨rfl, rfl⟩⟩⟩
/-- where the rounds of lengthening stand -/
def fr_I (E : Nat → Nat → Prop) (n k : Nat) (g : Int32) (a : Nat → Int32) : Prop :=
  ∃ r, mx_M 16 a r ∧ (∀ u v, u < 16 → v < 16 → r u v → gr_R E u v) ∧ (∀ u, u < n → r u u) ∧ rh_Q E n k r ∧ (g = 1 ∨ (g = 0 ∧ ∀ j, rh_Q E n j r))
theorem yf_end (hE : gr_In E n) (hn : n ≤ 16) {k : Nat} {a : Nat → Int32} {r : Nat → Nat → Prop} (hM : mx_M 16 a r) (hR : ∀ u v, u < 16 → v < 16 → r u v → gr_R E u v) (hk : n ≤ k) (q : rh_Q E n k r) : mx_M n a (gr_R E) :=
  mx_c (mx_le hn hM) (fun u v hu hv => rh_end hE hk (fun u v hu hv => hR u v (by omega) (by omega)) q hu hv)
theorem yf_40 (hE : gr_In E n) (hn : n ≤ 16) {ed hi : Nat → Int32} (hed : mx_M 16 ed E) (post : SY → Prop) (hp : ∀ a, mx_M n a (gr_R E) → post (nI n, ed, a, hi)) :
    ∀ f k g a, k ≤ 17 → 17 - k < f → fr_I E n k g a → wY_findReach_40 post f g (nI k) (nI n) ed a hi := by
  intro f
  induction f with
  | zero => intro k g a _ h; omega
  | succ f ih =>
    intro k g a hk hf hI
    obtain ⟨r, hM, hR, hr, hQ, hg⟩ := hI
    refine pk_le 17 k (fun z => ?_) (fun z => ?_)
    · exact hp a (yf_end hE hn hM hR (by omega) hQ)
    · rcases hg with rfl | ⟨rfl, hj⟩
      · refine br_f xh_10 (yl_h hn hed hM hR (fun g a' h => ?_))
        dsimp only
        obtain ⟨r', hM', h0, hR', hP, hg'⟩ := h
        have hr' : ∀ u, u < n → r' u u := fun u hu => h0 u u (by omega) (by omega) (hr u hu)
        have st : ∀ u v w, u < n → v < n → r u v → E v w → r' u w := fun u v w a1 a2 b e => hP u v w (by omega) (by omega) (hE v w e).2 (by omega) b e
        refine nm_r (nI_1 k) (ih (k + 1) g a' (by omega) (by omega) ⟨r', hM', hR', hr', rh_s hE (fun u v a1 a2 b => h0 u v (by omega) (by omega) b) st hQ, ?_⟩)
        rcases hg' with y | ⟨y, rfl⟩
        · exact .inl y
        · refine .inr ⟨y, rh_all hE hr' (fun u v w a1 a2 b e => st u v w a1 a2 ?_ e)⟩
          have c1 := mx_0 hM (u := u) (v := v) (by omega) (by omega)
          have c2 := mx_0 hM' (u := u) (v := v) (by omega) (by omega)
          exact Classical.byContradiction (fun t => (c2.mp (c1.mpr t)) b)
      · exact br_t rfl (hp a (yf_end hE hn hM hR (Nat.le_refl n) (hj n)))
theorem yf_2 (hE : gr_In E n) (hn : n ≤ 16) {ed hi : Nat → Int32} (hed : mx_M 16 ed E) (post : SY → Prop) (hp : ∀ a, mx_M n a (gr_R E) → post (nI n, ed, a, hi)) :
    ∀ f x a, x ≤ 256 → 256 - x < f → (∀ y, y < x → (a y = 1 ∧ y / 16 = y % 16) ∨ (a y = 0 ∧ ¬ y / 16 = y % 16)) → wY_findReach_2 post (nI n) f (nI x) ed a hi := by
  intro f
  induction f with
  | zero => intro x a _ h; omega
  | succ f ih =>
    intro x a hx hf hI
    refine pk_le 256 x (fun z => ?_) (fun z => ?_)
    · have hM : mx_M 16 a (fun u v => u = v) := by
        intro u v hu hv
        have e1 : (16 * u + v) / 16 = u := by omega
        have e2 : (16 * u + v) % 16 = v := by omega
        have := hI (16 * u + v) (by omega)
        rw [e1, e2] at this
        exact this
      exact ⟨18, yf_40 hE hn hed post hp 18 0 1 a (by omega) (by omega) ⟨_, hM, fun u v _ _ e => e ▸ gr_refl E u, fun _ _ => rfl, rh_0 (fun _ _ => rfl), .inl rfl⟩⟩
    · have cx : (nI x).toNatClampNeg = x := nI_clamp (by omega)
      have vx : vp_in (nI x) 256 := vp_in_nI z (by omega)
      have up : ∀ b : Int32, ((b = 1 ∧ x / 16 = x % 16) ∨ (b = 0 ∧ ¬ x / 16 = x % 16)) → wY_findReach_2 post (nI n) f (nI (x + 1)) ed (upd a x b) hi := by
        intro b hb
        refine ih (x + 1) _ (by omega) (by omega) (fun y hy => ?_)
        by_cases e : y = x
        · subst e
          rw [pk_us]; exact hb
        · rw [pk_un e]; exact hI y (by omega)
      rw [cx, yb_4 z, yb_15 z, yb_1, yb_0]
      exact pk_eq (x / 16) (x % 16) (fun e => ⟨vx, nm_e (nm_r (nI_1 x) (up 1 (.inl ⟨rfl, e⟩)))⟩) (fun e => ⟨vx, nm_e (nm_r (nI_1 x) (up 0 (.inr ⟨rfl, e⟩)))⟩)
theorem yf_h (hE : gr_In E n) (hn : n ≤ 16) {ed re hi : Nat → Int32} (hed : mx_M 16 ed E) {post : SY → Prop} (hp : ∀ a, mx_M n a (gr_R E) → post (nI n, ed, a, hi)) : wpY_findReach post (nI n, ed, re, hi) :=
  ⟨257, yf_2 hE hn hed post hp 257 0 re (by omega) (by omega) (fun y hy => absurd hy (Nat.not_lt_zero y))⟩
theorem yd_2 (hn : n ≤ 16) {u : Nat} (hu : u < n) (post : Int32 → Prop) {fn : Int32} {ed re hi : Nat → Int32} (h : mx_M n re (gr_R E)) (hp : ∀ r, gr_lead E u r → post r) :
    ∀ f i, i ≤ u → u - i < f → (∀ v, v < i → ¬ gr_T E u v) → wY_leaderOf_2 post (nI u) fn ed re hi f (nI i) := by
  intro f
  induction f with
  | zero => intro i _ h; omega
  | succ f ih =>
    intro i hi hf hI
    refine pk_le u i (fun z => ?_) (fun z => ?_)
    · have e : i = u := by omega
      subst e
      exact hp _ ⟨i, Nat.le_refl i, rfl, gr_Tr E i, hI⟩
    · refine yt_b hn h hu (by omega) (fun t => hp _ ⟨i, hi, rfl, t, hI⟩) (fun t => nm_r (nI_1 i) (ih (i + 1) (by omega) (by omega) (fun v hv => ?_)))
      by_cases e : v = i
      · rw [e]; exact t
      · exact hI v (by omega)
theorem yd_h (hn : n ≤ 16) {u : Nat} (hu : u < n) {post : Int32 → Prop} {fn : Int32} {ed re hi : Nat → Int32} (h : mx_M n re (gr_R E)) (hp : ∀ r, gr_lead E u r → post r) : wpY_leaderOf post (fn, ed, re, hi) (nI u) :=
  ⟨u + 1, yd_2 hn hu post h hp (u + 1) 0 (by omega) (by omega) (fun v hv => absurd hv (Nat.not_lt_zero v))⟩
theorem yc_8 (hn : n ≤ 16) (post : Int32 → SY → Prop) {ed re hi : Nat → Int32} (h : mx_M n re (gr_R E)) (hp : post (nI (cn_c (gr_own E) n)) (nI n, ed, re, hi)) :
    ∀ f i, i ≤ n → n - i < f → wY_components_8 post (nI n) ed re hi f (nI (cn_c (gr_own E) i)) (nI i) := by
  intro f
  induction f with
  | zero => intro i _ h; omega
  | succ f ih =>
    intro i hi hf
    refine pk_le n i (fun z => ?_) (fun z => ?_)
    · have e : i = n := by omega
      subst e
      exact hp
    · refine yd_h hn z h (fun r hr => ek_if (gr_lead_own (by omega) hr) (fun o => ?_) (fun o => ?_))
      · have h := ih (i + 1) (by omega) (by omega)
        rw [cn_t o] at h
        exact nm_r (nI_1 _) (nm_r (nI_1 i) h)
      · have h := ih (i + 1) (by omega) (by omega)
        rw [cn_f o] at h
        exact nm_r (nI_1 i) h
theorem yc_h (hE : gr_In E n) (hn : n ≤ 16) {ed re hi : Nat → Int32} (hed : mx_M 16 ed E) {post : Int32 → SY → Prop} (hp : ∀ a, mx_M n a (gr_R E) → post (nI (cn_c (gr_own E) n)) (nI n, ed, a, hi)) : wpY_components post (nI n, ed, re, hi) := by
  unfold wpY_components
  dsimp only
  refine yf_h hE hn hed (fun a ha => ?_)
  dsimp only
  exact ⟨n + 1, yc_8 hn post ha (hp a ha) (n + 1) 0 (by omega) (by omega)⟩
end
