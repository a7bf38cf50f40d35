/-! the reference: the questions -/
section
variable {E : Nat → Nat → Prop} {n : Nat}
theorem yz_18 (hn : n ≤ 16) {u : Nat} (hu : u < n) (post : Int32 → SY → Prop) {ed re hi : Nat → Int32} (h : mx_M n re (gr_R E)) (hp : post (nI (cn_c (gr_T E u) n)) (nI n, ed, re, hi)) :
    ∀ f i, i ≤ n → n - i < f → wY_componentSize_18 post (nI u) (nI n) ed re hi f (nI (cn_c (gr_T E u) i)) (nI i) := by
  intro f
  induction f with
  | zero => intro i _ h; omega
  | succ f ih =>
    intro i him hf
    refine pk_le n i (fun z => ?_) (fun z => ?_)
    · have e : i = n := by omega
      subst e
      exact hp
    · have g := ih (i + 1) (by omega) (by omega)
      refine yt_b hn h hu z (fun t => ?_) (fun t => ?_)
      · rw [cn_t t] at g
        exact nm_r (nI_1 _) (nm_r (nI_1 i) g)
      · rw [cn_f t] at g
        exact nm_r (nI_1 i) g
/-- the cells of a tell h, and each is the length of a chain -/
def rs_H (E : Nat → Nat → Prop) (n : Nat) (a : Nat → Int32) (h : Nat → Nat) : Prop := ∀ v, v < n → a v = nI (h v) ∧ gr_C E n (h v) v
/-- where a round of raising stands: from u to i -/
def rs_I (E : Nat → Nat → Prop) (n : Nat) (a0 : Nat → Int32) (h0 : Nat → Nat) (u i : Nat) (g : Int32) (a : Nat → Int32) : Prop :=
  ∃ h, rs_H E n a h ∧ (∀ v, v < n → h0 v ≤ h v) ∧
  (∀ x y, x < n → y < n → (x < u ∨ (x = u ∧ y < i)) → (gr_T E x y → h0 x ≤ h y) ∧ (gr_O E x y → h0 x + 1 ≤ h y)) ∧ (g = 1 ∨ (g = 0 ∧ a = a0))
theorem ys_104 (hE : gr_In E n) (hn : n ≤ 16) {a0 a ed re : Nat → Int32} {h0 h : Nat → Nat} {u i m : Nat} {g : Int32} (hu : u < n) (hi : i < n) (post : Int32 → SY → Prop) (J4 J : Int32 → Int32 → (Nat → Int32) → (Nat → Int32) → (Nat → Int32) → Prop)
    (hJ : ∀ g a, rs_I E n a0 h0 u (i + 1) g a → J g (nI (i + 1)) ed re a)
    (hH : rs_H E n a h) (h1 : ∀ v, v < n → h0 v ≤ h v) (hP : ∀ x y, x < n → y < n → (x < u ∨ (x = u ∧ y < i)) → (gr_T E x y → h0 x ≤ h y) ∧ (gr_O E x y → h0 x + 1 ≤ h y)) (hg : g = 1 ∨ (g = 0 ∧ a = a0))
    (cm : gr_C E n m i) (hm : h i ≤ m) (mT : gr_T E u i → h0 u ≤ m) (mO : gr_O E u i → h0 u + 1 ≤ m) :
    wY_raise_104 post J4 J g (nI u) (nI i) (nI m) (nI n) ed re a := by
  have ci : (nI i).toNatClampNeg = i := nI_clamp (by omega)
  have vi : vp_in (nI i) 16 := vp_in_nI (by omega) (by omega)
  have bm := gr_Cn hE cm
  have bi := gr_Cn hE (hH i hi).2
  unfold wY_raise_104
  rw [ci, (hH i hi).1]
  refine ⟨vi, pk_le m (h i) (fun z => ?_) (fun z => ?_)⟩
  · refine nm_r (nI_1 i) (hJ g a ⟨h, hH, h1, fun x y a1 a2 c => ?_, hg⟩)
    by_cases e : x = u ∧ y = i
    · rw [e.1, e.2]
      exact ⟨fun t => by have := mT t; omega, fun t => by have := mO t; omega⟩
    · exact hP x y a1 a2 (by omega)
  · refine ⟨vi, nm_e (nm_r (nI_1 i) (hJ 1 _ ⟨fun v => if v = i then m else h v, ?_, ?_, ?_, .inl rfl⟩))⟩
    · intro v hv
      by_cases e : v = i
      · subst e
        rw [pk_us]
        dsimp only
        rw [if_pos rfl]
        exact ⟨rfl, cm⟩
      · rw [pk_un e]
        dsimp only
        rw [if_neg e]
        exact hH v hv
    · intro v hv
      have := h1 v hv
      dsimp only
      by_cases e : v = i
      · subst e
        rw [if_pos rfl]; omega
      · rw [if_neg e]; omega
    · intro x y a1 a2 c
      dsimp only
      by_cases e : y = i
      · subst e
        rw [if_pos rfl]
        by_cases e2 : x = u
        · subst e2
          exact ⟨mT, mO⟩
        · have := hP x y a1 a2 (by omega)
          exact ⟨fun t => by have := this.1 t; omega, fun t => by have := this.2 t; omega⟩
      · rw [if_neg e]
        exact hP x y a1 a2 (by omega)
theorem ys_58 (hE : gr_In E n) (hn : n ≤ 16) {a0 a ed re : Nat → Int32} {h0 h : Nat → Nat} {u i m : Nat} {g : Int32} (hu : u < n) (hi : i < n) (hed : mx_M 16 ed E) (hre : mx_M n re (gr_R E)) (post : Int32 → SY → Prop) (J4 J : Int32 → Int32 → (Nat → Int32) → (Nat → Int32) → (Nat → Int32) → Prop)
    (hJ : ∀ g a, rs_I E n a0 h0 u (i + 1) g a → J g (nI (i + 1)) ed re a)
    (hH : rs_H E n a h) (h1 : ∀ v, v < n → h0 v ≤ h v) (hP : ∀ x y, x < n → y < n → (x < u ∨ (x = u ∧ y < i)) → (gr_T E x y → h0 x ≤ h y) ∧ (gr_O E x y → h0 x + 1 ≤ h y)) (hg : g = 1 ∨ (g = 0 ∧ a = a0))
    (cm : gr_C E n m i) (hm : h i ≤ m) (mT : gr_T E u i → h0 u ≤ m) :
    wY_raise_58 post J4 J g (nI u) (nI i) (nI m) (nI n) ed re a := by
  have cu : (nI u).toNatClampNeg = u := nI_clamp (by omega)
  have vu : vp_in (nI u) 16 := vp_in_nI (by omega) (by omega)
  have bm := gr_Cn hE cm
  have bu := gr_Cn hE (hH u hu).2
  have b1 := h1 u hu
  unfold wY_raise_58
  rw [cu, yb_c (show u < 16 by omega) (show i < 16 by omega), (hH u hu).1, nI_1]
  refine ⟨yb_v (by omega) (by omega), ek_if (mx_0 hed (show u < 16 by omega) (show i < 16 by omega)) (fun z => ?_) (fun z => ?_)⟩
  · exact ys_104 hE hn hu hi post J4 J hJ hH h1 hP hg cm hm mT (fun o => absurd o.1 z)
  · have z' : E u i := Classical.byContradiction z
    refine yt_b hn hre hu hi (fun t => ?_) (fun t => ?_)
    · exact ys_104 hE hn hu hi post J4 J hJ hH h1 hP hg cm hm mT (fun o => absurd t o.2)
    · refine ⟨vu, pk_le (h u + 1) m (fun y => ?_) (fun y => ⟨vu, nm_e ?_⟩)⟩
      · exact ys_104 hE hn hu hi post J4 J hJ hH h1 hP hg cm hm mT (fun _ => by omega)
      · exact ys_104 hE hn hu hi post J4 J hJ hH h1 hP hg ⟨u, hu, (hH u hu).2, gr_edge z', fun q => t ⟨gr_edge z', q⟩⟩ (by omega) (fun q => absurd q t) (fun _ => by omega)
theorem ys_14 (hE : gr_In E n) (hn : n ≤ 16) {a0 ed re : Nat → Int32} {h0 : Nat → Nat} {u : Nat} (hu : u < n) (hed : mx_M 16 ed E) (hre : mx_M n re (gr_R E)) (post : Int32 → SY → Prop) (J4 : Int32 → Int32 → (Nat → Int32) → (Nat → Int32) → (Nat → Int32) → Prop)
    (hJ : ∀ g a, rs_I E n a0 h0 (u + 1) 0 g a → J4 g (nI (u + 1)) ed re a) :
    ∀ f i g a, i ≤ n → n - i < f → rs_I E n a0 h0 u i g a → wY_raise_14 post J4 (nI u) (nI n) f g (nI i) ed re a := by
  have cu : (nI u).toNatClampNeg = u := nI_clamp (by omega)
  have vu : vp_in (nI u) 16 := vp_in_nI (by omega) (by omega)
  intro f
  induction f with
  | zero => intro i g a _ h; omega
  | succ f ih =>
    intro i g a him hf hI
    obtain ⟨h, hH, h1, hP, hg⟩ := hI
    refine pk_le n i (fun z => ?_) (fun z => ?_)
    · exact nm_r (nI_1 u) (hJ g a ⟨h, hH, h1, fun x y a1 a2 c => hP x y a1 a2 (by omega), hg⟩)
    · have ci : (nI i).toNatClampNeg = i := nI_clamp (by omega)
      have vi : vp_in (nI i) 16 := vp_in_nI (by omega) (by omega)
      have bi := gr_Cn hE (hH i z).2
      have bu := gr_Cn hE (hH u hu).2
      have b1 := h1 u hu
      have nx : ∀ g a, rs_I E n a0 h0 u (i + 1) g a → wY_raise_14 post J4 (nI u) (nI n) f g (nI (i + 1)) ed re a := fun g a r => ih (i + 1) g a (by omega) (by omega) r
      rw [ci, cu, (hH i z).1, (hH u hu).1]
      refine ⟨vi, nm_e (yt_b hn hre hu z (fun t => ⟨vu, pk_le (h u) (h i) (fun y => ?_) (fun y => ⟨vu, nm_e ?_⟩)⟩) (fun t => ?_))⟩
      · exact ys_58 hE hn hu z hed hre post J4 _ nx hH h1 hP hg (hH i z).2 (Nat.le_refl _) (fun _ => by omega)
      · exact ys_58 hE hn hu z hed hre post J4 _ nx hH h1 hP hg (gr_Cup hE (hH u hu).2 t.1) (by omega) (fun _ => b1)
      · exact ys_58 hE hn hu z hed hre post J4 _ nx hH h1 hP hg (hH i z).2 (Nat.le_refl _) (fun q => absurd q t)
theorem ys_4 (hE : gr_In E n) (hn : n ≤ 16) {a0 ed re : Nat → Int32} {h0 : Nat → Nat} (hed : mx_M 16 ed E) (hre : mx_M n re (gr_R E)) (post : Int32 → SY → Prop)
    (hp : ∀ g a, rs_I E n a0 h0 n 0 g a → post g (nI n, ed, re, a)) :
    ∀ f u g a, u ≤ n → n - u < f → rs_I E n a0 h0 u 0 g a → wY_raise_4 post (nI n) f g (nI u) ed re a := by
  intro f
  induction f with
  | zero => intro u g a _ h; omega
  | succ f ih =>
    intro u g a hu hf hI
    refine pk_le n u (fun z => ?_) (fun z => ?_)
    · have e : u = n := by omega
      subst e
      have hI' := hI
      obtain ⟨h, _, _, _, hg⟩ := hI'
      exact ⟨yb_g hg, hp g a hI⟩
    · exact ⟨n + 1, ys_14 hE hn z hed hre post (wY_raise_4 post (nI n) f) (fun g' a' h' => ih (u + 1) g' a' (by omega) (by omega) h') (n + 1) 0 g a (by omega) (by omega) hI⟩
theorem ys_h (hE : gr_In E n) (hn : n ≤ 16) {ed re hi : Nat → Int32} {h0 : Nat → Nat} (hed : mx_M 16 ed E) (hre : mx_M n re (gr_R E)) (hH : rs_H E n hi h0) {post : Int32 → SY → Prop}
    (hp : ∀ g a, rs_I E n hi h0 n 0 g a → post g (nI n, ed, re, a)) : wpY_raise post (nI n, ed, re, hi) :=
  ⟨n + 1, ys_4 hE hn hed hre post hp (n + 1) 0 0 hi (by omega) (by omega) ⟨h0, hH, fun _ _ => Nat.le_refl _, fun x y _ _ c => absurd c (by omega), .inr ⟨rfl, rfl⟩⟩⟩
theorem yg_41 (hE : gr_In E n) (hn : n ≤ 16) {u : Nat} (hu : u < n) {ed re : Nat → Int32} (hed : mx_M 16 ed E) (hre : mx_M n re (gr_R E)) (post : Int32 → SY → Prop) (hp : ∀ r a, gr_hgt E n u r → post r (nI n, ed, re, a)) :
    ∀ f k g a h, k ≤ 40 → 40 - k < f → rs_H E n a h → hg_Q E n k h → (g = 1 ∨ (g = 0 ∧ ∀ j, hg_Q E n j h)) → wY_height_41 post (nI u) f g (nI k) (nI n) ed re a := by
  have cu : (nI u).toNatClampNeg = u := nI_clamp (by omega)
  have vu : vp_in (nI u) 16 := vp_in_nI (by omega) (by omega)
  intro f
  induction f with
  | zero => intro k g a h _ z; omega
  | succ f ih =>
    intro k g a h hk hf hH hQ hg
    refine pk_le 40 k (fun z => ?_) (fun z => ?_)
    · rw [cu, (hH u hu).1]
      exact ⟨vu, hp _ a (hg_end hE hn z hQ (hH u hu).2)⟩
    · rcases hg with rfl | ⟨rfl, hj⟩
      · refine br_f xh_10 (ys_h hE hn hed hre hH (fun g' a' h' => ?_))
        dsimp only
        obtain ⟨h', hH', h1, hP, hg'⟩ := h'
        refine nm_r (nI_1 k) (ih (k + 1) g' a' h' (by omega) (by omega) hH' (hg_s hE h1 (fun x y a1 a2 t => (hP x y a1 a2 (.inl a1)).1 t) (fun x y a1 a2 t => (hP x y a1 a2 (.inl a1)).2 t) hQ) ?_)
        rcases hg' with y | ⟨y, rfl⟩
        · exact .inl y
        · have eq : ∀ v, v < n → h' v = h v := by
            intro v hv
            have e := (hH' v hv).1.symm.trans (hH v hv).1
            have b1 := gr_Cn hE (hH' v hv).2
            have b2 := gr_Cn hE (hH v hv).2
            exact (nI_eq (by omega) (by omega)).mp e
          refine .inr ⟨y, hg_all hE (fun x y a1 a2 t => ?_) (fun x y a1 a2 t => ?_)⟩
          · rw [eq x a1]; exact (hP x y a1 a2 (.inl a1)).1 t
          · rw [eq x a1]; exact (hP x y a1 a2 (.inl a1)).2 t
      · rw [cu, (hH u hu).1]
        exact br_t rfl ⟨vu, hp _ a (hg_end hE hn (Nat.le_refl 40) (hj 40) (hH u hu).2)⟩
theorem yg_16 (hE : gr_In E n) (hn : n ≤ 16) {u : Nat} (hu : u < n) {ed re : Nat → Int32} (hed : mx_M 16 ed E) (hre : mx_M n re (gr_R E)) (post : Int32 → SY → Prop) (hp : ∀ r a, gr_hgt E n u r → post r (nI n, ed, re, a)) :
    ∀ f i a, i ≤ n → n - i < f → (∀ v, v < i → a v = 0) → wY_height_16 post (nI u) (nI n) f (nI i) ed re a := by
  intro f
  induction f with
  | zero => intro i a _ z; omega
  | succ f ih =>
    intro i a him hf hI
    refine pk_le n i (fun z => ?_) (fun z => ?_)
    · exact ⟨41, yg_41 hE hn hu hed hre post hp 41 0 1 a (fun _ => 0) (by omega) (by omega) (fun v hv => ⟨hI v (by omega), hv⟩) hg_0 (.inl rfl)⟩
    · have ci : (nI i).toNatClampNeg = i := nI_clamp (by omega)
      have vi : vp_in (nI i) 16 := vp_in_nI (by omega) (by omega)
      rw [ci]
      refine ⟨vi, nm_e (nm_r (nI_1 i) (ih (i + 1) _ (by omega) (by omega) (fun v hv => ?_)))⟩
      by_cases e : v = i
      · rw [e, pk_us]
      · rw [pk_un e]; exact hI v (by omega)
/-- what one edge more reaches, by the cells below x -/
def yy_U (E : Nat → Nat → Prop) (P : Nat → Prop) (x v : Nat) : Prop := ∃ w, v < 16 ∧ 16 * w + v < x ∧ P w ∧ E w v
theorem yy_30 (hE : gr_In E n) (hn : n ≤ 16) {u l : Nat} (hu : u < n) {at0 fn : Int32} {P : Nat → Prop} (hP : bb_S at0 P) {ed re hi : Nat → Int32} (hed : mx_M 16 ed E) (post : Int32 → Prop) (J : Int32 → Int32 → Prop)
    (h1 : (∃ w, P w ∧ E w u) → post (nI l)) (hJ : ∀ x, bb_S x (fun v => ∃ w, P w ∧ E w v) → ¬ (∃ w, P w ∧ E w u) → J x (nI (l + 1))) :
    ∀ f x s, x ≤ 256 → 256 - x < f → bb_S s (yy_U E P x) → wY_cycle_30 post J (nI u) at0 (nI l) fn ed re hi f s (nI x) := by
  intro f
  induction f with
  | zero => intro x s _ h; omega
  | succ f ih =>
    intro x s hx hf hI
    refine pk_le 256 x (fun z => ?_) (fun z => ?_)
    · have hI' : bb_S s (fun v => ∃ w, P w ∧ E w v) := bb_c hI (fun v _ => ⟨fun ⟨w, _, _, c⟩ => ⟨w, c⟩, fun ⟨w, c⟩ => ⟨w, by have := (hE w v c.2).2; omega, by have := hE w v c.2; omega, c⟩⟩)
      exact ek_if (bb_h1 hI' (l := u) (by omega)) h1 (fun y => nm_r (nI_1 l) (hJ s hI' y))
    · have cx : (nI x).toNatClampNeg = x := nI_clamp (by omega)
      have vx : vp_in (nI x) 256 := vp_in_nI z (by omega)
      have mx : ed x = 0 ↔ ¬ E (x / 16) (x % 16) := by
        have := mx_0 hed (u := x / 16) (v := x % 16) (by omega) (by omega)
        rw [yb_x] at this
        exact this
      have sk : ¬ (P (x / 16) ∧ E (x / 16) (x % 16)) → wY_cycle_30 post J (nI u) at0 (nI l) fn ed re hi f s (nI (x + 1)) := by
        intro q
        refine ih (x + 1) s (by omega) (by omega) (bb_c hI (fun v _ => ⟨fun ⟨w, a, b, c⟩ => ⟨w, a, by omega, c⟩, fun ⟨w, a, b, c⟩ => ⟨w, a, ?_, c⟩⟩))
        by_cases e : 16 * w + v = x
        · have e1 : w = x / 16 := by omega
          have e2 : v = x % 16 := by omega
          subst e1 e2
          exact absurd c q
        · omega
      rw [cx, yb_4 z, yb_15 z]
      refine ⟨vx, ek_if mx (fun y => nm_r (nI_1 x) (sk (fun q => y q.2))) (fun y => ek_if (bb_h1 hP (l := x / 16) (by omega)) (fun t => ?_) (fun t => nm_r (nI_1 x) (sk (fun q => t q.1))))⟩
      have y' : E (x / 16) (x % 16) := Classical.byContradiction y
      refine nm_e (nm_r (nI_1 x) (ih (x + 1) _ (by omega) (by omega) (bb_c (bb_or hI (bb_one (l := x % 16) (by omega))) (fun v _ => ⟨fun q => ?_, fun q => ?_⟩))))
      · rcases q with ⟨w, a, b, c⟩ | q
        · exact ⟨w, a, by omega, c⟩
        · subst q
          exact ⟨x / 16, by omega, by omega, t, y'⟩
      · obtain ⟨w, a, b, c⟩ := q
        by_cases e : 16 * w + v = x
        · exact .inr (by omega)
        · exact .inl ⟨w, a, by omega, c⟩
theorem yy_16 (hE : gr_In E n) (hn : n ≤ 16) {u : Nat} (hu : u < n) {ed re hi : Nat → Int32} (hed : mx_M 16 ed E) (post : Int32 → Prop) (hp : ∀ r, gr_cyc E n u r → post r) :
    ∀ f l s, l ≤ n → n - l < f → bb_S s (gr_W E u l) → (∀ j, 1 ≤ j → j ≤ l → ¬ gr_W E u j u) → wY_cycle_16 post (nI u) (nI n) ed re hi f s (nI (l + 1)) := by
  intro f
  induction f with
  | zero => intro l s _ z; omega
  | succ f ih =>
    intro l s hl hf hs hj
    refine pk_lt n (l + 1) (fun z => ?_) (fun z => ⟨257, ?_⟩)
    · exact hp _ (.inr ⟨rfl, fun j a b => hj j a (by omega)⟩)
    · refine yy_30 hE hn hu hs hed post (wY_cycle_16 post (nI u) (nI n) ed re hi f) (fun t => hp _ (.inl ⟨l + 1, by omega, z, rfl, t, fun j a b => hj j a (by omega)⟩)) (fun x hx t => ?_) 257 0 0 (by omega) (by omega) (bb_c bb_0 (fun v _ => ⟨fun q => q.elim, fun ⟨w, _, b, _⟩ => absurd b (Nat.not_lt_zero _)⟩))
      refine ih (l + 1) x (by omega) (by omega) hx (fun j a b => ?_)
      by_cases e : j = l + 1
      · subst e
        exact t
      · exact hj j a (by omega)
theorem yw_8 (hE : gr_In E n) (hn : n ≤ 16) {ed re hi : Nat → Int32} (hed : mx_M 16 ed E) (hre : mx_M n re (gr_R E)) (post : Int32 → SY → Prop) (hp : post (nI (cn_c (fun x => gr_O E (x / 16) (x % 16)) 256)) (nI n, ed, re, hi)) :
    ∀ f x, x ≤ 256 → 256 - x < f → wY_outerEdges_8 post (nI n) ed re hi f (nI (cn_c (fun x => gr_O E (x / 16) (x % 16)) x)) (nI x) := by
  intro f
  induction f with
  | zero => intro x _ h; omega
  | succ f ih =>
    intro x hx hf
    refine pk_le 256 x (fun z => ?_) (fun z => ?_)
    · have e : x = 256 := by omega
      subst e
      exact hp
    · have cx : (nI x).toNatClampNeg = x := nI_clamp (by omega)
      have vx : vp_in (nI x) 256 := vp_in_nI z (by omega)
      have mx : ed x = 0 ↔ ¬ E (x / 16) (x % 16) := by
        have := mx_0 hed (u := x / 16) (v := x % 16) (by omega) (by omega)
        rw [yb_x] at this
        exact this
      have h := ih (x + 1) (by omega) (by omega)
      have sk : ¬ gr_O E (x / 16) (x % 16) → wY_outerEdges_8 post (nI n) ed re hi f (nI (cn_c (fun x => gr_O E (x / 16) (x % 16)) x)) (nI (x + 1)) := by
        intro q
        rw [cn_f (p := fun x => gr_O E (x / 16) (x % 16)) q] at h
        exact h
      rw [cx, yb_4 z, yb_15 z]
      refine ⟨vx, ek_if mx (fun y => nm_r (nI_1 x) (sk (fun q => y q.1))) (fun y => ?_)⟩
      have y' : E (x / 16) (x % 16) := Classical.byContradiction y
      refine yt_b hn hre (hE _ _ y').1 (hE _ _ y').2 (fun t => nm_r (nI_1 x) (sk (fun q => q.2 t))) (fun t => ?_)
      rw [cn_t (p := fun x => gr_O E (x / 16) (x % 16)) ⟨y', t⟩] at h
      exact nm_r (nI_1 _) (nm_r (nI_1 x) h)
def yi_I (E : Nat → Nat → Prop) (n u i : Nat) : Prop := ∀ x y, x < n → y < n → (x < u ∨ (x = u ∧ y < i)) → gr_R E x y ∨ gr_R E y x
theorem yi_16 (hn : n ≤ 16) {u : Nat} (hu : u < n) (post : Int32 → SY → Prop) (J : Int32 → Prop) {ed re hi : Nat → Int32} (hre : mx_M n re (gr_R E)) (h0 : ¬ gr_line E n → post 0 (nI n, ed, re, hi)) (hJ : yi_I E n (u + 1) 0 → J (nI (u + 1))) :
    ∀ f i, i ≤ n → n - i < f → yi_I E n u i → wY_inOneLine_16 post J (nI u) (nI n) ed re hi f (nI i) := by
  intro f
  induction f with
  | zero => intro i _ h; omega
  | succ f ih =>
    intro i him hf hI
    refine pk_le n i (fun z => ?_) (fun z => ?_)
    · exact nm_r (nI_1 u) (hJ (fun x y a1 a2 c => hI x y a1 a2 (by omega)))
    · have nx : (gr_R E u i ∨ gr_R E i u) → wY_inOneLine_16 post J (nI u) (nI n) ed re hi f (nI (i + 1)) := by
        intro q
        refine ih (i + 1) (by omega) (by omega) (fun x y a1 a2 c => ?_)
        by_cases e : x = u ∧ y = i
        · rw [e.1, e.2]; exact q
        · exact hI x y a1 a2 (by omega)
      have u16 : u < 16 := by omega
      have i16 : i < 16 := by omega
      rw [yb_c u16 i16, yb_c i16 u16]
      refine ⟨yb_v u16 i16, ek_if (mx_0 hre hu z) (fun t => ⟨yb_v i16 u16, ek_if (mx_0 hre z hu) (fun s => h0 (fun l => ?_)) (fun s => nm_r (nI_1 i) (nx (.inr (Classical.byContradiction s))))⟩) (fun t => nm_r (nI_1 i) (nx (.inl (Classical.byContradiction t))))⟩
      exact (l u i hu z).elim t s
theorem yi_6 (hn : n ≤ 16) (post : Int32 → SY → Prop) {ed re hi : Nat → Int32} (hre : mx_M n re (gr_R E)) (h0 : ¬ gr_line E n → post 0 (nI n, ed, re, hi)) (h1 : gr_line E n → post 1 (nI n, ed, re, hi)) :
    ∀ f u, u ≤ n → n - u < f → yi_I E n u 0 → wY_inOneLine_6 post (nI n) ed re hi f (nI u) := by
  intro f
  induction f with
  | zero => intro u _ h; omega
  | succ f ih =>
    intro u hu hf hI
    refine pk_le n u (fun z => ?_) (fun z => ?_)
    · exact h1 (fun x y hx hy => hI x y hx hy (by omega))
    · exact ⟨n + 1, yi_16 hn z post (wY_inOneLine_6 post (nI n) ed re hi f) hre h0 (fun h => ih (u + 1) (by omega) (by omega) h) (n + 1) 0 (by omega) (by omega) hI⟩
end
