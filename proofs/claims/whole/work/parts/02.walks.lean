theorem lf_pc {p : Nat → Int32} {j : Nat} (h : j < 24) : p (nI j).toNatClampNeg = p j := congrArg p (lf_cl h)
theorem lf_uc {p : Nat → Int32} {x : Int32} {j : Nat} (h : j < 24) : upd p (nI j).toNatClampNeg x = upd p j x := by rw [lf_cl h]
theorem lf_10 : ¬ (1 : Int32) = 0 := by decide
theorem lf_m1n : (-1 : Int32) < 0 := by decide
theorem lf_isT {post : Int32 → Prop} {j : Nat} (h : j < 24) (hp : post 1) : wpX_isNode post (nI j) :=
  br_f (lf_nneg h) (br_f (lf_nge24 h) hp)
theorem lf_badF {post : Int32 → Prop} {j : Nat} (h : j < 24) (hp : post 0) : wpY_bad post (nI j) := by
  have h23 : nI j ≤ 23 := by
    have e : nI 23 = 23 := by decide +kernel
    rw [← e]
    exact nI_le (by omega) (by omega)
  exact br_f (lf_nneg h) (br_t h23 hp)
theorem lf_isF {post : Int32 → Prop} {x : Int32} (h : x < 0 ∨ (24 : Int32) ≤ x) (hp : post 0) : wpX_isNode post x := by
  by_cases h0 : x < 0
  · exact br_t h0 hp
  · exact br_f h0 (br_t (h.resolve_left h0) hp)
theorem lf_badT {post : Int32 → Prop} {x : Int32} (h : x < 0 ∨ (24 : Int32) ≤ x) (hp : post 1) : wpY_bad post x := by
  by_cases h0 : x < 0
  · exact br_t h0 hp
  · have h23 : ¬ x ≤ 23 := fun g => absurd (Int32.le_trans (h.resolve_left h0) g) (by decide)
    exact br_f h0 (br_f h23 hp)
theorem lf_ib (x : Int32) : (x < 0 ∨ (24 : Int32) ≤ x) ∨ ∃ j : Nat, j < 24 ∧ x = nI j := by
  rcases lf_ix x with h | h | h
  · exact Or.inl (Or.inl h)
  · exact Or.inl (Or.inr h)
  · exact Or.inr h
theorem lf_fill (w : Nat → Int32) (d : Nat) : ∀ (i : Nat) (p : Nat → Int32), i + d = 24 → (∀ a, a < i → p a = -1) → ∃ p' : Nat → Int32, (∀ a, a < 24 → p' a = -1) ∧ (∀ (post : SX → Prop) (n : Nat), d < n → post (p', w) → wX_init_22 post n (nI i) p w) ∧ (∀ (post : SY → Prop) (n : Nat), d < n → post (w, p') → wY_init_22 post n (nI i) w p) := by
  induction d with
  | zero =>
    intro i p hi hf
    have e : i = 24 := by omega
    subst e
    have h24 : (24 : Int32) ≤ nI 24 := by rw [lf_24]; decide
    refine ⟨p, hf, fun post n hn hp => ?_, fun post n hn hp => ?_⟩
    · cases n with
      | zero => exact absurd hn (Nat.not_lt_zero _)
      | succ n => exact br_t h24 hp
    · cases n with
      | zero => exact absurd hn (Nat.not_lt_zero _)
      | succ n => exact br_t h24 hp
  | succ d ih =>
    intro i p hi hf
    have hi' : i < 24 := by omega
    have hg : ∀ a, a < i + 1 → upd p i (-1) a = -1 := by
      intro a ha
      by_cases e : a = i
      · rw [e]; exact lf_us
      · rw [lf_un e]; exact hf a (by omega)
    obtain ⟨p', hp', hX, hY⟩ := ih (i + 1) (upd p i (-1)) (by omega) hg
    refine ⟨p', hp', fun post n hn hp => ?_, fun post n hn hp => ?_⟩
    · cases n with
      | zero => exact absurd hn (Nat.not_lt_zero _)
      | succ n => exact br_f (lf_nge24 hi') ⟨lf_inn hi', nm_r (lf_uc hi') (nm_r (nI_1 i) (hX post n (by omega) hp))⟩
    · cases n with
      | zero => exact absurd hn (Nat.not_lt_zero _)
      | succ n => exact br_f (lf_nge24 hi') ⟨lf_inn hi', nm_r (lf_uc hi') (nm_r (nI_1 i) (hY post n (by omega) hp))⟩
theorem lf_Xtop {p w : Nat → Int32} {post : Int32 → Prop} (l : List Nat) : ∀ (j i n : Nat), lf_way p (nI j) (j :: l) → i + l.length ≤ 24 → l.length < n → post (nI (lf_end j l)) → wX_topOf_4 post p w n (nI j) (nI i) := by
  induction l with
  | nil =>
    intro j i n h hi hn hp
    cases n with
    | zero => exact absurd hn (Nat.not_lt_zero _)
    | succ n => exact br_c (fun _ => hp) (fun _ => ⟨lf_inn h.2.1, br_t ((lf_pc h.2.1).trans h.2.2) hp⟩)
  | cons k l ih =>
    intro j i n h hi hn hp
    rw [List.length_cons] at hi hn
    have hj : j < 24 := h.2.1
    have h2 : lf_way p (p j) (k :: l) := h.2.2
    have hne : ¬ p (nI j).toNatClampNeg = -1 := fun e => lf_ne h2.2.1 (h2.1.symm.trans ((lf_pc hj).symm.trans e))
    cases n with
    | zero => exact absurd hn (Nat.not_lt_zero _)
    | succ n => exact br_f (lf_nge24 (by omega)) ⟨lf_inn hj, br_f hne ⟨lf_inn hj, nm_r ((lf_pc hj).trans h2.1) (nm_r (nI_1 i) (ih k (i + 1) n (lf_mk h2.2.1 h2.2.2) (by omega) (by omega) hp))⟩⟩
theorem lf_Ytop {p w : Nat → Int32} {post : Int32 → Prop} (l : List Nat) : ∀ (j n : Nat), lf_way p (nI j) (j :: l) → l.length < n → post (nI (lf_end j l)) → wY_root_11 post w p n (nI j) := by
  induction l with
  | nil =>
    intro j n h hn hp
    have hlt : p (nI j).toNatClampNeg < 0 := by
      have e : p (nI j).toNatClampNeg = -1 := (lf_pc h.2.1).trans h.2.2
      rw [e]; exact lf_m1n
    cases n with
    | zero => exact absurd hn (Nat.not_lt_zero _)
    | succ n => exact ⟨lf_inn h.2.1, br_t hlt hp⟩
  | cons k l ih =>
    intro j n h hn hp
    rw [List.length_cons] at hn
    have hj : j < 24 := h.2.1
    have h2 : lf_way p (p j) (k :: l) := h.2.2
    have hnl : ¬ p (nI j).toNatClampNeg < 0 := by
      rw [lf_pc (p := p) hj, h2.1]; exact lf_nneg h2.2.1
    cases n with
    | zero => exact absurd hn (Nat.not_lt_zero _)
    | succ n => exact ⟨lf_inn hj, br_f hnl ⟨lf_inn hj, nm_r ((lf_pc hj).trans h2.1) (ih k n (lf_mk h2.2.1 h2.2.2) (by omega) hp)⟩⟩
theorem lf_xtop {p w : Nat → Int32} {post : Int32 → Prop} {j : Nat} {l : List Nat} (h : lf_way p (nI j) (j :: l)) (hp : post (nI (lf_end j l))) : wpX_topOf post (p, w) (nI j) := by
  have g := lf_len h
  rw [List.length_cons] at g
  exact ⟨25, lf_Xtop l j 0 25 h (by omega) (by omega) hp⟩
theorem lf_ytop {p w : Nat → Int32} {post : Int32 → Prop} {j : Nat} {l : List Nat} (h : lf_way p (nI j) (j :: l)) (hp : post (nI (lf_end j l))) : wpY_root post (w, p) (nI j) := by
  have g := lf_len h
  rw [List.length_cons] at g
  unfold wpY_root
  dsimp only
  refine lf_badF h.2.1 ?_
  exact br_t rfl ⟨25, lf_Ytop l j 25 h (by omega) hp⟩
theorem lf_turn (w : Nat → Int32) (l : List Nat) : ∀ (p : Nat → Int32) (x y : Int32) (b : List Nat), lf_A p → lf_way p y l → lf_way p x b → (∀ a, a ∈ l → a ∉ b) → ∃ (r : Int32) (p' : Nat → Int32), lf_A p' ∧ (∀ (post : Int32 → SX → Prop) (i n : Nat), i + l.length ≤ 24 → l.length < n → post r (p', w) → wX_turn_16 post n x y (nI i) p w) ∧ (∀ (post : Int32 → SY → Prop) (n : Nat), l.length < n → post r (w, p') → wY_turn_13 post n x y w p) := by
  induction l with
  | nil =>
    intro p x y b hA hy hx hd
    have e : y = -1 := hy
    subst e
    refine ⟨x, p, hA, fun post i n hi hn hp => ?_, fun post n hn hp => ?_⟩
    · cases n with
      | zero => exact absurd hn (Nat.not_lt_zero _)
      | succ n => exact br_c (fun _ => hp) (fun _ => br_t rfl hp)
    · cases n with
      | zero => exact absurd hn (Nat.not_lt_zero _)
      | succ n => exact br_t lf_m1n hp
  | cons k l ih =>
    intro p x y b hA hy hx hd
    have hk : k < 24 := hy.2.1
    have e : y = nI k := hy.1
    have h2 : lf_way p (p k) l := hy.2.2
    have kl : k ∉ l := (List.nodup_cons.mp (lf_nd _ _ hy)).1
    have kb : k ∉ b := hd k List.mem_cons_self
    subst e
    have g1 : lf_A (upd p k x) := lf_mv hA hx kb
    have g2 : lf_way (upd p k x) (p k) l := lf_frame l _ h2 kl
    have g3 : lf_way (upd p k x) (nI k) (k :: b) := lf_mk hk (by rw [lf_us]; exact lf_frame b x hx kb)
    have g4 : ∀ a, a ∈ l → a ∉ k :: b := by
      intro a m q
      rcases List.mem_cons.mp q with e | q'
      · exact kl (e ▸ m)
      · exact hd a (List.mem_cons_of_mem _ m) q'
    obtain ⟨r, p', A', hX, hY⟩ := ih (upd p k x) (nI k) (p k) (k :: b) g1 g2 g3 g4
    refine ⟨r, p', A', fun post i n hi hn hp => ?_, fun post n hn hp => ?_⟩
    · rw [List.length_cons] at hi hn
      cases n with
      | zero => exact absurd hn (Nat.not_lt_zero _)
      | succ n => exact br_f (lf_nge24 (by omega)) (br_f (lf_ne hk) ⟨lf_inn hk, nm_r (lf_pc hk) ⟨lf_inn hk, nm_r (lf_uc hk) (nm_r (nI_1 i) (hX post (i + 1) n (by omega) (by omega) hp))⟩⟩)
    · rw [List.length_cons] at hn
      cases n with
      | zero => exact absurd hn (Nat.not_lt_zero _)
      | succ n => exact br_f (lf_nneg hk) ⟨lf_inn hk, nm_r (lf_pc hk) ⟨lf_inn hk, nm_r (lf_uc hk) (hY post n (by omega) hp)⟩⟩
theorem lf_paint (p : Nat → Int32) (z : Int32) (l : List Nat) : ∀ (w : Nat → Int32) (c y : Int32), lf_way p y l → ∃ (r : Int32) (w' : Nat → Int32), (∀ (post : Int32 → SX → Prop) (i n : Nat), i + l.length ≤ 24 → l.length < n → post r (p, w') → wX_paint_17 post z n c y (nI i) p w) ∧ (∀ (post : Int32 → SY → Prop) (n : Nat), l.length < n → post r (w', p) → wY_paint_14 post z n c y w p) := by
  induction l with
  | nil =>
    intro w c y hy
    have e : y = -1 := hy
    subst e
    refine ⟨c, w, fun post i n hi hn hp => ?_, fun post n hn hp => ?_⟩
    · cases n with
      | zero => exact absurd hn (Nat.not_lt_zero _)
      | succ n => exact br_c (fun _ => hp) (fun _ => br_t rfl hp)
    · cases n with
      | zero => exact absurd hn (Nat.not_lt_zero _)
      | succ n => exact br_t lf_m1n hp
  | cons k l ih =>
    intro w c y hy
    have hk : k < 24 := hy.2.1
    have e : y = nI k := hy.1
    subst e
    obtain ⟨r, w', hX, hY⟩ := ih (upd w k z) (c + 1) (p k) hy.2.2
    refine ⟨r, w', fun post i n hi hn hp => ?_, fun post n hn hp => ?_⟩
    · rw [List.length_cons] at hi hn
      cases n with
      | zero => exact absurd hn (Nat.not_lt_zero _)
      | succ n => exact br_f (lf_nge24 (by omega)) (br_f (lf_ne hk) ⟨lf_inn hk, nm_r (lf_uc hk) (nm_e ⟨lf_inn hk, nm_r (lf_pc hk) (nm_r (nI_1 i) (hX post (i + 1) n (by omega) (by omega) hp))⟩)⟩)
    · rw [List.length_cons] at hn
      cases n with
      | zero => exact absurd hn (Nat.not_lt_zero _)
      | succ n => exact br_f (lf_nneg hk) ⟨lf_inn hk, nm_r (lf_uc hk) (nm_e ⟨lf_inn hk, nm_r (lf_pc hk) (hY post n (by omega) hp)⟩)⟩
