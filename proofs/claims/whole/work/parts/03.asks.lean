theorem lf_depth (p w : Nat → Int32) (l : List Nat) : ∀ (c : Int32) (j : Nat), j < 24 → lf_way p (p j) l → ∃ r : Int32, (∀ (post : Int32 → Prop) (i n : Nat), i + l.length ≤ 24 → l.length < n → post r → wX_depth_21 post p w n c (p j) (nI i)) ∧ (∀ (post : Int32 → Prop) (n : Nat), l.length < n → post r → wY_depth_13 post w p n c (nI j)) := by
  induction l with
  | nil =>
    intro c j hj h
    have e : p j = -1 := h
    have hlt : p (nI j).toNatClampNeg < 0 := by
      rw [lf_pc (p := p) hj, e]; exact lf_m1n
    refine ⟨c, fun post i n hi hn hp => ?_, fun post n hn hp => ?_⟩
    · cases n with
      | zero => exact absurd hn (Nat.not_lt_zero _)
      | succ n => exact br_c (fun _ => hp) (fun _ => br_t e hp)
    · cases n with
      | zero => exact absurd hn (Nat.not_lt_zero _)
      | succ n => exact ⟨lf_inn hj, br_t hlt hp⟩
  | cons k l ih =>
    intro c j hj h
    have hk : k < 24 := h.2.1
    have e : p j = nI k := h.1
    have hnl : ¬ p (nI j).toNatClampNeg < 0 := by
      rw [lf_pc (p := p) hj, e]; exact lf_nneg hk
    obtain ⟨r, hX, hY⟩ := ih (c + 1) k hk h.2.2
    refine ⟨r, fun post i n hi hn hp => ?_, fun post n hn hp => ?_⟩
    · rw [List.length_cons] at hi hn
      rw [e]
      cases n with
      | zero => exact absurd hn (Nat.not_lt_zero _)
      | succ n => exact br_f (lf_nge24 (by omega)) (br_f (lf_ne hk) (nm_e ⟨lf_inn hk, nm_r (lf_pc hk) (nm_r (nI_1 i) (hX post (i + 1) n (by omega) (by omega) hp))⟩))
    · rw [List.length_cons] at hn
      cases n with
      | zero => exact absurd hn (Nat.not_lt_zero _)
      | succ n => exact ⟨lf_inn hj, br_f hnl ⟨lf_inn hj, nm_r ((lf_pc hj).trans e) (nm_e (hY post n (by omega) hp))⟩⟩
theorem lf_sumUp (p w : Nat → Int32) (l : List Nat) : ∀ (c y : Int32), lf_way p y l → ∃ r : Int32, (∀ (post : Int32 → Prop) (i n : Nat), i + l.length ≤ 24 → l.length < n → post r → wX_sumUp_16 post p w n c y (nI i)) ∧ (∀ (post : Int32 → Prop) (n : Nat), l.length < n → post r → wY_sumUp_13 post w p n c y) := by
  induction l with
  | nil =>
    intro c y hy
    have e : y = -1 := hy
    subst e
    refine ⟨c, fun post i n hi hn hp => ?_, fun post n hn hp => ?_⟩
    · cases n with
      | zero => exact absurd hn (Nat.not_lt_zero _)
      | succ n => exact br_c (fun _ => hp) (fun _ => br_t rfl hp)
    · cases n with
      | zero => exact absurd hn (Nat.not_lt_zero _)
      | succ n => exact br_t lf_m1n hp
  | cons k l ih =>
    intro c y hy
    have hk : k < 24 := hy.2.1
    have e : y = nI k := hy.1
    subst e
    obtain ⟨r, hX, hY⟩ := ih (c + w (nI k).toNatClampNeg) (p k) hy.2.2
    refine ⟨r, fun post i n hi hn hp => ?_, fun post n hn hp => ?_⟩
    · rw [List.length_cons] at hi hn
      cases n with
      | zero => exact absurd hn (Nat.not_lt_zero _)
      | succ n => exact br_f (lf_nge24 (by omega)) (br_f (lf_ne hk) ⟨lf_inn hk, nm_e ⟨lf_inn hk, nm_r (lf_pc hk) (nm_r (nI_1 i) (hX post (i + 1) n (by omega) (by omega) hp))⟩⟩)
    · rw [List.length_cons] at hn
      cases n with
      | zero => exact absurd hn (Nat.not_lt_zero _)
      | succ n => exact br_f (lf_nneg hk) ⟨lf_inn hk, nm_e ⟨lf_inn hk, nm_r (lf_pc hk) (hY post n (by omega) hp)⟩⟩
theorem lf_leastUp (p w : Nat → Int32) (l : List Nat) : ∀ (c y : Int32), lf_way p y l → ∃ r : Int32, (∀ (post : Int32 → Prop) (i n : Nat), i + l.length ≤ 24 → l.length < n → post r → wX_leastUp_26 post p w n c y (nI i)) ∧ (∀ (post : Int32 → Prop) (n : Nat), l.length < n → post r → wY_leastUp_23 post w p n c y) := by
  induction l with
  | nil =>
    intro c y hy
    have e : y = -1 := hy
    subst e
    refine ⟨c, fun post i n hi hn hp => ?_, fun post n hn hp => ?_⟩
    · cases n with
      | zero => exact absurd hn (Nat.not_lt_zero _)
      | succ n => exact br_c (fun _ => hp) (fun _ => br_t rfl hp)
    · cases n with
      | zero => exact absurd hn (Nat.not_lt_zero _)
      | succ n => exact br_t lf_m1n hp
  | cons k l ih =>
    intro c y hy
    have hk : k < 24 := hy.2.1
    have e : y = nI k := hy.1
    subst e
    by_cases hc : c ≤ w (nI k).toNatClampNeg
    · obtain ⟨r, hX, hY⟩ := ih c (p k) hy.2.2
      refine ⟨r, fun post i n hi hn hp => ?_, fun post n hn hp => ?_⟩
      · rw [List.length_cons] at hi hn
        cases n with
        | zero => exact absurd hn (Nat.not_lt_zero _)
        | succ n => exact br_f (lf_nge24 (by omega)) (br_f (lf_ne hk) ⟨lf_inn hk, br_t hc ⟨lf_inn hk, nm_r (lf_pc hk) (nm_r (nI_1 i) (hX post (i + 1) n (by omega) (by omega) hp))⟩⟩)
      · rw [List.length_cons] at hn
        cases n with
        | zero => exact absurd hn (Nat.not_lt_zero _)
        | succ n => exact br_f (lf_nneg hk) ⟨lf_inn hk, br_t hc ⟨lf_inn hk, nm_r (lf_pc hk) (hY post n (by omega) hp)⟩⟩
    · obtain ⟨r, hX, hY⟩ := ih (w (nI k).toNatClampNeg) (p k) hy.2.2
      refine ⟨r, fun post i n hi hn hp => ?_, fun post n hn hp => ?_⟩
      · rw [List.length_cons] at hi hn
        cases n with
        | zero => exact absurd hn (Nat.not_lt_zero _)
        | succ n => exact br_f (lf_nge24 (by omega)) (br_f (lf_ne hk) ⟨lf_inn hk, br_f hc ⟨lf_inn hk, nm_e ⟨lf_inn hk, nm_r (lf_pc hk) (nm_r (nI_1 i) (hX post (i + 1) n (by omega) (by omega) hp))⟩⟩⟩)
      · rw [List.length_cons] at hn
        cases n with
        | zero => exact absurd hn (Nat.not_lt_zero _)
        | succ n => exact br_f (lf_nneg hk) ⟨lf_inn hk, br_f hc ⟨lf_inn hk, nm_e ⟨lf_inn hk, nm_r (lf_pc hk) (hY post n (by omega) hp)⟩⟩⟩
theorem lf_on (p w : Nat → Int32) {s : Nat} (hs : s < 24) (l : List Nat) : ∀ (y : Int32), lf_way p y l → ∃ r : Int32, (∀ (post : Int32 → Prop) (i n : Nat), i + l.length ≤ 24 → l.length < n → post r → wX_isOnWay_5 post (nI s) p w n y (nI i)) ∧ (∀ (post : Int32 → Prop) (n : Nat), l.length < n → post r → wY_onWay_2 post (nI s) w p n y) := by
  induction l with
  | nil =>
    intro y hy
    have e : y = -1 := hy
    subst e
    have hne : ¬ (-1 : Int32) = nI s := fun q => lf_ne hs q.symm
    refine ⟨0, fun post i n hi hn hp => ?_, fun post n hn hp => ?_⟩
    · cases n with
      | zero => exact absurd hn (Nat.not_lt_zero _)
      | succ n => exact br_c (fun _ => hp) (fun _ => br_t rfl hp)
    · cases n with
      | zero => exact absurd hn (Nat.not_lt_zero _)
      | succ n => exact br_t lf_m1n (br_f hne hp)
  | cons k l ih =>
    intro y hy
    have hk : k < 24 := hy.2.1
    have e : y = nI k := hy.1
    subst e
    by_cases hc : nI k = nI s
    · refine ⟨1, fun post i n hi hn hp => ?_, fun post n hn hp => ?_⟩
      · rw [List.length_cons] at hi hn
        cases n with
        | zero => exact absurd hn (Nat.not_lt_zero _)
        | succ n => exact br_f (lf_nge24 (by omega)) (br_f (lf_ne hk) (br_t hc hp))
      · cases n with
        | zero => exact absurd hn (Nat.not_lt_zero _)
        | succ n => exact br_f (lf_nneg hk) (br_t hc (br_t hc hp))
    · obtain ⟨r, hX, hY⟩ := ih (p k) hy.2.2
      refine ⟨r, fun post i n hi hn hp => ?_, fun post n hn hp => ?_⟩
      · rw [List.length_cons] at hi hn
        cases n with
        | zero => exact absurd hn (Nat.not_lt_zero _)
        | succ n => exact br_f (lf_nge24 (by omega)) (br_f (lf_ne hk) (br_f hc ⟨lf_inn hk, nm_r (lf_pc hk) (nm_r (nI_1 i) (hX post (i + 1) n (by omega) (by omega) hp))⟩))
      · rw [List.length_cons] at hn
        cases n with
        | zero => exact absurd hn (Nat.not_lt_zero _)
        | succ n => exact br_f (lf_nneg hk) (br_f hc ⟨lf_inn hk, nm_r (lf_pc hk) (hY post n (by omega) hp)⟩)
theorem lf_onw {p : Nat → Int32} (w : Nat → Int32) (hA : lf_A p) {s j : Nat} (hs : s < 24) (hj : j < 24) : ∃ r : Int32, (∀ post : Int32 → Prop, post r → wpX_isOnWay post (p, w) (nI s) (nI j)) ∧ (∀ post : Int32 → Prop, post r → wpY_onWay post (w, p) (nI s) (nI j)) := by
  obtain ⟨l, hl⟩ := hA j hj
  have g := lf_len hl
  obtain ⟨r, hX, hY⟩ := lf_on p w hs l (nI j) hl
  exact ⟨r, fun post hp => ⟨25, hX post 0 25 (by omega) (by omega) hp⟩, fun post hp => ⟨25, hY post 25 (by omega) hp⟩⟩
theorem lf_meet {p : Nat → Int32} (w : Nat → Int32) (hA : lf_A p) {b : Nat} (hb : b < 24) (l : List Nat) : ∀ (y : Int32), lf_way p y l → ∃ r : Int32, (∀ (post : Int32 → Prop) (i n : Nat), i + l.length ≤ 24 → l.length < n → post r → wX_meet_21 post (nI b) p w n y (nI i)) ∧ (∀ (post : Int32 → Prop) (n : Nat), l.length < n → post r → wY_meet_18 post (nI b) w p n y) := by
  induction l with
  | nil =>
    intro y hy
    have e : y = -1 := hy
    subst e
    refine ⟨-1, fun post i n hi hn hp => ?_, fun post n hn hp => ?_⟩
    · cases n with
      | zero => exact absurd hn (Nat.not_lt_zero _)
      | succ n => exact br_c (fun _ => hp) (fun _ => br_t rfl hp)
    · cases n with
      | zero => exact absurd hn (Nat.not_lt_zero _)
      | succ n => exact br_t lf_m1n hp
  | cons k l ih =>
    intro y hy
    have hk : k < 24 := hy.2.1
    have e : y = nI k := hy.1
    subst e
    obtain ⟨q, qX, qY⟩ := lf_onw w hA hk hb
    by_cases hq : q = 0
    · obtain ⟨r, hX, hY⟩ := ih (p k) hy.2.2
      refine ⟨r, fun post i n hi hn hp => ?_, fun post n hn hp => ?_⟩
      · rw [List.length_cons] at hi hn
        cases n with
        | zero => exact absurd hn (Nat.not_lt_zero _)
        | succ n => exact br_f (lf_nge24 (by omega)) (br_f (lf_ne hk) (qX _ (br_t hq ⟨lf_inn hk, nm_r (lf_pc hk) (nm_r (nI_1 i) (hX post (i + 1) n (by omega) (by omega) hp))⟩)))
      · rw [List.length_cons] at hn
        cases n with
        | zero => exact absurd hn (Nat.not_lt_zero _)
        | succ n => exact br_f (lf_nneg hk) (qY _ (br_t hq ⟨lf_inn hk, nm_r (lf_pc hk) (hY post n (by omega) hp)⟩))
    · refine ⟨nI k, fun post i n hi hn hp => ?_, fun post n hn hp => ?_⟩
      · rw [List.length_cons] at hi hn
        cases n with
        | zero => exact absurd hn (Nat.not_lt_zero _)
        | succ n => exact br_f (lf_nge24 (by omega)) (br_f (lf_ne hk) (qX _ (br_f hq hp)))
      · cases n with
        | zero => exact absurd hn (Nat.not_lt_zero _)
        | succ n => exact br_f (lf_nneg hk) (qY _ (br_f hq hp))
theorem lf_sumPart {p : Nat → Int32} (w : Nat → Int32) (hA : lf_A p) {s : Nat} (hs : s < 24) (d : Nat) : ∀ (i : Nat) (c : Int32), i + d = 24 → ∃ r : Int32, (∀ (post : Int32 → Prop) (n : Nat), d < n → post r → wX_sumPart_13 post (nI s) p w n c (nI i)) ∧ (∀ (post : Int32 → Prop) (n : Nat), d < n → post r → wY_sumPart_13 post (nI s) w p n c (nI i)) := by
  induction d with
  | zero =>
    intro i c hi
    have e : i = 24 := by omega
    subst e
    have h24 : (24 : Int32) ≤ nI 24 := by rw [lf_24]; decide
    refine ⟨c, fun post n hn hp => ?_, fun post n hn hp => ?_⟩
    · cases n with
      | zero => exact absurd hn (Nat.not_lt_zero _)
      | succ n => exact br_t h24 hp
    · cases n with
      | zero => exact absurd hn (Nat.not_lt_zero _)
      | succ n => exact br_t h24 hp
  | succ d ih =>
    intro i c hi
    have hi' : i < 24 := by omega
    obtain ⟨q, qX, qY⟩ := lf_onw w hA hs hi'
    by_cases hq : q = 0
    · obtain ⟨r, hX, hY⟩ := ih (i + 1) c (by omega)
      refine ⟨r, fun post n hn hp => ?_, fun post n hn hp => ?_⟩
      · cases n with
        | zero => exact absurd hn (Nat.not_lt_zero _)
        | succ n => exact br_f (lf_nge24 hi') (qX _ (br_t hq (nm_r (nI_1 i) (hX post n (by omega) hp))))
      · cases n with
        | zero => exact absurd hn (Nat.not_lt_zero _)
        | succ n => exact br_f (lf_nge24 hi') (qY _ (br_t hq (nm_r (nI_1 i) (hY post n (by omega) hp))))
    · obtain ⟨r, hX, hY⟩ := ih (i + 1) (c + w (nI i).toNatClampNeg) (by omega)
      refine ⟨r, fun post n hn hp => ?_, fun post n hn hp => ?_⟩
      · cases n with
        | zero => exact absurd hn (Nat.not_lt_zero _)
        | succ n => exact br_f (lf_nge24 hi') (qX _ (br_f hq ⟨lf_inn hi', nm_e (nm_r (nI_1 i) (hX post n (by omega) hp))⟩))
      · cases n with
        | zero => exact absurd hn (Nat.not_lt_zero _)
        | succ n => exact br_f (lf_nge24 hi') (qY _ (br_f hq ⟨lf_inn hi', nm_e (nm_r (nI_1 i) (hY post n (by omega) hp))⟩))
