/-- both sides hold the same parents and the same values, and every way upwards ends -/
def i_Rel (k : Nat) (u : SX) (v : SY) : Prop := ∃ p w : Nat → Int32, u = (p, w) ∧ v = (w, p) ∧ lf_A p
theorem i_up {k : Nat} {u : SX} {v : SY} (h : i_Rel k u v) : i_Rel (k + 3) u v := h
theorem lf_rel {k : Nat} {p w : Nat → Int32} (h : lf_A p) : i_Rel k (p, w) (w, p) := ⟨p, w, rfl, rfl, h⟩
theorem i_vc0 : wpX_init (fun u => wpY_init (fun v => i_Rel 0 u v)) := by
  obtain ⟨p, hp, hX, hY⟩ := lf_fill (fun _ => 0) 24 0 (fun _ => 0) rfl (fun a h => absurd h (Nat.not_lt_zero a))
  have hA : lf_A p := fun j hj => ⟨[j], rfl, hj, hp j hj⟩
  refine ⟨25, hX _ 25 (by omega) ?_⟩
  exact ⟨25, hY _ 25 (by omega) (lf_rel hA)⟩
theorem i_vc_link {k : Nat} {u : SX} {v : SY} (I : i_Rel k u v) (hk : k + 3 ≤ 1536) (v1 : Int32) (v2 : Int32) : wpX_link (fun r u' => wpY_link (fun r' v' => r' = r ∧ i_Rel (k + 3) u' v') v v1 v2) u v1 v2 := by
  obtain ⟨p, w, rfl, rfl, hA⟩ := I
  unfold wpX_link wpY_link
  dsimp only
  rcases lf_ib v1 with hb | ⟨c, hc, rfl⟩
  · refine lf_isF hb (br_t rfl ?_)
    exact lf_badT hb (br_f lf_10 ⟨rfl, lf_rel hA⟩)
  · refine lf_isT hc (br_f lf_10 ?_)
    rcases lf_ib v2 with hb | ⟨q, hq, rfl⟩
    · refine lf_isF hb (br_t rfl ?_)
      refine lf_badF hc (br_t rfl ?_)
      exact lf_badT hb (br_f lf_10 ⟨rfl, lf_rel hA⟩)
    · refine lf_isT hq (br_f lf_10 ⟨lf_inn hc, ?_⟩)
      rcases lf_at hA hc with e | ⟨i, hi, e⟩
      · have e1 : p (nI c).toNatClampNeg = -1 := (lf_pc hc).trans e
        have e2 : ¬ (0 : Int32) ≤ p (nI c).toNatClampNeg := by rw [e1]; exact lf_m1
        obtain ⟨l, hl⟩ := hA q hq
        obtain ⟨t, rfl, -⟩ := lf_cons hq hl
        refine br_t e1 (lf_xtop hl ?_)
        by_cases g : nI (lf_end q t) = nI c
        · refine br_t g ?_
          refine lf_badF hc (br_t rfl ?_)
          refine lf_badF hq (br_t rfl ⟨lf_inn hc, br_f e2 ?_⟩)
          exact lf_ytop hl (br_t g ⟨rfl, lf_rel hA⟩)
        · have hn : c ∉ q :: t := fun m => g (congrArg nI (lf_endmem e t q hl m))
          refine br_f g ⟨lf_inn hc, nm_r (lf_uc hc) ?_⟩
          refine lf_badF hc (br_t rfl ?_)
          refine lf_badF hq (br_t rfl ⟨lf_inn hc, br_f e2 ?_⟩)
          exact lf_ytop hl (br_f g ⟨lf_inn hc, nm_r (lf_uc hc) ⟨rfl, lf_rel (lf_mv hA hl hn)⟩⟩)
      · have e1 : ¬ p (nI c).toNatClampNeg = -1 := by rw [lf_pc (p := p) hc, e]; exact lf_ne hi
        have e2 : (0 : Int32) ≤ p (nI c).toNatClampNeg := by rw [lf_pc (p := p) hc, e]; exact lf_ge hi
        refine br_f e1 ?_
        refine lf_badF hc (br_t rfl ?_)
        exact lf_badF hq (br_t rfl ⟨lf_inn hc, br_t e2 ⟨rfl, lf_rel hA⟩⟩)
theorem i_vc_cut {k : Nat} {u : SX} {v : SY} (I : i_Rel k u v) (hk : k + 3 ≤ 1536) (v1 : Int32) : wpX_cut (fun r u' => wpY_cut (fun r' v' => r' = r ∧ i_Rel (k + 3) u' v') v v1) u v1 := by
  obtain ⟨p, w, rfl, rfl, hA⟩ := I
  unfold wpX_cut wpY_cut
  dsimp only
  rcases lf_ib v1 with hb | ⟨c, hc, rfl⟩
  · refine lf_isF hb (br_t rfl ?_)
    exact lf_badT hb (br_f lf_10 ⟨rfl, lf_rel hA⟩)
  · refine lf_isT hc (br_f lf_10 ⟨lf_inn hc, nm_e ⟨lf_inn hc, nm_r (lf_uc hc) ?_⟩⟩)
    have h0 : lf_way p (-1) [] := rfl
    exact lf_badF hc (br_t rfl ⟨lf_inn hc, nm_e ⟨lf_inn hc, nm_r (lf_uc hc) ⟨rfl, lf_rel (lf_mv hA h0 List.not_mem_nil)⟩⟩⟩)
theorem i_vc_turn {k : Nat} {u : SX} {v : SY} (I : i_Rel k u v) (hk : k + 3 ≤ 1536) (v1 : Int32) : wpX_turn (fun r u' => wpY_turn (fun r' v' => r' = r ∧ i_Rel (k + 3) u' v') v v1) u v1 := by
  obtain ⟨p, w, rfl, rfl, hA⟩ := I
  unfold wpX_turn wpY_turn
  dsimp only
  rcases lf_ib v1 with hb | ⟨c, hc, rfl⟩
  · refine lf_isF hb (br_t rfl ?_)
    exact lf_badT hb (br_f lf_10 ⟨rfl, lf_rel hA⟩)
  · obtain ⟨l, hl⟩ := hA c hc
    have g := lf_len hl
    have h0 : lf_way p (-1) [] := rfl
    obtain ⟨r, p', hA', hX, hY⟩ := lf_turn w l p (-1) (nI c) [] hA hl h0 (fun _ _ => List.not_mem_nil)
    refine lf_isT hc (br_f lf_10 ⟨25, hX _ 0 25 (by omega) (by omega) ?_⟩)
    exact lf_badF hc (br_t rfl ⟨25, hY _ 25 (by omega) ⟨rfl, lf_rel hA'⟩⟩)
theorem i_vc_set {k : Nat} {u : SX} {v : SY} (I : i_Rel k u v) (hk : k + 3 ≤ 1536) (v1 : Int32) (v2 : Int32) : wpX_set (fun r u' => wpY_set (fun r' v' => r' = r ∧ i_Rel (k + 3) u' v') v v1 v2) u v1 v2 := by
  obtain ⟨p, w, rfl, rfl, hA⟩ := I
  unfold wpX_set wpY_set
  dsimp only
  rcases lf_ib v1 with hb | ⟨c, hc, rfl⟩
  · refine lf_isF hb (br_t rfl ?_)
    exact lf_badT hb (br_f lf_10 ⟨rfl, lf_rel hA⟩)
  · refine lf_isT hc (br_f lf_10 ⟨lf_inn hc, nm_e ⟨lf_inn hc, nm_e ?_⟩⟩)
    exact lf_badF hc (br_t rfl ⟨lf_inn hc, nm_e ⟨lf_inn hc, nm_e ⟨rfl, lf_rel hA⟩⟩⟩)
theorem i_vc_paint {k : Nat} {u : SX} {v : SY} (I : i_Rel k u v) (hk : k + 3 ≤ 1536) (v1 : Int32) (v2 : Int32) : wpX_paint (fun r u' => wpY_paint (fun r' v' => r' = r ∧ i_Rel (k + 3) u' v') v v1 v2) u v1 v2 := by
  obtain ⟨p, w, rfl, rfl, hA⟩ := I
  unfold wpX_paint wpY_paint
  dsimp only
  rcases lf_ib v1 with hb | ⟨c, hc, rfl⟩
  · refine lf_isF hb (br_t rfl ?_)
    exact lf_badT hb (br_f lf_10 ⟨rfl, lf_rel hA⟩)
  · obtain ⟨l, hl⟩ := hA c hc
    have g := lf_len hl
    obtain ⟨r, w', hX, hY⟩ := lf_paint p v2 l w 0 (nI c) hl
    refine lf_isT hc (br_f lf_10 ⟨25, hX _ 0 25 (by omega) (by omega) ?_⟩)
    exact lf_badF hc (br_t rfl ⟨25, hY _ 25 (by omega) ⟨rfl, lf_rel hA⟩⟩)
theorem i_vc_root {k : Nat} {u : SX} {v : SY} (I : i_Rel k u v) (hk : k + 3 ≤ 1536) (v1 : Int32) : wpX_root (fun r => wpY_root (fun r' => r' = r ∧ i_Rel (k + 3) u v) v v1) u v1 := by
  obtain ⟨p, w, rfl, rfl, hA⟩ := I
  unfold wpX_root
  dsimp only
  rcases lf_ib v1 with hb | ⟨c, hc, rfl⟩
  · refine lf_isF hb (br_t rfl ?_)
    unfold wpY_root
    dsimp only
    exact lf_badT hb (br_f lf_10 ⟨rfl, lf_rel hA⟩)
  · obtain ⟨l, hl⟩ := hA c hc
    obtain ⟨t, rfl, -⟩ := lf_cons hc hl
    refine lf_isT hc (br_f lf_10 (lf_xtop hl ?_))
    exact lf_ytop hl ⟨rfl, lf_rel hA⟩
theorem i_vc_parent {k : Nat} {u : SX} {v : SY} (I : i_Rel k u v) (hk : k + 3 ≤ 1536) (v1 : Int32) : wpX_parent (fun r => wpY_parent (fun r' => r' = r ∧ i_Rel (k + 3) u v) v v1) u v1 := by
  obtain ⟨p, w, rfl, rfl, hA⟩ := I
  unfold wpX_parent wpY_parent
  dsimp only
  rcases lf_ib v1 with hb | ⟨c, hc, rfl⟩
  · refine lf_isF hb (br_t rfl ?_)
    exact lf_badT hb (br_f lf_10 ⟨rfl, lf_rel hA⟩)
  · refine lf_isT hc (br_f lf_10 ⟨lf_inn hc, ?_⟩)
    exact lf_badF hc (br_t rfl ⟨lf_inn hc, rfl, lf_rel hA⟩)
theorem i_vc_depth {k : Nat} {u : SX} {v : SY} (I : i_Rel k u v) (hk : k + 3 ≤ 1536) (v1 : Int32) : wpX_depth (fun r => wpY_depth (fun r' => r' = r ∧ i_Rel (k + 3) u v) v v1) u v1 := by
  obtain ⟨p, w, rfl, rfl, hA⟩ := I
  unfold wpX_depth wpY_depth
  dsimp only
  rcases lf_ib v1 with hb | ⟨c, hc, rfl⟩
  · refine lf_isF hb (br_t rfl ?_)
    exact lf_badT hb (br_f lf_10 ⟨rfl, lf_rel hA⟩)
  · obtain ⟨l, hl⟩ := hA c hc
    obtain ⟨t, rfl, ht⟩ := lf_cons hc hl
    have g := lf_len ht
    obtain ⟨r, hX, hY⟩ := lf_depth p w t 0 c hc ht
    refine lf_isT hc (br_f lf_10 ⟨lf_inn hc, nm_r (lf_pc hc) ⟨25, hX _ 0 25 (by omega) (by omega) ?_⟩⟩)
    exact lf_badF hc (br_t rfl ⟨25, hY _ 25 (by omega) ⟨rfl, lf_rel hA⟩⟩)
theorem i_vc_sumUp {k : Nat} {u : SX} {v : SY} (I : i_Rel k u v) (hk : k + 3 ≤ 1536) (v1 : Int32) : wpX_sumUp (fun r => wpY_sumUp (fun r' => r' = r ∧ i_Rel (k + 3) u v) v v1) u v1 := by
  obtain ⟨p, w, rfl, rfl, hA⟩ := I
  unfold wpX_sumUp wpY_sumUp
  dsimp only
  rcases lf_ib v1 with hb | ⟨c, hc, rfl⟩
  · refine lf_isF hb (br_t rfl ?_)
    exact lf_badT hb (br_f lf_10 ⟨rfl, lf_rel hA⟩)
  · obtain ⟨l, hl⟩ := hA c hc
    have g := lf_len hl
    obtain ⟨r, hX, hY⟩ := lf_sumUp p w l 0 (nI c) hl
    refine lf_isT hc (br_f lf_10 ⟨25, hX _ 0 25 (by omega) (by omega) ?_⟩)
    exact lf_badF hc (br_t rfl ⟨25, hY _ 25 (by omega) ⟨rfl, lf_rel hA⟩⟩)
theorem i_vc_leastUp {k : Nat} {u : SX} {v : SY} (I : i_Rel k u v) (hk : k + 3 ≤ 1536) (v1 : Int32) : wpX_leastUp (fun r => wpY_leastUp (fun r' => r' = r ∧ i_Rel (k + 3) u v) v v1) u v1 := by
  obtain ⟨p, w, rfl, rfl, hA⟩ := I
  unfold wpX_leastUp wpY_leastUp
  dsimp only
  rcases lf_ib v1 with hb | ⟨c, hc, rfl⟩
  · refine lf_isF hb (br_t rfl ?_)
    exact lf_badT hb (br_f lf_10 ⟨rfl, lf_rel hA⟩)
  · obtain ⟨l, hl⟩ := hA c hc
    obtain ⟨t, rfl, ht⟩ := lf_cons hc hl
    have g := lf_len ht
    obtain ⟨r, hX, hY⟩ := lf_leastUp p w t (w c) (p c) ht
    refine lf_isT hc (br_f lf_10 ⟨lf_inn hc, nm_r (lf_pc hc) ⟨lf_inn hc, nm_r (lf_pc hc) ⟨25, hX _ 0 25 (by omega) (by omega) ?_⟩⟩⟩)
    exact lf_badF hc (br_t rfl ⟨lf_inn hc, nm_r (lf_pc hc) ⟨lf_inn hc, nm_r (lf_pc hc) ⟨25, hY _ 25 (by omega) ⟨rfl, lf_rel hA⟩⟩⟩⟩)
theorem i_vc_meet {k : Nat} {u : SX} {v : SY} (I : i_Rel k u v) (hk : k + 3 ≤ 1536) (v1 : Int32) (v2 : Int32) : wpX_meet (fun r => wpY_meet (fun r' => r' = r ∧ i_Rel (k + 3) u v) v v1 v2) u v1 v2 := by
  obtain ⟨p, w, rfl, rfl, hA⟩ := I
  unfold wpX_meet wpY_meet
  dsimp only
  rcases lf_ib v1 with hb | ⟨c, hc, rfl⟩
  · refine lf_isF hb (br_t rfl ?_)
    exact lf_badT hb (br_f lf_10 ⟨rfl, lf_rel hA⟩)
  · refine lf_isT hc (br_f lf_10 ?_)
    rcases lf_ib v2 with hb | ⟨q, hq, rfl⟩
    · refine lf_isF hb (br_t rfl ?_)
      refine lf_badF hc (br_t rfl ?_)
      exact lf_badT hb (br_f lf_10 ⟨rfl, lf_rel hA⟩)
    · obtain ⟨l, hl⟩ := hA c hc
      have g := lf_len hl
      obtain ⟨r, hX, hY⟩ := lf_meet w hA hq l (nI c) hl
      refine lf_isT hq (br_f lf_10 ⟨25, hX _ 0 25 (by omega) (by omega) ?_⟩)
      refine lf_badF hc (br_t rfl ?_)
      exact lf_badF hq (br_t rfl ⟨25, hY _ 25 (by omega) ⟨rfl, lf_rel hA⟩⟩)
theorem i_vc_sumPart {k : Nat} {u : SX} {v : SY} (I : i_Rel k u v) (hk : k + 3 ≤ 1536) (v1 : Int32) : wpX_sumPart (fun r => wpY_sumPart (fun r' => r' = r ∧ i_Rel (k + 3) u v) v v1) u v1 := by
  obtain ⟨p, w, rfl, rfl, hA⟩ := I
  unfold wpX_sumPart wpY_sumPart
  dsimp only
  rcases lf_ib v1 with hb | ⟨c, hc, rfl⟩
  · refine lf_isF hb (br_t rfl ?_)
    exact lf_badT hb (br_f lf_10 ⟨rfl, lf_rel hA⟩)
  · obtain ⟨r, hX, hY⟩ := lf_sumPart w hA hc 24 0 0 rfl
    refine lf_isT hc (br_f lf_10 ⟨25, hX _ 25 (by omega) ?_⟩)
    exact lf_badF hc (br_t rfl ⟨25, hY _ 25 (by omega) ⟨rfl, lf_rel hA⟩⟩)
