/-! by hand: what a call leaves is a state again -/
theorem wf_no {σ : Sg} {w : Nat} (h : WF σ) : WF (no σ w).1 := h.rfs
theorem wf_noL {σ : Sg} {w : Nat} (h : WF σ) : WF (noL σ w).1 := h.rfs
theorem wf_persons {σ : Sg} (v : Int32) (h : WF σ) : WF (R_persons σ v).1 := by
  obtain ⟨n, y, nt, tb, nc, ma, tf, tp, nf, rf⟩ := σ
  unfold R_persons
  dsimp only
  obtain ⟨w1, w2, w3, w4, w5, w6, w7, w8, w9, w10⟩ := id h
  split
  · exact wf_no h
  · split
    · exact wf_no h
    · rename_i c1 c2
      rcases oB_v v 1 7 with e | e | e
      · exact absurd e c1
      · exact absurd e c2
      · obtain ⟨j, k1, k2, rfl⟩ := oB_0 (by omega) e
        rw [nat3 (by omega)]
        exact ⟨k1, k2, w3, by omega, w5, by omega, fun x _ => Nat.zero_le _, fun i hi => by omega, w9, fun i hi => by omega⟩
theorem wf_mark {σ : Sg} (p v : Int32) (h : WF σ) : WF (R_mark σ p v).1 := by
  obtain ⟨n, y, nt, tb, nc, ma, tf, tp, nf, rf⟩ := σ
  unfold R_mark
  dsimp only
  obtain ⟨w1, w2, w3, w4, w5, w6, w7, w8, w9, w10⟩ := id h
  split
  · split
    · exact wf_no h
    · split
      · exact wf_no h
      · rename_i c1 c2
        rcases oB_v v 0 3 with e | e | e
        · exact absurd e c1
        · exact absurd e c2
        · obtain ⟨j, k1, k2, rfl⟩ := oB_0 (by omega) e
          rw [nat3 (by omega)]
          refine ⟨w1, w2, w3, w4, w5, w6, fun x hx => ?_, w8, w9, w10⟩
          dsimp only
          split
          · exact k2
          · exact w7 x hx
  · exact wf_no h
theorem wf_year {σ : Sg} (v : Int32) (h : WF σ) : WF (R_year σ v).1 := by
  obtain ⟨n, y, nt, tb, nc, ma, tf, tp, nf, rf⟩ := σ
  unfold R_year
  dsimp only
  obtain ⟨w1, w2, w3, w4, w5, w6, w7, w8, w9, w10⟩ := id h
  split
  · exact wf_no h
  · split
    · exact wf_no h
    · rename_i c1 c2
      rcases oB_v v 0 100 with e | e | e
      · exact absurd e c1
      · exact absurd e c2
      · obtain ⟨j, k1, k2, rfl⟩ := oB_0 (by omega) e
        rw [nat3 (by omega)]
        exact ⟨w1, w2, k2, w4, w5, w6, w7, w8, w9, w10⟩
theorem wf_gone {σ : Sg} (h : WF σ) : WF (R_gone σ).1 := by
  obtain ⟨n, y, nt, tb, nc, ma, tf, tp, nf, rf⟩ := σ
  obtain ⟨w1, w2, w3, w4, w5, w6, w7, w8, w9, w10⟩ := id h
  show WF (n, y, nt, tb, 0, ma, tf, tp, nf, rf)
  exact ⟨w1, w2, w3, w4, w5, by omega, w7, w8, w9, fun i hi => by omega⟩
theorem wf_newcomer {σ : Sg} (k x : Int32) (b : Bool) (h : WF σ) : WF (R_newcomer σ k x b).1 := by
  obtain ⟨n, y, nt, tb, nc, ma, tf, tp, nf, rf⟩ := σ
  unfold R_newcomer
  dsimp only
  obtain ⟨w1, w2, w3, w4, w5, w6, w7, w8, w9, w10⟩ := id h
  split
  · rename_i c
    split
    · obtain ⟨k', hk, rfl⟩ := inr_of (inrB_iff.mp c.1) (by omega)
      obtain ⟨x', hx, rfl⟩ := inr_of (inrB_iff.mp c.2) (by omega)
      rw [nat3 (by omega), nat3 (by omega)]
      refine ⟨w1, w2, w3, w4, w5, by omega, w7, w8, w9, fun i hi => ?_⟩
      dsimp only
      by_cases e : i = nc
      · rw [if_pos e]
        refine ⟨?_, ?_, ?_⟩
        · show (if 0 = 0 then k' else _) < 3
          rw [if_pos rfl]; exact hk
        · show (if 1 = 0 then k' else if 1 = 1 then x' else _) < n
          rw [if_neg (by decide), if_pos rfl]; exact hx
        · show (if 2 = 0 then k' else if 2 = 1 then x' else if b = true then 1 else 0) ≤ 1
          rw [if_neg (by decide), if_neg (by decide)]
          split <;> omega
      · rw [if_neg e]; exact w10 i (by omega)
    · exact wf_no h
  · exact wf_no h
theorem wf_feed {σ : Sg} (v : Int32) (b : Int64) (h : WF σ) : WF (R_feed σ v b).1 := by
  obtain ⟨n, y, nt, tb, nc, ma, tf, tp, nf, rf⟩ := σ
  unfold R_feed
  dsimp only
  obtain ⟨w1, w2, w3, w4, w5, w6, w7, w8, w9, w10⟩ := id h
  split
  · exact wf_no h
  · split
    · exact wf_no h
    · split
      · rename_i c
        refine ⟨w1, w2, w3, w4, c, w6, w7, w8, fun i hi => ?_, w10⟩
        dsimp only
        split
        · rename_i c2; exact w9 i c2
        · exact byt_lt b _
      · exact wf_no h
theorem wf_untie {σ : Sg} (v : Int32) (h : WF σ) : WF (R_untie σ v).1 := by
  obtain ⟨n, y, nt, tb, nc, ma, tf, tp, nf, rf⟩ := σ
  unfold R_untie
  dsimp only
  obtain ⟨w1, w2, w3, w4, w5, w6, w7, w8, w9, w10⟩ := id h
  split
  · refine ⟨w1, w2, w3, by omega, w5, w6, w7, fun i hi => ?_, w9, w10⟩
    dsimp only
    split
    · exact w8 i (by omega)
    · exact w8 (i + 1) (by omega)
  · exact wf_no h
theorem wf_ties {σ : Sg} (h : WF σ) : WF (R_ties σ).1 := by
  obtain ⟨n, y, nt, tb, nc, ma, tf, tp, nf, rf⟩ := σ
  unfold R_ties
  dsimp only
  obtain ⟨w1, w2, w3, w4, w5, w6, w7, w8, w9, w10⟩ := id h
  have h0 : WF (n, y, nt, 0, nc, ma, tf, tp, nf, rf) := ⟨w1, w2, w3, w4, by omega, w6, w7, w8, fun i hi => by omega, w10⟩
  split
  · split
    · rename_i c
      have hr := rda_ok (n := n) (tb := tb) (tp := tp) w2 (d := 13) (i := 0) (m := 0) (g := fun _ _ => 0) (fun u hu => by omega)
      refine ⟨w1, w2, w3, c, by omega, w6, w7, fun i hi => ?_, fun i hi => by omega, w10⟩
      dsimp only
      split
      · rename_i c2; exact w8 i c2
      · exact hr (i - nt) (by unfold rd0 at hi; omega)
    · exact wf_no h0
  · exact h0
theorem wf_tie {σ : Sg} (k x z : Int32) (h : WF σ) : WF (R_tie σ k x z).1 := by
  unfold R_tie
  repeat' split
  all_goals first | exact h | exact wf_no h
theorem wf_degree {σ : Sg} (k x : Int32) (b : Bool) (h : WF σ) : WF (R_degree σ k x b).1 := by
  unfold R_degree
  repeat' split
  all_goals first | exact h | exact wf_no h
theorem wf_parting {σ : Sg} (v : Int32) (h : WF σ) : WF (R_parting σ v).1 := by
  unfold R_parting
  repeat' split
  all_goals first | exact h | exact wf_no h
theorem wf_judge {σ : Sg} (v k : Int32) (h : WF σ) : WF (R_judge σ v k).1 := by
  unfold R_judge
  repeat' split
  all_goals first | exact h | exact wf_no h
theorem wf_coarsest {σ : Sg} (v k : Int32) (h : WF σ) : WF (R_coarsest σ v k).1 := by
  unfold R_coarsest
  repeat' split
  all_goals first | exact h | exact wf_no h
theorem wf_next {σ : Sg} (v k : Int32) (h : WF σ) : WF (R_next σ v k).1 := by
  unfold R_next
  repeat' split
  all_goals first | exact h | exact wf_no h
theorem wf_all {σ : Sg} (v : Int32) (h : WF σ) : WF (R_all σ v).1 := by
  unfold R_all
  repeat' split
  all_goals first | exact h | exact wf_no h
theorem wf_join {σ : Sg} (v w : Int32) (h : WF σ) : WF (R_join σ v w).1 := by
  unfold R_join
  repeat' split
  all_goals first | exact h | exact wf_no h
theorem wf_meet {σ : Sg} (v w : Int32) (h : WF σ) : WF (R_meet σ v w).1 := by
  unfold R_meet
  repeat' split
  all_goals first | exact h | exact wf_no h
theorem wf_picture {σ : Sg} (v a b k : Int32) (h : WF σ) : WF (R_picture σ v a b k).1 := by
  unfold R_picture
  repeat' split
  all_goals first | exact h | exact wf_no h
theorem wf_wrong {σ : Sg} (v : Int32) (h : WF σ) : WF (R_wrong σ v).1 := by
  unfold R_wrong
  repeat' split
  all_goals first | exact h | exact wf_no h
theorem wf_least {σ : Sg} (v u : Int32) (h : WF σ) : WF (R_least σ v u).1 := by
  unfold R_least
  repeat' split
  all_goals first | exact h | exact wf_no h
theorem wf_spoils {σ : Sg} (v u : Int32) (h : WF σ) : WF (R_spoils σ v u).1 := by
  unfold R_spoils
  repeat' split
  all_goals first | exact h | exact wf_no h | exact wf_noL h
theorem wf_fits {σ : Sg} (v : Int32) (h : WF σ) : WF (R_fits σ v).1 := by
  unfold R_fits
  repeat' split
  all_goals first | exact h | exact wf_no h
theorem wf_stays {σ : Sg} (v k : Int32) (h : WF σ) : WF (R_stays σ v k).1 := by
  unfold R_stays
  repeat' split
  all_goals first | exact h | exact wf_no h
theorem wf_moves {σ : Sg} (v w : Int32) (h : WF σ) : WF (R_moves σ v w).1 := by
  unfold R_moves
  repeat' split
  all_goals first | exact h | exact wf_no h
theorem wf_shift {σ : Sg} (v w k : Int32) (h : WF σ) : WF (R_shift σ v w k).1 := by
  unfold R_shift
  repeat' split
  all_goals first | exact h | exact wf_no h
theorem wf_count {σ : Sg} (v : Int32) (h : WF σ) : WF (R_count σ v).1 := h
theorem wf_renamings {σ : Sg} (h : WF σ) : WF (R_renamings σ).1 := h
theorem wf_orbits {σ : Sg} (h : WF σ) : WF (R_orbits σ).1 := h
theorem wf_form {σ : Sg} (h : WF σ) : WF (R_form σ).1 := h
