/-! by hand: the class's smallest methods -/
theorem aln_lt (k : Nat) (h : isA k) : aln k < 2 ^ 31 := by
  have : ∀ k, k < 61 → aln k < 2 ^ 31 := by decide +kernel
  exact this k h.1
theorem alnP {k : Nat} (h : isP k) : aln (k + 1) = 7 := by unfold aln; rw [h.2.2]
theorem alnT {k : Nat} (h : isT k) : aln (k + 1) = 360 := by unfold aln; rw [h.2.2]
theorem SP_at_v {k : Nat} {v : Int32} {M : Mem} (h31 : aln k < 2 ^ 31) : SP_at k v M = some (if inrB v (aln k) = true then rd M k v else 0) := by
  unfold SP_at
  show (if v < 0 then some 0 else if nI (aln k) ≤ v then some 0 else if inb v (aln k) then some (rd M k v) else none) = _
  rw [rng h31]
  by_cases h : inr v (aln k)
  · have hb : inb v (aln k) := vp_in_iff.mpr h
    simp only [inrB_iff.mpr h, if_true, if_pos hb]
  · have : ¬ inrB v (aln k) = true := fun z => h (inrB_iff.mp z)
    simp only [if_neg this]
theorem SP_put_v {k : Nat} {v w : Int32} {M : Mem} (h31 : aln k < 2 ^ 31) : SP_put k v w M = some (if inrB v (aln k) = true then wr M k v w else M) := by
  unfold SP_put
  show (if v < 0 then some M else if nI (aln k) ≤ v then some M else if inb v (aln k) then nm (wr M k v w) (fun M1 => some M1) else none) = _
  rw [rng h31]
  by_cases h : inr v (aln k)
  · have hb : inb v (aln k) := vp_in_iff.mpr h
    simp only [inrB_iff.mpr h, if_true, if_pos hb, nm]
  · have : ¬ inrB v (aln k) = true := fun z => h (inrB_iff.mp z)
    simp only [if_neg this]
theorem inrB_nI {j n : Nat} (h : j < n) (hn : n < 2 ^ 31) : inrB (nI j) n = true := inrB_iff.mpr ((inr_nI (by omega)).mpr h)
theorem SP_at_nI {k j : Nat} {M : Mem} (hj : j < aln k) (h31 : aln k < 2 ^ 31) : SP_at k (nI j) M = some (M k j) := by
  rw [SP_at_v h31, if_pos (inrB_nI hj h31), rd_nI (by omega)]
theorem SP_put_nI {k j : Nat} {w : Int32} {M : Mem} (hj : j < aln k) (h31 : aln k < 2 ^ 31) : SP_put k (nI j) w M = some (st2 M k j w) := by
  rw [SP_put_v h31, if_pos (inrB_nI hj h31), wr_nI (by omega)]
theorem SP_addTo_nI {k j : Nat} {w : Int32} {M : Mem} (hj : j < aln k) (h31 : aln k < 2 ^ 31) : SP_addTo k (nI j) w M = some (st2 M k j (M k j + w)) := by
  unfold SP_addTo
  simp only [SP_at_nI hj h31, SP_put_nI hj h31, bind_s]
theorem SP_wipe_eq {k : Nat} {M : Mem} (h31 : aln k < 1000000) : wp (SP_wipe k M) (fun M' => Fr [k] M M' ∧ ∀ j, M' k j = if j < aln k then 0 else M k j) := by
  unfold SP_wipe
  refine LOOP_up (fun x (m : Mem) => (nI x, m)) (aln k) (by omega) (fun x m => Fr [k] M m ∧ ∀ j, m k j = if j < x then 0 else M k j) (fun o => wp o _) ?_ ?_ 0 M (Nat.zero_le _) ⟨Fr.rf, by simp⟩
  · rintro x m ag hx ⟨hf, hm⟩ ih
    show wp (SP_wipe_L7 k _ ag (nI x) m) _
    unfold SP_wipe_L7
    show wp (if nI (aln k) ≤ nI x then _ else _) _
    simp (disch := omega) only [nI_leI, inb_nI, wr_nI, hx, if_true, show ¬ aln k ≤ x by omega, if_false, nm_e', i32lit 1, nI_add]
    refine ih _ ⟨hf.tr (Fr.st (by simp)), fun j => ?_⟩
    rw [st2_s]
    by_cases h : j = x
    · subst h; rw [upd_s, if_pos (by omega)]
    · rw [upd_n h, hm j]
      by_cases h2 : j < x
      · rw [if_pos h2, if_pos (by omega)]
      · rw [if_neg h2, if_neg (by omega)]
  · rintro m ag ⟨hf, hm⟩
    show wp (SP_wipe_L7 k _ ag (nI (aln k)) m) _
    unfold SP_wipe_L7
    show wp (if nI (aln k) ≤ nI (aln k) then _ else _) _
    simp (disch := omega) only [nI_leI, Nat.le_refl, if_true]
    exact wp_some ⟨hf, hm⟩
theorem SP_isKind_eq {v : Int32} : SP_isKind v = some (cI (inrB v 3 = true)) := by
  unfold SP_isKind
  rw [show (3 : Int32) = nI 3 from rfl, rng (by omega)]
  unfold cI; split <;> rfl
theorem SP_isSameness_eq {v : Int32} : SP_isSameness v = some (cI (inrB v 5 = true)) := by
  unfold SP_isSameness
  rw [show (5 : Int32) = nI 5 from rfl, rng (by omega)]
  unfold cI; split <;> rfl
theorem To_lives_eq {v : Int32} {M : Mem} {n : Nat} (hn : M 1 2 = nI n) (h7 : n ≤ 7) : To_lives v M = some (cI (inrB v n = true)) := by
  unfold To_lives
  rw [hn, rng (by omega)]
  unfold cI; split <;> rfl
theorem Pa_has_eq {v : Int32} {M : Mem} {q : Nat} (hn : M 26 2 = nI q) (h7 : q ≤ 7) : Pa_has v M = some (cI (inrB v q = true)) := by
  unfold Pa_has
  rw [hn, rng (by omega)]
  unfold cI; split <;> rfl
theorem Pa_of_nI {k j : Nat} {M : Mem} (hk : isP k) (hj : j < 7) : Pa_of k (nI j) M = some (M (k + 1) j) := by
  have h := alnP hk
  unfold Pa_of
  rw [SP_at_nI (by omega) (by omega)]
  rfl
theorem Td_field_nI {k i j : Nat} {M : Mem} (hk : isT k) (hi : i < 60) (hj : j < 6) : Td_field k (nI i) (nI j) M = some (M (k + 1) (i * 6 + j)) := by
  have h := alnT hk
  unfold Td_field
  rw [show (6 : Int32) = nI 6 from rfl, pk_mul, nI_add, SP_at_nI (by omega) (by omega)]
  rfl
/-- a table of strengths in the row k -/
def Tbl (M : Mem) (k : Nat) (S : Nat → Nat) : Prop := ∀ c, c < 147 → M k c = nI (S c) ∧ S c ≤ 9
theorem Tbl.fr {M M' : Mem} {k : Nat} {S : Nat → Nat} (h : Tbl M k S) (e : M' k = M k) : Tbl M' k S := fun c hc => by rw [e]; exact h c hc
def sg (S : Nat → Nat) (k x z : Nat) : Nat := S (49 * k + 7 * x + z)
theorem To_strength_eq {M : Mem} {S : Nat → Nat} {k x z : Nat} (h : Tbl M 3 S) (hk : k < 3) (hx : x < 7) (hz : z < 7) : To_strength (nI k) (nI x) (nI z) M = some (nI (sg S k x z)) := by
  unfold To_strength
  show nm _ (fun v4 => if v4 < 0 then some 0 else if nI 147 ≤ v4 then some 0 else if inb v4 147 then some (rd M 3 v4) else none) = _
  have e : ((nI k * 7 + nI x) * 7 + nI z) = nI (49 * k + 7 * x + z) := by
    rw [show (7 : Int32) = nI 7 from rfl]
    simp only [pk_mul, nI_add]
    congr 1; omega
  rw [nm_e', e, rng (by omega), if_pos (inrB_nI (by omega) (by omega))]
  simp (disch := omega) only [inb_nI, rd_nI, show 49 * k + 7 * x + z < 147 by omega, if_true]
  rw [(h _ (by omega)).1]; rfl
theorem nI_pos_iff {n : Nat} (h : n < 2 ^ 31) : (nI n ≤ 0) ↔ n = 0 := by
  rw [show (0 : Int32) = nI 0 from rfl, nI_leI h (by omega)]; omega
theorem sg_le {M : Mem} {k0 : Nat} {S : Nat → Nat} {k x z : Nat} (h : Tbl M k0 S) (hk : k < 3) (hx : x < 7) (hz : z < 7) : sg S k x z ≤ 9 := (h _ (by omega)).2
theorem To_tied_eq {M : Mem} {S : Nat → Nat} {k x z : Nat} (h : Tbl M 3 S) (hk : k < 3) (hx : x < 7) (hz : z < 7) : To_tied (nI k) (nI x) (nI z) M = some (cI (0 < sg S k x z)) := by
  unfold To_tied
  have hb := sg_le h hk hx hz
  rw [To_strength_eq h hk hx hz, bind_s]
  simp (disch := omega) only [nI_pos_iff]
  by_cases h0 : sg S k x z = 0
  · rw [if_pos h0, cI_f (by omega)]
  · rw [if_neg h0, cI_t (by omega)]
theorem To_sameMark_eq {M : Mem} {mk : Nat → Nat} {x y : Nat} (h : AR M 2 7 mk) (hm : ∀ x, x < 7 → mk x ≤ 3) (hx : x < 7) (hy : y < 7) : To_sameMark (nI x) (nI y) M = some (cI (mk x = mk y)) := by
  unfold To_sameMark
  have h1 := hm x hx
  have h2 := hm y hy
  have ha : aln 2 = 7 := rfl
  rw [SP_at_nI (by omega) (by omega), SP_at_nI (by omega) (by omega), bind_s, bind_s, h x hx, h y hy]
  simp (disch := omega) only [nI_eq]
  unfold cI; split <;> rfl
theorem Pa_together_eq {k n : Nat} {p : Nat → Nat} {M : Mem} {x y : Nat} (hk : isP k) (h : AR M (k + 1) n p) (hp : ∀ x, x < n → p x < 100) (hn : n ≤ 7) (hx : x < n) (hy : y < n) : Pa_together k (nI x) (nI y) M = some (cI (p x = p y)) := by
  unfold Pa_together
  have h1 := hp x hx
  have h2 := hp y hy
  rw [Pa_of_nI hk (by omega), Pa_of_nI hk (by omega), bind_s, bind_s, h x hx, h y hy]
  simp (disch := omega) only [nI_eq]
  unfold cI; split <;> rfl
theorem To_tiesOf_eq {M : Mem} {S : Nat → Nat} {k x n : Nat} {b : Bool} (h : Tbl M 3 S) (hn : M 1 2 = nI n) (h7 : n ≤ 7) (hk : k < 3) (hx : x < 7) : To_tiesOf (nI k) (nI x) (cI (b = true)) M = some (nI (sm n (fun z => if (if b then 0 < sg S k z x else 0 < sg S k x z) then 1 else 0))) := by
  unfold To_tiesOf
  refine LOOP_fun (fun z => (nI (sm z (fun z => if (if b then 0 < sg S k z x else 0 < sg S k x z) then 1 else 0)), nI z)) n (by omega) (fun _ => some (nI (sm n (fun z => if (if b then 0 < sg S k z x else 0 < sg S k x z) then 1 else 0)))) ?_ ?_ 0 (Nat.zero_le _)
  · intro z ag hz ih
    show To_tiesOf_L6 _ _ _ _ _ ag _ (nI z) = _
    unfold To_tiesOf_L6
    simp (disch := omega) only [hn, nI_leI, show ¬ n ≤ z by omega, if_false, cI_0]
    rw [← ih]
    cases b with
    | false =>
      simp only [To_tied_eq h hk hx (show z < 7 by omega), bind_s, cI_0, ite_not, i32lit 1, nI_add, sm, Bool.false_eq_true, not_false_eq_true, if_true, if_false]
      split <;> rfl
    | true =>
      simp only [To_tied_eq h hk (show z < 7 by omega) hx, bind_s, cI_0, ite_not, i32lit 1, nI_add, sm, not_true_eq_false, if_true, if_false]
      split <;> rfl
  · intro ag
    show To_tiesOf_L6 _ _ _ _ _ ag _ (nI n) = _
    unfold To_tiesOf_L6
    simp (disch := omega) only [hn, nI_leI, Nat.le_refl, if_true]
