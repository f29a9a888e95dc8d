/-! by hand: count -/
theorem sm_blk {a b : Nat} {f : Nat → Nat} : sm (a * b) f = sm a (fun i => sm b (fun j => f (i * b + j))) := by
  induction a with
  | zero => rw [Nat.zero_mul]; rfl
  | succ a ih =>
    rw [sm_s, ← ih]
    have : ∀ m, sm (a * b + m) f = sm (a * b) f + sm m (fun j => f (a * b + j)) := fun m => by
      induction m with
      | zero => rfl
      | succ m ih2 => rw [← Nat.add_assoc, sm_s, ih2, sm_s, Nat.add_assoc]
    rw [Nat.succ_mul, this]
def tiesN (S : Nat → Nat) (n : Nat) : Nat := sm 3 (fun k => sm n (fun x => sm n (fun z => if 0 < sg S k x z then 1 else 0)))
theorem tiesN_147 {S : Nat → Nat} {n : Nat} {ma : Nat → Nat} (hw : TWF n ma S) : sm 147 (fun c => if 0 < S c then 1 else 0) = tiesN S n := by
  obtain ⟨w1, h7, w3, w4⟩ := hw
  rw [show 147 = 3 * 49 from rfl, sm_blk]
  unfold tiesN
  refine sm_cg fun k hk => ?_
  rw [show 49 = 7 * 7 from rfl, sm_blk]
  have e : ∀ x z, k * (7 * 7) + (x * 7 + z) = 49 * k + 7 * x + z := fun x z => by omega
  simp only [e]
  rw [sm_cut h7 (fun x h1 h2 => ?_)]
  · refine sm_cg fun x hx => ?_
    rw [sm_cut h7 (fun z h1 h2 => ?_)]
    · rfl
    · have := w4 k x z hk (by omega) h2 (Or.inr (Or.inr h1))
      unfold sg at this
      rw [this]; rfl
  · rw [sm_cg (g := fun _ => 0) (fun z hz => ?_), sm_0]
    have := w4 k x z hk h2 hz (Or.inr (Or.inl h1))
    unfold sg at this
    rw [this]; rfl
theorem To_tiesOfKind_eq {M : Mem} {S : Nat → Nat} {k n : Nat} (h : Tbl M 3 S) (hn : M 1 2 = nI n) (h7 : n ≤ 7) (hk : k < 3) : To_tiesOfKind (nI k) M = some (nI (sm n (fun x => sm n (fun z => if 0 < sg S k x z then 1 else 0)))) := by
  unfold To_tiesOfKind
  refine LOOP_fun (fun x => (nI (sm x (fun x => sm n (fun z => if 0 < sg S k x z then 1 else 0))), nI x)) n (by omega) (fun _ => some (nI (sm n (fun x => sm n (fun z => if 0 < sg S k x z then 1 else 0))))) ?_ ?_ 0 (Nat.zero_le _)
  · intro x ag hx ih
    show To_tiesOfKind_L4 (nI k) M _ ag _ (nI x) = _
    unfold To_tiesOfKind_L4
    have e := To_tiesOf_eq (x := x) (b := false) h hn h7 hk (by omega)
    rw [show cI (false = true) = 0 from rfl] at e
    rw [hn, if_neg (by rw [nI_leI (by omega) (by omega)]; omega), e, bind_s, nm_e', nI_add, nI_1, ← ih, sm_s]
    rfl
  · intro ag
    show To_tiesOfKind_L4 (nI k) M _ ag _ (nI n) = _
    unfold To_tiesOfKind_L4
    rw [hn, if_pos (by rw [nI_leI (by omega) (by omega)]; omega)]
theorem To_tiesInAll_eq {M : Mem} {S : Nat → Nat} {n : Nat} (h : Tbl M 3 S) (hn : M 1 2 = nI n) (h7 : n ≤ 7) : To_tiesInAll M = some (nI (tiesN S n)) := by
  unfold To_tiesInAll tiesN
  refine LOOP_fun (fun k => (nI (sm k (fun k => sm n (fun x => sm n (fun z => if 0 < sg S k x z then 1 else 0)))), nI k)) 3 (by omega) (fun _ => some (nI (sm 3 (fun k => sm n (fun x => sm n (fun z => if 0 < sg S k x z then 1 else 0)))))) ?_ ?_ 0 (Nat.zero_le _)
  · intro k ag hk ih
    show To_tiesInAll_L4 M _ ag _ (nI k) = _
    unfold To_tiesInAll_L4
    rw [if_neg (by rw [show (3 : Int32) = nI 3 from rfl, nI_leI (by omega) (by omega)]; omega), To_tiesOfKind_eq h hn h7 hk, bind_s, nm_e', nI_add, nI_1, ← ih, sm_s]
  · intro ag
    show To_tiesInAll_L4 M _ ag _ (nI 3) = _
    unfold To_tiesInAll_L4
    rw [if_pos (by decide)]
def R_count (σ : Sg) (v : Int32) : Ans := (σ, match σ with
  | (n, y, nt, tb, nc, _, _, _, _, rf) => if v = 0 then nI n else if v = 1 then nI nt else if v = 2 then nI (tiesN (sS σ) n) else if v = 3 then nI y else if v = 4 then nI tb else if v = 5 then nI nc else if 11 ≤ v.toInt ∧ v.toInt ≤ 16 then rf (v.toInt.toNat - 10) else -9)
theorem sub10 {v : Int32} (h : 11 ≤ v.toInt ∧ v.toInt ≤ 16) : ∃ j, j < 7 ∧ v - 10 = nI j ∧ j = v.toInt.toNat - 10 := by
  refine ⟨v.toInt.toNat - 10, by omega, ?_, rfl⟩
  rw [i_eq, nI_toInt (by omega), Int32.toInt_sub, show (10 : Int32).toInt = 10 from rfl]
  unfold Int.bmod
  dsimp only
  split <;> omega
theorem SP_count_wp {σ : Sg} {M : Mem} (v : Int32) (hw : WF σ) (h : RC M σ) : wp (SP_count v M) (EC (R_count σ v) M) := by
  have hS := SP_look (y' := σ.2.1) hw.2.2.1 hw h
  have hh := h
  obtain ⟨n, y, nt, tb, nc, ma, tf, tp, nf, rf⟩ := σ
  obtain ⟨a1, a2, a3, a4, a5, a6, a7, a8, a9, a10⟩ := h
  have h7 : n ≤ 7 := hw.2.1
  unfold SP_count R_count
  dsimp only
  by_cases c0 : v = 0
  · rw [if_pos c0, if_pos c0, a1]; exact wp_some (ec_ok hh rfl_hi)
  rw [if_neg c0, if_neg c0]
  by_cases c1 : v = 1
  · rw [if_pos c1, if_pos c1, a3]; exact wp_some (ec_ok hh rfl_hi)
  rw [if_neg c1, if_neg c1]
  by_cases c2 : v = 2
  · rw [if_pos c2, if_pos c2, a2]
    refine wp_bind hS (fun M2 hM2 => ?_)
    obtain ⟨f2, t2⟩ := hM2
    have g2 := f2.mo SCR3
    have h2 := hh.fr g2
    rw [To_tiesInAll_eq t2 h2.1 h7, bind_s]
    exact wp_some (ec_ok h2 g2.hi)
  rw [if_neg c2, if_neg c2]
  by_cases c3 : v = 3
  · rw [if_pos c3, if_pos c3, a2]; exact wp_some (ec_ok hh rfl_hi)
  rw [if_neg c3, if_neg c3]
  by_cases c4 : v = 4
  · rw [if_pos c4, if_pos c4, a4]; exact wp_some (ec_ok hh rfl_hi)
  rw [if_neg c4, if_neg c4]
  by_cases c5 : v = 5
  · rw [if_pos c5, if_pos c5, a5]; exact wp_some (ec_ok hh rfl_hi)
  rw [if_neg c5, if_neg c5]
  have e1 : (v < 11) ↔ v.toInt < 11 := i_lt
  have e2 : (16 < v) ↔ 16 < v.toInt := i_lt
  by_cases c6 : v < 11
  · rw [if_pos c6, if_neg (fun z => by rw [e1] at c6; omega)]; exact wp_some (ec_ok hh rfl_hi)
  rw [if_neg c6]
  by_cases c7 : 16 < v
  · rw [if_pos c7, if_neg (fun z => by rw [e2] at c7; omega)]; exact wp_some (ec_ok hh rfl_hi)
  have c8 : 11 ≤ v.toInt ∧ v.toInt ≤ 16 := by rw [e1] at c6; rw [e2] at c7; omega
  rw [if_neg c7, if_pos c8]
  obtain ⟨j, hj, ej, ej2⟩ := sub10 c8
  have ha : aln 32 = 7 := rfl
  rw [ej, SP_at_nI (by omega) (by omega), bind_s, a10 j hj, ← ej2]
  exact wp_some (ec_ok hh rfl_hi)
theorem MD_count_wp {σ : Sg} {M : Mem} (v : Int32) (hw : WF σ) (h : RM M σ) : wp (MD_count v M) (EM (R_count σ v) M) := by
  have hS := MD_look (y' := σ.2.1) hw.2.2.1 hw h
  have hT := TWF.of hw (y := σ.2.1)
  have hh := h
  obtain ⟨n, y, nt, tb, nc, ma, tf, tp, nf, rf⟩ := σ
  obtain ⟨a1, a2, a3, a4, a5, a6, a7, a8, a9, a10⟩ := h
  have h7 : n ≤ 7 := hw.2.1
  unfold MD_count R_count
  dsimp only
  rw [MD_isIn_eq, bind_s, Int32.toInt_toInt64, show (11 : Int64).toInt = 11 from rfl, show (16 : Int64).toInt = 16 from rfl]
  simp only [cI_0]
  by_cases c8 : 11 ≤ v.toInt ∧ v.toInt ≤ 16
  · rw [if_neg (not_not_intro c8)]
    have hne : ∀ k : Nat, k < 11 → ¬ v = nI k := fun k hk e => by
      rw [e, nI_toInt (by omega)] at c8; omega
    rw [if_neg (show ¬ v = 0 from hne 0 (by omega)), if_neg (show ¬ v = 1 from hne 1 (by omega)), if_neg (show ¬ v = 2 from hne 2 (by omega)), if_neg (show ¬ v = 3 from hne 3 (by omega)), if_neg (show ¬ v = 4 from hne 4 (by omega)), if_neg (show ¬ v = 5 from hne 5 (by omega)), if_pos c8]
    obtain ⟨j, hj, ej, ej2⟩ := sub10 c8
    rw [ej, if_pos ((inb_nI (by omega)).mpr hj), rd_nI (by omega), a10 j hj, ← ej2]
    exact wp_some (em_ok hh rfl_lo)
  rw [if_pos c8, if_neg c8]
  by_cases c0 : v = 0
  · rw [if_pos c0, if_pos c0, a1]; exact wp_some (em_ok hh rfl_lo)
  rw [if_neg c0, if_neg c0]
  by_cases c1 : v = 1
  · rw [if_pos c1, if_pos c1, a3]; exact wp_some (em_ok hh rfl_lo)
  rw [if_neg c1, if_neg c1]
  by_cases c2 : v = 2
  · rw [if_pos c2, if_pos c2, a2]
    refine wp_bind hS (fun M2 hM2 => ?_)
    obtain ⟨f2, t2⟩ := hM2
    dsimp only at t2 hT
    have g2 := f2.mo SMR49
    have h2 := hh.fr g2
    rw [← tiesN_147 hT]
    refine wp_eq (r := (nI (sm 147 (fun c => if 0 < tab tf y nt c then 1 else 0)), M2)) ?_ (em_ok h2 g2.lo)
    refine LOOP_fun (fun c => (nI (sm c (fun c => if 0 < tab tf y nt c then 1 else 0)), nI c)) 147 (by omega) (fun _ => some (nI (sm 147 (fun c => if 0 < tab tf y nt c then 1 else 0)), M2)) ?_ ?_ 0 (Nat.zero_le _)
    · intro c ag hc ih
      have hb := (t2 c hc).2
      show MD_count_L84 M2 _ ag _ (nI c) = _
      unfold MD_count_L84
      rw [if_neg (by rw [show (147 : Int32) = nI 147 from rfl, nI_leI (by omega) (by omega)]; omega), if_pos ((inb_nI (by omega)).mpr hc), rd_nI (by omega), (t2 c hc).1, nm_e', nm_e', nI_1, ← ih, sm_s, add0, nI_1]
      by_cases q : 0 < tab tf y nt c
      · rw [if_neg (by rw [nI_pos_iff (by omega)]; omega), if_pos q]
      · rw [if_pos (by rw [nI_pos_iff (by omega)]; omega), if_neg q]; rfl
    · intro ag
      show MD_count_L84 M2 _ ag _ (nI 147) = _
      unfold MD_count_L84
      rw [if_pos (by decide)]
  rw [if_neg c2, if_neg c2]
  by_cases c3 : v = 3
  · rw [if_pos c3, if_pos c3, a2]; exact wp_some (em_ok hh rfl_lo)
  rw [if_neg c3, if_neg c3]
  by_cases c4 : v = 4
  · rw [if_pos c4, if_pos c4, a4]; exact wp_some (em_ok hh rfl_lo)
  rw [if_neg c4, if_neg c4]
  by_cases c5 : v = 5
  · rw [if_pos c5, if_pos c5, a5]; exact wp_some (em_ok hh rfl_lo)
  rw [if_neg c5, if_neg c5]
  exact wp_some (em_ok hh rfl_lo)
