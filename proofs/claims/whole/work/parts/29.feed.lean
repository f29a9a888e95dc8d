/-! by hand: bytes of a long; feed -/
theorem wc_c : ∀ k, k < 64 → ((nI k).toInt64 &&& 63) = lN k := by decide +kernel
theorem wc_cu : ∀ k, k < 64 → ((nI k).toInt64.toUInt64 &&& Int64.toUInt64 63) = UInt64.ofNat k := by decide +kernel
theorem wc_sm : ∀ k, k < 64 → (BitVec.ofNat 64 k).smod 64 = BitVec.ofNat 64 k := by decide +kernel
def byt (b : Int64) (k : Nat) : Nat := b.toBitVec.toNat / 2 ^ (8 * k) % 256
theorem byt_lt (b : Int64) (k : Nat) : byt b k < 256 := Nat.mod_lt _ (by omega)
theorem bit255 (j : Nat) (hj : j < 32) : (255 : BitVec 32).getLsbD j = decide (j < 8) := by
  have : ∀ j, j < 32 → (255 : BitVec 32).getLsbD j = decide (j < 8) := by decide +kernel
  exact this j hj
theorem bit255l (j : Nat) (hj : j < 64) : (255 : BitVec 64).getLsbD j = decide (j < 8) := by
  have : ∀ j, j < 64 → (255 : BitVec 64).getLsbD j = decide (j < 8) := by decide +kernel
  exact this j hj
theorem bit_byt (b : Int64) (k j : Nat) (hj : j < 32) : (nI (byt b k)).toBitVec.getLsbD j = (decide (j < 8) && b.toBitVec.getLsbD (8 * k + j)) := by
  show (BitVec.ofNat 32 (byt b k)).getLsbD j = _
  rw [BitVec.getLsbD_ofNat]
  unfold byt
  rw [show (256 : Nat) = 2 ^ 8 from rfl, Nat.testBit_mod_two_pow, Nat.testBit_div_two_pow]
  simp [hj, BitVec.getLsbD, Nat.add_comm]
theorem byt_c (b : Int64) (k : Nat) (hk : k < 8) : (((b.toUInt64 >>> ((8 * nI k).toInt64.toUInt64 &&& Int64.toUInt64 63)).toInt64).toInt32) &&& 255 = nI (byt b k) := by
  rw [show (8 : Int32) = nI 8 from rfl, pk_mul, wc_cu _ (by omega)]
  apply Int32.toBitVec_inj.mp
  apply BitVec.eq_of_getLsbD_eq
  intro j hj
  rw [bit_byt b k j hj, Int32.toBitVec_and, BitVec.getLsbD_and, show (255 : Int32).toBitVec = 255 from rfl, bit255 j hj, Int64.toBitVec_toInt32, UInt64.toBitVec_toInt64, UInt64.toBitVec_shiftRight]
  have e : (UInt64.ofNat (8 * k)).toBitVec = BitVec.ofNat 64 (8 * k) := rfl
  have hm : (BitVec.ofNat 64 (8 * k) % 64).toNat = 8 * k := by
    rw [BitVec.toNat_umod, BitVec.toNat_ofNat]
    show 8 * k % 2 ^ 64 % 64 = _
    omega
  rw [e, BitVec.getLsbD_signExtend, BitVec.ushiftRight_eq', hm, BitVec.getLsbD_ushiftRight]
  have h2 : b.toUInt64.toBitVec = b.toBitVec := rfl
  rw [h2]
  have hj64 : j < 64 := by omega
  simp only [hj, hj64, decide_true, Bool.true_and, if_true]
  exact Bool.and_comm _ _
theorem byt_m (b : Int64) (k : Nat) (hk : k < 8) : ((b >>> ((8 * nI k).toInt64 &&& 63)) &&& 255).toInt32 = nI (byt b k) := by
  rw [show (8 : Int32) = nI 8 from rfl, pk_mul, wc_c _ (by omega)]
  apply Int32.toBitVec_inj.mp
  apply BitVec.eq_of_getLsbD_eq
  intro j hj
  have hj64 : j < 64 := by omega
  rw [bit_byt b k j hj, Int64.toBitVec_toInt32, Int64.toBitVec_and, Int64.toBitVec_shiftRight]
  have e : (lN (8 * k)).toBitVec = BitVec.ofNat 64 (8 * k) := rfl
  have hm : (BitVec.ofNat 64 (8 * k)).toNat = 8 * k := by
    rw [BitVec.toNat_ofNat]
    omega
  rw [e, wc_sm _ (by omega), BitVec.getLsbD_signExtend, BitVec.getLsbD_and, BitVec.sshiftRight_eq', hm, BitVec.getLsbD_sshiftRight, show (255 : Int64).toBitVec = 255 from rfl, bit255l j hj64]
  by_cases h8 : j < 8
  · have h3 : 8 * k + j < 64 := by omega
    simp [hj, hj64, h8, h3, show ¬ 64 ≤ j by omega]
  · simp [hj, hj64, h8]
/-! 5 feed -/
def R_feed (σ : Sg) (v : Int32) (b : Int64) : Ans := match σ with
  | (n, y, nt, tb, nc, ma, tf, tp, nf, rf) => if oB v 1 8 = 4 then no σ 4 else if oB v 1 8 = 6 then no σ 6 else if tb + v.toInt.toNat ≤ 60 then ((n, y, nt, tb + v.toInt.toNat, nc, ma, tf, (fun i => if i < tb then tp i else byt b (i - tb)), nf, rf), nI (tb + v.toInt.toNat)) else no σ 6
theorem SP_feed_wp {σ : Sg} {M : Mem} (v : Int32) (b : Int64) (hw : WF σ) (h : RC M σ) : wp (SP_feed v b M) (EC (R_feed σ v b) M) := by
  obtain ⟨n, y, nt, tb, nc, ma, tf, tp, nf, rf⟩ := σ
  obtain ⟨w1, w2, w3, w4, w5, w6, w7, w8, w9, w10⟩ := hw
  obtain ⟨a1, a2, a3, a4, a5, a6, a7, a8, a9, a10⟩ := id h
  unfold SP_feed R_feed
  dsimp only
  rw [jp_e, a4]
  simp only [show (1 ≤ v) ↔ (1 ≤ v.toInt) from i_le, show (8 < v) ↔ (8 < v.toInt) from i_lt]
  rcases oB_v v 1 8 with e | e | e
  · rw [if_pos e]
    have : v.toInt < 1 := by
      unfold oB at e; split at e
      · assumption
      · split at e <;> cases e
    rw [if_neg (by omega)]
    exact SP_no4 h rfl_hi
  · have : ¬ v.toInt < 1 ∧ 8 < v.toInt := by
      unfold oB at e; split at e
      · cases e
      · split at e
        · exact ⟨by assumption, by assumption⟩
        · cases e
    rw [e, if_neg (show ¬ (6 = 4) by decide), if_pos (show 6 = 6 from rfl), if_pos (show 1 ≤ v.toInt by omega), if_pos this.2]
    exact SP_no6 h rfl_hi
  · obtain ⟨m, h1, h2, rfl⟩ := oB_0 (by omega) e
    have hi := nI_toInt (n := m) (by omega)
    rw [e, if_neg (show ¬ (0 = 4) by decide), if_neg (show ¬ (0 = 6) by decide), if_pos (show 1 ≤ (nI m).toInt by omega), if_neg (show ¬ 8 < (nI m).toInt by omega), hi, nI_add, show (60 : Int32) = nI 60 from rfl]
    simp (disch := omega) only [nI_leI, Int.toNat_natCast]
    by_cases h60 : tb + m ≤ 60
    · rw [if_pos h60, if_pos h60]
      have ha : aln 7 = 60 := rfl
      refine LOOP_up (fun x (t : Mem) => (nI x, t)) m (by omega) (fun x t => Fr [6, 7] M t ∧ t 6 2 = nI (tb + x) ∧ (∀ i, i < tb + x → t 7 i = nI (if i < tb then tp i else byt b (i - tb)))) (fun o => wp o _) ?_ ?_ 0 M (by omega) ⟨Fr.rf, a4, fun i hi => by rw [if_pos (by omega)]; exact a8 i (by omega)⟩
      · rintro x t ag hx ⟨hf, g1, g2⟩ ih
        show wp (SP_feed_L42 (nI m) b _ ag (nI x) t) _
        unfold SP_feed_L42
        simp (disch := omega) only [nI_leI, show ¬ m ≤ x by omega, if_false]
        rw [byt_c b x (by omega)]
        have hap : Ta_append (nI (byt b x)) t = some (st2 (st2 t 7 (tb + x) (nI (byt b x))) 6 2 (nI (tb + x + 1))) := by
          unfold Ta_append
          rw [g1, show (60 : Int32) = nI 60 from rfl]
          simp (disch := omega) only [nI_leI, show ¬ 60 ≤ tb + x by omega, if_false]
          rw [SP_put_nI (by omega) (by omega), bind_s, nm_e', st2_n (by decide), g1, show (1 : Int32) = nI 1 from rfl, nI_add]
        rw [hap, bind_s, show (1 : Int32) = nI 1 from rfl, nI_add]
        refine ih _ ⟨hf.tr ((Fr.st (by simp)).tr (Fr.st (by simp))), ?_, fun i hi => ?_⟩
        · rw [st2_s, upd_s]; rfl
        · rw [st2_n (by decide), st2_s]
          by_cases e : i = tb + x
          · subst e
            rw [upd_s, if_neg (by omega), show tb + x - tb = x by omega]
          · rw [upd_n e]; exact g2 i (by omega)
      · rintro t ag ⟨hf, g1, g2⟩
        show wp (SP_feed_L42 (nI m) b _ ag (nI m) t) _
        unfold SP_feed_L42
        simp (disch := omega) only [nI_leI, Nat.le_refl, if_true]
        refine wp_some ⟨g1, ⟨?_, ?_, ?_, g1, ?_, a6.fr (hf 2 (by decide)), ?_, g2, ?_, ?_⟩, fun k hk => hf k (by simp; omega)⟩
        · show t 1 2 = _
          rw [hf 1 (by decide)]; exact a1
        · show t 0 12 = _
          rw [hf 0 (by decide)]; exact a2
        · show t 4 1 = _
          rw [hf 4 (by decide)]; exact a3
        · show t 10 3 = _
          rw [hf 10 (by decide)]; exact a5
        · intro i hi j hj
          show t 5 (i * 6 + j) = _
          rw [hf 5 (by decide)]; exact a7 i hi j hj
        · intro i hi
          show t 11 i = _ ∧ t 12 i = _ ∧ t 13 i = _
          rw [hf 11 (by decide), hf 12 (by decide), hf 13 (by decide)]; exact a9 i hi
        · intro i hi
          show t 32 i = _
          rw [hf 32 (by decide)]; exact a10 i hi
    · rw [if_neg h60, if_neg h60]
      exact SP_no6 h rfl_hi
theorem MD_feed_wp {σ : Sg} {M : Mem} (v : Int32) (b : Int64) (hw : WF σ) (h : RM M σ) : wp (MD_feed v b M) (EM (R_feed σ v b) M) := by
  obtain ⟨n, y, nt, tb, nc, ma, tf, tp, nf, rf⟩ := σ
  obtain ⟨w1, w2, w3, w4, w5, w6, w7, w8, w9, w10⟩ := hw
  obtain ⟨a1, a2, a3, a4, a5, a6, a7, a8, a9, a10⟩ := id h
  unfold MD_feed R_feed
  dsimp only
  rw [MD_out_oB (lo := 1) (hi := 8) rfl rfl, bind_s, jp_e, a4]
  rcases oB_v v 1 8 with e | e | e
  · rw [e]
    simp only [neg_4, if_true, if_false]
    exact MD_no4 h rfl_lo
  · rw [e]
    simp only [neg_6, if_true, if_false, show ¬ (6 = 4) by decide]
    exact MD_no6 h rfl_lo
  · obtain ⟨m, h1, h2, rfl⟩ := oB_0 (by omega) e
    have hi := nI_toInt (n := m) (by omega)
    rw [e, if_neg (show ¬ 0 = 4 by decide), if_neg (show ¬ 0 = 6 by decide), hi]
    simp only [neg_0, if_true]
    rw [nI_add, show (60 : Int32) = nI 60 from rfl]
    simp (disch := omega) only [nI_leI, Int.toNat_natCast]
    by_cases h60 : tb + m ≤ 60
    · rw [if_pos h60, if_pos h60]
      refine LOOP_up (fun x (t : Mem) => (nI x, t)) m (by omega) (fun x t => Fr [33, 42] M t ∧ t 33 12 = nI (tb + x) ∧ (∀ j, j ≠ 12 → t 33 j = M 33 j) ∧ (∀ i, i < tb + x → t 42 i = nI (if i < tb then tp i else byt b (i - tb)))) (fun o => wp o _) ?_ ?_ 0 M (by omega) ⟨Fr.rf, a4, fun _ _ => rfl, fun i hi => by rw [if_pos (by omega)]; exact a8 i (by omega)⟩
      · rintro x t ag hx ⟨hf, g1, g3, g2⟩ ih
        show wp (MD_feed_L46 (nI m) b _ ag (nI x) t) _
        unfold MD_feed_L46
        rw [g1]
        simp (disch := omega) only [nI_leI, show ¬ m ≤ x by omega, if_false, inb_nI, show tb + x < 60 by omega, if_true]
        rw [byt_m b x (by omega), nm_e', nm_e', wr_nI (by omega), st2_n (show 33 ≠ 42 by decide), g1, show (1 : Int32) = nI 1 from rfl, nI_add, nI_add]
        refine ih _ ⟨hf.tr ((Fr.st (by simp)).tr (Fr.st (by simp))), ?_, fun j hj => ?_, fun i hi => ?_⟩
        · rw [st2_s, upd_s]; rfl
        · rw [st2_s, upd_n hj, st2_n (by decide)]; exact g3 j hj
        · rw [st2_n (by decide), st2_s]
          by_cases e : i = tb + x
          · subst e
            rw [upd_s, if_neg (by omega), show tb + x - tb = x by omega]
          · rw [upd_n e]; exact g2 i (by omega)
      · rintro t ag ⟨hf, g1, g3, g2⟩
        show wp (MD_feed_L46 (nI m) b _ ag (nI m) t) _
        unfold MD_feed_L46
        simp (disch := omega) only [nI_leI, Nat.le_refl, if_true]
        refine wp_some ⟨g1, ⟨(g3 8 (by decide)).trans a1, (g3 10 (by decide)).trans a2, (g3 9 (by decide)).trans a3, g1, (g3 33 (by decide)).trans a5, a6.fr (hf 35 (by decide)), ?_, g2, ?_, ?_⟩, fun k hk => hf k (by simp; omega)⟩
        · intro i hi
          show t 36 i = _ ∧ t 37 i = _ ∧ t 38 i = _ ∧ t 39 i = _ ∧ t 40 i = _ ∧ t 41 i = _
          rw [hf 36 (by decide), hf 37 (by decide), hf 38 (by decide), hf 39 (by decide), hf 40 (by decide), hf 41 (by decide)]; exact a7 i hi
        · intro i hi
          show t 58 i = _ ∧ t 59 i = _ ∧ t 60 i = _
          rw [hf 58 (by decide), hf 59 (by decide), hf 60 (by decide)]; exact a9 i hi
        · intro i hi
          show t 34 i = _
          rw [hf 34 (by decide)]; exact a10 i hi
    · rw [if_neg h60, if_neg h60]
      rw [show (-6 : Int32) = -6 from rfl]
      simp only [show ¬ ((-6 : Int32) = 0) by decide, if_false]
      exact MD_no6 h rfl_lo
/-! 7 untie -/
def R_untie (σ : Sg) (v : Int32) : Ans := match σ with
  | (n, y, nt, tb, nc, ma, tf, tp, nf, rf) => if inrB v nt = true then ((n, y, nt - 1, tb, nc, ma, (fun i => if i < v.toInt.toNat then tf i else tf (i + 1)), tp, nf, rf), 1) else no σ 1
theorem SP_untie_wp {σ : Sg} {M : Mem} (v : Int32) (hw : WF σ) (h : RC M σ) : wp (SP_untie v M) (EC (R_untie σ v) M) := by
  obtain ⟨n, y, nt, tb, nc, ma, tf, tp, nf, rf⟩ := σ
  obtain ⟨w1, w2, w3, w4, w5, w6, w7, w8, w9, w10⟩ := hw
  obtain ⟨a1, a2, a3, a4, a5, a6, a7, a8, a9, a10⟩ := id h
  unfold SP_untie R_untie
  dsimp only
  rw [jp_e, a3]
  by_cases hv : inrB v nt = true
  · rw [if_pos hv]
    obtain ⟨j, hj, rfl⟩ := inr_of (inrB_iff.mp hv) (by omega)
    have ha : aln 5 = 360 := rfl
    simp (disch := omega) only [nI_neg_iff, if_false, nI_ltI, hj, if_true, nat3]
    unfold Td_drop
    rw [nm_e', show (6 : Int32) = nI 6 from rfl, pk_mul]
    refine wp_bind (P := fun M' => Fr [4, 5] M M' ∧ M' 4 1 = nI (nt - 1) ∧ ∀ q, q < 360 → M' 5 q = if j * 6 ≤ q ∧ q < (nt - 1) * 6 then M 5 (q + 6) else M 5 q) ?_ (fun M2 hM2 => ?_)
    · refine LOOP_up (fun x (t : Mem) => (nI x, t)) ((nt - 1) * 6) (by omega) (fun x t => j * 6 ≤ x ∧ Fr [4, 5] M t ∧ t 4 = M 4 ∧ ∀ q, q < 360 → t 5 q = if j * 6 ≤ q ∧ q < x then M 5 (q + 6) else M 5 q) (fun o => wp o _) ?_ ?_ (j * 6) M (by omega) ⟨Nat.le_refl _, Fr.rf, rfl, fun q hq => by rw [if_neg (by omega)]⟩
      · rintro x t ag hx ⟨hjx, hf, g1, g2⟩ ih
        show wp (Td_drop_L5 _ ag (nI x) t) _
        unfold Td_drop_L5
        rw [g1, a3, show (1 : Int32) = nI 1 from rfl, show (6 : Int32) = nI 6 from rfl, pk_sub (by omega), pk_mul]
        simp (disch := omega) only [nI_leI, show ¬ (nt - 1) * 6 ≤ x by omega, if_false]
        rw [nI_add, SP_at_nI (by omega) (by omega), bind_s, SP_put_nI (by omega) (by omega), bind_s, nI_add]
        refine ih _ ⟨by omega, hf.tr (Fr.st (by simp)), by rw [st2_n (by decide)]; exact g1, fun q hq => ?_⟩
        rw [st2_s]
        by_cases e : q = x
        · subst e
          rw [upd_s, g2 _ (by omega), if_neg (by omega), if_pos (by omega)]
        · rw [upd_n e, g2 q hq]
          by_cases hc : j * 6 ≤ q ∧ q < x
          · rw [if_pos hc, if_pos (by omega)]
          · rw [if_neg hc, if_neg (by omega)]
      · rintro t ag ⟨hjx, hf, g1, g2⟩
        show wp (Td_drop_L5 _ ag (nI ((nt - 1) * 6)) t) _
        unfold Td_drop_L5
        rw [g1, a3, show (1 : Int32) = nI 1 from rfl, show (6 : Int32) = nI 6 from rfl, pk_sub (by omega), pk_mul]
        simp (disch := omega) only [nI_leI, Nat.le_refl, if_true, nm_e']
        rw [g1, a3, pk_sub (by omega)]
        exact wp_some ⟨hf.tr (Fr.st (by simp)), by rw [st2_s, upd_s], by rw [st2_n (by decide)]; exact g2⟩
    · obtain ⟨f2, g1, g2⟩ := hM2
      refine wp_some ⟨rfl, ⟨?_, ?_, g1, ?_, ?_, a6.fr (f2 2 (by decide)), fun i hi c hc => ?_, a8.fr (f2 7 (by decide)), ?_, ?_⟩, fun k hk => f2 k (by simp; omega)⟩
      · show M2 1 2 = _
        rw [f2 1 (by decide)]; exact a1
      · show M2 0 12 = _
        rw [f2 0 (by decide)]; exact a2
      · show M2 6 2 = _
        rw [f2 6 (by decide)]; exact a4
      · show M2 10 3 = _
        rw [f2 10 (by decide)]; exact a5
      · show M2 5 (i * 6 + c) = nI ((if i < j then tf i else tf (i + 1)) c)
        rw [g2 _ (by omega)]
        by_cases e : i < j
        · rw [if_pos e, if_neg (by omega)]; exact a7 i (by omega) c hc
        · rw [if_neg e, if_pos (by omega), show i * 6 + c + 6 = (i + 1) * 6 + c by omega]
          exact a7 (i + 1) (by omega) c hc
      · intro i hi
        show M2 11 i = _ ∧ M2 12 i = _ ∧ M2 13 i = _
        rw [f2 11 (by decide), f2 12 (by decide), f2 13 (by decide)]; exact a9 i hi
      · intro i hi
        show M2 32 i = _
        rw [f2 32 (by decide)]; exact a10 i hi
  · rw [if_neg hv]
    have hn := fun z => hv (inrB_iff.mpr z)
    by_cases hneg : v < 0
    · rw [if_pos hneg]
      exact SP_no1 h rfl_hi
    · rw [if_neg hneg, if_neg]
      · exact SP_no1 h rfl_hi
      · intro z
        apply hn
        unfold inr
        rw [i_lt, i_0] at hneg
        rw [i_lt, nI_toInt (by omega)] at z
        omega
theorem untie_col {β : Type} (k : Nat) {t : Mem} {x : Nat} (hx : x + 1 < 60) : ∃ t' : Mem, t' k = upd (t k) x (t k (x + 1)) ∧ (∀ q, q ≠ k → t' q = t q) ∧ ∀ f : Mem → Option β, (if inb (nI (x + 1)) 60 then if inb (nI x) 60 then nm (wr t k (nI x) (rd t k (nI (x + 1)))) f else none else none) = f t' := by
  refine ⟨st2 t k x (t k (x + 1)), st2_s, fun q hq => st2_n hq, fun f => ?_⟩
  rw [if_pos ((inb_nI (by omega)).mpr hx), if_pos ((inb_nI (by omega)).mpr (by omega)), nm_e', wr_nI (by omega), rd_nI (by omega)]
set_option maxHeartbeats 1000000 in
theorem MD_untie_wp {σ : Sg} {M : Mem} (v : Int32) (hw : WF σ) (h : RM M σ) : wp (MD_untie v M) (EM (R_untie σ v) M) := by
  obtain ⟨n, y, nt, tb, nc, ma, tf, tp, nf, rf⟩ := σ
  obtain ⟨w1, w2, w3, w4, w5, w6, w7, w8, w9, w10⟩ := hw
  obtain ⟨a1, a2, a3, a4, a5, a6, a7, a8, a9, a10⟩ := id h
  unfold MD_untie R_untie
  dsimp only
  have hnt : ((M 33 9 - 1).toInt64).toInt = (nt : Int) - 1 := by
    rw [Int32.toInt_toInt64, a3, show (1 : Int32) = nI 1 from rfl, pk_sub_toInt (by omega) (by omega)]
    rfl
  rw [MD_isIn_eq, bind_s, hnt, Int32.toInt_toInt64, show (0 : Int64).toInt = 0 from rfl]
  have hiff : (0 ≤ v.toInt ∧ v.toInt ≤ (nt : Int) - 1) ↔ inr v nt := by
    unfold inr; omega
  simp only [cI_0]
  by_cases hv : inrB v nt = true
  · have hv2 := inrB_iff.mp hv
    rw [if_neg (not_not_intro (hiff.mpr hv2)), if_pos hv]
    obtain ⟨j, hj, rfl⟩ := inr_of hv2 (by omega)
    rw [nat3 (by omega)]
    refine LOOP_up (fun x (t : Mem) => (nI x, t)) (nt - 1) (by omega) (fun x t => j ≤ x ∧ Fr [36, 37, 38, 39, 40, 41] M t ∧ ∀ k, 36 ≤ k → k ≤ 41 → ∀ i, i < 60 → t k i = if j ≤ i ∧ i < x then M k (i + 1) else M k i) (fun o => wp o _) ?_ ?_ j M (by omega) ⟨Nat.le_refl _, Fr.rf, fun k h1 h2 i hi => by rw [if_neg (by omega)]⟩
    · rintro x t ag hx ⟨hjx, hf, g⟩ ih
      show wp (MD_untie_L24 _ ag (nI x) t) _
      unfold MD_untie_L24
      rw [hf 33 (by decide), a3, show (1 : Int32) = nI 1 from rfl, pk_sub (by omega), nI_add]
      rw [if_neg (show ¬ nI (nt - 1) ≤ nI x by rw [nI_leI (by omega) (by omega)]; omega)]
      obtain ⟨t1, A1, B1, e1⟩ := untie_col (β := Int32 × Mem) 36 (t := t) (x := x) (by omega)
      rw [e1]; clear e1
      obtain ⟨t2, A2, B2, e2⟩ := untie_col (β := Int32 × Mem) 37 (t := t1) (x := x) (by omega)
      rw [e2]; clear e2
      obtain ⟨t3, A3, B3, e3⟩ := untie_col (β := Int32 × Mem) 38 (t := t2) (x := x) (by omega)
      rw [e3]; clear e3
      obtain ⟨t4, A4, B4, e4⟩ := untie_col (β := Int32 × Mem) 39 (t := t3) (x := x) (by omega)
      rw [e4]; clear e4
      obtain ⟨t5, A5, B5, e5⟩ := untie_col (β := Int32 × Mem) 40 (t := t4) (x := x) (by omega)
      rw [e5]; clear e5
      obtain ⟨t6, A6, B6, e6⟩ := untie_col (β := Int32 × Mem) 41 (t := t5) (x := x) (by omega)
      rw [e6]; clear e6
      refine ih _ ⟨by omega, fun k hk => ?_, fun k h1 h2 i hi => ?_⟩
      · simp only [List.mem_cons, List.not_mem_nil, or_false, not_or] at hk
        rw [B6 k (by omega), B5 k (by omega), B4 k (by omega), B3 k (by omega), B2 k (by omega), B1 k (by omega)]
        exact hf k (by simp; omega)
      have key : ∀ T : Mem, (∀ k, 36 ≤ k → k ≤ 41 → T k = upd (t k) x (t k (x + 1))) → T k i = if j ≤ i ∧ i < x + 1 then M k (i + 1) else M k i := fun T hT => by
        rw [hT k h1 h2]
        by_cases e : i = x
        · subst e
          rw [upd_s, g k h1 h2 _ (by omega), if_neg (by omega), if_pos (by omega)]
        · rw [upd_n e, g k h1 h2 i hi]
          by_cases hc : j ≤ i ∧ i < x
          · rw [if_pos hc, if_pos (by omega)]
          · rw [if_neg hc, if_neg (by omega)]
      refine key _ (fun k h1 h2 => ?_)
      have : k = 36 ∨ k = 37 ∨ k = 38 ∨ k = 39 ∨ k = 40 ∨ k = 41 := by omega
      rcases this with rfl | rfl | rfl | rfl | rfl | rfl
      · rw [B6 _ (by decide), B5 _ (by decide), B4 _ (by decide), B3 _ (by decide), B2 _ (by decide), A1]
      · rw [B6 _ (by decide), B5 _ (by decide), B4 _ (by decide), B3 _ (by decide), A2, B1 _ (by decide)]
      · rw [B6 _ (by decide), B5 _ (by decide), B4 _ (by decide), A3, B2 _ (by decide), B1 _ (by decide)]
      · rw [B6 _ (by decide), B5 _ (by decide), A4, B3 _ (by decide), B2 _ (by decide), B1 _ (by decide)]
      · rw [B6 _ (by decide), A5, B4 _ (by decide), B3 _ (by decide), B2 _ (by decide), B1 _ (by decide)]
      · rw [A6, B5 _ (by decide), B4 _ (by decide), B3 _ (by decide), B2 _ (by decide), B1 _ (by decide)]
    · rintro t ag ⟨hjx, hf, g⟩
      show wp (MD_untie_L24 _ ag (nI (nt - 1)) t) _
      unfold MD_untie_L24
      rw [hf 33 (by decide), a3, show (1 : Int32) = nI 1 from rfl, pk_sub (by omega)]
      rw [if_pos (show nI (nt - 1) ≤ nI (nt - 1) by rw [nI_leI (by omega) (by omega)]; omega)]
      dsimp only
      rw [nm_e', hf 33 (by decide), a3, pk_sub (by omega)]
      have es : ∀ c, c ≠ 9 → st2 t 33 9 (nI (nt - 1)) 33 c = M 33 c := fun c hc => by rw [st2_s, upd_n hc, hf 33 (by decide)]
      have eo : ∀ k, k ≠ 33 → st2 t 33 9 (nI (nt - 1)) k = t k := fun k hk => st2_n hk
      refine wp_some ⟨rfl, ⟨(es 8 (by decide)).trans a1, (es 10 (by decide)).trans a2, ?_, (es 12 (by decide)).trans a4, (es 33 (by decide)).trans a5, a6.fr ((eo 35 (by decide)).trans (hf 35 (by decide))), fun i hi => ?_, a8.fr ((eo 42 (by decide)).trans (hf 42 (by decide))), ?_, ?_⟩, fun k hk => ?_⟩
      · show st2 t 33 9 (nI (nt - 1)) 33 9 = _
        rw [st2_s, upd_s]
      · show st2 t 33 9 (nI (nt - 1)) 36 i = nI ((if i < j then tf i else tf (i + 1)) 0) ∧ st2 t 33 9 (nI (nt - 1)) 37 i = nI ((if i < j then tf i else tf (i + 1)) 1) ∧ st2 t 33 9 (nI (nt - 1)) 38 i = nI ((if i < j then tf i else tf (i + 1)) 2) ∧ st2 t 33 9 (nI (nt - 1)) 39 i = nI ((if i < j then tf i else tf (i + 1)) 3) ∧ st2 t 33 9 (nI (nt - 1)) 40 i = nI ((if i < j then tf i else tf (i + 1)) 4) ∧ st2 t 33 9 (nI (nt - 1)) 41 i = nI ((if i < j then tf i else tf (i + 1)) 5)
        rw [eo 36 (by decide), eo 37 (by decide), eo 38 (by decide), eo 39 (by decide), eo 40 (by decide), eo 41 (by decide), g 36 (by omega) (by omega) i (by omega), g 37 (by omega) (by omega) i (by omega), g 38 (by omega) (by omega) i (by omega), g 39 (by omega) (by omega) i (by omega), g 40 (by omega) (by omega) i (by omega), g 41 (by omega) (by omega) i (by omega)]
        by_cases e : i < j
        · simp only [e, show ¬ (j ≤ i ∧ i < nt - 1) by omega, if_true, if_false]
          exact a7 i (by omega)
        · simp only [e, show (j ≤ i ∧ i < nt - 1) by omega, if_true, if_false, and_self]
          exact a7 (i + 1) (by omega)
      · intro i hi
        show st2 t 33 9 (nI (nt - 1)) 58 i = _ ∧ st2 t 33 9 (nI (nt - 1)) 59 i = _ ∧ st2 t 33 9 (nI (nt - 1)) 60 i = _
        rw [eo 58 (by decide), eo 59 (by decide), eo 60 (by decide), hf 58 (by decide), hf 59 (by decide), hf 60 (by decide)]; exact a9 i hi
      · intro i hi
        show st2 t 33 9 (nI (nt - 1)) 34 i = _
        rw [eo 34 (by decide), hf 34 (by decide)]; exact a10 i hi
      · show st2 t 33 9 (nI (nt - 1)) k = _
        rw [eo k (by omega)]
        exact hf k (by simp; omega)
  · have hv2 : ¬ inr v nt := fun z => hv (inrB_iff.mpr z)
    rw [if_pos (fun z => hv2 (hiff.mp z)), if_neg hv]
    exact MD_no1 h rfl_lo
