/-! by hand: the class's packed views -/
theorem base8_lt {c : Nat → Nat} : ∀ {m : Nat}, (∀ q, q < m → c q < 8) → sm m (fun q => c q * 8 ^ q) < 8 ^ m
  | 0, _ => Nat.lt_succ_self 0
  | m + 1, h => by
    have a := base8_lt (m := m) (fun q hq => h q (by omega))
    have b := h m (by omega)
    have d : c m * 8 ^ m ≤ 7 * 8 ^ m := Nat.mul_le_mul_right _ (by omega)
    simp only [sm]
    rw [Nat.pow_succ]
    omega
theorem base8 {c c' : Nat → Nat} : ∀ {m : Nat}, (∀ q, q < m → c q < 8) → (∀ q, q < m → c' q < 8) → sm m (fun q => c q * 8 ^ q) = sm m (fun q => c' q * 8 ^ q) → ∀ q, q < m → c q = c' q
  | 0, _, _, _, q, hq => absurd hq (Nat.not_lt_zero _)
  | m + 1, h, h', e, q, hq => by
    have e : sm m (fun q => c q * 8 ^ q) + c m * 8 ^ m = sm m (fun q => c' q * 8 ^ q) + c' m * 8 ^ m := e
    have a := base8_lt (m := m) (fun q hq => h q (by omega))
    have b := base8_lt (m := m) (fun q hq => h' q (by omega))
    have hpos : 0 < 8 ^ m := Nat.pow_pos (by omega)
    have hm : c m = c' m := by
      rcases Nat.lt_trichotomy (c m) (c' m) with z | z | z
      · have : (c m + 1) * 8 ^ m ≤ c' m * 8 ^ m := Nat.mul_le_mul_right _ z
        rw [Nat.add_mul] at this; omega
      · exact z
      · have : (c' m + 1) * 8 ^ m ≤ c m * 8 ^ m := Nat.mul_le_mul_right _ z
        rw [Nat.add_mul] at this; omega
    by_cases eq : q = m
    · rw [eq]; exact hm
    · rw [hm] at e
      exact base8 (fun q hq => h q (by omega)) (fun q hq => h' q (by omega)) (Nat.add_right_cancel e) q (by omega)
theorem sm_one {m a : Nat} {f : Nat → Nat} (ha : a < m) : sm m (fun q => if a = q then f q else 0) = f a := by
  induction m with
  | zero => omega
  | succ m ih =>
    simp only [sm]
    by_cases e : a = m
    · subst e
      rw [if_pos rfl, sm_cg (g := fun _ => 0) (fun x hx => if_neg (by omega)), sm_0, Nat.zero_add]
    · rw [if_neg e, ih (by omega), Nat.add_zero]
/-- the parts of a set as digits 1 to the base 8 -/
def spd (m : Nat) : Nat := sm 7 (fun q => if m.testBit q then 8 ^ q else 0)
theorem spd_or : ∀ m, m < 128 → ∀ q, q < 7 → spd m ||| 8 ^ q = spd (m ||| 2 ^ q) ∧ m ||| 2 ^ q < 128 := by decide +kernel
theorem spd_bit : ∀ m, m < 128 → (∀ q, q < 7 → (decide (spd m / 8 ^ q % 2 = 1) = m.testBit q)) ∧ spd m < 8 ^ 7 := by decide +kernel
/-- how many of the part q, of those in T -/
def cT (n : Nat) (p : Nat → Nat) (T : Nat → Bool) (q : Nat) : Nat := sm n (fun z => if p z = q ∧ T z = true then 1 else 0)
theorem cT_le {n : Nat} {p : Nat → Nat} {T : Nat → Bool} {q : Nat} : cT n p T q ≤ n := by
  have := sm_le (n := n) (b := 1) (f := fun z => if p z = q ∧ T z = true then 1 else 0) (fun z _ => ite01 _)
  unfold cT; omega
theorem cT_pos {n : Nat} {p : Nat → Nat} {T : Nat → Bool} {q : Nat} : 0 < cT n p T q ↔ ∃ z, z < n ∧ T z = true ∧ p z = q := by
  induction n with
  | zero => exact ⟨fun h => absurd h (Nat.lt_irrefl 0), fun ⟨z, h, _⟩ => absurd h (Nat.not_lt_zero _)⟩
  | succ n ih =>
    have e : cT (n + 1) p T q = cT n p T q + if p n = q ∧ T n = true then 1 else 0 := rfl
    rw [e]
    by_cases h : p n = q ∧ T n = true
    · rw [if_pos h]
      exact ⟨fun _ => ⟨n, by omega, h.2, h.1⟩, fun _ => by omega⟩
    · rw [if_neg h, Nat.add_zero, ih]
      constructor
      · rintro ⟨z, a, b⟩; exact ⟨z, by omega, b⟩
      · rintro ⟨z, a, b, c⟩
        by_cases e : z = n
        · subst e; exact absurd ⟨c, b⟩ h
        · exact ⟨z, by omega, b, c⟩
theorem cT_sum {p : Nat → Nat} {T : Nat → Bool} : ∀ {n : Nat}, (∀ z, z < n → p z < 7) → sm n (fun z => if T z = true then 8 ^ p z else 0) = sm 7 (fun q => cT n p T q * 8 ^ q)
  | 0, _ => by
    rw [sm_cg (g := fun _ => 0) (fun q _ => show cT 0 p T q * 8 ^ q = 0 from Nat.zero_mul _), sm_0]; rfl
  | n + 1, h => by
    have e : ∀ q, cT (n + 1) p T q * 8 ^ q = cT n p T q * 8 ^ q + if p n = q then (if T n = true then 8 ^ q else 0) else 0 := by
      intro q
      show (cT n p T q + if p n = q ∧ T n = true then 1 else 0) * 8 ^ q = _
      rw [Nat.add_mul]
      congr 1
      by_cases a : p n = q
      · by_cases b : T n = true
        · rw [if_pos ⟨a, b⟩, if_pos a, if_pos b, Nat.one_mul]
        · rw [if_neg (fun z => b z.2), if_pos a, if_neg b, Nat.zero_mul]
      · rw [if_neg (fun z => a z.1), if_neg a, Nat.zero_mul]
    rw [sm_cg (fun q _ => e q), sm_add, sm_one (h n (by omega)), ← cT_sum (fun z hz => h z (by omega))]
    rfl
/-- what a view's number v says of the ties T -/
def AG (cnt : Bool) (n : Nat) (p : Nat → Nat) (T : Nat → Bool) (v : Nat) : Prop :=
  if cnt then v = sm n (fun z => if T z = true then 8 ^ p z else 0) else ∃ m, m < 128 ∧ v = spd m ∧ ∀ q, q < 7 → (m.testBit q = true ↔ 0 < cT n p T q)
theorem AG_0 {cnt : Bool} {n : Nat} {p : Nat → Nat} {T : Nat → Bool} (h : ∀ z, z < n → T z = false) : AG cnt n p T 0 := by
  unfold AG
  split
  · rw [sm_cg (g := fun _ => 0) (fun z hz => by rw [h z hz]; exact if_neg (by decide)), sm_0]
  · refine ⟨0, by omega, rfl, fun q hq => ?_⟩
    rw [Nat.zero_testBit, cT_pos]
    refine ⟨fun h => (by cases h), fun ⟨z, a, b, _⟩ => ?_⟩
    rw [h z a] at b; cases b
theorem AG_cg {cnt : Bool} {n v : Nat} {p : Nat → Nat} {T T' : Nat → Bool} (h : AG cnt n p T v) (e : ∀ z, z < n → T z = T' z) : AG cnt n p T' v := by
  unfold AG at h ⊢
  split
  · rename_i c
    rw [if_pos c] at h
    rw [h]
    exact sm_cg (fun z hz => by rw [e z hz])
  · rename_i c
    rw [if_neg c] at h
    obtain ⟨m, h1, h2, h3⟩ := h
    refine ⟨m, h1, h2, fun q hq => ?_⟩
    rw [h3 q hq]
    have : cT n p T q = cT n p T' q := sm_cg (fun z hz => by rw [e z hz])
    rw [this]
theorem AG_step {cnt : Bool} {n v z0 : Nat} {p : Nat → Nat} {T T' : Nat → Bool} (h : AG cnt n p T v) (hp : ∀ z, z < n → p z < 7) (hz : z0 < n) (h0 : T z0 = false) (e0 : T' z0 = true) (e : ∀ z, z < n → z ≠ z0 → T z = T' z) : AG cnt n p T' (if cnt then v + 8 ^ p z0 else v ||| 8 ^ p z0) := by
  unfold AG at h ⊢
  cases cnt with
  | true =>
    rw [if_pos rfl] at h ⊢
    rw [if_pos rfl, h]
    have key : ∀ m, m ≤ n → sm m (fun z => if T' z = true then 8 ^ p z else 0) = sm m (fun z => if T z = true then 8 ^ p z else 0) + if z0 < m then 8 ^ p z0 else 0 := by
      intro m
      induction m with
      | zero => intro _; rfl
      | succ m ih =>
        intro hm
        simp only [sm]
        rw [ih (by omega)]
        by_cases c : m = z0
        · subst c
          simp only [e0, h0, if_true, Nat.lt_irrefl, if_false, show m < m + 1 by omega, Bool.false_eq_true]
          try omega
        · rw [e m (by omega) c]
          by_cases d : z0 < m
          · simp only [d, show z0 < m + 1 by omega, if_true]; omega
          · simp only [d, show ¬ z0 < m + 1 by omega, if_false]; omega
    rw [key n (Nat.le_refl _), if_pos hz]
  | false =>
    rw [if_neg (by decide)] at h ⊢
    rw [if_neg (by decide)]
    obtain ⟨m, h1, h2, h3⟩ := h
    obtain ⟨a, b⟩ := spd_or m h1 (p z0) (hp z0 hz)
    refine ⟨m ||| 2 ^ p z0, b, by rw [h2, a], fun q hq => ?_⟩
    rw [Nat.testBit_or, Bool.or_eq_true, h3 q hq, cT_pos, cT_pos, Nat.testBit_two_pow]
    constructor
    · rintro (⟨z, c1, c2, c3⟩ | c)
      · refine ⟨z, c1, ?_, c3⟩
        by_cases d : z = z0
        · rw [d]; exact e0
        · rw [← e z c1 d]; exact c2
      · exact ⟨z0, hz, e0, by simpa using c⟩
    · rintro ⟨z, c1, c2, c3⟩
      by_cases d : z = z0
      · right; subst d; simp [c3]
      · left; exact ⟨z, c1, by rw [e z c1 d]; exact c2, c3⟩
theorem AG_lt {cnt : Bool} {n v : Nat} {p : Nat → Nat} {T : Nat → Bool} (h : AG cnt n p T v) (hp : ∀ z, z < n → p z < 7) (h7 : n ≤ 7) : v < 8 ^ 7 := by
  unfold AG at h
  split at h
  · rw [h, cT_sum hp]
    exact base8_lt (fun q _ => by have := cT_le (n := n) (p := p) (T := T) (q := q); omega)
  · obtain ⟨m, h1, h2, h3⟩ := h
    rw [h2]; exact (spd_bit m h1).2
theorem AG_eq {cnt : Bool} {n v v' : Nat} {p : Nat → Nat} {T T' : Nat → Bool} (h : AG cnt n p T v) (h' : AG cnt n p T' v') (hp : ∀ z, z < n → p z < 7) (h7 : n ≤ 7) : v = v' ↔ ∀ q, q < 7 → sn cnt (cT n p T q) = sn cnt (cT n p T' q) := by
  unfold AG at h h'
  cases cnt with
  | true =>
    rw [if_pos rfl] at h h'
    rw [h, h', cT_sum hp, cT_sum hp]
    unfold sn
    simp only [if_true]
    constructor
    · intro e
      exact base8 (fun q _ => by have := cT_le (n := n) (p := p) (T := T) (q := q); omega) (fun q _ => by have := cT_le (n := n) (p := p) (T := T') (q := q); omega) e
    · intro e
      exact sm_cg (fun q hq => by rw [e q hq])
  | false =>
    rw [if_neg (by decide)] at h h'
    obtain ⟨m, h1, h2, h3⟩ := h
    obtain ⟨m', h1', h2', h3'⟩ := h'
    rw [h2, h2']
    have hb : (∀ q, q < 7 → sn false (cT n p T q) = sn false (cT n p T' q)) ↔ ∀ q, q < 7 → m.testBit q = m'.testBit q := by
      constructor
      · intro e q hq
        have := sn_mt.mp (e q hq)
        unfold mtB at this
        rw [if_neg (by decide), beq_iff_eq] at this
        have a1 := h3 q hq
        have a2 := h3' q hq
        rw [Bool.eq_iff_iff, a1, a2]
        have := decide_eq_decide.mp this
        exact this
      · intro e q hq
        apply sn_mt.mpr
        unfold mtB
        rw [if_neg (by decide), beq_iff_eq]
        apply decide_eq_decide.mpr
        rw [← h3 q hq, ← h3' q hq, e q hq]
    rw [hb]
    constructor
    · intro e q hq
      rw [← (spd_bit m h1).1 q hq, ← (spd_bit m' h1').1 q hq, e]
    · intro e
      unfold spd
      exact sm_cg (fun q hq => by rw [e q hq])
theorem nI_or (a b : Nat) : nI a ||| nI b = nI (a ||| b) := by
  apply Int32.toBitVec_inj.mp
  show BitVec.ofNat 32 a ||| BitVec.ofNat 32 b = BitVec.ofNat 32 (a ||| b)
  apply BitVec.eq_of_getLsbD_eq
  intro i hi
  simp [BitVec.getLsbD_ofNat, hi]
theorem shl8 : ∀ q, q < 7 → (1 : Int32) <<< ((3 * nI q) &&& 31) = nI (8 ^ q) := by decide +kernel
theorem Sa_note_eq {M : Mem} {pl q a : Nat} {cnt : Bool} (hpl : pl < 42) (hq : q < 7) (h : M 15 pl = nI a) : Sa_note (nI pl) (nI q) (cI (cnt = true)) M = some (st2 M 15 pl (nI (if cnt then a + 8 ^ q else a ||| 8 ^ q))) := by
  have ha : aln 15 = 42 := rfl
  unfold Sa_note
  rw [nm_e', shl8 q hq, jp_e]
  simp only [cI_0]
  cases cnt with
  | false =>
    rw [if_pos (by decide), SP_at_nI (by omega) (by omega), bind_s, h, nI_or, SP_put_nI (by omega) (by omega), bind_s]
    rfl
  | true =>
    rw [if_neg (by decide), SP_at_nI (by omega) (by omega), bind_s, h, nI_add, SP_put_nI (by omega) (by omega), bind_s]
    rfl
/-- the ties seen so far -/
def Dp (k0 x0 z0 k x z : Nat) : Bool := decide (k < k0 ∨ (k = k0 ∧ (x < x0 ∨ (x = x0 ∧ z < z0))))
def VW (M : Mem) (n : Nat) (p : Nat → Nat) (S : Nat → Nat) (cnt : Bool) (D : Nat → Nat → Nat → Bool) : Prop := ∀ u, u < n → ∀ k, k < 3 → (∃ v, M 15 (u * 6 + k) = nI v ∧ AG cnt n p (fun z => D k u z && decide (0 < sg S k u z)) v) ∧ ∃ v, M 15 (u * 6 + 3 + k) = nI v ∧ AG cnt n p (fun x => D k x u && decide (0 < sg S k x u)) v
theorem VW.cg {M : Mem} {n : Nat} {p S : Nat → Nat} {cnt : Bool} {D D' : Nat → Nat → Nat → Bool} (h : VW M n p S cnt D) (e : ∀ k, k < 3 → ∀ x, x < n → ∀ z, z < n → 0 < sg S k x z → D k x z = D' k x z) : VW M n p S cnt D' := by
  intro u hu k hk
  obtain ⟨⟨v, a, b⟩, v', a', b'⟩ := h u hu k hk
  refine ⟨⟨v, a, AG_cg b fun z hz => ?_⟩, v', a', AG_cg b' fun z hz => ?_⟩
  · by_cases c : 0 < sg S k u z
    · rw [e k hk u hu z hz c]
    · rw [decide_eq_false c, Bool.and_false, Bool.and_false]
  · by_cases c : 0 < sg S k z u
    · rw [e k hk z hz u hu c]
    · rw [decide_eq_false c, Bool.and_false, Bool.and_false]
theorem wp_jp01 {β : Type} {q : Prop} [Decidable q] {b : Bool} {F : Int32 → Option β} {Q : β → Prop} (hc : q ↔ b = true) (h : wp (F (cI (b = true))) Q) : wp (jp F fun k => if q then k 1 else k 0) Q := by
  rw [jp_e]
  by_cases e : q
  · rw [if_pos e]; rw [hc.mp e] at h; exact h
  · rw [if_neg e]; rw [b_f (fun z => e (hc.mpr z))] at h; exact h
set_option maxHeartbeats 2000000 in
theorem Sa_look_wp {k2 n kd : Nat} {p : Nat → Nat} {S : Nat → Nat} {M : Mem} (hk2 : isP k2) (h : Tbl M 3 S) (hn : M 1 2 = nI n) (h7 : n ≤ 7) (hp : AR M (k2 + 1) n p) (hpn : ∀ z, z < n → p z < n) (hkd : kd < 5) (hS : ∀ k x z, k < 3 → x < 7 → z < 7 → x = z → sg S k x z = 0) :
    wp (Sa_look k2 (nI kd) M) (fun M' => Fr [15] M M' ∧ (3 ≤ kd → VW M' n p S (kd == 4) (fun _ _ _ => true))) := by
  have ha : aln 15 = 42 := rfl
  have hk15 : k2 + 1 ∉ [15] := by rcases isP_3 hk2 with rfl | rfl | rfl <;> decide
  have hp7 : ∀ z, z < n → p z < 7 := fun z hz => by have := hpn z hz; omega
  unfold Sa_look
  simp only [show (nI kd = 0) ↔ kd = 0 from nI_eq (b := 0) (by omega) (by omega), show (nI kd = 1) ↔ kd = 1 from nI_eq (b := 1) (by omega) (by omega), show (nI kd = 2) ↔ kd = 2 from nI_eq (b := 2) (by omega) (by omega)]
  by_cases k0 : kd = 0
  · rw [if_pos k0]; exact wp_some ⟨Fr.rf, fun z => by omega⟩
  rw [if_neg k0]
  by_cases k1 : kd = 1
  · rw [if_pos k1]; exact wp_some ⟨Fr.rf, fun z => by omega⟩
  rw [if_neg k1]
  by_cases k2' : kd = 2
  · rw [if_pos k2']; exact wp_some ⟨Fr.rf, fun z => by omega⟩
  rw [if_neg k2']
  obtain ⟨cnt, hcnt⟩ : ∃ c : Bool, c = (kd == 4) := ⟨_, rfl⟩
  have hc4 : (nI kd = 4) ↔ cnt = true := by
    rw [show (4 : Int32) = nI 4 from rfl, nI_eq (by omega) (by omega), hcnt, beq_iff_eq]
  refine wp_bind (SP_wipe_eq (by omega)) (fun M1 hM1 => ?_)
  obtain ⟨f1, a1⟩ := hM1
  refine LOOP_up (fun k (t : Mem) => (nI k, t)) 3 (by omega) (fun k t => Fr [15] M t ∧ VW t n p S cnt (Dp k 0 0)) (fun o => wp o _) ?_ ?_ 0 M1 (by omega) ⟨f1, fun u hu k hk => ⟨⟨0, ?_, AG_0 fun z hz => ?_⟩, 0, ?_, AG_0 fun z hz => ?_⟩⟩
  · rintro k t ag hk ⟨hf, hv⟩ ih
    show wp (Sa_look_L25 k2 (nI kd) _ ag (nI k) t) _
    unfold Sa_look_L25
    rw [if_neg (by rw [show (3 : Int32) = nI 3 from rfl, nI_leI (by omega) (by omega)]; omega)]
    refine LOOP_up (fun x (t : Mem) => (nI x, t)) n (by omega) (fun x t => Fr [15] M t ∧ VW t n p S cnt (Dp k x 0)) (fun o => wp o _) ?_ ?_ 0 t (by omega) ⟨hf, hv⟩
    · rintro x t ag' hx ⟨hf, hv⟩ ih'
      show wp (Sa_look_L34 k2 (nI kd) (nI k) _ ag' (nI x) t) _
      unfold Sa_look_L34
      rw [hf 1 (by decide), hn, if_neg (by rw [nI_leI (by omega) (by omega)]; omega)]
      refine LOOP_up (fun z (t : Mem) => (nI z, t)) n (by omega) (fun z t => Fr [15] M t ∧ VW t n p S cnt (Dp k x z)) (fun o => wp o _) ?_ ?_ 0 t (by omega) ⟨hf, hv⟩
      · rintro z t ag'' hz ⟨hf, hv⟩ ih''
        show wp (Sa_look_L46 k2 (nI kd) (nI k) (nI x) _ ag'' (nI z) t) _
        unfold Sa_look_L46
        have ht : Tbl t 3 S := h.fr (hf 3 (by decide))
        have hp' : AR t (k2 + 1) n p := hp.fr (hf _ hk15)
        rw [hf 1 (by decide), hn, if_neg (by rw [nI_leI (by omega) (by omega)]; omega), To_tied_eq ht hk (by omega) (by omega), bind_s]
        simp only [cI_0]
        by_cases c : 0 < sg S k x z
        · have hxz : x ≠ z := fun e => by have := hS k x z hk (by omega) (by omega) e; omega
          rw [if_neg (not_not_intro c), Pa_of_nI hk2 (by omega), bind_s, hp' z hz]
          obtain ⟨⟨v, g1, g2⟩, -⟩ := hv x hx k hk
          obtain ⟨-, w, g3, g4⟩ := hv z hz k hk
          have hpx := hp7 x hx
          have hpz := hp7 z hz
          refine wp_jp01 hc4 ?_
          rw [show (6 : Int32) = nI 6 from rfl, show (3 : Int32) = nI 3 from rfl, pk_mul, pk_mul, nI_add, nI_add, nI_add, Sa_note_eq (by omega) hpz g1, bind_s]
          rw [Pa_of_nI hk2 (by omega), bind_s, st2_n (by rcases isP_3 hk2 with rfl | rfl | rfl <;> decide), hp' x hx]
          refine wp_jp01 hc4 ?_
          rw [Sa_note_eq (a := w) (by omega) hpx (by rw [st2_s, upd_n (by omega)]; exact g3), bind_s, show (1 : Int32) = nI 1 from rfl, nI_add]
          refine ih'' _ ⟨hf.tr ((Fr.st (by simp)).tr (Fr.st (by simp))), fun u hu j hj => ?_⟩
          obtain ⟨⟨v1, d1, d2⟩, v2, d3, d4⟩ := hv u hu j hj
          rw [st2_s]
          refine ⟨?_, ?_⟩
          · rw [upd_n (by omega), st2_s]
            by_cases e : u = x ∧ j = k
            · obtain ⟨rfl, rfl⟩ := e
              refine ⟨_, by rw [upd_s], AG_step g2 hp7 hz ?_ ?_ (fun q hq hne => ?_)⟩
              · simp [Dp]
              · simp [Dp, c]
              · congr 1; unfold Dp; apply decide_eq_decide.mpr; omega
            · refine ⟨v1, by rw [upd_n (by omega)]; exact d1, AG_cg d2 (fun q hq => ?_)⟩
              congr 1; unfold Dp; apply decide_eq_decide.mpr; omega
          · by_cases e : u = z ∧ j = k
            · obtain ⟨rfl, rfl⟩ := e
              refine ⟨_, by rw [upd_s], AG_step g4 hp7 hx ?_ ?_ (fun q hq hne => ?_)⟩
              · simp [Dp]
              · simp [Dp, c]
              · congr 1; unfold Dp; apply decide_eq_decide.mpr; omega
            · refine ⟨v2, by rw [upd_n (by omega), st2_s, upd_n (by omega)]; exact d3, AG_cg d4 (fun q hq => ?_)⟩
              congr 1; unfold Dp; apply decide_eq_decide.mpr; omega
        · rw [if_pos c, show (1 : Int32) = nI 1 from rfl, nI_add]
          refine ih'' t ⟨hf, hv.cg (fun j hj u hu q hq hpos => ?_)⟩
          unfold Dp; apply decide_eq_decide.mpr
          have : ¬ (j = k ∧ u = x ∧ q = z) := fun e => by obtain ⟨rfl, rfl, rfl⟩ := e; exact c hpos
          omega
      · rintro t ag'' ⟨hf, hv⟩
        show wp (Sa_look_L46 k2 (nI kd) (nI k) (nI x) _ ag'' (nI n) t) _
        unfold Sa_look_L46
        rw [hf 1 (by decide), hn, if_pos (by rw [nI_leI (by omega) (by omega)]; omega), show (1 : Int32) = nI 1 from rfl, nI_add]
        refine ih' t ⟨hf, hv.cg (fun j hj u hu q hq hpos => ?_)⟩
        unfold Dp; apply decide_eq_decide.mpr; omega
    · rintro t ag' ⟨hf, hv⟩
      show wp (Sa_look_L34 k2 (nI kd) (nI k) _ ag' (nI n) t) _
      unfold Sa_look_L34
      rw [hf 1 (by decide), hn, if_pos (by rw [nI_leI (by omega) (by omega)]; omega), show (1 : Int32) = nI 1 from rfl, nI_add]
      refine ih t ⟨hf, hv.cg (fun j hj u hu q hq hpos => ?_)⟩
      unfold Dp; apply decide_eq_decide.mpr; omega
  · rintro t ag ⟨hf, hv⟩
    show wp (Sa_look_L25 k2 (nI kd) _ ag (nI 3) t) _
    unfold Sa_look_L25
    rw [if_pos (by decide)]
    refine wp_some ⟨hf, fun _ => ?_⟩
    rw [← hcnt]
    exact hv.cg (fun j hj u hu q hq hpos => by unfold Dp; exact decide_eq_true (Or.inl hj))
  · rw [a1, if_pos (by omega)]; rfl
  · simp [Dp]
  · rw [a1, if_pos (by omega)]; rfl
  · simp [Dp]
theorem Sa_sameView_eq {n x y : Nat} {p S : Nat → Nat} {cnt : Bool} {M : Mem} (hv : VW M n p S cnt (fun _ _ _ => true)) (h7 : n ≤ 7) (hpn : ∀ z, z < n → p z < n) (hx : x < n) (hy : y < n) : Sa_sameView (nI x) (nI y) M = some (cI (ldB S n p cnt x y = true)) := by
  have ha : aln 15 = 42 := rfl
  have hp7 : ∀ z, z < n → p z < 7 := fun z hz => by have := hpn z hz; omega
  have hcT : ∀ (T : Nat → Bool) q, n ≤ q → cT n p T q = 0 := fun T q hq => by
    have := (cT_pos (n := n) (p := p) (T := T) (q := q)).mp
    rcases Nat.eq_zero_or_pos (cT n p T q) with z | z
    · exact z
    · obtain ⟨u, h1, -, h2⟩ := this z
      have := hpn u h1; omega
  -- one side's views are alike just if the counts are
  have side : ∀ k, k < 3 → (∃ v v', M 15 (x * 6 + k) = nI v ∧ M 15 (y * 6 + k) = nI v' ∧ v < 8 ^ 7 ∧ v' < 8 ^ 7 ∧ (v = v' ↔ ∀ q, q < n → sn cnt (ld S n p k x q false) = sn cnt (ld S n p k y q false))) ∧ ∃ v v', M 15 (x * 6 + 3 + k) = nI v ∧ M 15 (y * 6 + 3 + k) = nI v' ∧ v < 8 ^ 7 ∧ v' < 8 ^ 7 ∧ (v = v' ↔ ∀ q, q < n → sn cnt (ld S n p k x q true) = sn cnt (ld S n p k y q true)) := by
    intro k hk
    obtain ⟨⟨v1, a1, b1⟩, w1, c1, d1⟩ := hv x hx k hk
    obtain ⟨⟨v2, a2, b2⟩, w2, c2, d2⟩ := hv y hy k hk
    have r7 : ∀ (T T' : Nat → Bool) , (∀ q, q < 7 → sn cnt (cT n p T q) = sn cnt (cT n p T' q)) ↔ ∀ q, q < n → sn cnt (cT n p T q) = sn cnt (cT n p T' q) := fun T T' => by
      constructor
      · intro h q hq; exact h q (by omega)
      · intro h q hq
        by_cases e : q < n
        · exact h q e
        · rw [hcT T q (by omega), hcT T' q (by omega)]
    have l1 : ∀ u q, cT n p (fun z => true && decide (0 < sg S k u z)) q = ld S n p k u q false := fun u q => sm_cg (fun z _ => by simp)
    have l2 : ∀ u q, cT n p (fun z => true && decide (0 < sg S k z u)) q = ld S n p k u q true := fun u q => sm_cg (fun z _ => by simp)
    refine ⟨⟨v1, v2, a1, a2, AG_lt b1 hp7 h7, AG_lt b2 hp7 h7, ?_⟩, w1, w2, c1, c2, AG_lt d1 hp7 h7, AG_lt d2 hp7 h7, ?_⟩
    · rw [AG_eq b1 b2 hp7 h7, r7]
      simp only [l1]
    · rw [AG_eq d1 d2 hp7 h7, r7]
      simp only [l2]
  have hB : ldB S n p cnt x y = true ↔ ∀ k, k < 3 → (∀ q, q < n → sn cnt (ld S n p k x q false) = sn cnt (ld S n p k y q false)) ∧ ∀ q, q < n → sn cnt (ld S n p k x q true) = sn cnt (ld S n p k y q true) := by
    unfold ldB
    rw [al_iff]
    constructor
    · intro h k hk
      have := al_iff.mp (h k hk)
      exact ⟨fun q hq => by have := this q hq; unfold ldC at this; simp only [Bool.and_eq_true, beq_iff_eq] at this; exact this.1, fun q hq => by have := this q hq; unfold ldC at this; simp only [Bool.and_eq_true, beq_iff_eq] at this; exact this.2⟩
    · intro h k hk
      refine al_iff.mpr (fun q hq => ?_)
      unfold ldC
      simp only [Bool.and_eq_true, beq_iff_eq]
      exact ⟨(h k hk).1 q hq, (h k hk).2 q hq⟩
  have p87 : (8 : Nat) ^ 7 = 2097152 := by decide
  unfold Sa_sameView
  refine LOOP_up (fun s (_ : Unit) => nI s) 6 (by omega) (fun s _ => ∀ j, j < s → M 15 (x * 6 + j) = M 15 (y * 6 + j)) (fun o => o = _) ?_ ?_ 0 () (by omega) (fun j hj => by omega)
  · rintro s - ag hs hJ ih
    show Sa_sameView_L2 _ _ M _ ag (nI s) = _
    unfold Sa_sameView_L2
    rw [if_neg (by rw [show (6 : Int32) = nI 6 from rfl, nI_leI (by omega) (by omega)]; omega), show (6 : Int32) = nI 6 from rfl, pk_mul, pk_mul, nI_add, nI_add, SP_at_nI (by omega) (by omega), bind_s, SP_at_nI (by omega) (by omega), bind_s]
    by_cases e : M 15 (x * 6 + s) = M 15 (y * 6 + s)
    · rw [if_pos e, show (1 : Int32) = nI 1 from rfl, nI_add]
      refine ih () (fun j hj => ?_)
      by_cases e' : j = s
      · subst e'; exact e
      · exact hJ j (by omega)
    · rw [if_neg e, b_f (b := ldB S n p cnt x y) (fun hb => e ?_)]
      · rfl
      · have hB' := hB.mp hb
        by_cases s3 : s < 3
        · obtain ⟨⟨v, v', q1, q2, -, -, q3⟩, -⟩ := side s s3
          rw [q1, q2, q3.mpr (hB' s s3).1]
        · obtain ⟨-, v, v', q1, q2, -, -, q3⟩ := side (s - 3) (by omega)
          rw [show x * 6 + s = x * 6 + 3 + (s - 3) by omega, show y * 6 + s = y * 6 + 3 + (s - 3) by omega, q1, q2, q3.mpr (hB' (s - 3) (by omega)).2]
  · rintro - ag hJ
    show Sa_sameView_L2 _ _ M _ ag (nI 6) = _
    unfold Sa_sameView_L2
    rw [if_pos (by decide)]
    have : ldB S n p cnt x y = true := hB.mpr (fun k hk => by
      obtain ⟨⟨v, v', q1, q2, l1, l2, q3⟩, w, w', r1, r2, l3, l4, r3⟩ := side k hk
      have j1 := hJ k (by omega)
      have j2 := hJ (3 + k) (by omega)
      rw [q1, q2] at j1
      rw [← Nat.add_assoc, ← Nat.add_assoc, r1, r2] at j2
      exact ⟨q3.mp ((nI_eq (by omega) (by omega)).mp j1), r3.mp ((nI_eq (by omega) (by omega)).mp j2)⟩)
    rw [this]; rfl
theorem Sa_alike_eq {M : Mem} {S : Nat → Nat} {n x y kd : Nat} {p ma : Nat → Nat} (h : Tbl M 3 S) (hn : M 1 2 = nI n) (h7 : n ≤ 7) (hm : AR M 2 7 ma) (hm3 : ∀ z, z < 7 → ma z ≤ 3) (hpn : ∀ z, z < n → p z < n) (hv : 3 ≤ kd → VW M n p S (kd == 4) (fun _ _ _ => true)) (hkd : kd < 5) (hx : x < n) (hy : y < n) : Sa_alike (nI kd) (nI x) (nI y) M = some (cI (soB S n ma p kd x y = true)) := by
  unfold Sa_alike soB
  rw [To_sameMark_eq hm hm3 (by omega) (by omega), bind_s]
  simp only [cI_0, show (nI kd = 0) ↔ kd = 0 from nI_eq (b := 0) (by omega) (by omega), show (nI kd = 1) ↔ kd = 1 from nI_eq (b := 1) (by omega) (by omega), show (nI kd = 2) ↔ kd = 2 from nI_eq (b := 2) (by omega) (by omega)]
  by_cases e : ma x = ma y
  · rw [if_neg (not_not_intro e), beq_iff_eq.mpr e, Bool.true_and]
    by_cases k0 : kd = 0
    · rw [if_pos k0, if_pos k0]; rfl
    · rw [if_neg k0, if_neg k0]
      by_cases k1 : kd = 1
      · rw [if_pos k1, if_pos k1, show (0 : Int32) = cI (false = true) from rfl, Sa_swappable_eq h hn h7 (by omega) (by omega), bind_s, bz_cI]
      · rw [if_neg k1, if_neg k1]
        by_cases k2 : kd = 2
        · rw [if_pos k2, if_pos k2, show (1 : Int32) = cI (true = true) from rfl, Sa_swappable_eq h hn h7 (by omega) (by omega), bind_s, bz_cI]
        · rw [if_neg k2, if_neg k2, Sa_sameView_eq (hv (by omega)) h7 hpn hx hy, bind_s, bz_cI]
  · rw [if_pos e, beq_eq_false_iff_ne.mpr e, Bool.false_and]; rfl
