/-! The judgement G: one memory, one rule an instruction. -/
def TB : List Cond := lw_tbl.filter goodWord
theorem TB_in {w : Cond} (h : w ∈ lw_tbl) (hg : goodWord w = true) : w ∈ TB := List.mem_filter.mpr ⟨h, hg⟩
theorem TB_good : GoodIn TB TB := fun _ h => ⟨h, good_of_word (List.mem_filter.mp h).2⟩
def isNest : Cond → Bool
  | .fieldLinkNest .. => true
  | .methodLinkNest .. => true
  | _ => false
def NW : List Cond := lw_tbl.filter isNest
theorem NW_in {w : Cond} (h : w ∈ lw_tbl) (hg : isNest w = true) : w ∈ NW := List.mem_filter.mpr ⟨h, hg⟩
theorem nest_warm {s U : State} (hW : s.WarmedH U.vm) : ∀ w : Cond, isNest w = true → va_Nw w s → va_Nw w U := by
  intro w
  cases w <;> intro h <;> first | (exact va_Nw.warmF hW) | (exact va_Nw.warmM hW) | (simp [isNest] at h)
theorem nest_on : ∀ w : Cond, isNest w = true → w.onTables = true := by
  intro w
  cases w <;> intro h <;> first | rfl | (simp [isNest] at h)
abbrev Mem := Nat → Nat → Int32
abbrev inb (i : Int32) (n : Nat) : Prop := ¬ (i < 0 ∨ n ≤ i.toNatClampNeg)
def rd (M : Mem) (k : Nat) (i : Int32) : Int32 := M k i.toNatClampNeg
def st2 (M : Mem) (k j : Nat) (v : Int32) : Mem := fun a => if a = k then upd (M k) j v else M a
def wr (M : Mem) (k : Nat) (i : Int32) (v : Int32) : Mem := st2 M k i.toNatClampNeg v
def bz (v : Int32) : Int32 := v &&& 1
def nm {α β : Type} (e : α) (f : α → Option β) : Option β := f e
def jp {κ β : Type} (rest : κ) (f : κ → Option β) : Option β := f rest
def LOOP {σ β : Type} (F : (σ → Option β) → σ → Option β) : Nat → σ → Option β
  | 0, _ => none
  | n + 1, s => F (LOOP F n) s
theorem LOOP_rule {σ β : Type} {F : (σ → Option β) → σ → Option β} (P : σ → Option β → Prop) (h0 : ∀ s, P s none) (hF : ∀ ag, (∀ s, P s (ag s)) → ∀ s, P s (F ag s)) : ∀ n s, P s (LOOP F n s)
  | 0, s => h0 s
  | n + 1, s => hF _ (LOOP_rule P h0 hF n) s
def FU : Nat := 4000000
abbrev OB := (Nat × List (Option Nat)) ⊕ (Nat × Bool)
def obl : List OB := [.inl (9, [some 1, some 4, some 6, some 10, some 14, some 16, some 20, some 23, some 26, some 28, some 30, some 32, none]), .inl (7, [some 2, some 3, none]), .inr (7, false), .inr (147, false), .inl (6, [some 5, none]), .inr (360, false), .inl (5, [some 7, some 8, none, none, none]), .inr (60, false), .inl (6, [some 9, none]), .inr (360, false), .inl (2, [some 11, some 12, some 13, none]), .inr (6, false), .inr (6, false), .inr (6, false), .inl (4, [some 15]), .inr (42, false), .inl (8, [some 17, some 18, some 19, none, none]), .inr (7, false), .inr (7, false), .inr (7, false), .inl (0, [some 21, some 22]), .inr (147, false), .inr (7, false), .inl (1, [some 24, some 25]), .inr (49, false), .inr (128, false), .inl (3, [some 27, none, none]), .inr (7, false), .inl (3, [some 29, none, none]), .inr (7, false), .inl (3, [some 31, none, none]), .inr (7, false), .inr (7, false), .inl (10, [some 34, some 35, some 36, some 37, some 38, some 39, some 40, some 41, none, none, none, some 42, none, none, none, some 43, some 44, some 45, some 46, some 47, some 48, some 49, some 50, some 51, some 52, some 53, some 54, some 55, some 56, some 57, some 58, some 59, some 60, none]), .inr (7, false), .inr (7, false), .inr (60, false), .inr (60, false), .inr (60, false), .inr (60, false), .inr (60, false), .inr (60, false), .inr (60, false), .inr (20, false), .inr (20, false), .inr (20, false), .inr (20, false), .inr (20, false), .inr (20, false), .inr (147, false), .inr (7, false), .inr (7, false), .inr (7, false), .inr (7, false), .inr (7, false), .inr (154, false), .inr (154, false), .inr (49, true), .inr (6, false), .inr (6, false), .inr (6, true)]
def ob (k : Nat) : OB := obl.getD k (.inr (0, false))
def aln (k : Nat) : Nat := match ob k with
  | .inr (n, _) => n
  | .inl _ => 0
def isP (k : Nat) : Prop := k + 1 < 61 ∧ ob k = .inl (3, [some (k + 1), none, none]) ∧ ob (k + 1) = .inr (7, false)
def isT (k : Nat) : Prop := k + 1 < 61 ∧ ob k = .inl (6, [some (k + 1), none]) ∧ ob (k + 1) = .inr (360, false)
def isA (k : Nat) : Prop := k < 61 ∧ ob k = .inr (aln k, false)
theorem isP.a {k : Nat} (h : isP k) : isA (k + 1) := ⟨h.1, by rw [h.2.2]; simp [aln, h.2.2]⟩
theorem isT.a {k : Nat} (h : isT k) : isA (k + 1) := ⟨h.1, by rw [h.2.2]; simp [aln, h.2.2]⟩
def fvs (ad : Nat → Nat) (m : Nat → Int32) : Nat → List (Option Nat) → List Value
  | _, [] => []
  | i, some j :: t => .ref (ad j) :: fvs ad m (i + 1) t
  | i, none :: t => .int (m i) :: fvs ad m (i + 1) t
theorem fvs_len (ad : Nat → Nat) (m : Nat → Int32) : ∀ (fs : List (Option Nat)) (i : Nat), (fvs ad m i fs).length = fs.length
  | [], _ => rfl
  | some _ :: t, i => by simp [fvs, fvs_len ad m t]
  | none :: t, i => by simp [fvs, fvs_len ad m t]
theorem fvs_ref (ad : Nat → Nat) (m : Nat → Int32) : ∀ (fs : List (Option Nat)) (i k j : Nat), fs[k]? = some (some j) → (fvs ad m i fs)[k]? = some (.ref (ad j))
  | [], _, _, _, h => by simp at h
  | some a :: t, i, 0, j, h => by simp at h; subst h; simp [fvs]
  | none :: t, i, 0, j, h => by simp at h
  | some a :: t, i, k + 1, j, h => by simp at h; simp [fvs, fvs_ref ad m t (i + 1) k j h]
  | none :: t, i, k + 1, j, h => by simp at h; simp [fvs, fvs_ref ad m t (i + 1) k j h]
theorem fvs_int (ad : Nat → Nat) (m : Nat → Int32) : ∀ (fs : List (Option Nat)) (i k : Nat), fs[k]? = some none → (fvs ad m i fs)[k]? = some (.int (m (i + k)))
  | [], _, _, h => by simp at h
  | some a :: t, i, 0, h => by simp at h
  | none :: t, i, 0, h => by simp [fvs]
  | some a :: t, i, k + 1, h => by simp at h; simp [fvs, fvs_int ad m t (i + 1) k h]; congr 1; omega
  | none :: t, i, k + 1, h => by simp at h; simp [fvs, fvs_int ad m t (i + 1) k h]; congr 1; omega
theorem fvs_lt (ad : Nat → Nat) (m : Nat → Int32) (p : Nat) (v : Int32) : ∀ (fs : List (Option Nat)) (i : Nat), p < i → fvs ad (upd m p v) i fs = fvs ad m i fs
  | [], _, _ => rfl
  | some _ :: t, i, h => by simp [fvs, fvs_lt ad m p v t (i + 1) (by omega)]
  | none :: t, i, h => by simp [fvs, fvs_lt ad m p v t (i + 1) (by omega), upd, show i ≠ p by omega]
theorem fvs_set (ad : Nat → Nat) (m : Nat → Int32) (v : Int32) : ∀ (fs : List (Option Nat)) (i k : Nat), fs[k]? = some none → (fvs ad m i fs).set k (.int v) = fvs ad (upd m (i + k) v) i fs
  | [], _, _, h => by simp at h
  | some a :: t, i, 0, h => by simp at h
  | none :: t, i, 0, h => by simp [fvs, upd, fvs_lt ad m i v t (i + 1) (by omega)]
  | some a :: t, i, k + 1, h => by simp at h; simp [fvs, fvs_set ad m v t (i + 1) k h]; congr 2; omega
  | none :: t, i, k + 1, h => by
    simp at h
    have e := fvs_set ad m v t (i + 1) k h
    have e2 : i + 1 + k = i + (k + 1) := by omega
    rw [e2] at e
    simp [fvs, e, upd]
def cel (ad : Nat → Nat) (cI cZ : ClassId) (M : Mem) (k : Nat) : va_E := match ob k with
  | .inl q => .inr (q.1, fvs ad (M k) 0 q.2)
  | .inr q => .inl (if q.2 then cZ else cI, q.1, .inl (M k))
def wd (ad : Nat → Nat) (cI cZ : ClassId) (M : Mem) : va_W := (List.range 61).map (fun k => (ad k, cel ad cI cZ M k))
theorem wd_get {ad : Nat → Nat} {cI cZ : ClassId} {M : Mem} {k : Nat} (h : k < 61) : (wd ad cI cZ M)[k]? = some (ad k, cel ad cI cZ M k) := by simp [wd, h]
theorem wd_lt {ad : Nat → Nat} {cI cZ : ClassId} {M : Mem} {k : Nat} {q : Nat × va_E} (h : (wd ad cI cZ M)[k]? = some q) : k < 61 ∧ q = (ad k, cel ad cI cZ M k) := by
  have hl : k < (wd ad cI cZ M).length := (List.getElem?_eq_some_iff.mp h).1
  have hk : k < 61 := by simpa [wd] using hl
  rw [wd_get hk] at h
  exact ⟨hk, (Option.some.inj h).symm⟩
theorem cel_congr {ad : Nat → Nat} {cI cZ : ClassId} {M M' : Mem} {k : Nat} (h : M' k = M k) : cel ad cI cZ M' k = cel ad cI cZ M k := by simp [cel, h]
theorem wd_set {ad : Nat → Nat} {cI cZ : ClassId} {M : Mem} {k j : Nat} {v : Int32} {c : va_E} (hk : k < 61) (hc : c = cel ad cI cZ (st2 M k j v) k) : (wd ad cI cZ M).set k (ad k, c) = wd ad cI cZ (st2 M k j v) := by
  subst hc
  apply List.ext_getElem?
  intro i
  by_cases hi : i < 61
  · rw [wd_get hi]
    by_cases h : i = k
    · subst h
      rw [List.getElem?_set_self (by simp [wd]; omega)]
    · rw [List.getElem?_set_ne (Ne.symm h), wd_get hi, cel_congr (M := M) (M' := st2 M k j v) (by simp [st2, h])]
  · rw [List.getElem?_eq_none (by simp [wd]; omega), List.getElem?_eq_none (by simp [wd]; omega)]
theorem cel_obj {ad : Nat → Nat} {cI cZ : ClassId} {M : Mem} {k ci : Nat} {fs : List (Option Nat)} (h : ob k = .inl (ci, fs)) : cel ad cI cZ M k = .inr (ci, fvs ad (M k) 0 fs) := by simp [cel, h]
theorem cel_arr {ad : Nat → Nat} {cI cZ : ClassId} {M : Mem} {k n : Nat} (h : ob k = .inr (n, false)) : cel ad cI cZ M k = .inl (cI, n, .inl (M k)) := by simp [cel, h]
theorem cel_arrZ {ad : Nat → Nat} {cI cZ : ClassId} {M : Mem} {k n : Nat} (h : ob k = .inr (n, true)) : cel ad cI cZ M k = .inl (cZ, n, .inl (M k)) := by simp [cel, h]
def Aw (ad : Nat → Nat) : Nat → Prop := fun q => ∃ k, k < 61 ∧ q = ad k
theorem wd_D {ad : Nat → Nat} {cI cZ : ClassId} {M : Mem} {A : Nat → Prop} (hi : ∀ i j, i < 61 → j < 61 → ad i = ad j → i = j) (hA : ∀ q, Aw ad q → A q) : va_D A (wd ad cI cZ M) := by
  refine ⟨fun i j p q h1 h2 h => ?_, fun k q h => ?_⟩
  · obtain ⟨a1, rfl⟩ := wd_lt h1
    obtain ⟨a2, rfl⟩ := wd_lt h2
    exact hi i j a1 a2 h
  · obtain ⟨a1, rfl⟩ := wd_lt h
    exact hA _ ⟨k, a1, rfl⟩
abbrev Cx := Program × Launch × Env × Room × State × MethodId × Array Value × List Frame × Method × Code × va_G × ClassId × ClassId × (Nat → Prop) × Nat × Nat × (Option Value × Mem → State → Prop)
abbrev xP (X : Cx) : Program := X.1
abbrev xL (X : Cx) : Launch := X.2.1
abbrev xE (X : Cx) : Env := X.2.2.1
abbrev xR (X : Cx) : Room := X.2.2.2.1
abbrev xS (X : Cx) : State := X.2.2.2.2.1
abbrev xM (X : Cx) : MethodId := X.2.2.2.2.2.1
abbrev xG (X : Cx) : Array Value := X.2.2.2.2.2.2.1
abbrev xB (X : Cx) : List Frame := X.2.2.2.2.2.2.2.1
abbrev xMe (X : Cx) : Method := X.2.2.2.2.2.2.2.2.1
abbrev xC (X : Cx) : Code := X.2.2.2.2.2.2.2.2.2.1
abbrev xD (X : Cx) : va_G := X.2.2.2.2.2.2.2.2.2.2.1
abbrev xI (X : Cx) : ClassId := X.2.2.2.2.2.2.2.2.2.2.2.1
abbrev xZ (X : Cx) : ClassId := X.2.2.2.2.2.2.2.2.2.2.2.2.1
abbrev xA (X : Cx) : Nat → Prop := X.2.2.2.2.2.2.2.2.2.2.2.2.2.1
abbrev xK (X : Cx) : Nat := X.2.2.2.2.2.2.2.2.2.2.2.2.2.2.1
abbrev xN (X : Cx) : Nat := X.2.2.2.2.2.2.2.2.2.2.2.2.2.2.2.1
abbrev xQ (X : Cx) : Option Value × Mem → State → Prop := X.2.2.2.2.2.2.2.2.2.2.2.2.2.2.2.2
/-- a method: not the law; name; code; locals; answer; room: frames, words -/
abbrev Mi := Bool × MethodName × ByteArray × Nat × Option FieldType × Nat × Nat
abbrev my (i : Mi) : MethodName := i.2.1
abbrev mcc (i : Mi) : ByteArray := i.2.2.1
abbrev mnL (i : Mi) : Nat := i.2.2.2.1
abbrev mret (i : Mi) : Option FieldType := i.2.2.2.2.1
abbrev mfr (i : Mi) : Nat := i.2.2.2.2.2.1
abbrev mlo (i : Mi) : Nat := i.2.2.2.2.2.2
abbrev mrm (i : Mi) : Room := { frames := mfr i, cells := 0, slots := 0, locals := mlo i }
abbrev mws (i : Mi) : List Cond := Cond.code (my i) (mcc i) (mnL i) (mret i) :: TB
def Qw (ad : Nat → Nat) (D : va_G) (cI cZ : ClassId) (A : Nat → Prop) (r : Option Value × Mem) : Array Value → State → Outcome → State → Prop := fun _ st o t => (o = .returned r.1 ∧ va_P D vwCl (wd ad cI cZ r.2) t.heap) ∧ va_F A st t
abbrev wty (cI cZ : ClassId) : List (ClassId × FieldType) := [(cI, .int), (cZ, .boolean)]
def Bw (ad : Nat → Nat) (D : va_G) (cI cZ : ClassId) (M : Mem) (U : State) : Prop := va_P D vwCl (wd ad cI cZ M) U.heap ∧ va_K D vwCl (wty cI cZ) U ∧ (∀ i j, i < 61 → j < 61 → ad i = ad j → i = j) ∧ ∀ w ∈ NW, va_Nw w U
def Ok (X : Cx) (ad : Nat → Nat) (mi : Mi) : Prop :=
  ((xP X).tables.exec = Jvm.exec ∧ (xC X).code = mcc mi ∧ (xC X).maxLocals = mnL mi ∧ (xMe X).sig.returnType = mret mi ∧ (xMe X).locks = false ∧ (xS X).vm.findClass (my mi).cls = some (xM X).cls) ∧
  (∀ w ∈ TB, w.before (xG X) (xS X) = true) ∧ (∀ w ∈ NW, va_Nw w (xS X)) ∧ va_K (xD X) vwCl (wty (xI X) (xZ X)) (xS X) ∧
  (∀ i j, i < 61 → j < 61 → ad i = ad j → i = j) ∧ (∀ q, Aw ad q → xA X q) ∧
  ((xR X).frames = mfr mi ∧ (xR X).locals = mlo mi ∧ xK X ≤ (xR X).cells ∧ xN X ≤ (xR X).slots) ∧
  (mi.1 = true → ∀ r, xQ X r = MQ (xB X) (Qw ad (xD X) (xI X) (xZ X) (xA X) r) (xG X) (xS X) (xK X) (xN X) (xA X))
section OK
variable {X : Cx} {ad : Nat → Nat} {mi : Mi}
theorem Ok.hx (h : Ok X ad mi) : (xP X).tables.exec = Jvm.exec := h.1.1
theorem Ok.hb (h : Ok X ad mi) : (xC X).code = mcc mi := h.1.2.1
theorem Ok.hml (h : Ok X ad mi) : (xC X).maxLocals = mnL mi := h.1.2.2.1
theorem Ok.hr (h : Ok X ad mi) : (xMe X).sig.returnType = mret mi := h.1.2.2.2.1
theorem Ok.hlk (h : Ok X ad mi) : (xMe X).locks = false := h.1.2.2.2.2.1
theorem Ok.hown (h : Ok X ad mi) : (xS X).vm.findClass (my mi).cls = some (xM X).cls := h.1.2.2.2.2.2
theorem Ok.hts (h : Ok X ad mi) : ∀ w ∈ TB, w.before (xG X) (xS X) = true := h.2.1
theorem Ok.hnw (h : Ok X ad mi) : ∀ w ∈ NW, va_Nw w (xS X) := h.2.2.1
theorem Ok.hK (h : Ok X ad mi) : va_K (xD X) vwCl (wty (xI X) (xZ X)) (xS X) := h.2.2.2.1
theorem Ok.hin (h : Ok X ad mi) : ∀ i j, i < 61 → j < 61 → ad i = ad j → i = j := h.2.2.2.2.1
theorem Ok.hA (h : Ok X ad mi) : ∀ q, Aw ad q → xA X q := h.2.2.2.2.2.1
theorem Ok.hR (h : Ok X ad mi) : (xR X).frames = mfr mi ∧ (xR X).locals = mlo mi ∧ xK X ≤ (xR X).cells ∧ xN X ≤ (xR X).slots := h.2.2.2.2.2.2.1
theorem Ok.hQ (h : Ok X ad mi) : mi.1 = true → ∀ r, xQ X r = MQ (xB X) (Qw ad (xD X) (xI X) (xZ X) (xA X) r) (xG X) (xS X) (xK X) (xN X) (xA X) := h.2.2.2.2.2.2.2
theorem Ok.hD (h : Ok X ad mi) {M : Mem} : va_D (xA X) (wd ad (xI X) (xZ X) M) := wd_D h.hin h.hA
end OK
def G {β : Type} (X : Cx) (ad : Nat → Nat) (mi : Mi) (φ : β → Option Value × Mem) (pc : Nat) (L : List (Nat × Value)) (st : List Value) (M : Mem) (o : Option β) : Prop :=
  Ok X ad mi → ∀ r, o = some r → ∀ (H : Heap) (locs : List Loc) (ls : Array Slot), lv_has ls (mnL mi) L → va_P (xD X) vwCl (wd ad (xI X) (xZ X) M) H → va_S (xA X) (xS X).heap H locs → W (xP X) (xL X) (xE X) (xR X) (xS X) (xM X) (xG X) (xB X) (xMe X) (xC X) H locs (xK X) (xN X) (xQ X (φ r)) (F0 (xM X) pc ls st)
def MC {β : Type} (mi : Mi) (φ : β → Option Value × Mem) (as : (Nat → Nat) → List Value) (M : Mem) (o : Option β) : Prop :=
  ∀ (l : Launch) (ad : Nat → Nat) (D : va_G) (cI cZ : ClassId) (r : β), o = some r → Met l (my mi) (mws mi) (mrm mi) (va_Pc (as ad) (Bw ad D cI cZ M)) (Qw ad D cI cZ (Aw ad) (φ r)) 0 0 (Aw ad)
theorem MC_of {β : Type} {mi : Mi} {φ : β → Option Value × Mem} {as : (Nat → Nat) → List Value} {M : Mem} {o : Option β} (h1 : mi.1 = true) (hy : plainName (my mi).cls = true) (L : (Nat → Nat) → List (Nat × Value)) (hL : ∀ ad, lv_args 0 (as ad) = L ad) (hn : ∀ ad, (lg_sl (as ad)).length ≤ mnL mi)
    (h : ∀ (X : Cx) (ad : Nat → Nat), G X ad mi φ 0 (L ad) [] M o) : MC mi φ as M o := by
  intro l ad D cI cZ r hr
  refine Met.ofW (cc := mcc mi) (maxL := mnL mi) (ret := mret mi) hy rfl ?_
  intro p e s m args below meth c s₁ B hml hv
  obtain ⟨rfl, hP, hK, hin, hN⟩ := hv
  have hts := atoms_spec (ws := mws mi) B.pre
  rw [lg_entry_eq]
  have hl := lv_entry (as ad) (n := mnL mi) (hn ad)
  rw [hL ad] at hl
  exact h (p, l, e, mrm mi, s, m, (as ad).toArray, below, meth, c, D, cI, cZ, Aw ad, 0, 0, fun r => MQ below (Qw ad D cI cZ (Aw ad) r) (as ad).toArray s 0 0 (Aw ad)) ad
    ⟨⟨B.exec, B.bytes, hml, B.returns, B.notSynchronized, findClass_of_methodNamed B.named⟩, fun w hw => hts w (List.mem_cons_of_mem _ hw), hN, hK, hin, fun _ h => h, ⟨rfl, rfl, Nat.le_refl _, Nat.le_refl _⟩, fun _ _ => rfl⟩ r hr _ [] _ hl hP va_S.rf
section GR
variable {β : Type} {X : Cx} {ad : Nat → Nat} {mi : Mi} {φ : β → Option Value × Mem} {pc : Nat} {L L' : List (Nat × Value)} {st : List Value} {M : Mem} {o : Option β}
theorem G_none : G X ad mi φ pc L st M none := fun _ _ h => by cases h
theorem G_sub (ks : List Nat) (h : lv_pick L ks = L') (K : G X ad mi φ pc L' st M o) : G X ad mi φ pc L st M o :=
  fun ok r hr H locs ls h1 h2 h3 => K ok r hr H locs ls (lv_sub h1 ks h) h2 h3
theorem G_nm {α : Type} {e : α} {f : α → Option β} (K : ∀ v, G X ad mi φ pc L st M (f v)) : G X ad mi φ pc L st M (nm e f) := K e
theorem G_nmI {e : Int32} {f : Int32 → Option β} (K : ∀ v, G X ad mi φ pc L (.int v :: st) M (f v)) : G X ad mi φ pc L (.int e :: st) M (nm e f) := K e
theorem G_nmL {e : Int64} {f : Int64 → Option β} (K : ∀ v, G X ad mi φ pc L (.long v :: st) M (f v)) : G X ad mi φ pc L (.long e :: st) M (nm e f) := K e
theorem G_jp {κ : Type} {rest : κ} {f : κ → Option β} (P : κ → Prop) (h1 : P rest) (h2 : ∀ k, P k → G X ad mi φ pc L st M (f k)) : G X ad mi φ pc L st M (jp rest f) := h2 rest h1
theorem G_ite {q : Prop} [Decidable q] {a b : Option β} (ht : q → G X ad mi φ pc L st M a) (hf : ¬ q → G X ad mi φ pc L st M b) : G X ad mi φ pc L st M (if q then a else b) := by
  by_cases h : q
  · rw [if_pos h]; exact ht h
  · rw [if_neg h]; exact hf h

theorem G_iconst {n : Int} {v : Int32} (hd : decode (mcc mi) pc = .ok (.iconst n, 1)) (hv : Int32.ofInt n = v) (K : G X ad mi φ (pc + 1) L (.int v :: st) M o) : G X ad mi φ pc L (st) M o :=
  fun ok r hr H locs ls h1 h2 h3 => lv_iconst ok.hx ok.hb hd hv (K ok r hr H locs ls h1 h2 h3)
theorem G_bipush {n : Int} {v : Int32} (hd : decode (mcc mi) pc = .ok (.bipush n, 2)) (hv : (Int8.ofInt n).toInt32 = v) (K : G X ad mi φ (pc + 2) L (.int v :: st) M o) : G X ad mi φ pc L (st) M o :=
  fun ok r hr H locs ls h1 h2 h3 => lv_bipush ok.hx ok.hb hd hv (K ok r hr H locs ls h1 h2 h3)
theorem G_sipush {n : Int} {v : Int32} (hd : decode (mcc mi) pc = .ok (.sipush n, 3)) (hv : (Int16.ofInt n).toInt32 = v) (K : G X ad mi φ (pc + 3) L (.int v :: st) M o) : G X ad mi φ pc L (st) M o :=
  fun ok r hr H locs ls h1 h2 h3 => lv_sipush ok.hx ok.hb hd hv (K ok r hr H locs ls h1 h2 h3)
theorem G_lconst {n : Fin 2} {v : Int64} (hd : decode (mcc mi) pc = .ok (.lconst n, 1)) (hv : Int64.ofNat (n : Nat) = v) (K : G X ad mi φ (pc + 1) L (.long v :: st) M o) : G X ad mi φ pc L (st) M o :=
  fun ok r hr H locs ls h1 h2 h3 => lv_lconst ok.hx ok.hb hd hv (K ok r hr H locs ls h1 h2 h3)
theorem G_iload_n {k : Fin 4} {x : Int32} (hd : decode (mcc mi) pc = .ok (.iload_n k, 1)) (j : Nat) (hl : L[j]? = some ((k : Nat), .int x)) (K : G X ad mi φ (pc + 1) L (.int x :: st) M o) : G X ad mi φ pc L (st) M o :=
  fun ok r hr H locs ls h1 h2 h3 => lv_iload_n ok.hx ok.hb hd rfl (lv_at h1 j hl) (K ok r hr H locs ls h1 h2 h3)
theorem G_iload {i : Nat} {x : Int32} (hd : decode (mcc mi) pc = .ok (.iload i, 2)) (j : Nat) (hl : L[j]? = some (i, .int x)) (K : G X ad mi φ (pc + 2) L (.int x :: st) M o) : G X ad mi φ pc L (st) M o :=
  fun ok r hr H locs ls h1 h2 h3 => lv_iload ok.hx ok.hb hd (lv_at h1 j hl) (K ok r hr H locs ls h1 h2 h3)
theorem G_lload_n {k : Fin 4} {x : Int64} (hd : decode (mcc mi) pc = .ok (.lload_n k, 1)) (j : Nat) (hl : L[j]? = some ((k : Nat), .long x)) (K : G X ad mi φ (pc + 1) L (.long x :: st) M o) : G X ad mi φ pc L (st) M o :=
  fun ok r hr H locs ls h1 h2 h3 => lv_lload_n ok.hx ok.hb hd rfl (lv_at h1 j hl) (K ok r hr H locs ls h1 h2 h3)
theorem G_lload {i : Nat} {x : Int64} (hd : decode (mcc mi) pc = .ok (.lload i, 2)) (j : Nat) (hl : L[j]? = some (i, .long x)) (K : G X ad mi φ (pc + 2) L (.long x :: st) M o) : G X ad mi φ pc L (st) M o :=
  fun ok r hr H locs ls h1 h2 h3 => lv_lload ok.hx ok.hb hd (lv_at h1 j hl) (K ok r hr H locs ls h1 h2 h3)
theorem G_aload_n {k : Fin 4} {x : Nat} (hd : decode (mcc mi) pc = .ok (.aload_n k, 1)) (j : Nat) (hl : L[j]? = some ((k : Nat), .ref x)) (K : G X ad mi φ (pc + 1) L (.ref x :: st) M o) : G X ad mi φ pc L (st) M o :=
  fun ok r hr H locs ls h1 h2 h3 => lv_aload_n ok.hx ok.hb hd rfl (lv_at h1 j hl) (K ok r hr H locs ls h1 h2 h3)
theorem G_aload {i : Nat} {x : Nat} (hd : decode (mcc mi) pc = .ok (.aload i, 2)) (j : Nat) (hl : L[j]? = some (i, .ref x)) (K : G X ad mi φ (pc + 2) L (.ref x :: st) M o) : G X ad mi φ pc L (st) M o :=
  fun ok r hr H locs ls h1 h2 h3 => lv_aload ok.hx ok.hb hd (lv_at h1 j hl) (K ok r hr H locs ls h1 h2 h3)
theorem G_istore_n {k : Fin 4} {x : Int32} (i : Nat) (hi : (k : Nat) = i) (hd : decode (mcc mi) pc = .ok (.istore_n k, 1)) (hn : i < mnL mi) (hl : (i, Value.int x) :: L.filter (fun q => !(q.1 == i) && !(q.1 + 1 == i && q.2.category == 2)) = L') (K : G X ad mi φ (pc + 1) L' st M o) : G X ad mi φ pc L (.int x :: st) M o :=
  fun ok r hr H locs ls h1 h2 h3 => lv_istore_n ok.hx ok.hb hd hi h1 hn hl (fun ls' h => K ok r hr H locs ls' h h2 h3)
theorem G_istore {x : Int32} {i : Nat} (hd : decode (mcc mi) pc = .ok (.istore i, 2)) (hn : i < mnL mi) (hl : (i, Value.int x) :: L.filter (fun q => !(q.1 == i) && !(q.1 + 1 == i && q.2.category == 2)) = L') (K : G X ad mi φ (pc + 2) L' st M o) : G X ad mi φ pc L (.int x :: st) M o :=
  fun ok r hr H locs ls h1 h2 h3 => lv_istore ok.hx ok.hb hd h1 hn hl (fun ls' h => K ok r hr H locs ls' h h2 h3)
theorem G_lstore_n {k : Fin 4} {x : Int64} (i : Nat) (hi : (k : Nat) = i) (hd : decode (mcc mi) pc = .ok (.lstore_n k, 1)) (hn : i + 1 < mnL mi) (hl : (i, Value.long x) :: L.filter (fun q => !(q.1 == i) && (!(q.1 == i + 1) && !(q.1 + 1 == i && q.2.category == 2))) = L') (K : G X ad mi φ (pc + 1) L' st M o) : G X ad mi φ pc L (.long x :: st) M o :=
  fun ok r hr H locs ls h1 h2 h3 => lv_lstore_n ok.hx ok.hb hd hi h1 hn hl (fun ls' h => K ok r hr H locs ls' h h2 h3)
theorem G_lstore {x : Int64} {i : Nat} (hd : decode (mcc mi) pc = .ok (.lstore i, 2)) (hn : i + 1 < mnL mi) (hl : (i, Value.long x) :: L.filter (fun q => !(q.1 == i) && (!(q.1 == i + 1) && !(q.1 + 1 == i && q.2.category == 2))) = L') (K : G X ad mi φ (pc + 2) L' st M o) : G X ad mi φ pc L (.long x :: st) M o :=
  fun ok r hr H locs ls h1 h2 h3 => lv_lstore ok.hx ok.hb hd h1 hn hl (fun ls' h => K ok r hr H locs ls' h h2 h3)
theorem G_astore_n {k : Fin 4} {x : Nat} (i : Nat) (hi : (k : Nat) = i) (hd : decode (mcc mi) pc = .ok (.astore_n k, 1)) (hn : i < mnL mi) (hl : (i, Value.ref x) :: L.filter (fun q => !(q.1 == i) && !(q.1 + 1 == i && q.2.category == 2)) = L') (K : G X ad mi φ (pc + 1) L' st M o) : G X ad mi φ pc L (.ref x :: st) M o :=
  fun ok r hr H locs ls h1 h2 h3 => lv_astore_n ok.hx ok.hb hd hi h1 hn hl (fun ls' h => K ok r hr H locs ls' h h2 h3)
theorem G_astore {x : Nat} {i : Nat} (hd : decode (mcc mi) pc = .ok (.astore i, 2)) (hn : i < mnL mi) (hl : (i, Value.ref x) :: L.filter (fun q => !(q.1 == i) && !(q.1 + 1 == i && q.2.category == 2)) = L') (K : G X ad mi φ (pc + 2) L' st M o) : G X ad mi φ pc L (.ref x :: st) M o :=
  fun ok r hr H locs ls h1 h2 h3 => lv_astore ok.hx ok.hb hd h1 hn hl (fun ls' h => K ok r hr H locs ls' h h2 h3)
theorem G_iinc {i : Nat} {n : Int} {x : Int32} (v : Int32) (hd : decode (mcc mi) pc = .ok (.iinc i n, 3)) (j : Nat) (hk : L[j]? = some (i, .int x)) (hv : x + Int32.ofInt n = v) (hn : i < mnL mi) (hl : (i, Value.int v) :: L.filter (fun q => !(q.1 == i) && !(q.1 + 1 == i && q.2.category == 2)) = L') (K : G X ad mi φ (pc + 3) L' st M o) : G X ad mi φ pc L st M o :=
  fun ok r hr H locs ls h1 h2 h3 => lv_iinc ok.hx ok.hb hd h1 hk hv hn hl (fun ls' h => K ok r hr H locs ls' h h2 h3)
theorem G_iadd {x y : Int32} (hd : decode (mcc mi) pc = .ok (.iadd, 1)) (K : G X ad mi φ (pc + 1) L (.int (x + y) :: st) M o) : G X ad mi φ pc L (.int y :: .int x :: st) M o :=
  fun ok r hr H locs ls h1 h2 h3 => lv_iadd ok.hx ok.hb hd (K ok r hr H locs ls h1 h2 h3)
theorem G_isub {x y : Int32} (hd : decode (mcc mi) pc = .ok (.isub, 1)) (K : G X ad mi φ (pc + 1) L (.int (x - y) :: st) M o) : G X ad mi φ pc L (.int y :: .int x :: st) M o :=
  fun ok r hr H locs ls h1 h2 h3 => lv_isub ok.hx ok.hb hd (K ok r hr H locs ls h1 h2 h3)
theorem G_imul {x y : Int32} (hd : decode (mcc mi) pc = .ok (.imul, 1)) (K : G X ad mi φ (pc + 1) L (.int (x * y) :: st) M o) : G X ad mi φ pc L (.int y :: .int x :: st) M o :=
  fun ok r hr H locs ls h1 h2 h3 => lv_imul ok.hx ok.hb hd (K ok r hr H locs ls h1 h2 h3)
theorem G_iand {x y : Int32} (hd : decode (mcc mi) pc = .ok (.iand, 1)) (K : G X ad mi φ (pc + 1) L (.int (x &&& y) :: st) M o) : G X ad mi φ pc L (.int y :: .int x :: st) M o :=
  fun ok r hr H locs ls h1 h2 h3 => lv_iand ok.hx ok.hb hd (K ok r hr H locs ls h1 h2 h3)
theorem G_ior {x y : Int32} (hd : decode (mcc mi) pc = .ok (.ior, 1)) (K : G X ad mi φ (pc + 1) L (.int (x ||| y) :: st) M o) : G X ad mi φ pc L (.int y :: .int x :: st) M o :=
  fun ok r hr H locs ls h1 h2 h3 => lv_ior ok.hx ok.hb hd (K ok r hr H locs ls h1 h2 h3)
theorem G_ixor {x y : Int32} (hd : decode (mcc mi) pc = .ok (.ixor, 1)) (K : G X ad mi φ (pc + 1) L (.int (x ^^^ y) :: st) M o) : G X ad mi φ pc L (.int y :: .int x :: st) M o :=
  fun ok r hr H locs ls h1 h2 h3 => lv_ixor ok.hx ok.hb hd (K ok r hr H locs ls h1 h2 h3)
theorem G_ishl {x y : Int32} (hd : decode (mcc mi) pc = .ok (.ishl, 1)) (K : G X ad mi φ (pc + 1) L (.int (x <<< (y &&& 31)) :: st) M o) : G X ad mi φ pc L (.int y :: .int x :: st) M o :=
  fun ok r hr H locs ls h1 h2 h3 => lv_ishl ok.hx ok.hb hd (K ok r hr H locs ls h1 h2 h3)
theorem G_ishr {x y : Int32} (hd : decode (mcc mi) pc = .ok (.ishr, 1)) (K : G X ad mi φ (pc + 1) L (.int (x >>> (y &&& 31)) :: st) M o) : G X ad mi φ pc L (.int y :: .int x :: st) M o :=
  fun ok r hr H locs ls h1 h2 h3 => lv_ishr ok.hx ok.hb hd (K ok r hr H locs ls h1 h2 h3)
theorem G_ladd {x y : Int64} (hd : decode (mcc mi) pc = .ok (.ladd, 1)) (K : G X ad mi φ (pc + 1) L (.long (x + y) :: st) M o) : G X ad mi φ pc L (.long y :: .long x :: st) M o :=
  fun ok r hr H locs ls h1 h2 h3 => lv_ladd ok.hx ok.hb hd (K ok r hr H locs ls h1 h2 h3)
theorem G_lsub {x y : Int64} (hd : decode (mcc mi) pc = .ok (.lsub, 1)) (K : G X ad mi φ (pc + 1) L (.long (x - y) :: st) M o) : G X ad mi φ pc L (.long y :: .long x :: st) M o :=
  fun ok r hr H locs ls h1 h2 h3 => lv_lsub ok.hx ok.hb hd (K ok r hr H locs ls h1 h2 h3)
theorem G_lmul {x y : Int64} (hd : decode (mcc mi) pc = .ok (.lmul, 1)) (K : G X ad mi φ (pc + 1) L (.long (x * y) :: st) M o) : G X ad mi φ pc L (.long y :: .long x :: st) M o :=
  fun ok r hr H locs ls h1 h2 h3 => lv_lmul ok.hx ok.hb hd (K ok r hr H locs ls h1 h2 h3)
theorem G_land {x y : Int64} (hd : decode (mcc mi) pc = .ok (.land, 1)) (K : G X ad mi φ (pc + 1) L (.long (x &&& y) :: st) M o) : G X ad mi φ pc L (.long y :: .long x :: st) M o :=
  fun ok r hr H locs ls h1 h2 h3 => lv_land ok.hx ok.hb hd (K ok r hr H locs ls h1 h2 h3)
theorem G_lor {x y : Int64} (hd : decode (mcc mi) pc = .ok (.lor, 1)) (K : G X ad mi φ (pc + 1) L (.long (x ||| y) :: st) M o) : G X ad mi φ pc L (.long y :: .long x :: st) M o :=
  fun ok r hr H locs ls h1 h2 h3 => lv_lor ok.hx ok.hb hd (K ok r hr H locs ls h1 h2 h3)
theorem G_lxor {x y : Int64} (hd : decode (mcc mi) pc = .ok (.lxor, 1)) (K : G X ad mi φ (pc + 1) L (.long (x ^^^ y) :: st) M o) : G X ad mi φ pc L (.long y :: .long x :: st) M o :=
  fun ok r hr H locs ls h1 h2 h3 => lv_lxor ok.hx ok.hb hd (K ok r hr H locs ls h1 h2 h3)
theorem G_lcmp {x y : Int64} (hd : decode (mcc mi) pc = .ok (.lcmp, 1)) (K : G X ad mi φ (pc + 1) L (.int (lg_cmp x y) :: st) M o) : G X ad mi φ pc L (.long y :: .long x :: st) M o :=
  fun ok r hr H locs ls h1 h2 h3 => W.lcmp ok.hx ok.hb hd (K ok r hr H locs ls h1 h2 h3)
theorem G_ineg {x : Int32} (hd : decode (mcc mi) pc = .ok (.ineg, 1)) (K : G X ad mi φ (pc + 1) L (.int (-x) :: st) M o) : G X ad mi φ pc L (.int x :: st) M o :=
  fun ok r hr H locs ls h1 h2 h3 => lv_ineg ok.hx ok.hb hd (K ok r hr H locs ls h1 h2 h3)
theorem G_i2l {x : Int32} (hd : decode (mcc mi) pc = .ok (.i2l, 1)) (K : G X ad mi φ (pc + 1) L (.long x.toInt64 :: st) M o) : G X ad mi φ pc L (.int x :: st) M o :=
  fun ok r hr H locs ls h1 h2 h3 => lv_i2l ok.hx ok.hb hd rfl (K ok r hr H locs ls h1 h2 h3)
theorem G_l2i {x : Int64} (hd : decode (mcc mi) pc = .ok (.l2i, 1)) (K : G X ad mi φ (pc + 1) L (.int x.toInt32 :: st) M o) : G X ad mi φ pc L (.long x :: st) M o :=
  fun ok r hr H locs ls h1 h2 h3 => lv_l2i ok.hx ok.hb hd rfl (K ok r hr H locs ls h1 h2 h3)
theorem G_lushr {x : Int64} {y : Int32} (hd : decode (mcc mi) pc = .ok (.lushr, 1)) (K : G X ad mi φ (pc + 1) L (.long ((x.toUInt64 >>> (y.toInt64.toUInt64 &&& Int64.toUInt64 63)).toInt64) :: st) M o) : G X ad mi φ pc L (.int y :: .long x :: st) M o :=
  fun ok r hr H locs ls h1 h2 h3 => lv_lushr ok.hx ok.hb hd rfl (K ok r hr H locs ls h1 h2 h3)
theorem G_lshl {x : Int64} {y : Int32} (hd : decode (mcc mi) pc = .ok (.lshl, 1)) (K : G X ad mi φ (pc + 1) L (.long (x <<< (y.toInt64 &&& 63)) :: st) M o) : G X ad mi φ pc L (.int y :: .long x :: st) M o :=
  fun ok r hr H locs ls h1 h2 h3 => lv_lshl ok.hx ok.hb hd rfl (K ok r hr H locs ls h1 h2 h3)
theorem G_lshr {x : Int64} {y : Int32} (hd : decode (mcc mi) pc = .ok (.lshr, 1)) (K : G X ad mi φ (pc + 1) L (.long (x >>> (y.toInt64 &&& 63)) :: st) M o) : G X ad mi φ pc L (.int y :: .long x :: st) M o :=
  fun ok r hr H locs ls h1 h2 h3 => lv_lshr ok.hx ok.hb hd rfl (K ok r hr H locs ls h1 h2 h3)
def jrem (x y : Int32) : Int32 := x - x / y * y
def jrml (x y : Int64) : Int64 := x - x / y * y
theorem G_irem {x y : Int32} (hd : decode (mcc mi) pc = .ok (.irem, 1)) (hne : ¬ y = 0) (K : G X ad mi φ (pc + 1) L (.int (jrem x y) :: st) M o) : G X ad mi φ pc L (.int y :: .int x :: st) M o :=
  fun ok r hr H locs ls h1 h2 h3 => lv_irem ok.hx ok.hb hd hne (K ok r hr H locs ls h1 h2 h3)
theorem G_lrem {x y : Int64} (hd : decode (mcc mi) pc = .ok (.lrem, 1)) (hne : ¬ y = 0) (K : G X ad mi φ (pc + 1) L (.long (jrml x y) :: st) M o) : G X ad mi φ pc L (.long y :: .long x :: st) M o :=
  fun ok r hr H locs ls h1 h2 h3 => lv_lrem ok.hx ok.hb hd hne (K ok r hr H locs ls h1 h2 h3)
theorem G_idiv {x y : Int32} (hd : decode (mcc mi) pc = .ok (.idiv, 1)) (hne : ¬ y = 0) (K : G X ad mi φ (pc + 1) L (.int (x / y) :: st) M o) : G X ad mi φ pc L (.int y :: .int x :: st) M o :=
  fun ok r hr H locs ls h1 h2 h3 => lv_idiv ok.hx ok.hb hd hne (K ok r hr H locs ls h1 h2 h3)
theorem G_dup {va : Value} (hd : decode (mcc mi) pc = .ok (.dup, 1)) (hva : va.category = 1) (K : G X ad mi φ (pc + 1) L (va :: va :: st) M o) : G X ad mi φ pc L (va :: st) M o :=
  fun ok r hr H locs ls h1 h2 h3 => lv_dup ok.hx ok.hb hd hva (K ok r hr H locs ls h1 h2 h3)
theorem G_dup2 {va vb : Value} (hd : decode (mcc mi) pc = .ok (.dup2, 1)) (hva : va.category = 1) (hvb : vb.category = 1) (K : G X ad mi φ (pc + 1) L (va :: vb :: va :: vb :: st) M o) : G X ad mi φ pc L (va :: vb :: st) M o :=
  fun ok r hr H locs ls h1 h2 h3 => lv_dup2_11 ok.hx ok.hb hd hva hvb (K ok r hr H locs ls h1 h2 h3)
theorem G_pop {va : Value} (hd : decode (mcc mi) pc = .ok (.pop, 1)) (hva : va.category = 1) (K : G X ad mi φ (pc + 1) L (st) M o) : G X ad mi φ pc L (va :: st) M o :=
  fun ok r hr H locs ls h1 h2 h3 => lv_pop ok.hx ok.hb hd hva (K ok r hr H locs ls h1 h2 h3)
theorem G_if_eq {x : Int32} {off : Int} (tgt : Nat) {a b : Option β} (hd : decode (mcc mi) pc = .ok (.ifCond .eq off, 3)) (ht : (pc : Int) + off = (tgt : Int)) (kt : x = 0 → G X ad mi φ tgt L st M a) (kf : ¬ x = 0 → G X ad mi φ (pc + 3) L st M b) : G X ad mi φ pc L (.int x :: st) M (if x = 0 then a else b) := by
  intro ok r hr H locs ls h1 h2 h3
  refine lv_if_eq ok.hx ok.hb hd ht (fun c => ?_) (fun c => ?_)
  · rw [if_pos c] at hr; exact kt c ok r hr H locs ls h1 h2 h3
  · rw [if_neg c] at hr; exact kf c ok r hr H locs ls h1 h2 h3
theorem G_icmp_eq {x y : Int32} {off : Int} (tgt : Nat) {a b : Option β} (hd : decode (mcc mi) pc = .ok (.if_icmp .eq off, 3)) (ht : (pc : Int) + off = (tgt : Int)) (kt : x = y → G X ad mi φ tgt L st M a) (kf : ¬ x = y → G X ad mi φ (pc + 3) L st M b) : G X ad mi φ pc L (.int y :: .int x :: st) M (if x = y then a else b) := by
  intro ok r hr H locs ls h1 h2 h3
  refine lv_icmp_eq ok.hx ok.hb hd ht (fun c => ?_) (fun c => ?_)
  · rw [if_pos c] at hr; exact kt c ok r hr H locs ls h1 h2 h3
  · rw [if_neg c] at hr; exact kf c ok r hr H locs ls h1 h2 h3
theorem G_if_ne {x : Int32} {off : Int} (tgt : Nat) {a b : Option β} (hd : decode (mcc mi) pc = .ok (.ifCond .ne off, 3)) (ht : (pc : Int) + off = (tgt : Int)) (kf : x = 0 → G X ad mi φ (pc + 3) L st M a) (kt : ¬ x = 0 → G X ad mi φ tgt L st M b) : G X ad mi φ pc L (.int x :: st) M (if x = 0 then a else b) := by
  intro ok r hr H locs ls h1 h2 h3
  refine lv_if_ne ok.hx ok.hb hd ht (fun c => ?_) (fun c => ?_)
  · rw [if_neg c] at hr; exact kt c ok r hr H locs ls h1 h2 h3
  · rw [if_pos c] at hr; exact kf c ok r hr H locs ls h1 h2 h3
theorem G_icmp_ne {x y : Int32} {off : Int} (tgt : Nat) {a b : Option β} (hd : decode (mcc mi) pc = .ok (.if_icmp .ne off, 3)) (ht : (pc : Int) + off = (tgt : Int)) (kf : x = y → G X ad mi φ (pc + 3) L st M a) (kt : ¬ x = y → G X ad mi φ tgt L st M b) : G X ad mi φ pc L (.int y :: .int x :: st) M (if x = y then a else b) := by
  intro ok r hr H locs ls h1 h2 h3
  refine lv_icmp_ne ok.hx ok.hb hd ht (fun c => ?_) (fun c => ?_)
  · rw [if_neg c] at hr; exact kt c ok r hr H locs ls h1 h2 h3
  · rw [if_pos c] at hr; exact kf c ok r hr H locs ls h1 h2 h3
theorem G_if_lt {x : Int32} {off : Int} (tgt : Nat) {a b : Option β} (hd : decode (mcc mi) pc = .ok (.ifCond .lt off, 3)) (ht : (pc : Int) + off = (tgt : Int)) (kt : x < 0 → G X ad mi φ tgt L st M a) (kf : ¬ x < 0 → G X ad mi φ (pc + 3) L st M b) : G X ad mi φ pc L (.int x :: st) M (if x < 0 then a else b) := by
  intro ok r hr H locs ls h1 h2 h3
  refine lv_if_lt ok.hx ok.hb hd ht (fun c => ?_) (fun c => ?_)
  · rw [if_pos c] at hr; exact kt c ok r hr H locs ls h1 h2 h3
  · rw [if_neg c] at hr; exact kf c ok r hr H locs ls h1 h2 h3
theorem G_icmp_lt {x y : Int32} {off : Int} (tgt : Nat) {a b : Option β} (hd : decode (mcc mi) pc = .ok (.if_icmp .lt off, 3)) (ht : (pc : Int) + off = (tgt : Int)) (kt : x < y → G X ad mi φ tgt L st M a) (kf : ¬ x < y → G X ad mi φ (pc + 3) L st M b) : G X ad mi φ pc L (.int y :: .int x :: st) M (if x < y then a else b) := by
  intro ok r hr H locs ls h1 h2 h3
  refine lv_icmp_lt ok.hx ok.hb hd ht (fun c => ?_) (fun c => ?_)
  · rw [if_pos c] at hr; exact kt c ok r hr H locs ls h1 h2 h3
  · rw [if_neg c] at hr; exact kf c ok r hr H locs ls h1 h2 h3
theorem G_if_ge {x : Int32} {off : Int} (tgt : Nat) {a b : Option β} (hd : decode (mcc mi) pc = .ok (.ifCond .ge off, 3)) (ht : (pc : Int) + off = (tgt : Int)) (kt : 0 ≤ x → G X ad mi φ tgt L st M a) (kf : ¬ 0 ≤ x → G X ad mi φ (pc + 3) L st M b) : G X ad mi φ pc L (.int x :: st) M (if 0 ≤ x then a else b) := by
  intro ok r hr H locs ls h1 h2 h3
  refine lv_if_ge ok.hx ok.hb hd ht (fun c => ?_) (fun c => ?_)
  · rw [if_pos c] at hr; exact kt c ok r hr H locs ls h1 h2 h3
  · rw [if_neg c] at hr; exact kf c ok r hr H locs ls h1 h2 h3
theorem G_icmp_ge {x y : Int32} {off : Int} (tgt : Nat) {a b : Option β} (hd : decode (mcc mi) pc = .ok (.if_icmp .ge off, 3)) (ht : (pc : Int) + off = (tgt : Int)) (kt : y ≤ x → G X ad mi φ tgt L st M a) (kf : ¬ y ≤ x → G X ad mi φ (pc + 3) L st M b) : G X ad mi φ pc L (.int y :: .int x :: st) M (if y ≤ x then a else b) := by
  intro ok r hr H locs ls h1 h2 h3
  refine lv_icmp_ge ok.hx ok.hb hd ht (fun c => ?_) (fun c => ?_)
  · rw [if_pos c] at hr; exact kt c ok r hr H locs ls h1 h2 h3
  · rw [if_neg c] at hr; exact kf c ok r hr H locs ls h1 h2 h3
theorem G_if_gt {x : Int32} {off : Int} (tgt : Nat) {a b : Option β} (hd : decode (mcc mi) pc = .ok (.ifCond .gt off, 3)) (ht : (pc : Int) + off = (tgt : Int)) (kt : 0 < x → G X ad mi φ tgt L st M a) (kf : ¬ 0 < x → G X ad mi φ (pc + 3) L st M b) : G X ad mi φ pc L (.int x :: st) M (if 0 < x then a else b) := by
  intro ok r hr H locs ls h1 h2 h3
  refine lv_if_gt ok.hx ok.hb hd ht (fun c => ?_) (fun c => ?_)
  · rw [if_pos c] at hr; exact kt c ok r hr H locs ls h1 h2 h3
  · rw [if_neg c] at hr; exact kf c ok r hr H locs ls h1 h2 h3
theorem G_icmp_gt {x y : Int32} {off : Int} (tgt : Nat) {a b : Option β} (hd : decode (mcc mi) pc = .ok (.if_icmp .gt off, 3)) (ht : (pc : Int) + off = (tgt : Int)) (kt : y < x → G X ad mi φ tgt L st M a) (kf : ¬ y < x → G X ad mi φ (pc + 3) L st M b) : G X ad mi φ pc L (.int y :: .int x :: st) M (if y < x then a else b) := by
  intro ok r hr H locs ls h1 h2 h3
  refine lv_icmp_gt ok.hx ok.hb hd ht (fun c => ?_) (fun c => ?_)
  · rw [if_pos c] at hr; exact kt c ok r hr H locs ls h1 h2 h3
  · rw [if_neg c] at hr; exact kf c ok r hr H locs ls h1 h2 h3
theorem G_if_le {x : Int32} {off : Int} (tgt : Nat) {a b : Option β} (hd : decode (mcc mi) pc = .ok (.ifCond .le off, 3)) (ht : (pc : Int) + off = (tgt : Int)) (kt : x ≤ 0 → G X ad mi φ tgt L st M a) (kf : ¬ x ≤ 0 → G X ad mi φ (pc + 3) L st M b) : G X ad mi φ pc L (.int x :: st) M (if x ≤ 0 then a else b) := by
  intro ok r hr H locs ls h1 h2 h3
  refine lv_if_le ok.hx ok.hb hd ht (fun c => ?_) (fun c => ?_)
  · rw [if_pos c] at hr; exact kt c ok r hr H locs ls h1 h2 h3
  · rw [if_neg c] at hr; exact kf c ok r hr H locs ls h1 h2 h3
theorem G_icmp_le {x y : Int32} {off : Int} (tgt : Nat) {a b : Option β} (hd : decode (mcc mi) pc = .ok (.if_icmp .le off, 3)) (ht : (pc : Int) + off = (tgt : Int)) (kt : x ≤ y → G X ad mi φ tgt L st M a) (kf : ¬ x ≤ y → G X ad mi φ (pc + 3) L st M b) : G X ad mi φ pc L (.int y :: .int x :: st) M (if x ≤ y then a else b) := by
  intro ok r hr H locs ls h1 h2 h3
  refine lv_icmp_le ok.hx ok.hb hd ht (fun c => ?_) (fun c => ?_)
  · rw [if_pos c] at hr; exact kt c ok r hr H locs ls h1 h2 h3
  · rw [if_neg c] at hr; exact kf c ok r hr H locs ls h1 h2 h3
theorem G_goto {off : Int} (tgt : Nat) (hd : decode (mcc mi) pc = .ok (.goto off, 3)) (ht : (pc : Int) + off = (tgt : Int)) (K : G X ad mi φ tgt L st M o) : G X ad mi φ pc L st M o :=
  fun ok r hr H locs ls h1 h2 h3 => lv_goto ok.hx ok.hb hd ht (K ok r hr H locs ls h1 h2 h3)
theorem G_ifnonnull {x : Nat} {off : Int} (tgt : Nat) (hd : decode (mcc mi) pc = .ok (.ifnonnull off, 3)) (ht : (pc : Int) + off = (tgt : Int)) (K : G X ad mi φ tgt L st M o) : G X ad mi φ pc L (.ref x :: st) M o :=
  fun ok r hr H locs ls h1 h2 h3 => lv_ifnonnull ok.hx ok.hb hd ht (K ok r hr H locs ls h1 h2 h3)
theorem G_ifnull {x : Nat} {off : Int} (hd : decode (mcc mi) pc = .ok (.ifnull off, 3)) (K : G X ad mi φ (pc + 3) L st M o) : G X ad mi φ pc L (.ref x :: st) M o :=
  fun ok r hr H locs ls h1 h2 h3 => lv_ifnull ok.hx ok.hb hd (K ok r hr H locs ls h1 h2 h3)
theorem G_ldc {index : Nat} {v : Int32} (hc : Cond.constant (my mi).cls index v ∈ TB) (hd : decode (mcc mi) pc = .ok (.ldc index, 2)) (K : G X ad mi φ (pc + 2) L (.int v :: st) M o) : G X ad mi φ pc L st M o :=
  fun ok r hr H locs ls h1 h2 h3 => lv_ldc ok.hx ok.hb ok.hown (ok.hts _ hc) hd (K ok r hr H locs ls h1 h2 h3)
theorem G_ldc2 {index : Nat} {v : Int64} (hc : Cond.constantLong (my mi).cls index v ∈ TB) (hd : decode (mcc mi) pc = .ok (.ldc2_w index, 3)) (K : G X ad mi φ (pc + 3) L (.long v :: st) M o) : G X ad mi φ pc L st M o :=
  fun ok r hr H locs ls h1 h2 h3 => lv_ldc2 ok.hx ok.hb ok.hown (ok.hts _ hc) hd (K ok r hr H locs ls h1 h2 h3)
theorem G_tswIn {dflt lo hi : Int} {offs : Array Int} {len : Nat} {x : Int32} {off : Int} (v : Int32) (tgt : Nat) (hd : decode (mcc mi) pc = .ok (.tableswitch dflt lo hi offs, len)) (hx : x = v) (h1 : ¬ v.toInt < lo) (h2 : ¬ hi < v.toInt) (ho : offs[(v.toInt - lo).toNat]? = some off) (ht : (pc : Int) + off = (tgt : Int)) (K : G X ad mi φ tgt L st M o) : G X ad mi φ pc L (.int x :: st) M o := by
  subst hx
  exact fun ok r hr H locs ls a1 a2 a3 => lv_tableIn ok.hx ok.hb hd h1 h2 ho ht (K ok r hr H locs ls a1 a2 a3)
theorem G_tswOut {dflt lo hi : Int} {offs : Array Int} {len : Nat} {x : Int32} (tgt : Nat) (hd : decode (mcc mi) pc = .ok (.tableswitch dflt lo hi offs, len)) (h : x.toInt < lo ∨ hi < x.toInt) (ht : (pc : Int) + dflt = (tgt : Int)) (K : G X ad mi φ tgt L st M o) : G X ad mi φ pc L (.int x :: st) M o :=
  fun ok r hr H locs ls a1 a2 a3 => lv_tableOut ok.hx ok.hb hd h ht (K ok r hr H locs ls a1 a2 a3)
/-- what the names say of a class -/
def ClOk (ci : Nat) (C : String) (T : u_T) (N : Nat) : Prop := vwCl[ci]? = some (C, T, N) ∧ (∀ w ∈ u_ws C T N, w ∈ TB) ∧ (∀ a, a < N → ∀ b, b < N → a ≠ b → (T a).2.1 ≠ (T b).2.1) ∧ ∃ ty : Nat → FieldType, ∀ k, k < N → parseFieldDescriptor (T k).2.2.1 = some (ty k)
variable {C : String} {T : u_T} {N ci k j index : Nat} {fs : List (Option Nat)} {ref host : String}
theorem G_getI (hcl : ClOk ci C T N) (hk : k < 61) (ho : ob k = .inl (ci, fs)) (j : Nat) (hj : j < N) (hf : fs[j]? = some none) (hlink : Cond.fieldLink (my mi).cls index (T j).1 (T j).2.1 (T j).2.2.1 ∈ TB) (hd : decode (mcc mi) pc = .ok (.getfield index, 3)) (K : G X ad mi φ (pc + 3) L (.int (M k j) :: st) M o) : G X ad mi φ pc L (.ref (ad k) :: st) M o :=
  fun ok r hr H locs ls h1 h2 h3 => va_get ok.hx ok.hb ok.hts hcl.2.1 ok.hown ok.hK h2 k (by rw [wd_get hk, cel_obj ho]) hcl.1 j hj (ok.hts _ hlink) (fun _ h => h) (by have := fvs_int ad (M k) fs 0 j hf; rwa [Nat.zero_add] at this) hd (K ok r hr H locs ls h1 h2 h3)
theorem G_getR {q : Nat} (hcl : ClOk ci C T N) (hk : k < 61) (ho : ob k = .inl (ci, fs)) (j : Nat) (hj : j < N) (hf : fs[j]? = some (some q)) (hlink : Cond.fieldLink (my mi).cls index (T j).1 (T j).2.1 (T j).2.2.1 ∈ TB) (hd : decode (mcc mi) pc = .ok (.getfield index, 3)) (K : G X ad mi φ (pc + 3) L (.ref (ad q) :: st) M o) : G X ad mi φ pc L (.ref (ad k) :: st) M o :=
  fun ok r hr H locs ls h1 h2 h3 => va_get ok.hx ok.hb ok.hts hcl.2.1 ok.hown ok.hK h2 k (by rw [wd_get hk, cel_obj ho]) hcl.1 j hj (ok.hts _ hlink) (fun _ h => h) (fvs_ref ad (M k) fs 0 j q hf) hd (K ok r hr H locs ls h1 h2 h3)
theorem G_getIN (hcl : ClOk ci C T N) (hk : k < 61) (ho : ob k = .inl (ci, fs)) (j : Nat) (hj : j < N) (hf : fs[j]? = some none) (hlink : Cond.fieldLinkNest (my mi).cls index (T j).1 (T j).2.1 (T j).2.2.1 host ∈ NW) (hd : decode (mcc mi) pc = .ok (.getfield index, 3)) (K : G X ad mi φ (pc + 3) L (.int (M k j) :: st) M o) : G X ad mi φ pc L (.ref (ad k) :: st) M o :=
  fun ok r hr H locs ls h1 h2 h3 => va_getN ok.hx ok.hb ok.hts hcl.2.1 ok.hown ok.hK h2 k (by rw [wd_get hk, cel_obj ho]) hcl.1 j hj (va_Nw.use rfl (ok.hnw _ hlink)) (fun _ h => h) (by have := fvs_int ad (M k) fs 0 j hf; rwa [Nat.zero_add] at this) hd (K ok r hr H locs ls h1 h2 h3)
theorem G_getRN {q : Nat} (hcl : ClOk ci C T N) (hk : k < 61) (ho : ob k = .inl (ci, fs)) (j : Nat) (hj : j < N) (hf : fs[j]? = some (some q)) (hlink : Cond.fieldLinkNest (my mi).cls index (T j).1 (T j).2.1 (T j).2.2.1 host ∈ NW) (hd : decode (mcc mi) pc = .ok (.getfield index, 3)) (K : G X ad mi φ (pc + 3) L (.ref (ad q) :: st) M o) : G X ad mi φ pc L (.ref (ad k) :: st) M o :=
  fun ok r hr H locs ls h1 h2 h3 => va_getN ok.hx ok.hb ok.hts hcl.2.1 ok.hown ok.hK h2 k (by rw [wd_get hk, cel_obj ho]) hcl.1 j hj (va_Nw.use rfl (ok.hnw _ hlink)) (fun _ h => h) (fvs_ref ad (M k) fs 0 j q hf) hd (K ok r hr H locs ls h1 h2 h3)
theorem wd_put {cI cZ : ClassId} (hk : k < 61) (ho : ob k = .inl (ci, fs)) (hf : fs[j]? = some none) (v : Int32) : (wd ad cI cZ M).set k (ad k, .inr (ci, (fvs ad (M k) 0 fs).set j (.int v))) = wd ad cI cZ (st2 M k j v) := by
  refine wd_set hk ?_
  rw [cel_obj ho, fvs_set ad (M k) v fs 0 j hf, Nat.zero_add]
  simp [st2]
theorem G_put {v : Int32} {f : Mem → Option β} (hcl : ClOk ci C T N) (hk : k < 61) (ho : ob k = .inl (ci, fs)) (j : Nat) (hj : j < N) (hf : fs[j]? = some none) (hfin : (T j).2.2.2 = false) (hty : parseFieldDescriptor (T j).2.2.1 = some .int) (hlink : Cond.fieldLink (my mi).cls index (T j).1 (T j).2.1 (T j).2.2.1 ∈ TB) (hd : decode (mcc mi) pc = .ok (.putfield index, 3)) (K : ∀ M' : Mem, G X ad mi φ (pc + 3) L st M' (f M')) : G X ad mi φ pc L (.int v :: .ref (ad k) :: st) M (nm (st2 M k j v) f) := by
  intro ok r hr H locs ls h1 h2 h3
  obtain ⟨ty, hty0⟩ := hcl.2.2.2
  refine va_put ok.hx ok.hb ok.hts hcl.2.1 ty hty0 hcl.2.2.1 ok.hown ok.hK h2 ok.hD h3 k (by rw [wd_get hk, cel_obj ho]) hcl.1 j hj (ok.hts _ hlink) (fun _ h => h) hfin hty rfl rfl (by rw [fvs_len]; exact (List.getElem?_eq_some_iff.mp hf).1) hd (fun H1 locs1 a1 _ a3 => ?_)
  rw [wd_put hk ho hf v] at a1
  exact K _ ok r hr H1 locs1 ls h1 a1 a3
theorem G_putN {v : Int32} {f : Mem → Option β} (hcl : ClOk ci C T N) (hk : k < 61) (ho : ob k = .inl (ci, fs)) (j : Nat) (hj : j < N) (hf : fs[j]? = some none) (hfin : (T j).2.2.2 = false) (hty : parseFieldDescriptor (T j).2.2.1 = some .int) (hlink : Cond.fieldLinkNest (my mi).cls index (T j).1 (T j).2.1 (T j).2.2.1 host ∈ NW) (hd : decode (mcc mi) pc = .ok (.putfield index, 3)) (K : ∀ M' : Mem, G X ad mi φ (pc + 3) L st M' (f M')) : G X ad mi φ pc L (.int v :: .ref (ad k) :: st) M (nm (st2 M k j v) f) := by
  intro ok r hr H locs ls h1 h2 h3
  obtain ⟨ty, hty0⟩ := hcl.2.2.2
  refine va_putN ok.hx ok.hb ok.hts hcl.2.1 ty hty0 hcl.2.2.1 ok.hown ok.hK h2 ok.hD h3 k (by rw [wd_get hk, cel_obj ho]) hcl.1 j hj (va_Nw.use rfl (ok.hnw _ hlink)) (fun _ h => h) hfin hty rfl rfl (by rw [fvs_len]; exact (List.getElem?_eq_some_iff.mp hf).1) hd (fun H1 locs1 a1 _ a3 => ?_)
  rw [wd_put hk ho hf v] at a1
  exact K _ ok r hr H1 locs1 ls h1 a1 a3
theorem G_iald {n : Nat} {i : Int32} (hk : k < 61) (ho : ob k = .inr (n, false)) (hd : decode (mcc mi) pc = .ok (.iaload, 1)) (K : G X ad mi φ (pc + 1) L (.int (rd M k i) :: st) M o) : G X ad mi φ pc L (.int i :: .ref (ad k) :: st) M (if inb i n then o else none) := by
  intro ok r hr H locs ls h1 h2 h3
  by_cases hb : inb i n
  · rw [if_pos hb] at hr
    exact va_iald ok.hx ok.hb ok.hK h2 k 0 (by rw [wd_get hk, cel_arr ho]) rfl hb hd (K ok r hr H locs ls h1 h2 h3)
  · rw [if_neg hb] at hr; cases hr
theorem G_zald {n : Nat} {i : Int32} (hk : k < 61) (ho : ob k = .inr (n, true)) (hd : decode (mcc mi) pc = .ok (.baload, 1)) (K : G X ad mi φ (pc + 1) L (.int (rd M k i) :: st) M o) : G X ad mi φ pc L (.int i :: .ref (ad k) :: st) M (if inb i n then o else none) := by
  intro ok r hr H locs ls h1 h2 h3
  by_cases hb : inb i n
  · rw [if_pos hb] at hr
    exact va_zald ok.hx ok.hb ok.hK h2 k 1 (by rw [wd_get hk, cel_arrZ ho]) rfl hb hd (K ok r hr H locs ls h1 h2 h3)
  · rw [if_neg hb] at hr; cases hr
theorem G_iast {n : Nat} {i x : Int32} {f : Mem → Option β} (hk : k < 61) (ho : ob k = .inr (n, false)) (hd : decode (mcc mi) pc = .ok (.iastore, 1)) (K : ∀ M' : Mem, G X ad mi φ (pc + 1) L st M' (f M')) : G X ad mi φ pc L (.int x :: .int i :: .ref (ad k) :: st) M (if inb i n then nm (wr M k i x) f else none) := by
  intro ok r hr H locs ls h1 h2 h3
  by_cases hb : inb i n
  · rw [if_pos hb] at hr
    refine va_iast ok.hx ok.hb ok.hK h2 ok.hD h3 k 0 (by rw [wd_get hk, cel_arr ho]) rfl hb hd (fun H1 locs1 a1 _ a3 => ?_)
    rw [wd_set hk (v := x) (j := i.toNatClampNeg) (M := M) (by rw [cel_arr ho]; simp [st2])] at a1
    exact K _ ok r hr H1 locs1 ls h1 a1 a3
  · rw [if_neg hb] at hr; cases hr
theorem G_zast {n : Nat} {i x : Int32} {f : Mem → Option β} (hk : k < 61) (ho : ob k = .inr (n, true)) (hd : decode (mcc mi) pc = .ok (.bastore, 1)) (K : ∀ M' : Mem, G X ad mi φ (pc + 1) L st M' (f M')) : G X ad mi φ pc L (.int x :: .int i :: .ref (ad k) :: st) M (if inb i n then nm (wr M k i (bz x)) f else none) := by
  intro ok r hr H locs ls h1 h2 h3
  by_cases hb : inb i n
  · rw [if_pos hb] at hr
    refine va_zast ok.hx ok.hb ok.hK h2 ok.hD h3 k 1 (by rw [wd_get hk, cel_arrZ ho]) rfl hb hd (fun H1 locs1 a1 _ a3 => ?_)
    rw [wd_set hk (v := bz x) (j := i.toNatClampNeg) (M := M) (by rw [cel_arrZ ho]; simp [st2, bz, vp_nar, narrow])] at a1
    exact K _ ok r hr H1 locs1 ls h1 a1 a3
  · rw [if_neg hb] at hr; cases hr
theorem G_alen {n : Nat} (hk : k < 61) (ho : ob k = .inr (n, false)) (hd : decode (mcc mi) pc = .ok (.arraylength, 1)) (K : G X ad mi φ (pc + 1) L (.int (Int32.ofNat n) :: st) M o) : G X ad mi φ pc L (.ref (ad k) :: st) M o :=
  fun ok r hr H locs ls h1 h2 h3 => va_alen ok.hx ok.hb ok.hK h2 k 0 (by rw [wd_get hk, cel_arr ho]) (ty := .int) rfl rfl hd (K ok r hr H locs ls h1 h2 h3)
end GR
section RET
variable {p : Program} {l : Launch} {e : Env} {R : Room} {s : State} {m : MethodId} {args : Array Value} {below : List Frame} {meth : Method} {c : Code} {H : Heap} {locs : List Loc} {cells slots : Nat} {Q : State → Prop}
theorem W_zret {cc : ByteArray} {Qc : Array Value → State → Outcome → State → Prop} {free : Addr → Prop} {v : Int32} (hexec : p.tables.exec = Jvm.exec) (hb : c.code = cc) (hr : meth.sig.returnType = some .boolean)
    (hq : ∀ t : State, t.heap = H → s.WarmedH t.vm → Qc args s (.returned (some (.int (bz v)))) t) (hf : ∀ q ∈ locs, free q.base)
    {pc : Nat} {ls : Array Slot} (hdg : decode cc pc = .ok (.ireturn, 1)) (hlocks : meth.locks = false) : W p l e R s m args below meth c H locs cells slots (MQ below Qc args s cells slots free) (F0 m pc ls [.int v]) := by
  intro T hT X
  have hlocks : meth.locks = false := hlocks
  obtain ⟨fs, hret, hrun, hended, hW, hframe⟩ := X.leave (v := some (.int (bz v))) (fun h => by rw [hr] at h; cases h)
  have hmeth' : T.vm.method? m = some meth := X.method'
  have hn : narrow .boolean (.int v) = .int (bz v) := rfl
  refine ⟨T.setFrames fs, ?_, .returned (some (.int (bz v))), hrun, hended, hq _ hT hW, locs, ⟨⟨_, rfl⟩, hW, hframe⟩, hf⟩
  jvm_step X.here [X.here.top, hexec, hb, hdg, hmeth', hr, hn]
  (try refine ⟨rfl, ?_⟩); (try refine ⟨rfl, ?_⟩)
  first | (intro acts; rw [hret _ acts rfl rfl rfl]) | rw [hret _ _ rfl rfl rfl]
  exact Steps.refl _
theorem W_callw {D : va_G} {ad : Nat → Nat} {cI cZ : ClassId} {A : Nat → Prop} {pc : Nat} {ls : Array Slot} {rest st0 : List Value} {a : Array Value} {r : Option Value × Mem} (hr : va_Run p l e R s m args below meth c H locs cells slots 0 0 (F0 m pc ls st0) rest (Qw ad D cI cZ (Aw ad) r a) (Aw ad)) (hS : va_S A s.heap H locs) (hA : ∀ q, Aw ad q → A q)
    (kk : ∀ (H1 : Heap) (locs1 : List Loc), va_P D vwCl (wd ad cI cZ r.2) H1 → va_S A s.heap H1 locs1 → W p l e R s m args below meth c H1 locs1 cells slots Q (F0 m (pc + 3) ls (r.1.toList ++ rest))) : W p l e R s m args below meth c H locs cells slots Q (F0 m pc ls st0) := by
  intro T hT X
  obtain ⟨v, st₀, t, T', Lc, h0, X', hL, e1, e2, ⟨⟨hv, hP⟩, hz, hk⟩, st⟩ := hr T hT X
  injection hv with hv
  subst hv
  rw [h0] at hz hk
  obtain ⟨t2, a1, b1⟩ := kk T'.heap (locs ++ Lc) (by rw [e1]; exact hP)
    ⟨Nat.le_trans hS.1 (by rw [e1]; exact hz), fun q h1 h2 => by rw [e1, hk q (Nat.lt_of_lt_of_le h1 hS.1) (fun z => h2 (hA q z))]; exact hS.2.1 q h1 h2, fun q hq => by
      rcases List.mem_append.mp hq with h | h
      · exact hS.2.2 q h
      · exact hA _ (hL q h)⟩ T' rfl X'
  exact ⟨t2, st t2 a1, b1⟩
end RET
theorem Bw_blind {ad : Nat → Nat} {D : va_G} {cI cZ : ClassId} {M : Mem} {av : List Value} : FrameBlind (va_Pc av (Bw ad D cI cZ M)) := fun a U g mk q => by
  obtain ⟨q0, q1, q2, q3, q4⟩ := q
  exact ⟨q0, q1, va_K.moved (u := U) (U := U.calling g mk a) (Vm.Alike.refl U.vm) q2, q3, fun w hw => va_Nw.same (u := U) (U := U.calling g mk a) (nest_on w (List.mem_filter.mp hw).2) rfl (q4 w hw)⟩
/-- what a caller needs to know of a method -/
def CalOk (mi : Mi) (n : Nat) : Prop := Cond.code (my mi) (mcc mi) (mnL mi) (mret mi) ∈ TB ∧ Cond.initialized (my mi).cls ∈ TB ∧ ((my mi).cls ≠ "java/lang/invoke/MethodHandle" ∧ (my mi).cls ≠ "java/lang/invoke/VarHandle") ∧ (parseMethodDescriptor (my mi).desc).map (fun d => d.parameters.length) = some n
def CalV (mi : Mi) (n : Nat) : Prop := CalOk mi n ∧ Cond.instanceMethod (my mi) ∈ TB ∧ Cond.selects (my mi).cls (my mi) (my mi) ∈ TB
def CalS (mi : Mi) (n : Nat) : Prop := CalOk mi n ∧ Cond.static (my mi) ∈ TB
section CALL
variable {β β' : Type} {X : Cx} {ad : Nat → Nat} {mi mj : Mi} {φ : β → Option Value × Mem} {φ' : β' → Option Value × Mem} {pc n index : Nat} {L : List (Nat × Value)} {st stk : List Value} {M : Mem} {o' : Option β'} {f : β' → Option β} {as : (Nat → Nat) → List Value} {C : String} {T : u_T} {N ci k : Nat} {fs : List (Option Nat)} {host : String}
abbrev RoomOk (mi mj : Mi) : Prop := mfr mj + 1 ≤ mfr mi ∧ 8 + (mnL mj + 11) + mlo mj ≤ mlo mi
theorem call_ws (hc : CalOk mj n) : GoodIn TB (mws mj) := fun w hw => by
  rcases List.mem_cons.mp hw with rfl | h
  · exact TB_good _ hc.1
  · exact TB_good _ h
theorem call_cb (ok : Ok X ad mi) (hc : CalOk mj n) (hr : RoomOk mi mj) (hl : Cond.methodLink (my mi).cls index (my mj) ∈ TB) : CallB (xR X) (xS X) (xG X) (my mi).cls index (my mj) (mcc mj) (mnL mj) (mret mj) (mws mj) (mrm mj) 0 0 n := by
  obtain ⟨h1, h2, h3, h4⟩ := hc
  refine ⟨rfl, rfl, by rw [ok.hR.1]; exact hr.1, by rw [ok.hR.2.1]; exact hr.2, pay_in ok.hts (call_ws (n := n) ⟨h1, h2, h3, h4⟩), List.mem_cons_self, ok.hts _ h1, ok.hts _ h2, h3, fun sig h => ?_, ok.hts _ hl⟩
  rw [h] at h4
  exact (Option.some.inj h4).symm
theorem call_cn (ok : Ok X ad mi) (hc : CalOk mj n) (hr : RoomOk mi mj) (hl : Cond.methodLinkNest (my mi).cls index (my mj) host ∈ NW) : va_CN (xR X) (xS X) (xG X) (my mi).cls index (my mj) host (mcc mj) (mnL mj) (mret mj) (mws mj) (mrm mj) 0 0 n := by
  obtain ⟨h1, h2, h3, h4⟩ := hc
  refine ⟨⟨rfl, rfl, by rw [ok.hR.1]; exact hr.1, by rw [ok.hR.2.1]; exact hr.2, pay_in ok.hts (call_ws (n := n) ⟨h1, h2, h3, h4⟩), List.mem_cons_self⟩, ok.hts _ h1, ok.hts _ h2, h3, fun sig h => ?_, va_Nw.use rfl (ok.hnw _ hl)⟩
  rw [h] at h4
  exact (Option.some.inj h4).symm
theorem call_pre (ok : Ok X ad mi) {H : Heap} {As : List Value} (h2 : va_P (xD X) vwCl (wd ad (xI X) (xZ X) M) H) (U : State) (hU : U.heap = H) (hW : (xS X).WarmedH U.vm) : Bw ad (xD X) (xI X) (xZ X) M U :=
  ⟨by rw [hU]; exact h2, va_K.moved hW.alike ok.hK, ok.hin, fun w hw => nest_warm hW w (List.mem_filter.mp hw).2 (ok.hnw w hw)⟩
theorem G_callV (hM : MC mj φ' as M o') (hc : CalV mj n) (hr : RoomOk mi mj) (hl : Cond.methodLink (my mi).cls index (my mj) ∈ TB) (hcl : ClOk ci (my mj).cls T N) (hk : k < 61) (ho : ob k = .inl (ci, fs)) (As : List Value) (has : as ad = .ref (ad k) :: As) (hn : As.length = n) (hst : stk = As.reverse ++ .ref (ad k) :: st) (hcat : (st.map fun v => v.category).sum ≤ 8) (hd : decode (mcc mi) pc = .ok (.invokevirtual index, 3))
    (K : ∀ r, G X ad mi φ (pc + 3) L ((φ' r).1.toList ++ st) (φ' r).2 (f r)) : G X ad mi φ pc L stk M (Option.bind o' f) := by
  subst hst
  intro ok r hr' H locs ls h1 h2 h3
  cases ho' : o' with
  | none => rw [ho'] at hr'; cases hr'
  | some r' =>
    rw [ho'] at hr'
    have hMet := hM (xL X) ad (xD X) (xI X) (xZ X) r' ho'
    have hrun := va_runV (H := H) (locs := locs) (cells := xK X) (slots := xN X) (e := xE X) (meth := xMe X) (below := xB X) (As := As) (rest := st) (b := ad k) (C := (my mj).cls) (g := F0 (xM X) pc ls (As.reverse ++ .ref (ad k) :: st)) ⟨ok.hx, ok.hb, ok.hml, ok.hown, ok.hts⟩ hMet ⟨call_cb ok hc.1 hr hl, ok.hts _ hc.2.1, ok.hts _ hc.2.2⟩ ⟨Bw_blind, va_recv (q := ((my mj).cls, T, N)) ok.hK h2 hcl.1 (by rw [wd_get hk, cel_obj ho]), fun U hU hW => ⟨by rw [has], call_pre ok (As := As) h2 U hU hW⟩⟩ rfl hn h1.1 rfl (lv_room hcat) hd ⟨ok.hR.2.2.1, ok.hR.2.2.2⟩
    exact W_callw hrun h3 ok.hA (fun H1 locs1 a1 a2 => K r' ok r hr' H1 locs1 ls h1 a1 a2)
theorem G_callVN (hM : MC mj φ' as M o') (hc : CalV mj n) (hr : RoomOk mi mj) (hl : Cond.methodLinkNest (my mi).cls index (my mj) host ∈ NW) (hcl : ClOk ci (my mj).cls T N) (hk : k < 61) (ho : ob k = .inl (ci, fs)) (As : List Value) (has : as ad = .ref (ad k) :: As) (hn : As.length = n) (hst : stk = As.reverse ++ .ref (ad k) :: st) (hcat : (st.map fun v => v.category).sum ≤ 8) (hd : decode (mcc mi) pc = .ok (.invokevirtual index, 3))
    (K : ∀ r, G X ad mi φ (pc + 3) L ((φ' r).1.toList ++ st) (φ' r).2 (f r)) : G X ad mi φ pc L stk M (Option.bind o' f) := by
  subst hst
  intro ok r hr' H locs ls h1 h2 h3
  cases ho' : o' with
  | none => rw [ho'] at hr'; cases hr'
  | some r' =>
    rw [ho'] at hr'
    have hMet := hM (xL X) ad (xD X) (xI X) (xZ X) r' ho'
    have hrun := va_runVN (H := H) (locs := locs) (cells := xK X) (slots := xN X) (e := xE X) (meth := xMe X) (below := xB X) (As := As) (rest := st) (b := ad k) (C := (my mj).cls) (g := F0 (xM X) pc ls (As.reverse ++ .ref (ad k) :: st)) ⟨ok.hx, ok.hb, ok.hml, ok.hown, ok.hts⟩ hMet ⟨call_cn ok hc.1 hr hl, ok.hts _ hc.2.1, ok.hts _ hc.2.2⟩ ⟨Bw_blind, va_recv (q := ((my mj).cls, T, N)) ok.hK h2 hcl.1 (by rw [wd_get hk, cel_obj ho]), fun U hU hW => ⟨by rw [has], call_pre ok (As := As) h2 U hU hW⟩⟩ rfl hn h1.1 rfl (lv_room hcat) hd ⟨ok.hR.2.2.1, ok.hR.2.2.2⟩
    exact W_callw hrun h3 ok.hA (fun H1 locs1 a1 a2 => K r' ok r hr' H1 locs1 ls h1 a1 a2)
theorem G_callS (hM : MC mj φ' as M o') (hc : CalS mj n) (hr : RoomOk mi mj) (hl : Cond.methodLink (my mi).cls index (my mj) ∈ TB) (hn : (as ad).length = n) (hst : stk = (as ad).reverse ++ st) (hcat : (st.map fun v => v.category).sum ≤ 8) (hd : decode (mcc mi) pc = .ok (.invokestatic index, 3))
    (K : ∀ r, G X ad mi φ (pc + 3) L ((φ' r).1.toList ++ st) (φ' r).2 (f r)) : G X ad mi φ pc L stk M (Option.bind o' f) := by
  subst hst
  intro ok r hr' H locs ls h1 h2 h3
  cases ho' : o' with
  | none => rw [ho'] at hr'; cases hr'
  | some r' =>
    rw [ho'] at hr'
    have hMet := hM (xL X) ad (xD X) (xI X) (xZ X) r' ho'
    have hrun := va_runS (H := H) (locs := locs) (cells := xK X) (slots := xN X) (e := xE X) (meth := xMe X) (below := xB X) (As := as ad) (rest := st) (g := F0 (xM X) pc ls ((as ad).reverse ++ st)) ⟨ok.hx, ok.hb, ok.hml, ok.hown, ok.hts⟩ hMet ⟨call_cb ok hc.1 hr hl, ok.hts _ hc.2⟩ ⟨Bw_blind, fun U hU hW => ⟨rfl, call_pre ok (As := as ad) h2 U hU hW⟩⟩ rfl hn h1.1 rfl (lv_room hcat) hd ⟨ok.hR.2.2.1, ok.hR.2.2.2⟩
    exact W_callw hrun h3 ok.hA (fun H1 locs1 a1 a2 => K r' ok r hr' H1 locs1 ls h1 a1 a2)
theorem G_callSN (hM : MC mj φ' as M o') (hc : CalS mj n) (hr : RoomOk mi mj) (hl : Cond.methodLinkNest (my mi).cls index (my mj) host ∈ NW) (hn : (as ad).length = n) (hst : stk = (as ad).reverse ++ st) (hcat : (st.map fun v => v.category).sum ≤ 8) (hd : decode (mcc mi) pc = .ok (.invokestatic index, 3))
    (K : ∀ r, G X ad mi φ (pc + 3) L ((φ' r).1.toList ++ st) (φ' r).2 (f r)) : G X ad mi φ pc L stk M (Option.bind o' f) := by
  subst hst
  intro ok r hr' H locs ls h1 h2 h3
  cases ho' : o' with
  | none => rw [ho'] at hr'; cases hr'
  | some r' =>
    rw [ho'] at hr'
    have hMet := hM (xL X) ad (xD X) (xI X) (xZ X) r' ho'
    have hrun := va_runSN (H := H) (locs := locs) (cells := xK X) (slots := xN X) (e := xE X) (meth := xMe X) (below := xB X) (As := as ad) (rest := st) (g := F0 (xM X) pc ls ((as ad).reverse ++ st)) ⟨ok.hx, ok.hb, ok.hml, ok.hown, ok.hts⟩ hMet ⟨call_cn ok hc.1 hr hl, ok.hts _ hc.2, trivial⟩ ⟨Bw_blind, fun U hU hW => ⟨rfl, call_pre ok (As := as ad) h2 U hU hW⟩⟩ rfl hn h1.1 rfl (lv_room hcat) hd ⟨ok.hR.2.2.1, ok.hR.2.2.2⟩
    exact W_callw hrun h3 ok.hA (fun H1 locs1 a1 a2 => K r' ok r hr' H1 locs1 ls h1 a1 a2)
theorem G_ireturn {v : Int32} {x : β} (hM : mi.1 = true) (hret : mret mi = some .int) (hd : decode (mcc mi) pc = .ok (.ireturn, 1)) (hφ : φ x = (some (.int v), M)) : G X ad mi φ pc L [.int v] M (some x) := by
  intro ok r hr H locs ls h1 h2 h3
  cases hr
  rw [ok.hQ hM, hφ]
  exact W.iret ok.hx ok.hb (ok.hr.trans hret) (fun t ht _ => ⟨⟨rfl, by rw [ht]; exact h2⟩, h3.F ht⟩) h3.2.2 hd ok.hlk
theorem G_zreturn {v : Int32} {x : β} (hM : mi.1 = true) (hret : mret mi = some .boolean) (hd : decode (mcc mi) pc = .ok (.ireturn, 1)) (hφ : φ x = (some (.int (bz v)), M)) : G X ad mi φ pc L [.int v] M (some x) := by
  intro ok r hr H locs ls h1 h2 h3
  cases hr
  rw [ok.hQ hM, hφ]
  exact W_zret ok.hx ok.hb (ok.hr.trans hret) (fun t ht _ => ⟨⟨rfl, by rw [ht]; exact h2⟩, h3.F ht⟩) h3.2.2 hd ok.hlk
theorem G_lreturn {v : Int64} {x : β} (hM : mi.1 = true) (hret : mret mi = some .long) (hd : decode (mcc mi) pc = .ok (.lreturn, 1)) (hφ : φ x = (some (.long v), M)) : G X ad mi φ pc L [.long v] M (some x) := by
  intro ok r hr H locs ls h1 h2 h3
  cases hr
  rw [ok.hQ hM, hφ]
  exact W.lret ok.hx ok.hb (ok.hr.trans hret) (fun t ht _ => ⟨⟨rfl, by rw [ht]; exact h2⟩, h3.F ht⟩) h3.2.2 hd ok.hlk
theorem G_return {x : β} (hM : mi.1 = true) (hret : mret mi = none) (hd : decode (mcc mi) pc = .ok (.return_, 1)) (hφ : φ x = (none, M)) : G X ad mi φ pc L [] M (some x) := by
  intro ok r hr H locs ls h1 h2 h3
  cases hr
  rw [ok.hQ hM, hφ]
  exact W.vret ok.hx ok.hb (ok.hr.trans hret) (fun t ht _ => ⟨⟨rfl, by rw [ht]; exact h2⟩, h3.F ht⟩) h3.2.2 hd ok.hlk
end CALL
