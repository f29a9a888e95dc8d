/-! by hand: what is made: worlds that grow; one rule an instruction -/
def OkJ (X : Cx) (mi : Mi) : Prop :=
  ((xP X).tables.exec = Jvm.exec ∧ (xC X).code = mcc mi ∧ (xC X).maxLocals = mnL mi ∧ (xMe X).sig.returnType = mret mi ∧ (xMe X).locks = false ∧ (xS X).vm.findClass (my mi).cls = some (xM X).cls) ∧
  (∀ w ∈ TB, w.before (xG X) (xS X) = true) ∧ (∀ w ∈ NW, va_Nw w (xS X)) ∧ va_K (xD X) vwCl (wty (xI X) (xZ X)) (xS X) ∧ (∀ q, (xS X).heap.size ≤ q → xA X q) ∧
  ((xR X).frames = mfr mi ∧ (xR X).locals = mlo mi ∧ (xR X).cells = xK X ∧ (xR X).slots = xN X) ∧ (mi.1 = true → (xMe X).name = (my mi).name)
section OKJ
variable {X : Cx} {mi : Mi}
theorem OkJ.hx (h : OkJ X mi) : (xP X).tables.exec = Jvm.exec := h.1.1
theorem OkJ.hb (h : OkJ X mi) : (xC X).code = mcc mi := h.1.2.1
theorem OkJ.hml (h : OkJ X mi) : (xC X).maxLocals = mnL mi := h.1.2.2.1
theorem OkJ.hr (h : OkJ X mi) : (xMe X).sig.returnType = mret mi := h.1.2.2.2.1
theorem OkJ.hlk (h : OkJ X mi) : (xMe X).locks = false := h.1.2.2.2.2.1
theorem OkJ.hown (h : OkJ X mi) : (xS X).vm.findClass (my mi).cls = some (xM X).cls := h.1.2.2.2.2.2
theorem OkJ.hts (h : OkJ X mi) : ∀ w ∈ TB, w.before (xG X) (xS X) = true := h.2.1
theorem OkJ.hnw (h : OkJ X mi) : ∀ w ∈ NW, va_Nw w (xS X) := h.2.2.1
theorem OkJ.hK (h : OkJ X mi) : va_K (xD X) vwCl (wty (xI X) (xZ X)) (xS X) := h.2.2.2.1
theorem OkJ.hA (h : OkJ X mi) : ∀ q, (xS X).heap.size ≤ q → xA X q := h.2.2.2.2.1
theorem OkJ.hR (h : OkJ X mi) : (xR X).frames = mfr mi ∧ (xR X).locals = mlo mi ∧ (xR X).cells = xK X ∧ (xR X).slots = xN X := h.2.2.2.2.2.1
theorem OkJ.hnm (h : OkJ X mi) : mi.1 = true → (xMe X).name = (my mi).name := h.2.2.2.2.2.2
end OKJ
def J (X : Cx) (mi : Mi) (pc : Nat) (L : List (Nat × Value)) (st : List Value) (ws : va_W) (k n : Nat) (Q : State → Prop) : Prop :=
  OkJ X mi → ∀ (H : Heap) (locs : List Loc) (ls : Array Slot), lv_has ls (mnL mi) L → va_P (xD X) vwCl ws H → va_D (xA X) ws → va_S (xA X) (xS X).heap H locs → W (xP X) (xL X) (xE X) (xR X) (xS X) (xM X) (xG X) (xB X) (xMe X) (xC X) H locs k n Q (F0 (xM X) pc ls st)
section JR
variable {X : Cx} {mi : Mi} {pc : Nat} {L L' : List (Nat × Value)} {st : List Value} {ws : va_W} {k n : Nat} {Q : State → Prop}
theorem J_iconst {z : Int} {v : Int32} (hd : decode (mcc mi) pc = .ok (.iconst z, 1)) (hv : Int32.ofInt z = v) (K : J X mi (pc + 1) L (.int v :: st) ws k n Q) : J X mi pc L st ws k n Q :=
  fun ok H locs ls h1 h2 h3 h4 => lv_iconst ok.hx ok.hb hd hv (K ok H locs ls h1 h2 h3 h4)
theorem J_bipush {z : Int} {v : Int32} (hd : decode (mcc mi) pc = .ok (.bipush z, 2)) (hv : (Int8.ofInt z).toInt32 = v) (K : J X mi (pc + 2) L (.int v :: st) ws k n Q) : J X mi pc L st ws k n Q :=
  fun ok H locs ls h1 h2 h3 h4 => lv_bipush ok.hx ok.hb hd hv (K ok H locs ls h1 h2 h3 h4)
theorem J_sipush {z : Int} {v : Int32} (hd : decode (mcc mi) pc = .ok (.sipush z, 3)) (hv : (Int16.ofInt z).toInt32 = v) (K : J X mi (pc + 3) L (.int v :: st) ws k n Q) : J X mi pc L st ws k n Q :=
  fun ok H locs ls h1 h2 h3 h4 => lv_sipush ok.hx ok.hb hd hv (K ok H locs ls h1 h2 h3 h4)
theorem J_aload_n {i : Fin 4} {x : Nat} (hd : decode (mcc mi) pc = .ok (.aload_n i, 1)) (j : Nat) (hl : L[j]? = some ((i : Nat), .ref x)) (K : J X mi (pc + 1) L (.ref x :: st) ws k n Q) : J X mi pc L st ws k n Q :=
  fun ok H locs ls h1 h2 h3 h4 => lv_aload_n ok.hx ok.hb hd rfl (lv_at h1 j hl) (K ok H locs ls h1 h2 h3 h4)
theorem J_iload_n {i : Fin 4} {x : Int32} (hd : decode (mcc mi) pc = .ok (.iload_n i, 1)) (j : Nat) (hl : L[j]? = some ((i : Nat), .int x)) (K : J X mi (pc + 1) L (.int x :: st) ws k n Q) : J X mi pc L st ws k n Q :=
  fun ok H locs ls h1 h2 h3 h4 => lv_iload_n ok.hx ok.hb hd rfl (lv_at h1 j hl) (K ok H locs ls h1 h2 h3 h4)
theorem J_astore_n {i : Fin 4} {x : Nat} (a : Nat) (hi : (i : Nat) = a) (hd : decode (mcc mi) pc = .ok (.astore_n i, 1)) (hn : a < mnL mi) (hl : (a, Value.ref x) :: L.filter (fun q => !(q.1 == a) && !(q.1 + 1 == a && q.2.category == 2)) = L') (K : J X mi (pc + 1) L' st ws k n Q) : J X mi pc L (.ref x :: st) ws k n Q :=
  fun ok H locs ls h1 h2 h3 h4 => lv_astore_n ok.hx ok.hb hd hi h1 hn hl (fun ls' h => K ok H locs ls' h h2 h3 h4)
theorem J_istore_n {i : Fin 4} {x : Int32} (a : Nat) (hi : (i : Nat) = a) (hd : decode (mcc mi) pc = .ok (.istore_n i, 1)) (hn : a < mnL mi) (hl : (a, Value.int x) :: L.filter (fun q => !(q.1 == a) && !(q.1 + 1 == a && q.2.category == 2)) = L') (K : J X mi (pc + 1) L' st ws k n Q) : J X mi pc L (.int x :: st) ws k n Q :=
  fun ok H locs ls h1 h2 h3 h4 => lv_istore_n ok.hx ok.hb hd hi h1 hn hl (fun ls' h => K ok H locs ls' h h2 h3 h4)
theorem J_iinc {a : Nat} {z : Int} {x : Int32} (v : Int32) (hd : decode (mcc mi) pc = .ok (.iinc a z, 3)) (j : Nat) (hk : L[j]? = some (a, .int x)) (hv : x + Int32.ofInt z = v) (hn : a < mnL mi) (hl : (a, Value.int v) :: L.filter (fun q => !(q.1 == a) && !(q.1 + 1 == a && q.2.category == 2)) = L') (K : J X mi (pc + 3) L' st ws k n Q) : J X mi pc L st ws k n Q :=
  fun ok H locs ls h1 h2 h3 h4 => lv_iinc ok.hx ok.hb hd h1 hk hv hn hl (fun ls' h => K ok H locs ls' h h2 h3 h4)
theorem J_dup {va : Value} (hd : decode (mcc mi) pc = .ok (.dup, 1)) (hva : va.category = 1) (K : J X mi (pc + 1) L (va :: va :: st) ws k n Q) : J X mi pc L (va :: st) ws k n Q :=
  fun ok H locs ls h1 h2 h3 h4 => lv_dup ok.hx ok.hb hd hva (K ok H locs ls h1 h2 h3 h4)
theorem J_goto {off : Int} (tgt : Nat) (hd : decode (mcc mi) pc = .ok (.goto off, 3)) (ht : (pc : Int) + off = (tgt : Int)) (K : J X mi tgt L st ws k n Q) : J X mi pc L st ws k n Q :=
  fun ok H locs ls h1 h2 h3 h4 => lv_goto ok.hx ok.hb hd ht (K ok H locs ls h1 h2 h3 h4)
theorem J_ifnonnull {x : Nat} {off : Int} (tgt : Nat) (hd : decode (mcc mi) pc = .ok (.ifnonnull off, 3)) (ht : (pc : Int) + off = (tgt : Int)) (K : J X mi tgt L st ws k n Q) : J X mi pc L (.ref x :: st) ws k n Q :=
  fun ok H locs ls h1 h2 h3 h4 => lv_ifnonnull ok.hx ok.hb hd ht (K ok H locs ls h1 h2 h3 h4)
theorem J_icmp_ge {x y : Int32} {off : Int} (tgt : Nat) (hd : decode (mcc mi) pc = .ok (.if_icmp .ge off, 3)) (ht : (pc : Int) + off = (tgt : Int)) (kt : y ≤ x → J X mi tgt L st ws k n Q) (kf : ¬ y ≤ x → J X mi (pc + 3) L st ws k n Q) : J X mi pc L (.int y :: .int x :: st) ws k n Q :=
  fun ok H locs ls h1 h2 h3 h4 => lv_icmp_ge ok.hx ok.hb hd ht (fun h => kt h ok H locs ls h1 h2 h3 h4) (fun h => kf h ok H locs ls h1 h2 h3 h4)
theorem J_newa {N : Nat} {v : Int32} (hw : Cond.arrayClass .int ∈ TB) (hv : v = nI N) (hN : N ≤ 1000) (hk : k + 1 ≤ xK X) (hn : n + N ≤ xN X) (hd : decode (mcc mi) pc = .ok (.newarray .int, 2)) (K : ∀ q, J X mi (pc + 2) L (.ref q :: st) (ws ++ [(q, .inl (xI X, N, .inl (fun _ => 0)))]) (k + 1) (n + N) Q) : J X mi pc L (.int v :: st) ws k n Q := by
  intro ok H locs ls h1 h2 h3 h4
  subst hv
  refine va_newa (atype := .int) (ty := .int) ok.hx ok.hb (ok.hts _ hw) rfl ok.hK h2 h3 h4 ok.hA (N' := N) (a0 := (N, .inl (fun _ => 0))) (fun cA => rfl) (nI_pos (by omega)) (nI_clamp (by omega)) (by show N * 4 ≤ _; omega) (by rw [ok.hR.2.2.1]; exact hk) (by rw [ok.hR.2.2.2]; exact hn) hd (fun q cA H1 hK1 hP1 hD1 hS1 => ?_)
  have e1 : (xS X).vm.findClass ("[" ++ (FieldType.int).toString) = some (xI X) := (hK1.2 0 _ rfl).2
  have e2 : (xS X).vm.findClass ("[" ++ (FieldType.int).toString) = some cA := (hK1.2 2 _ rfl).2
  have e : xI X = cA := Option.some.inj (e1.symm.trans e2)
  rw [← e] at hP1 hD1
  exact K q ok H1 locs ls h1 hP1 hD1 hS1
theorem J_newz {N : Nat} {v : Int32} (hw : Cond.arrayClass .boolean ∈ TB) (hv : v = nI N) (hN : N ≤ 1000) (hk : k + 1 ≤ xK X) (hn : n + N ≤ xN X) (hd : decode (mcc mi) pc = .ok (.newarray .boolean, 2)) (K : ∀ q, J X mi (pc + 2) L (.ref q :: st) (ws ++ [(q, .inl (xZ X, N, .inl (fun _ => 0)))]) (k + 1) (n + N) Q) : J X mi pc L (.int v :: st) ws k n Q := by
  intro ok H locs ls h1 h2 h3 h4
  subst hv
  refine va_newa (atype := .boolean) (ty := .boolean) ok.hx ok.hb (ok.hts _ hw) rfl ok.hK h2 h3 h4 ok.hA (N' := N) (a0 := (N, .inl (fun _ => 0))) (fun cA => rfl) (nI_pos (by omega)) (nI_clamp (by omega)) (by show N * 1 ≤ _; omega) (by rw [ok.hR.2.2.1]; exact hk) (by rw [ok.hR.2.2.2]; exact hn) hd (fun q cA H1 hK1 hP1 hD1 hS1 => ?_)
  have e1 : (xS X).vm.findClass ("[" ++ (FieldType.boolean).toString) = some (xZ X) := (hK1.2 1 _ rfl).2
  have e2 : (xS X).vm.findClass ("[" ++ (FieldType.boolean).toString) = some cA := (hK1.2 2 _ rfl).2
  have e : xZ X = cA := Option.some.inj (e1.symm.trans e2)
  rw [← e] at hP1 hD1
  exact K q ok H1 locs ls h1 hP1 hD1 hS1
theorem J_pf {C : String} {T : u_T} {N ci j index q0 a : Nat} {fs : List Value} {v : Value} {ty : FieldType} (hcl : ClOk ci C T N) (he : ws[q0]? = some (a, .inr (ci, fs))) (hj : j < N) (hlink : Cond.fieldLink (my mi).cls index (T j).1 (T j).2.1 (T j).2.2.1 ∈ TB) (hfin : (T j).2.2.2 = true) (hi : mi.1 = true ∧ (my mi).name = "<init>") (hdecl : (T j).1 = (my mi).cls) (hty : parseFieldDescriptor (T j).2.2.1 = some ty) (hnr : narrow ty v = v) (hfit : fits ty v = true) (hl : j < fs.length) (hd : decode (mcc mi) pc = .ok (.putfield index, 3))
    (K : J X mi (pc + 3) L st (ws.set q0 (a, .inr (ci, fs.set j v))) k n Q) : J X mi pc L (v :: .ref a :: st) ws k n Q := by
  intro ok H locs ls h1 h2 h3 h4
  obtain ⟨ty0, hty0⟩ := hcl.2.2.2
  exact va_putF ok.hx ok.hb ok.hts hcl.2.1 ty0 hty0 hcl.2.2.1 ok.hown ok.hK h2 h3 h4 q0 he hcl.1 j hj (ok.hts _ hlink) (fun _ h => h) hfin ((ok.hnm hi.1).trans hi.2) hdecl hty hnr hfit hl hd (fun H1 locs1 a1 a2 a3 => K ok H1 locs1 ls h1 a1 a2 a3)
theorem J_pi {C : String} {T : u_T} {N ci j index q0 a : Nat} {fs : List Value} {v : Int32} (hcl : ClOk ci C T N) (he : ws[q0]? = some (a, .inr (ci, fs))) (hj : j < N) (hlink : Cond.fieldLink (my mi).cls index (T j).1 (T j).2.1 (T j).2.2.1 ∈ TB) (hfin : (T j).2.2.2 = false) (hty : parseFieldDescriptor (T j).2.2.1 = some .int) (hl : j < fs.length) (hd : decode (mcc mi) pc = .ok (.putfield index, 3))
    (K : J X mi (pc + 3) L st (ws.set q0 (a, .inr (ci, fs.set j (.int v)))) k n Q) : J X mi pc L (.int v :: .ref a :: st) ws k n Q := by
  intro ok H locs ls h1 h2 h3 h4
  obtain ⟨ty0, hty0⟩ := hcl.2.2.2
  exact va_put ok.hx ok.hb ok.hts hcl.2.1 ty0 hty0 hcl.2.2.1 ok.hown ok.hK h2 h3 h4 q0 he hcl.1 j hj (ok.hts _ hlink) (fun _ h => h) hfin hty rfl rfl hl hd (fun H1 locs1 a1 a2 a3 => K ok H1 locs1 ls h1 a1 a2 a3)
theorem J_get {C : String} {T : u_T} {N ci j index q0 a : Nat} {fs : List Value} {v : Value} (hcl : ClOk ci C T N) (he : ws[q0]? = some (a, .inr (ci, fs))) (hj : j < N) (hlink : Cond.fieldLink (my mi).cls index (T j).1 (T j).2.1 (T j).2.2.1 ∈ TB) (hv : fs[j]? = some v) (hd : decode (mcc mi) pc = .ok (.getfield index, 3))
    (K : J X mi (pc + 3) L (v :: st) ws k n Q) : J X mi pc L (.ref a :: st) ws k n Q :=
  fun ok H locs ls h1 h2 h3 h4 => va_get ok.hx ok.hb ok.hts hcl.2.1 ok.hown ok.hK h2 q0 he hcl.1 j hj (ok.hts _ hlink) (fun _ h => h) hv hd (K ok H locs ls h1 h2 h3 h4)
theorem J_new {C : String} {T : u_T} {N ci index : Nat} {fs : List Value} (hcl : ClOk ci C T N) (ty : Nat → FieldType) (hty : ∀ k, k < N → parseFieldDescriptor (T k).2.2.1 = some (ty k)) (hfs : ∀ j, j < N → defaultValue (ty j) = vp_V fs j) (hcl2 : Cond.classLink (my mi).cls index C ∈ TB) (hinst : Cond.instantiable C N ∈ TB) (hini : Cond.initialized C ∈ TB) (hk : k + 1 ≤ xK X) (hn : n + N ≤ xN X) (hd : decode (mcc mi) pc = .ok (.new index, 3))
    (K : ∀ q, J X mi (pc + 3) L (.ref q :: st) (ws ++ [(q, .inr (ci, fs))]) (k + 1) (n + N) Q) : J X mi pc L st ws k n Q := by
  intro ok H locs ls h1 h2 h3 h4
  exact va_new ok.hx ok.hb ok.hts hcl.2.1 ty hty ok.hown (ok.hts _ hcl2) (ok.hts _ hinst) (ok.hts _ hini) ok.hK h2 h3 h4 ok.hA hcl.1 hfs (by rw [ok.hR.2.2.1]; exact hk) (by rw [ok.hR.2.2.2]; exact hn) hd (fun q H1 a1 a2 a3 => K q ok H1 locs ls h1 a1 a2 a3)
theorem J_objInit {a idx : Nat} (hlink : Cond.methodLink (my mi).cls idx Lib.objectInit ∈ TB) (hinst : Cond.instanceMethod Lib.objectInit ∈ TB) (hcode : Cond.code Lib.objectInit ⟨#[0xb1]⟩ 1 none ∈ TB) (hf : 1 ≤ mfr mi) (hlo : (st.map fun v => v.category).sum + 12 ≤ mlo mi) (hd : decode (mcc mi) pc = .ok (.invokespecial idx, 3)) (K : J X mi (pc + 3) L st ws k n Q) : J X mi pc L (.ref a :: st) ws k n Q := by
  intro ok H locs ls h1 h2 h3 h4
  refine W.objInit ok.hx ok.hb ok.hown (ok.hts _ hlink) (ok.hts _ hinst) (ok.hts _ hcode) rfl (by rw [ok.hml]; exact h1.1) rfl hd (by rw [ok.hR.1]; exact hf) (by rw [ok.hR.2.1]; show 2 * 0 + _ + 12 ≤ _; omega) ?_
  exact K ok H locs ls h1 h2 h3 h4
end JR
/-! contracts of constructors -/
def BW (D : va_G) (cI cZ : ClassId) (sz : Nat) (ws : va_W) (U : State) : Prop := U.heap.size = sz ∧ va_P D vwCl ws U.heap ∧ va_K D vwCl (wty cI cZ) U ∧ va_D (fun _ => True) ws ∧ ∀ w ∈ NW, va_Nw w U
theorem BW_blind {D : va_G} {cI cZ : ClassId} {sz : Nat} {ws : va_W} {av : List Value} : FrameBlind (va_Pc av (BW D cI cZ sz ws)) := fun a U g mk q => by
  obtain ⟨q0, q1, q2, q3, q4, q5⟩ := q
  exact ⟨q0, q1, q2, va_K.moved (u := U) (U := U.calling g mk a) (Vm.Alike.refl U.vm) q3, q4, fun w hw => va_Nw.same (u := U) (U := U.calling g mk a) (nest_on w (List.mem_filter.mp hw).2) rfl (q5 w hw)⟩
abbrev krm (mi : Mi) (mc ms : Nat) : Room := { frames := mfr mi, cells := mc, slots := ms, locals := mlo mi }
abbrev kmi (y : MethodName) (cc : ByteArray) (fr lo : Nat) : Mi := (true, y, cc, 1, none, fr, lo)
abbrev WF1 := (Nat → Nat) → ClassId → ClassId → va_W
def KN (mi : Mi) (mc ms ci : Nat) (fs0 : List Value) (wf : WF1) : Prop :=
  ∀ (l : Launch) (D : va_G) (cI cZ : ClassId) (h0 sz : Nat), Met l (my mi) (mws mi) (krm mi mc ms) (va_Pc [.ref h0] (BW D cI cZ sz [(h0, .inr (ci, fs0))])) (va_Qv (fun u : Nat → Nat => u 0 = h0) (fun u t => va_P D vwCl (wf u cI cZ) t.heap ∧ va_D (va_A [(h0, .inr (ci, fs0))] sz) (wf u cI cZ)) (va_A [(h0, .inr (ci, fs0))] sz)) mc ms (va_A [(h0, .inr (ci, fs0))] sz)
abbrev QN (X : Cx) (h0 : Nat) (wf : WF1) : Array Value → State → Outcome → State → Prop := va_Qv (fun u : Nat → Nat => u 0 = h0) (fun u t => va_P (xD X) vwCl (wf u (xI X) (xZ X)) t.heap ∧ va_D (xA X) (wf u (xI X) (xZ X))) (xA X)
abbrev MN (X : Cx) (h0 : Nat) (wf : WF1) : State → Prop := MQ (xB X) (QN X h0 wf) (xG X) (xS X) (xK X) (xN X) (xA X)
theorem KN_of {y : MethodName} {cc : ByteArray} {fr lo mc ms ci : Nat} {fs0 : List Value} {wf : WF1} (hy : plainName y.cls = true) (h : ∀ (X : Cx) (h0 : Nat), xK X = mc → xN X = ms → J X (kmi y cc fr lo) 0 [(0, .ref h0)] [] [(h0, .inr (ci, fs0))] 0 0 (MN X h0 wf)) : KN (kmi y cc fr lo) mc ms ci fs0 wf := by
  intro l D cI cZ h0 sz
  refine Met.ofW (cc := cc) (maxL := 1) (ret := none) hy rfl ?_
  intro p e s m args below meth c s₁ B hml hv
  obtain ⟨rfl, hsz, hP, hK, hD0, hN⟩ := hv
  subst hsz
  have hts := atoms_spec (ws := mws (kmi y cc fr lo)) B.pre
  rw [lg_entry_eq]
  have hl := lv_entry ([.ref h0]) (n := 1) (Nat.le_of_ble_eq_true rfl)
  exact h (p, l, e, krm (kmi y cc fr lo) mc ms, s, m, #[.ref h0], below, meth, c, D, cI, cZ, va_A [(h0, .inr (ci, fs0))] s.heap.size, mc, ms, fun _ _ => True) h0 rfl rfl
    ⟨⟨B.exec, B.bytes, hml, B.returns, B.notSynchronized, findClass_of_methodNamed B.named⟩, fun w hw => hts w (List.mem_cons_of_mem _ hw), hN, hK, fun q hq => Or.inr hq, ⟨rfl, rfl, rfl, rfl⟩, fun _ => (name_of_methodNamed B.named B.method).1⟩ _ [] _ hl hP hD0.self va_S.rf
theorem J_ret {X : Cx} {mi : Mi} {pc : Nat} {L : List (Nat × Value)} {ws : va_W} {k n h0 : Nat} {wf : WF1} (hret : mret mi = none) (hd : decode (mcc mi) pc = .ok (.return_, 1)) (hk : k = xK X) (hn : n = xN X) (u : Nat → Nat) (hu : u 0 = h0) (hw : ws = wf u (xI X) (xZ X)) : J X mi pc L [] ws k n (MN X h0 wf) := by
  intro ok H locs ls h1 h2 h3 h4
  subst hk hn hw
  exact W.vret ok.hx ok.hb (ok.hr.trans hret) (fun t ht hW => ⟨⟨u, rfl, hu, by rw [ht]; exact h2, h3⟩, h4.F ht⟩) h4.2.2 hd ok.hlk
theorem nd_iff : ∀ {l : List Nat}, l.Nodup → va_nd l = true
  | [], _ => rfl
  | a :: l, h => by
    obtain ⟨h1, h2⟩ := List.nodup_cons.mp h
    show (decide (a ∉ l) && va_nd l) = true
    rw [decide_eq_true h1, nd_iff h2]; rfl
theorem rg_map {ws : va_W} {x : Nat × va_E} : (List.range ws.length).map (fun i => (ws ++ [x])[i]?) = ws.map some := by
  apply List.ext_getElem?
  intro i
  by_cases h : i < ws.length
  · rw [List.getElem?_map, List.getElem?_range h, List.getElem?_map]
    show some ((ws ++ [x])[i]?) = _
    rw [List.getElem?_append_left h, List.getElem?_eq_getElem h]; rfl
  · rw [List.getElem?_eq_none (by simp; omega), List.getElem?_eq_none (by simp; omega)]
/-- what a caller must know of a constructor -/
def CalI (mj : Mi) : Prop := CalOk mj 0 ∧ Cond.instanceMethod (my mj) ∈ TB ∧ (my mj).name = "<init>"
section JC
variable {X : Cx} {mi : Mi} {pc index : Nat} {L : List (Nat × Value)} {st : List Value} {ws : va_W} {k n q : Nat} {Q : State → Prop} {y : MethodName} {cc : ByteArray} {fr lo mc ms cj : Nat} {fsj : List Value} {wf : WF1} {host : String}
theorem J_run (hc : CalI (kmi y cc fr lo)) (hM : KN (kmi y cc fr lo) mc ms cj fsj wf) (ok : OkJ X mi) {H : Heap} {locs : List Loc} {ls : Array Slot} (h2 : va_P (xD X) vwCl (ws ++ [(q, .inr (cj, fsj))]) H) (h3 : va_D (xA X) (ws ++ [(q, .inr (cj, fsj))])) (h4 : va_S (xA X) (xS X).heap H locs) (h1 : lv_has ls (mnL mi) L)
    (hr : ∀ (_ : PreS (xS X) H (va_Pc [.ref q] (BW (xD X) (xI X) (xZ X) H.size [(q, .inr (cj, fsj))])) [.ref q]), va_Run (xP X) (xL X) (xE X) (xR X) (xS X) (xM X) (xG X) (xB X) (xMe X) (xC X) H locs k n mc ms (F0 (xM X) pc ls (.ref q :: st)) st (va_Qv (fun u : Nat → Nat => u 0 = q) (fun u t => va_P (xD X) vwCl (wf u (xI X) (xZ X)) t.heap ∧ va_D (va_A [(q, .inr (cj, fsj))] H.size) (wf u (xI X) (xZ X))) (va_A [(q, .inr (cj, fsj))] H.size) #[.ref q]) (va_A [(q, .inr (cj, fsj))] H.size))
    (K : ∀ u : Nat → Nat, u 0 = q → J X mi (pc + 3) L st (ws ++ wf u (xI X) (xZ X)) (k + mc) (n + ms) Q) : W (xP X) (xL X) (xE X) (xR X) (xS X) (xM X) (xG X) (xB X) (xMe X) (xC X) H locs k n Q (F0 (xM X) pc ls (.ref q :: st)) := by
  have hPc : va_P (xD X) vwCl [(q, .inr (cj, fsj))] H := h2.sub [ws.length] (by simp)
  have hDc : va_D (xA X) [(q, .inr (cj, fsj))] := h3.sub [ws.length] rfl (by simp)
  have hFc := va_free (wc := [(q, .inr (cj, fsj))]) h3 h4 ok.hA [ws.length] (by simp)
  refine va_callv (hr ⟨BW_blind, fun U hU hW => ⟨rfl, by rw [hU], by rw [hU]; exact hPc, va_K.moved hW.alike ok.hK, hDc.weaken (fun _ _ _ _ => trivial), fun w hw => nest_warm hW w (List.mem_filter.mp hw).2 (ok.hnw w hw)⟩⟩) h4 (fun q _ h => hFc q h) hFc (fun u t H1 locs1 ht hvm hw hB hz1 hk1 hS => ?_)
  obtain ⟨hP1, hD1⟩ := hB
  rw [ht] at hP1
  obtain ⟨hP', hD'⟩ := va_join (wr := ws) (w1 := wf u (xI X) (xZ X)) h2 h3 [ws.length] (List.range ws.length) (by simp) rg_map (nd_iff List.nodup_range) (fun i hi => by rw [List.mem_range] at hi; simp; omega) hk1 hFc hP1 hD1
  exact K u hw ok H1 locs1 ls h1 hP' hD' hS
theorem J_ctorN (hM : KN (kmi y cc fr lo) mc ms cj fsj wf) (hc : CalI (kmi y cc fr lo)) (hR : fr + 1 ≤ mfr mi ∧ 20 + lo ≤ mlo mi) (hl : Cond.methodLinkNest (my mi).cls index y host ∈ NW) (hk : k + mc ≤ xK X) (hn : n + ms ≤ xN X) (hcat : (st.map fun v => v.category).sum ≤ 8) (hd : decode (mcc mi) pc = .ok (.invokespecial index, 3))
    (K : ∀ u : Nat → Nat, u 0 = q → J X mi (pc + 3) L st (ws ++ wf u (xI X) (xZ X)) (k + mc) (n + ms) Q) : J X mi pc L (.ref q :: st) (ws ++ [(q, .inr (cj, fsj))]) k n Q := by
  intro ok H locs ls h1 h2 h3 h4
  refine J_run hc hM ok h2 h3 h4 h1 (fun hp => ?_) K
  obtain ⟨⟨c1, c2, c3, c4⟩, c5, c6⟩ := id hc
  exact va_runIN (As := []) (rest := st) (b := q) (n := 0) (g := F0 (xM X) pc ls (.ref q :: st)) ⟨ok.hx, ok.hb, ok.hml, ok.hown, ok.hts⟩ (hM (xL X) (xD X) (xI X) (xZ X) q H.size) ⟨⟨⟨rfl, rfl, by rw [ok.hR.1]; exact hR.1, by rw [ok.hR.2.1]; show 8 + (1 + 11) + lo ≤ _; omega, pay_in ok.hts (call_ws (n := 0) hc.1), List.mem_cons_self⟩, ok.hts _ c1, ok.hts _ c2, c3, fun sig h => (by rw [h] at c4; exact (Option.some.inj c4).symm), va_Nw.use rfl (ok.hnw _ hl)⟩, c6, ok.hts _ c5⟩ hp rfl rfl h1.1 rfl (lv_room hcat) hd ⟨by rw [ok.hR.2.2.1]; exact hk, by rw [ok.hR.2.2.2]; exact hn⟩
theorem J_ctor (hM : KN (kmi y cc fr lo) mc ms cj fsj wf) (hc : CalI (kmi y cc fr lo)) (hR : fr + 1 ≤ mfr mi ∧ 20 + lo ≤ mlo mi) (hl : Cond.methodLink (my mi).cls index y ∈ TB) (hk : k + mc ≤ xK X) (hn : n + ms ≤ xN X) (hcat : (st.map fun v => v.category).sum ≤ 8) (hd : decode (mcc mi) pc = .ok (.invokespecial index, 3))
    (K : ∀ u : Nat → Nat, u 0 = q → J X mi (pc + 3) L st (ws ++ wf u (xI X) (xZ X)) (k + mc) (n + ms) Q) : J X mi pc L (.ref q :: st) (ws ++ [(q, .inr (cj, fsj))]) k n Q := by
  intro ok H locs ls h1 h2 h3 h4
  refine J_run hc hM ok h2 h3 h4 h1 (fun hp => ?_) K
  obtain ⟨⟨c1, c2, c3, c4⟩, c5, c6⟩ := id hc
  exact va_runI (As := []) (rest := st) (b := q) (n := 0) (g := F0 (xM X) pc ls (.ref q :: st)) ⟨ok.hx, ok.hb, ok.hml, ok.hown, ok.hts⟩ (hM (xL X) (xD X) (xI X) (xZ X) q H.size) ⟨⟨rfl, rfl, by rw [ok.hR.1]; exact hR.1, by rw [ok.hR.2.1]; show 8 + (1 + 11) + lo ≤ _; omega, pay_in ok.hts (call_ws (n := 0) hc.1), List.mem_cons_self, ok.hts _ c1, ok.hts _ c2, c3, fun sig h => (by rw [h] at c4; exact (Option.some.inj c4).symm), ok.hts _ hl⟩, c6, ok.hts _ c5⟩ hp rfl rfl h1.1 rfl (lv_room hcat) hd ⟨by rw [ok.hR.2.2.1]; exact hk, by rw [ok.hR.2.2.2]; exact hn⟩
end JC
