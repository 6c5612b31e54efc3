/-! the judgement zWp, the contract zSp, the operations and that they are sound -/
def zrm (d : Nat) : Room := { frames := d, cells := 0, slots := 0, locals := 40 * d }
def zrv (M : zMD) (r : Int32) : Option Value := match M.2.2.2 with
  | none => none
  | some _ => some (.int r)
def zQc (E : zEN) (M : zMD) (P : zPT) : Array Value → State → Outcome → State → Prop := fun _ st oc t => ∃ (r : Int32) (σ : zST), oc = .returned (zrv M r) ∧ P r σ ∧ zWD E σ t.heap ∧ va_F (zAA E) st t
def zFX (E : zEN) (M : zMD) (p : Program) (s : State) (m : MethodId) (args : Array Value) (meth : Method) (c : Code) : Prop :=
  p.tables.exec = Jvm.exec ∧ c.code = M.2.1 ∧ c.maxLocals = M.2.2.1 ∧ meth.sig.returnType = M.2.2.2 ∧ meth.locks = false ∧ s.vm.findClass M.1.cls = some m.cls ∧ (∀ w ∈ zU, w.before args s = true) ∧ zKK E s
def zWp (E : zEN) (d : Nat) (M : zMD) (P : zPT) (pc : Nat) : zKT := fun L S σ =>
  ∀ (p : Program) (e : Env) (s : State) (m : MethodId) (args : Array Value) (below : List Frame) (meth : Method) (c : Code) (ls : Array Slot) (H : Heap) (locs : List Loc),
    zFX E M p s m args meth c → zlr E M.2.2.1 ls L → zvs S → zvl L → zWD E σ H → va_S (zAA E) s.heap H locs →
    W p E.1 e (zrm d) s m args below meth c H locs 0 0 (MQ below (zQc E M P) args s 0 0 (zAA E)) (F0 m pc ls (S.map (zcv E)))
def zPc (E : zEN) (as : List zAV) (σ : zST) : Array Value → State → Prop := fun v U => v = (as.map (zcv E)).toArray ∧ zWD E σ U.heap ∧ zKK E U
def zSp (E : zEN) (d : Nat) (M : zMD) (as : List zAV) (σ : zST) (P : zPT) : Prop :=
  zvs as → Met E.1 M.1 (.code M.1 M.2.1 M.2.2.1 M.2.2.2 :: zU) (zrm d) (zPc E as σ) (zQc E M P) 0 0 (zAA E)
theorem zSp.conseq {E : zEN} {d : Nat} {M : zMD} {as : List zAV} {σ : zST} {P P' : zPT} (h : zSp E d M as σ P) (hP : ∀ r σ', P r σ' → P' r σ') : zSp E d M as σ P' := by
  intro hv
  have h1 := h hv
  unfold Met MetFree at *
  intro p e a1 a2 a3 s m args below a4 a5 a6 a7
  obtain ⟨k, o, b1, b2, b3, ⟨r, σ', c1, c2, c3, c4⟩, b5⟩ := h1 p e a1 a2 a3 s m args below a4 a5 a6 a7
  exact ⟨k, o, b1, b2, b3, ⟨r, σ', c1, hP _ _ c2, c3, c4⟩, b5⟩
section zOps
variable {E : zEN} {d : Nat} {M : zMD} {P : zPT} {pc : Nat} {k k2 : zKT}
/-! constants -/
def zo_push (v : Int32) (k : zKT) : zKT := fun L S σ => k L (.inl v :: S) σ
theorem zq_iconst {n : Int} {v : Int32} (hd : decode M.2.1 pc = .ok (.iconst n, 1)) (hv : Int32.ofInt n = v) (hk : ∀ L S σ, k L S σ → zWp E d M P (pc + 1) L S σ) : ∀ L S σ, zo_push v k L S σ → zWp E d M P pc L S σ := by
  intro L S σ h p e s m args below meth c ls H locs hF hl hs hvl hW hS
  exact lv_iconst hF.1 hF.2.1 hd hv (hk _ _ _ h p e s m args below meth c ls H locs hF hl (hs.cons trivial) hvl hW hS)
theorem zq_bipush {n : Int} {v : Int32} (hd : decode M.2.1 pc = .ok (.bipush n, 2)) (hv : (Int8.ofInt n).toInt32 = v) (hk : ∀ L S σ, k L S σ → zWp E d M P (pc + 2) L S σ) : ∀ L S σ, zo_push v k L S σ → zWp E d M P pc L S σ := by
  intro L S σ h p e s m args below meth c ls H locs hF hl hs hvl hW hS
  exact lv_bipush hF.1 hF.2.1 hd hv (hk _ _ _ h p e s m args below meth c ls H locs hF hl (hs.cons trivial) hvl hW hS)
theorem zq_sipush {n : Int} {v : Int32} (hd : decode M.2.1 pc = .ok (.sipush n, 3)) (hv : (Int16.ofInt n).toInt32 = v) (hk : ∀ L S σ, k L S σ → zWp E d M P (pc + 3) L S σ) : ∀ L S σ, zo_push v k L S σ → zWp E d M P pc L S σ := by
  intro L S σ h p e s m args below meth c ls H locs hF hl hs hvl hW hS
  exact lv_sipush hF.1 hF.2.1 hd hv (hk _ _ _ h p e s m args below meth c ls H locs hF hl (hs.cons trivial) hvl hW hS)
theorem zq_ldcw {n : Nat} {v : Int32} (hd : decode M.2.1 pc = .ok (.ldc_w n, 3)) (hv : Cond.constant M.1.cls n v ∈ zU) (hk : ∀ L S σ, k L S σ → zWp E d M P (pc + 3) L S σ) : ∀ L S σ, zo_push v k L S σ → zWp E d M P pc L S σ := by
  intro L S σ h p e s m args below meth c ls H locs hF hl hs hvl hW hS
  exact lv_ldcw hF.1 hF.2.1 hF.2.2.2.2.2.1 (hF.2.2.2.2.2.2.1 _ hv) hd (hk _ _ _ h p e s m args below meth c ls H locs hF hl (hs.cons trivial) hvl hW hS)
/-! locals -/
def zo_iload (i : Nat) (k : zKT) : zKT := fun L S σ => match L[i]? with
  | some (some (.inl x)) => k L (.inl x :: S) σ
  | _ => False
def zo_aload (i : Nat) (k : zKT) : zKT := fun L S σ => match L[i]? with
  | some (some (.inr x)) => k L (.inr x :: S) σ
  | _ => False
theorem zq_iload_n {j : Fin 4} {i : Nat} (hd : decode M.2.1 pc = .ok (.iload_n j, 1)) (hi : (j : Nat) = i) (hk : ∀ L S σ, k L S σ → zWp E d M P (pc + 1) L S σ) : ∀ L S σ, zo_iload i k L S σ → zWp E d M P pc L S σ := by
  intro L S σ h p e s m args below meth c ls H locs hF hl hs hvl hW hS
  unfold zo_iload at h
  split at h
  · rename_i x hx
    exact lv_iload_n hF.1 hF.2.1 hd hi (hl.2.2.2 i _ hx) (hk _ _ _ h p e s m args below meth c ls H locs hF hl (hs.cons trivial) hvl hW hS)
  · exact h.elim
theorem zq_iload {i : Nat} (hd : decode M.2.1 pc = .ok (.iload i, 2)) (hk : ∀ L S σ, k L S σ → zWp E d M P (pc + 2) L S σ) : ∀ L S σ, zo_iload i k L S σ → zWp E d M P pc L S σ := by
  intro L S σ h p e s m args below meth c ls H locs hF hl hs hvl hW hS
  unfold zo_iload at h
  split at h
  · rename_i x hx
    exact lv_iload hF.1 hF.2.1 hd (hl.2.2.2 i _ hx) (hk _ _ _ h p e s m args below meth c ls H locs hF hl (hs.cons trivial) hvl hW hS)
  · exact h.elim
theorem zq_aload_n {j : Fin 4} {i : Nat} (hd : decode M.2.1 pc = .ok (.aload_n j, 1)) (hi : (j : Nat) = i) (hk : ∀ L S σ, k L S σ → zWp E d M P (pc + 1) L S σ) : ∀ L S σ, zo_aload i k L S σ → zWp E d M P pc L S σ := by
  intro L S σ h p e s m args below meth c ls H locs hF hl hs hvl hW hS
  unfold zo_aload at h
  split at h
  · rename_i x hx
    exact lv_aload_n hF.1 hF.2.1 hd hi (hl.2.2.2 i _ hx) (hk _ _ _ h p e s m args below meth c ls H locs hF hl (hs.cons (hvl _ (List.mem_of_getElem? hx))) hvl hW hS)
  · exact h.elim
def zo_istore (i : Nat) (k : zKT) : zKT := fun L S σ => match S with
  | .inl x :: S' => k (L.set i (some (.inl x))) S' σ
  | _ => False
theorem zq_istore_n {j : Fin 4} {i : Nat} (hd : decode M.2.1 pc = .ok (.istore_n j, 1)) (hi : (j : Nat) = i) (hn : i < M.2.2.1) (hk : ∀ L S σ, k L S σ → zWp E d M P (pc + 1) L S σ) : ∀ L S σ, zo_istore i k L S σ → zWp E d M P pc L S σ := by
  intro L S σ h p e s m args below meth c ls H locs hF hl hs hvl hW hS
  unfold zo_istore at h
  split at h
  · rename_i x S'
    exact lv_istore_n hF.1 hF.2.1 hd hi hl.has hn rfl (fun ls' h' => hk _ _ _ h p e s m args below meth c ls' H locs hF (hl.store (v := .inl x) hn h') hs.tail (hvl.set trivial) hW hS)
  · exact h.elim
theorem zq_istore {i : Nat} (hd : decode M.2.1 pc = .ok (.istore i, 2)) (hn : i < M.2.2.1) (hk : ∀ L S σ, k L S σ → zWp E d M P (pc + 2) L S σ) : ∀ L S σ, zo_istore i k L S σ → zWp E d M P pc L S σ := by
  intro L S σ h p e s m args below meth c ls H locs hF hl hs hvl hW hS
  unfold zo_istore at h
  split at h
  · rename_i x S'
    exact lv_istore hF.1 hF.2.1 hd hl.has hn rfl (fun ls' h' => hk _ _ _ h p e s m args below meth c ls' H locs hF (hl.store (v := .inl x) hn h') hs.tail (hvl.set trivial) hW hS)
  · exact h.elim
def zo_iinc (i : Nat) (v : Int32) (k : zKT) : zKT := fun L S σ => match L[i]? with
  | some (some (.inl x)) => k (L.set i (some (.inl (x + v)))) S σ
  | _ => False
theorem zq_iinc {i : Nat} {n : Int} {v : Int32} (hd : decode M.2.1 pc = .ok (.iinc i n, 3)) (hv : Int32.ofInt n = v) (hn : i < M.2.2.1) (hk : ∀ L S σ, k L S σ → zWp E d M P (pc + 3) L S σ) : ∀ L S σ, zo_iinc i v k L S σ → zWp E d M P pc L S σ := by
  intro L S σ h p e s m args below meth c ls H locs hF hl hs hvl hW hS
  unfold zo_iinc at h
  split at h
  · rename_i x hx
    obtain ⟨q, hq⟩ := List.getElem?_of_mem (zla_mem.mpr ⟨_, hx, rfl⟩ : (i, zcv E (.inl x)) ∈ zla E L)
    exact lv_iinc hF.1 hF.2.1 hd hl.has (k := q) (x := x) hq rfl hn rfl (fun ls' h' => hk _ _ _ h p e s m args below meth c ls' H locs hF (hl.store (v := .inl (x + v)) hn (by subst hv; exact h')) hs (hvl.set trivial) hW hS)
  · exact h.elim
/-! arithmetic -/
def zo_bin (f : Int32 → Int32 → Int32) (k : zKT) : zKT := fun L S σ => match S with
  | .inl y :: .inl x :: S' => k L (.inl (f x y) :: S') σ
  | _ => False
theorem zq_iadd (hd : decode M.2.1 pc = .ok (.iadd, 1)) (hk : ∀ L S σ, k L S σ → zWp E d M P (pc + 1) L S σ) : ∀ L S σ, zo_bin (fun x y => x + y) k L S σ → zWp E d M P pc L S σ := by
  intro L S σ h p e s m args below meth c ls H locs hF hl hs hvl hW hS
  unfold zo_bin at h
  split at h
  · exact lv_iadd hF.1 hF.2.1 hd (hk _ _ _ h p e s m args below meth c ls H locs hF hl (hs.tail.tail.cons trivial) hvl hW hS)
  · exact h.elim
theorem zq_isub (hd : decode M.2.1 pc = .ok (.isub, 1)) (hk : ∀ L S σ, k L S σ → zWp E d M P (pc + 1) L S σ) : ∀ L S σ, zo_bin (fun x y => x - y) k L S σ → zWp E d M P pc L S σ := by
  intro L S σ h p e s m args below meth c ls H locs hF hl hs hvl hW hS
  unfold zo_bin at h
  split at h
  · exact lv_isub hF.1 hF.2.1 hd (hk _ _ _ h p e s m args below meth c ls H locs hF hl (hs.tail.tail.cons trivial) hvl hW hS)
  · exact h.elim
theorem zq_imul (hd : decode M.2.1 pc = .ok (.imul, 1)) (hk : ∀ L S σ, k L S σ → zWp E d M P (pc + 1) L S σ) : ∀ L S σ, zo_bin (fun x y => x * y) k L S σ → zWp E d M P pc L S σ := by
  intro L S σ h p e s m args below meth c ls H locs hF hl hs hvl hW hS
  unfold zo_bin at h
  split at h
  · exact lv_imul hF.1 hF.2.1 hd (hk _ _ _ h p e s m args below meth c ls H locs hF hl (hs.tail.tail.cons trivial) hvl hW hS)
  · exact h.elim
theorem zq_iand (hd : decode M.2.1 pc = .ok (.iand, 1)) (hk : ∀ L S σ, k L S σ → zWp E d M P (pc + 1) L S σ) : ∀ L S σ, zo_bin (fun x y => x &&& y) k L S σ → zWp E d M P pc L S σ := by
  intro L S σ h p e s m args below meth c ls H locs hF hl hs hvl hW hS
  unfold zo_bin at h
  split at h
  · exact lv_iand hF.1 hF.2.1 hd (hk _ _ _ h p e s m args below meth c ls H locs hF hl (hs.tail.tail.cons trivial) hvl hW hS)
  · exact h.elim
theorem zq_ior (hd : decode M.2.1 pc = .ok (.ior, 1)) (hk : ∀ L S σ, k L S σ → zWp E d M P (pc + 1) L S σ) : ∀ L S σ, zo_bin (fun x y => x ||| y) k L S σ → zWp E d M P pc L S σ := by
  intro L S σ h p e s m args below meth c ls H locs hF hl hs hvl hW hS
  unfold zo_bin at h
  split at h
  · exact lv_ior hF.1 hF.2.1 hd (hk _ _ _ h p e s m args below meth c ls H locs hF hl (hs.tail.tail.cons trivial) hvl hW hS)
  · exact h.elim
theorem zq_ixor (hd : decode M.2.1 pc = .ok (.ixor, 1)) (hk : ∀ L S σ, k L S σ → zWp E d M P (pc + 1) L S σ) : ∀ L S σ, zo_bin (fun x y => x ^^^ y) k L S σ → zWp E d M P pc L S σ := by
  intro L S σ h p e s m args below meth c ls H locs hF hl hs hvl hW hS
  unfold zo_bin at h
  split at h
  · exact lv_ixor hF.1 hF.2.1 hd (hk _ _ _ h p e s m args below meth c ls H locs hF hl (hs.tail.tail.cons trivial) hvl hW hS)
  · exact h.elim
theorem zq_ishl (hd : decode M.2.1 pc = .ok (.ishl, 1)) (hk : ∀ L S σ, k L S σ → zWp E d M P (pc + 1) L S σ) : ∀ L S σ, zo_bin (fun x y => x <<< (y &&& 31)) k L S σ → zWp E d M P pc L S σ := by
  intro L S σ h p e s m args below meth c ls H locs hF hl hs hvl hW hS
  unfold zo_bin at h
  split at h
  · exact lv_ishl hF.1 hF.2.1 hd (hk _ _ _ h p e s m args below meth c ls H locs hF hl (hs.tail.tail.cons trivial) hvl hW hS)
  · exact h.elim
theorem zq_ishr (hd : decode M.2.1 pc = .ok (.ishr, 1)) (hk : ∀ L S σ, k L S σ → zWp E d M P (pc + 1) L S σ) : ∀ L S σ, zo_bin (fun x y => x >>> (y &&& 31)) k L S σ → zWp E d M P pc L S σ := by
  intro L S σ h p e s m args below meth c ls H locs hF hl hs hvl hW hS
  unfold zo_bin at h
  split at h
  · exact lv_ishr hF.1 hF.2.1 hd (hk _ _ _ h p e s m args below meth c ls H locs hF hl (hs.tail.tail.cons trivial) hvl hW hS)
  · exact h.elim
def zushr (x y : Int32) : Int32 := (x.toUInt32 >>> (y.toUInt32 &&& Int32.toUInt32 31)).toInt32
theorem zq_iushr (hd : decode M.2.1 pc = .ok (.iushr, 1)) (hk : ∀ L S σ, k L S σ → zWp E d M P (pc + 1) L S σ) : ∀ L S σ, zo_bin zushr k L S σ → zWp E d M P pc L S σ := by
  intro L S σ h p e s m args below meth c ls H locs hF hl hs hvl hW hS
  unfold zo_bin at h
  split at h
  · exact lv_iushr hF.1 hF.2.1 hd rfl (hk _ _ _ h p e s m args below meth c ls H locs hF hl (hs.tail.tail.cons trivial) hvl hW hS)
  · exact h.elim
def zo_idiv (k : zKT) : zKT := fun L S σ => match S with
  | .inl y :: .inl x :: S' => ¬ y = 0 ∧ k L (.inl (x / y) :: S') σ
  | _ => False
theorem zq_idiv (hd : decode M.2.1 pc = .ok (.idiv, 1)) (hk : ∀ L S σ, k L S σ → zWp E d M P (pc + 1) L S σ) : ∀ L S σ, zo_idiv k L S σ → zWp E d M P pc L S σ := by
  intro L S σ h p e s m args below meth c ls H locs hF hl hs hvl hW hS
  unfold zo_idiv at h
  split at h
  · exact lv_idiv hF.1 hF.2.1 hd h.1 (hk _ _ _ h.2 p e s m args below meth c ls H locs hF hl (hs.tail.tail.cons trivial) hvl hW hS)
  · exact h.elim
def zo_ineg (k : zKT) : zKT := fun L S σ => match S with
  | .inl x :: S' => k L (.inl (-x) :: S') σ
  | _ => False
theorem zq_ineg (hd : decode M.2.1 pc = .ok (.ineg, 1)) (hk : ∀ L S σ, k L S σ → zWp E d M P (pc + 1) L S σ) : ∀ L S σ, zo_ineg k L S σ → zWp E d M P pc L S σ := by
  intro L S σ h p e s m args below meth c ls H locs hF hl hs hvl hW hS
  unfold zo_ineg at h
  split at h
  · exact lv_ineg hF.1 hF.2.1 hd (hk _ _ _ h p e s m args below meth c ls H locs hF hl (hs.tail.cons trivial) hvl hW hS)
  · exact h.elim
/-! the stack -/
def zo_dup (k : zKT) : zKT := fun L S σ => match S with
  | v :: S' => k L (v :: v :: S') σ
  | _ => False
theorem zq_dup (hd : decode M.2.1 pc = .ok (.dup, 1)) (hk : ∀ L S σ, k L S σ → zWp E d M P (pc + 1) L S σ) : ∀ L S σ, zo_dup k L S σ → zWp E d M P pc L S σ := by
  intro L S σ h p e s m args below meth c ls H locs hF hl hs hvl hW hS
  unfold zo_dup at h
  split at h
  · exact lv_dup hF.1 hF.2.1 hd (zcv_cat E _) (hk _ _ _ h p e s m args below meth c ls H locs hF hl (hs.cons hs.head) hvl hW hS)
  · exact h.elim
def zo_dup2 (k : zKT) : zKT := fun L S σ => match S with
  | v :: w :: S' => k L (v :: w :: v :: w :: S') σ
  | _ => False
theorem zq_dup2 (hd : decode M.2.1 pc = .ok (.dup2, 1)) (hk : ∀ L S σ, k L S σ → zWp E d M P (pc + 1) L S σ) : ∀ L S σ, zo_dup2 k L S σ → zWp E d M P pc L S σ := by
  intro L S σ h p e s m args below meth c ls H locs hF hl hs hvl hW hS
  unfold zo_dup2 at h
  split at h
  · exact lv_dup2_11 hF.1 hF.2.1 hd (zcv_cat E _) (zcv_cat E _) (hk _ _ _ h p e s m args below meth c ls H locs hF hl ((hs.cons hs.tail.head).cons hs.head) hvl hW hS)
  · exact h.elim
def zo_dup_x1 (k : zKT) : zKT := fun L S σ => match S with
  | v :: w :: S' => k L (v :: w :: v :: S') σ
  | _ => False
theorem zq_dup_x1 (hd : decode M.2.1 pc = .ok (.dup_x1, 1)) (hk : ∀ L S σ, k L S σ → zWp E d M P (pc + 1) L S σ) : ∀ L S σ, zo_dup_x1 k L S σ → zWp E d M P pc L S σ := by
  intro L S σ h p e s m args below meth c ls H locs hF hl hs hvl hW hS
  unfold zo_dup_x1 at h
  split at h
  · exact lv_dup_x1 hF.1 hF.2.1 hd (zcv_cat E _) (zcv_cat E _) (hk _ _ _ h p e s m args below meth c ls H locs hF hl (((hs.tail.tail.cons hs.head).cons hs.tail.head).cons hs.head) hvl hW hS)
  · exact h.elim
def zo_pop (k : zKT) : zKT := fun L S σ => match S with
  | _ :: S' => k L S' σ
  | _ => False
theorem zq_pop (hd : decode M.2.1 pc = .ok (.pop, 1)) (hk : ∀ L S σ, k L S σ → zWp E d M P (pc + 1) L S σ) : ∀ L S σ, zo_pop k L S σ → zWp E d M P pc L S σ := by
  intro L S σ h p e s m args below meth c ls H locs hF hl hs hvl hW hS
  unfold zo_pop at h
  split at h
  · exact lv_pop hF.1 hF.2.1 hd (zcv_cat E _) (hk _ _ _ h p e s m args below meth c ls H locs hF hl hs.tail hvl hW hS)
  · exact h.elim
/-! jumps -/
theorem zq_goto {off : Int} {tgt : Nat} (hd : decode M.2.1 pc = .ok (.goto off, 3)) (ht : (pc : Int) + off = (tgt : Int)) (hk : ∀ L S σ, k L S σ → zWp E d M P tgt L S σ) : ∀ L S σ, k L S σ → zWp E d M P pc L S σ := by
  intro L S σ h p e s m args below meth c ls H locs hF hl hs hvl hW hS
  exact lv_goto hF.1 hF.2.1 hd ht (hk _ _ _ h p e s m args below meth c ls H locs hF hl hs hvl hW hS)
def zo_if (q : Int32 → Prop) (k k2 : zKT) : zKT := fun L S σ => match S with
  | .inl x :: S' => (q x → k L S' σ) ∧ (¬ q x → k2 L S' σ)
  | _ => False
def zo_icmp (q : Int32 → Int32 → Prop) (k k2 : zKT) : zKT := fun L S σ => match S with
  | .inl y :: .inl x :: S' => (q x y → k L S' σ) ∧ (¬ q x y → k2 L S' σ)
  | _ => False
theorem zq_if_eq {off : Int} {tgt : Nat} (hd : decode M.2.1 pc = .ok (.ifCond .eq off, 3)) (ht : (pc : Int) + off = (tgt : Int)) (hk : ∀ L S σ, k L S σ → zWp E d M P tgt L S σ) (hk2 : ∀ L S σ, k2 L S σ → zWp E d M P (pc + 3) L S σ) : ∀ L S σ, zo_if (fun x => x = 0) k k2 L S σ → zWp E d M P pc L S σ := by
  intro L S σ h p e s m args below meth c ls H locs hF hl hs hvl hW hS
  unfold zo_if at h
  split at h
  · exact lv_if_eq hF.1 hF.2.1 hd ht (fun q => hk _ _ _ (h.1 q) p e s m args below meth c ls H locs hF hl hs.tail hvl hW hS) (fun q => hk2 _ _ _ (h.2 q) p e s m args below meth c ls H locs hF hl hs.tail hvl hW hS)
  · exact h.elim
theorem zq_if_ne {off : Int} {tgt : Nat} (hd : decode M.2.1 pc = .ok (.ifCond .ne off, 3)) (ht : (pc : Int) + off = (tgt : Int)) (hk : ∀ L S σ, k L S σ → zWp E d M P tgt L S σ) (hk2 : ∀ L S σ, k2 L S σ → zWp E d M P (pc + 3) L S σ) : ∀ L S σ, zo_if (fun x => x = 0) k2 k L S σ → zWp E d M P pc L S σ := by
  intro L S σ h p e s m args below meth c ls H locs hF hl hs hvl hW hS
  unfold zo_if at h
  split at h
  · exact lv_if_ne hF.1 hF.2.1 hd ht (fun q => hk _ _ _ (h.2 q) p e s m args below meth c ls H locs hF hl hs.tail hvl hW hS) (fun q => hk2 _ _ _ (h.1 q) p e s m args below meth c ls H locs hF hl hs.tail hvl hW hS)
  · exact h.elim
theorem zq_if_lt {off : Int} {tgt : Nat} (hd : decode M.2.1 pc = .ok (.ifCond .lt off, 3)) (ht : (pc : Int) + off = (tgt : Int)) (hk : ∀ L S σ, k L S σ → zWp E d M P tgt L S σ) (hk2 : ∀ L S σ, k2 L S σ → zWp E d M P (pc + 3) L S σ) : ∀ L S σ, zo_if (fun x => x < 0) k k2 L S σ → zWp E d M P pc L S σ := by
  intro L S σ h p e s m args below meth c ls H locs hF hl hs hvl hW hS
  unfold zo_if at h
  split at h
  · exact lv_if_lt hF.1 hF.2.1 hd ht (fun q => hk _ _ _ (h.1 q) p e s m args below meth c ls H locs hF hl hs.tail hvl hW hS) (fun q => hk2 _ _ _ (h.2 q) p e s m args below meth c ls H locs hF hl hs.tail hvl hW hS)
  · exact h.elim
theorem zq_if_ge {off : Int} {tgt : Nat} (hd : decode M.2.1 pc = .ok (.ifCond .ge off, 3)) (ht : (pc : Int) + off = (tgt : Int)) (hk : ∀ L S σ, k L S σ → zWp E d M P tgt L S σ) (hk2 : ∀ L S σ, k2 L S σ → zWp E d M P (pc + 3) L S σ) : ∀ L S σ, zo_if (fun x => 0 ≤ x) k k2 L S σ → zWp E d M P pc L S σ := by
  intro L S σ h p e s m args below meth c ls H locs hF hl hs hvl hW hS
  unfold zo_if at h
  split at h
  · exact lv_if_ge hF.1 hF.2.1 hd ht (fun q => hk _ _ _ (h.1 q) p e s m args below meth c ls H locs hF hl hs.tail hvl hW hS) (fun q => hk2 _ _ _ (h.2 q) p e s m args below meth c ls H locs hF hl hs.tail hvl hW hS)
  · exact h.elim
theorem zq_if_gt {off : Int} {tgt : Nat} (hd : decode M.2.1 pc = .ok (.ifCond .gt off, 3)) (ht : (pc : Int) + off = (tgt : Int)) (hk : ∀ L S σ, k L S σ → zWp E d M P tgt L S σ) (hk2 : ∀ L S σ, k2 L S σ → zWp E d M P (pc + 3) L S σ) : ∀ L S σ, zo_if (fun x => 0 < x) k k2 L S σ → zWp E d M P pc L S σ := by
  intro L S σ h p e s m args below meth c ls H locs hF hl hs hvl hW hS
  unfold zo_if at h
  split at h
  · exact lv_if_gt hF.1 hF.2.1 hd ht (fun q => hk _ _ _ (h.1 q) p e s m args below meth c ls H locs hF hl hs.tail hvl hW hS) (fun q => hk2 _ _ _ (h.2 q) p e s m args below meth c ls H locs hF hl hs.tail hvl hW hS)
  · exact h.elim
theorem zq_if_le {off : Int} {tgt : Nat} (hd : decode M.2.1 pc = .ok (.ifCond .le off, 3)) (ht : (pc : Int) + off = (tgt : Int)) (hk : ∀ L S σ, k L S σ → zWp E d M P tgt L S σ) (hk2 : ∀ L S σ, k2 L S σ → zWp E d M P (pc + 3) L S σ) : ∀ L S σ, zo_if (fun x => x ≤ 0) k k2 L S σ → zWp E d M P pc L S σ := by
  intro L S σ h p e s m args below meth c ls H locs hF hl hs hvl hW hS
  unfold zo_if at h
  split at h
  · exact lv_if_le hF.1 hF.2.1 hd ht (fun q => hk _ _ _ (h.1 q) p e s m args below meth c ls H locs hF hl hs.tail hvl hW hS) (fun q => hk2 _ _ _ (h.2 q) p e s m args below meth c ls H locs hF hl hs.tail hvl hW hS)
  · exact h.elim
theorem zq_icmp_eq {off : Int} {tgt : Nat} (hd : decode M.2.1 pc = .ok (.if_icmp .eq off, 3)) (ht : (pc : Int) + off = (tgt : Int)) (hk : ∀ L S σ, k L S σ → zWp E d M P tgt L S σ) (hk2 : ∀ L S σ, k2 L S σ → zWp E d M P (pc + 3) L S σ) : ∀ L S σ, zo_icmp (fun x y => x = y) k k2 L S σ → zWp E d M P pc L S σ := by
  intro L S σ h p e s m args below meth c ls H locs hF hl hs hvl hW hS
  unfold zo_icmp at h
  split at h
  · exact lv_icmp_eq hF.1 hF.2.1 hd ht (fun q => hk _ _ _ (h.1 q) p e s m args below meth c ls H locs hF hl hs.tail.tail hvl hW hS) (fun q => hk2 _ _ _ (h.2 q) p e s m args below meth c ls H locs hF hl hs.tail.tail hvl hW hS)
  · exact h.elim
theorem zq_icmp_ne {off : Int} {tgt : Nat} (hd : decode M.2.1 pc = .ok (.if_icmp .ne off, 3)) (ht : (pc : Int) + off = (tgt : Int)) (hk : ∀ L S σ, k L S σ → zWp E d M P tgt L S σ) (hk2 : ∀ L S σ, k2 L S σ → zWp E d M P (pc + 3) L S σ) : ∀ L S σ, zo_icmp (fun x y => x = y) k2 k L S σ → zWp E d M P pc L S σ := by
  intro L S σ h p e s m args below meth c ls H locs hF hl hs hvl hW hS
  unfold zo_icmp at h
  split at h
  · exact lv_icmp_ne hF.1 hF.2.1 hd ht (fun q => hk _ _ _ (h.2 q) p e s m args below meth c ls H locs hF hl hs.tail.tail hvl hW hS) (fun q => hk2 _ _ _ (h.1 q) p e s m args below meth c ls H locs hF hl hs.tail.tail hvl hW hS)
  · exact h.elim
theorem zq_icmp_lt {off : Int} {tgt : Nat} (hd : decode M.2.1 pc = .ok (.if_icmp .lt off, 3)) (ht : (pc : Int) + off = (tgt : Int)) (hk : ∀ L S σ, k L S σ → zWp E d M P tgt L S σ) (hk2 : ∀ L S σ, k2 L S σ → zWp E d M P (pc + 3) L S σ) : ∀ L S σ, zo_icmp (fun x y => x < y) k k2 L S σ → zWp E d M P pc L S σ := by
  intro L S σ h p e s m args below meth c ls H locs hF hl hs hvl hW hS
  unfold zo_icmp at h
  split at h
  · exact lv_icmp_lt hF.1 hF.2.1 hd ht (fun q => hk _ _ _ (h.1 q) p e s m args below meth c ls H locs hF hl hs.tail.tail hvl hW hS) (fun q => hk2 _ _ _ (h.2 q) p e s m args below meth c ls H locs hF hl hs.tail.tail hvl hW hS)
  · exact h.elim
theorem zq_icmp_ge {off : Int} {tgt : Nat} (hd : decode M.2.1 pc = .ok (.if_icmp .ge off, 3)) (ht : (pc : Int) + off = (tgt : Int)) (hk : ∀ L S σ, k L S σ → zWp E d M P tgt L S σ) (hk2 : ∀ L S σ, k2 L S σ → zWp E d M P (pc + 3) L S σ) : ∀ L S σ, zo_icmp (fun x y => y ≤ x) k k2 L S σ → zWp E d M P pc L S σ := by
  intro L S σ h p e s m args below meth c ls H locs hF hl hs hvl hW hS
  unfold zo_icmp at h
  split at h
  · exact lv_icmp_ge hF.1 hF.2.1 hd ht (fun q => hk _ _ _ (h.1 q) p e s m args below meth c ls H locs hF hl hs.tail.tail hvl hW hS) (fun q => hk2 _ _ _ (h.2 q) p e s m args below meth c ls H locs hF hl hs.tail.tail hvl hW hS)
  · exact h.elim
theorem zq_icmp_gt {off : Int} {tgt : Nat} (hd : decode M.2.1 pc = .ok (.if_icmp .gt off, 3)) (ht : (pc : Int) + off = (tgt : Int)) (hk : ∀ L S σ, k L S σ → zWp E d M P tgt L S σ) (hk2 : ∀ L S σ, k2 L S σ → zWp E d M P (pc + 3) L S σ) : ∀ L S σ, zo_icmp (fun x y => y < x) k k2 L S σ → zWp E d M P pc L S σ := by
  intro L S σ h p e s m args below meth c ls H locs hF hl hs hvl hW hS
  unfold zo_icmp at h
  split at h
  · exact lv_icmp_gt hF.1 hF.2.1 hd ht (fun q => hk _ _ _ (h.1 q) p e s m args below meth c ls H locs hF hl hs.tail.tail hvl hW hS) (fun q => hk2 _ _ _ (h.2 q) p e s m args below meth c ls H locs hF hl hs.tail.tail hvl hW hS)
  · exact h.elim
theorem zq_icmp_le {off : Int} {tgt : Nat} (hd : decode M.2.1 pc = .ok (.if_icmp .le off, 3)) (ht : (pc : Int) + off = (tgt : Int)) (hk : ∀ L S σ, k L S σ → zWp E d M P tgt L S σ) (hk2 : ∀ L S σ, k2 L S σ → zWp E d M P (pc + 3) L S σ) : ∀ L S σ, zo_icmp (fun x y => x ≤ y) k k2 L S σ → zWp E d M P pc L S σ := by
  intro L S σ h p e s m args below meth c ls H locs hF hl hs hvl hW hS
  unfold zo_icmp at h
  split at h
  · exact lv_icmp_le hF.1 hF.2.1 hd ht (fun q => hk _ _ _ (h.1 q) p e s m args below meth c ls H locs hF hl hs.tail.tail hvl hW hS) (fun q => hk2 _ _ _ (h.2 q) p e s m args below meth c ls H locs hF hl hs.tail.tail hvl hW hS)
  · exact h.elim
end zOps
