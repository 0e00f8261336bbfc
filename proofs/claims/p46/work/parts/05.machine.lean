/-! THE MINI-MACHINE: it runs the decoded bytecode over numbered cells -/
abbrev mE : Type := (Nat × Nat × ((Nat → Int32) ⊕ (Nat → Option Nat))) ⊕ (Nat × List Value)
def mSCR : Nat := 1000000
def madd (bs b k : Nat) : Nat := if k = mSCR then b else bs + k
def mrv (bs b : Nat) : Value → Value
  | .ref k => .ref (madd bs b k)
  | v => v
def mre (bs b : Nat) (g : Nat → ClassId) : mE → va_E
  | .inl (t, n, .inl f) => .inl (g t, n, .inl f)
  | .inl (t, n, .inr f) => .inl (g t, n, .inr (.inr (.inr (.inr (fun i => (f i).map (madd bs b))))))
  | .inr (ci, fs) => .inr (ci, fs.map (mrv bs b))
def mws (bs b : Nat) (g : Nat → ClassId) : Nat → List mE → va_W
  | _, [] => []
  | k, e :: r => (bs + k, mre bs b g e) :: mws bs b g (k + 1) r
def mF4 (a : Nat) : Fin 4 := ⟨a % 4, Nat.mod_lt _ (by decide)⟩
def mF2 (a : Nat) : Fin 2 := ⟨a % 2, Nat.mod_lt _ (by decide)⟩
def mrbin (a : Nat) : Instr := match a with
  | 0 => .iadd | 1 => .isub | 2 => .imul | 3 => .iand | 4 => .ior | 5 => .ixor | 6 => .ishl | 7 => .ishr | 8 => .iushr | 9 => .idiv | _ => .irem
def mrlb (a : Nat) : Instr := match a with
  | 0 => .lor | 1 => .land | 2 => .ladd | _ => .lsub
def mrc (a : Nat) : ClassFile.Cond := match a with
  | 0 => .eq | 1 => .ne | 2 => .lt | 3 => .ge | 4 => .gt | _ => .le
def mraw0 (op a : Nat) (b : Int) : Instr := match op with
  | 0 => .iconst b | 1 => .bipush b | 2 => .sipush b | 3 => .iload_n (mF4 a) | 4 => .iload a | 5 => .aload_n (mF4 a) | 6 => .aload a
  | 7 => .istore_n (mF4 a) | 8 => .istore a | 9 => .astore_n (mF4 a) | 10 => .astore a | 11 => .iinc a b | 12 => mrbin a | 13 => .ineg | 14 => .pop | 15 => .dup | 16 => .dup2
  | 17 => .lconst (mF2 a) | 18 => .lload_n (mF4 a) | 19 => .lstore_n (mF4 a) | 20 => mrlb a | 21 => (if a = 0 then .lshl else .lushr) | _ => .l2i
def mraw1 (op a : Nat) (b : Int) : Instr := match op with
  | 0 => .ifCond (mrc a) b | 1 => .if_icmp (mrc a) b | 2 => .goto b
  | 3 => match mTS[a]? with | some (d, lo, hi, offs, _) => .tableswitch d lo hi offs.toArray | none => .nop
  | _ => match mTS[a]? with | some (d, _, _, _, ps) => .lookupswitch d ps.toArray | none => .nop
def mraw2 (op a : Nat) (b : Int) : Instr := match op with
  | 0 => match mFS[a]? with | some q => .getfield q.2.1 | none => .nop
  | 1 => match mFS[a]? with | some q => .putfield q.2.1 | none => .nop
  | 2 => .iaload | 3 => .iastore | 4 => .aaload | 5 => .arraylength
  | 6 => match mNS[a]? with | some q => .new q.2.1 | none => .nop
  | 7 => .newarray .int
  | 8 => match mNS[a]? with | some q => .anewarray q.2.1 | none => .nop
  | 9 => match mNS[a]? with | some q => .multianewarray q.2.1 b.toNat | none => .nop
  | _ => .aastore
def mraw (g op a : Nat) (b : Int) : Instr := match g with
  | 0 => mraw0 op a b
  | 1 => mraw1 op a b
  | 2 => mraw2 op a b
  | 3 => match op with | 0 => .ireturn | 1 => .areturn | _ => .return_
  | 4 => match op with
    | 0 => match mVS[a]? with | some q => .invokevirtual q.2.1 | none => .nop
    | 1 => match mSS[a]? with | some q => .invokestatic q.2.1 | none => .nop
    | _ => match mIS[a]? with | some q => .invokespecial q.2.1 | none => .nop
  | 5 => match op with
    | 1 => match mIS[a]? with | some q => .invokespecial q.2.1 | none => .nop
    | _ => match mSS[a]? with | some q => .invokestatic q.2.1 | none => .nop
  | _ => match mKS[a]? with
    | some q => match op with | 0 => .ldc q.2.1 | 1 => .ldc_w q.2.1 | _ => .ldc2_w q.2.1
    | none => .nop
def mlen (g op : Nat) (b : Int) : Nat := match g with
  | 0 => match op with | 1 => 2 | 2 => 3 | 4 => 2 | 6 => 2 | 8 => 2 | 10 => 2 | 11 => 3 | _ => 1
  | 1 => match op with | 3 => b.toNat | 4 => b.toNat | _ => 3
  | 2 => match op with | 0 => 3 | 1 => 3 | 6 => 3 | 7 => 2 | 8 => 3 | 9 => 4 | _ => 1
  | 3 => 1
  | 4 => 3
  | 5 => 3
  | _ => match op with | 0 => 2 | _ => 3
-- locals
def mget (L : List (Option Value)) (i : Nat) : Option Value := (L[i]?).join
def mfree (L : List (Option Value)) (i : Nat) : Bool := match i with
  | 0 => true
  | j + 1 => match mget L j with | some v => v.category != 2 | none => true
def mput (L : List (Option Value)) (i : Nat) (v : Value) : Option (List (Option Value)) :=
  if i < L.length ∧ mfree L i = true ∧ v.category = 1 then some (L.set i (some v)) else none
def mput2 (L : List (Option Value)) (i : Nat) (v : Value) : Option (List (Option Value)) :=
  if i + 1 < L.length ∧ mfree L i = true ∧ v.category = 2 then some ((L.set i (some v)).set (i + 1) none) else none
def mbin (a : Nat) (x y : Int32) : Option Int32 := match a with
  | 0 => some (x + y) | 1 => some (x - y) | 2 => some (x * y) | 3 => some (x &&& y) | 4 => some (x ||| y) | 5 => some (x ^^^ y)
  | 6 => some (x <<< (y &&& 31)) | 7 => some (x >>> (y &&& 31)) | 8 => some (x.toUInt32 >>> (y.toUInt32 &&& Int32.toUInt32 31)).toInt32
  | 9 => if y = 0 then none else some (x / y)
  | _ => if y = 0 then none else some (x - x / y * y)
def mlbin (a : Nat) (x y : Int64) : Int64 := match a with
  | 0 => x ||| y | 1 => x &&& y | 2 => x + y | _ => x - y
def mcmp (a : Nat) (x y : Int32) : Bool := match a with
  | 0 => decide (x = y) | 1 => !decide (x = y) | 2 => decide (x < y) | 3 => decide (y ≤ x) | 4 => decide (y < x) | _ => decide (x ≤ y)
/-- what touches locals and stack alone -/
def mpure (op a : Nat) (b : Int) (L : List (Option Value)) (st : List Value) : Option (List (Option Value) × List Value) := match op with
  | 0 => some (L, .int (Int32.ofInt b) :: st)
  | 1 => some (L, .int (Int8.ofInt b).toInt32 :: st)
  | 2 => some (L, .int (Int16.ofInt b).toInt32 :: st)
  | 3 => match mget L (a % 4) with | some (.int x) => some (L, .int x :: st) | _ => none
  | 4 => match mget L a with | some (.int x) => some (L, .int x :: st) | _ => none
  | 5 => match mget L (a % 4) with | some (.ref x) => some (L, .ref x :: st) | _ => none
  | 6 => match mget L a with | some (.ref x) => some (L, .ref x :: st) | _ => none
  | 7 => match st with | .int x :: r => (mput L (a % 4) (.int x)).map (fun L' => (L', r)) | _ => none
  | 8 => match st with | .int x :: r => (mput L a (.int x)).map (fun L' => (L', r)) | _ => none
  | 9 => match st with | .ref x :: r => (mput L (a % 4) (.ref x)).map (fun L' => (L', r)) | _ => none
  | 10 => match st with | .ref x :: r => (mput L a (.ref x)).map (fun L' => (L', r)) | _ => none
  | 11 => match mget L a with | some (.int x) => (mput L a (.int (x + Int32.ofInt b))).map (fun L' => (L', st)) | _ => none
  | 12 => match st with | .int y :: .int x :: r => (mbin a x y).map (fun z => (L, .int z :: r)) | _ => none
  | 13 => match st with | .int x :: r => some (L, .int (-x) :: r) | _ => none
  | 14 => match st with | v :: r => if v.category = 1 then some (L, r) else none | _ => none
  | 15 => match st with | v :: r => if v.category = 1 then some (L, v :: v :: r) else none | _ => none
  | 16 => match st with | v :: w :: r => if v.category = 1 ∧ w.category = 1 then some (L, v :: w :: v :: w :: r) else none | _ => none
  | 17 => some (L, .long (Int64.ofNat (a % 2)) :: st)
  | 18 => match mget L (a % 4) with | some (.long x) => some (L, .long x :: st) | _ => none
  | 19 => match st with | .long x :: r => (mput2 L (a % 4) (.long x)).map (fun L' => (L', r)) | _ => none
  | 20 => match st with | .long y :: .long x :: r => some (L, .long (mlbin a x y) :: r) | _ => none
  | 21 => match st with | .int y :: .long x :: r => some (L, .long (if a = 0 then x <<< (y.toInt64 &&& 63) else (x.toUInt64 >>> (y.toInt64.toUInt64 &&& Int64.toUInt64 63)).toInt64) :: r) | _ => none
  | 22 => match st with | .long x :: r => some (L, .int x.toInt32 :: r) | _ => none
  | _ => none
def mto (pc : Nat) (b : Int) : Option Nat := if 0 ≤ (pc : Int) + b then some ((pc : Int) + b).toNat else none
/-- jumps -/
def mjump (op a : Nat) (b : Int) (pc : Nat) (st : List Value) : Option (Nat × List Value) := match op with
  | 0 => match st with | .int x :: r => (mto pc b).map (fun t => (if mcmp a x 0 = true then t else pc + 3, r)) | _ => none
  | 1 => match st with | .int y :: .int x :: r => (mto pc b).map (fun t => (if mcmp a x y = true then t else pc + 3, r)) | _ => none
  | 2 => (mto pc b).map (fun t => (t, st))
  | 3 => match st, mTS[a]? with
    | .int x :: r, some (d, lo, hi, offs, _) => if x.toInt < lo ∨ hi < x.toInt then (mto pc d).map (fun t => (t, r)) else match offs[(x.toInt - lo).toNat]? with | some o => (mto pc o).map (fun t => (t, r)) | none => none
    | _, _ => none
  | 4 => match st, mTS[a]? with
    | .int x :: r, some (d, _, _, _, ps) => if (ps.zip (ps.drop 1)).all (fun (a, next) => decide (a.1 < next.1)) = true then (mto pc (Op.lookupswitch.offset ps d x.toInt)).map (fun t => (t, r)) else none
    | _, _ => none
  | _ => none
def mupd (f : Nat → Int32) (k : Nat) (x : Int32) : Nat → Int32 := upd f k x
def mnf (ty : FieldType) (v : Value) : Bool := decide (narrow ty v = v) && fits ty v
/-- what touches cells -/
def mmem (y op a : Nat) (S : Option (Nat × (Nat → Int32))) (st : List Value) (M : List mE) : Option (List Value × List mE) := match op with
  | 0 => match st, mFS[a]? with
    | .ref k :: r, some q => match M[k]? with
      | some (.inr (ci, fs)) => if q.2.2.2.2.2.2.2.contains ci = true then match fs[q.2.2.2.2.2.2.1]? with | some v => some (v :: r, M) | none => none else none
      | _ => none
    | _, _ => none
  | 1 => match st, mFS[a]? with
    | v :: .ref k :: r, some q => match M[k]? with
      | some (.inr (ci, fs)) => match mcl[ci]?, mty[ci]? with
        | some (_, T, _), some ty => if q.2.2.2.2.2.2.2.contains ci = true ∧ q.2.2.2.2.2.2.1 < fs.length ∧ mnf (ty q.2.2.2.2.2.2.1) v = true ∧ ((T q.2.2.2.2.2.2.1).2.2.2 = false ∨ ((T q.2.2.2.2.2.2.1).1 = mcn q.1 ∧ (mN y).name = "<init>" ∧ q.2.2.2.2.2.1 = none)) then some (r, M.set k (.inr (ci, fs.set q.2.2.2.2.2.2.1 v))) else none
        | _, _ => none
      | _ => none
    | _, _ => none
  | 2 => match st with
    | .int i :: .ref k :: r => if k = mSCR then match S with
        | some (n, xs) => if i < 0 ∨ n ≤ i.toNatClampNeg then none else some (.int (xs i.toNatClampNeg) :: r, M)
        | none => none
      else match M[k]? with
        | some (.inl (0, n, .inl f)) => if i < 0 ∨ n ≤ i.toNatClampNeg then none else some (.int (f i.toNatClampNeg) :: r, M)
        | _ => none
    | _ => none
  | 3 => match st with
    | .int x :: .int i :: .ref k :: r => match M[k]? with
      | some (.inl (0, n, .inl f)) => if i < 0 ∨ n ≤ i.toNatClampNeg then none else some (r, M.set k (.inl (0, n, .inl (upd f i.toNatClampNeg x))))
      | _ => none
    | _ => none
  | 4 => match st with
    | .int i :: .ref k :: r => match M[k]? with
      | some (.inl (t, n, .inr f)) => if (i < 0 ∨ n ≤ i.toNatClampNeg) ∨ 2 < t ∨ t = 0 then none else match f i.toNatClampNeg with | some z => some (.ref z :: r, M) | none => none
      | _ => none
    | _ => none
  | 5 => match st with
    | .ref k :: r => if k = mSCR then match S with
        | some (n, _) => some (.int (Int32.ofNat n) :: r, M)
        | none => none
      else match M[k]? with
        | some (.inl (t, n, _)) => if t < 3 then some (.int (Int32.ofNat n) :: r, M) else none
        | _ => none
    | _ => none
  | 6 => match mNS[a]? with
    | some q => match mty[q.2.2.2.2.1]? with
      | some ty => if q.2.2.1 = 0 ∧ M.length + 1 < mSCR then some (.ref M.length :: st, M ++ [.inr (q.2.2.2.2.1, (List.range q.2.2.2.2.2).map (fun j => defaultValue (ty j)))]) else none
      | none => none
    | none => none
  | 7 => match st with
    | .int n :: r => if n < 0 ∨ 1000000 < n.toNatClampNeg ∨ mSCR ≤ M.length + 1 then none else some (.ref M.length :: r, M ++ [.inl (0, n.toNatClampNeg, .inl (fun _ => 0))])
    | _ => none
  | 8 => match st, mNS[a]? with
    | .int n :: r, some q => if n < 0 ∨ 1000000 < n.toNatClampNeg ∨ mSCR ≤ M.length + 1 ∨ q.2.2.1 ≠ 1 then none else some (.ref M.length :: r, M ++ [.inl (1, n.toNatClampNeg, .inr (fun _ => none))])
    | _, _ => none
  | 9 => match st, mNS[a]? with
    | .int k :: .int n :: r, some q => if n < 0 ∨ k < 0 ∨ 1000 < n.toNatClampNeg ∨ 1000 < k.toNatClampNeg ∨ mSCR ≤ M.length + 1 + n.toNatClampNeg ∨ q.2.2.1 ≠ 2 then none else some (.ref M.length :: r, M ++ [.inl (2, n.toNatClampNeg, .inr (fun i => if i < n.toNatClampNeg then some (M.length + 1 + i) else none))] ++ List.replicate n.toNatClampNeg (.inl (0, k.toNatClampNeg, .inl (fun _ => 0))))
    | _, _ => none
  | 10 => match st with
    | .ref v :: .int i :: .ref k :: r => match M[k]?, M[v]? with
      | some (.inl (1, n, .inr f)), some (.inr (2, _)) => if i < 0 ∨ n ≤ i.toNatClampNeg then none else some (r, M.set k (.inl (1, n, .inr (va_up f i.toNatClampNeg (some v)))))
      | _, _ => none
    | _ => none
  | _ => none
def mszE : mE → Nat
  | .inl (_, n, _) => n
  | .inr (_, fs) => fs.length
def msz (M : List mE) : Nat := (M.map mszE).sum
/-- System.arraycopy of int arrays; Object.<init> -/
def mnat (op a : Nat) (st : List Value) (M : List mE) : Option (List Value × List mE) := match op with
  | 0 => match st, mSS[a]? with
    | .int n :: .int dp :: .ref kd :: .int sp :: .ref ks :: r, some _ => match M[ks]?, M[kd]? with
      | some (.inl (0, n0, .inl f)), some (.inl (0, n1, .inl g)) => if sp < 0 ∨ dp < 0 ∨ n < 0 ∨ ¬ sp.toNatClampNeg + n.toNatClampNeg ≤ n0 ∨ ¬ dp.toNatClampNeg + n.toNatClampNeg ≤ n1 ∨ 8 < (r.map fun v => v.category).sum then none else some (r, M.set kd (.inl (0, n1, .inl (va_cpy f g sp.toNatClampNeg dp.toNatClampNeg n.toNatClampNeg))))
      | _, _ => none
    | _, _ => none
  | 1 => match st, mIS[a]? with
    | .ref _ :: r, some _ => if 8 < (r.map fun v => v.category).sum then none else some (r, M)
    | _, _ => none
  | 2 => match st, mSS[a]? with
    | .int y :: .int x :: r, some _ => if 8 < (r.map fun v => v.category).sum then none else some (.int (if x < y then y else x) :: r, M)
    | _, _ => none
  | 3 => match st, mSS[a]? with
    | .int y :: .int x :: r, some _ => if 8 < (r.map fun v => v.category).sum then none else some (.int (if y < x then y else x) :: r, M)
    | _, _ => none
  | 4 => match st, mSS[a]? with
    | .int x :: r, some _ => if 8 < (r.map fun v => v.category).sum then none else some (.int (if 0 ≤ x then x else 0 - x) :: r, M)
    | _, _ => none
  | _ => none
def mcon (op a : Nat) (st : List Value) : Option (List Value) := match mKS[a]? with
  | some q => match op with
    | 0 => some (.int (Int32.ofInt q.2.2.2) :: st)
    | 1 => some (.int (Int32.ofInt q.2.2.2) :: st)
    | 2 => some (.long (Int64.ofInt q.2.2.2) :: st)
    | _ => none
  | none => none
def mret (op y : Nat) (st : List Value) : Option (Option Value) := match op with
  | 0 => match st with
    | [.int x] => match mR y with
      | some .int => some (some (.int x))
      | some .boolean => if x = 0 ∨ x = 1 then some (some (.int x)) else none
      | _ => none
    | _ => none
  | 1 => match st with
    | [.ref k] => match mR y with
      | some (.object _) => some (some (.ref k))
      | some (.array _) => some (some (.ref k))
      | _ => none
    | _ => none
  | 2 => match st with
    | [] => match mR y with | none => some none | _ => none
    | _ => none
  | _ => none
def mslots (args : List Value) : List (Option Value) := args.flatMap fun v => if v.category = 2 then [some v, none] else [some v]
def ment (y : Nat) (args : List Value) : List (Option Value) := mslots args ++ List.replicate (mLo y - (mslots args).length) none
/-- who is called, with what, what stays on the stack -/
def mcall (op a : Nat) (st : List Value) (M : List mE) : Option (Nat × List Value × List Value) := match op with
  | 0 => match mVS[a]? with
    | some q => match st.drop q.2.2.2.2.2.1 with
      | .ref k :: r => match M[k]? with
        | some (.inr (ci, _)) => match q.2.2.2.2.2.2.lookup ci with
          | some z => if q.2.2.2.2.2.1 ≤ st.length ∧ (r.map fun v => v.category).sum ≤ 8 ∧ (mslots (.ref k :: (st.take q.2.2.2.2.2.1).reverse)).length ≤ mLo z.1 then some (z.1, .ref k :: (st.take q.2.2.2.2.2.1).reverse, r) else none
          | none => none
        | _ => none
      | _ => none
    | none => none
  | 1 => match mSS[a]? with
    | some q => if q.2.2.2.2.2 ≤ st.length ∧ ((st.drop q.2.2.2.2.2).map fun v => v.category).sum ≤ 8 ∧ (mslots (st.take q.2.2.2.2.2).reverse).length ≤ mLo q.2.2.2.2.1 then some (q.2.2.2.2.1, (st.take q.2.2.2.2.2).reverse, st.drop q.2.2.2.2.2) else none
    | none => none
  | 2 => match mIS[a]? with
    | some q => match st.drop q.2.2.2.2.2 with
      | .ref k :: r => if q.2.2.2.2.2 ≤ st.length ∧ (r.map fun v => v.category).sum ≤ 8 ∧ (mslots (.ref k :: (st.take q.2.2.2.2.2).reverse)).length ≤ mLo q.2.2.2.2.1 then some (q.2.2.2.2.1, .ref k :: (st.take q.2.2.2.2.2).reverse, r) else none
      | _ => none
    | none => none
  | _ => none
def exA : Nat → Nat → Option (Nat × (Nat → Int32)) → Nat → Nat → List (Option Value) → List Value → List mE → Option (Option Value × List mE)
  | 0, _, _, _, _, _, _, _ => none
  | n + 1, d, S, y, pc, L, st, M => match mI y pc with
    | none => none
    | some (g, op, a, b) => match g with
      | 0 => match mpure op a b L st with | none => none | some q => exA n d S y (pc + mlen 0 op b) q.1 q.2 M
      | 1 => match mjump op a b pc st with | none => none | some q => exA n d S y q.1 L q.2 M
      | 2 => match mmem y op a S st M with | none => none | some q => exA n d S y (pc + mlen 2 op b) L q.1 q.2
      | 3 => match mret op y st with | none => none | some r => some (r, M)
      | 4 => match d with
        | 0 => none
        | d' + 1 => match mcall op a st M with
          | none => none
          | some q => match exA n d' none q.1 0 (ment q.1 q.2.1) [] M with
            | none => none
            | some z => exA n d S y (pc + 3) L (z.1.toList ++ q.2.2) z.2
      | 5 => match d with
        | 0 => none
        | _ + 1 => match mnat op a st M with | none => none | some q => exA n d S y (pc + 3) L q.1 q.2
      | 6 => match mcon op a st with | none => none | some st' => exA n d S y (pc + mlen 6 op b) L st' M
      | _ => none
