def mcp_ (c : Nat) : Prop := mcn c ≠ "java/lang/invoke/MethodHandle" ∧ mcn c ≠ "java/lang/invoke/VarHandle" ∧ plainName (mcn c) = true
theorem mcp : ∀ c, c < 19 → c ≠ 15 → mcp_ c := by
  unfold mcp_
  decide +kernel
def mFSok (q : mFSt) : Prop := match q with
  | (o, idx, ref, nm, ds, host, j, al) =>
    ((match host with | none => .fieldLink (mcn o) idx ref nm ds | some h => .fieldLinkNest (mcn o) idx ref nm ds h : Cond) ∈ mTL) ∧
    ∀ z ∈ al, ∃ (C : String) (T : u_T) (N : Nat), mcl[z]? = some (C, T, N) ∧ j < N ∧ (T j).2.1 = nm ∧ (T j).2.2.1 = ds ∧ ((T j).1 = ref ∨ (.sameField ref (T j).1 nm ds : Cond) ∈ mTL)
def mcodeOk (y n : Nat) : Prop := (.code (mN y) (mB y) (mLo y) (mR y) : Cond) ∈ mTL ∧ (mN y).cls ≠ "java/lang/invoke/MethodHandle" ∧ (mN y).cls ≠ "java/lang/invoke/VarHandle" ∧ plainFor (mN y) = true ∧ (parseMethodDescriptor (mN y).desc).map (fun d => d.parameters.length) = some n ∧ mLo y ≤ 40
def mVK (k : Nat) (o idx : Nat) (x : MethodName) (host : Option String) (ow C : String) (n yy : Nat) : Prop := match k with
  | 0 => host = none ∧ x = mN yy ∧ C = x.cls ∧ (.methodLink (mcn o) idx x : Cond) ∈ mTL ∧ (.instanceMethod x : Cond) ∈ mTL ∧ (.selects C x x : Cond) ∈ mTL ∧ (.initialized C : Cond) ∈ mTL
  | 1 => ∃ h, host = some h ∧ x = mN yy ∧ C = x.cls ∧ (.methodLinkNest (mcn o) idx x h : Cond) ∈ mTL ∧ (.instanceMethod x : Cond) ∈ mTL ∧ (.selects C x x : Cond) ∈ mTL ∧ (.initialized x.cls : Cond) ∈ mTL
  | 2 => mN yy = ⟨ow, x.name, x.desc⟩ ∧ host = none ∧ (.methodLink (mcn o) idx x : Cond) ∈ mTL ∧ (.sameMethod x.cls ow x.name x.desc : Cond) ∈ mTL ∧ (.selects C x (mN yy) : Cond) ∈ mTL ∧ (.instanceMethod (mN yy) : Cond) ∈ mTL ∧ (.initialized (mN yy).cls : Cond) ∈ mTL
  | _ => host = none ∧ (.methodLink (mcn o) idx x : Cond) ∈ mTL ∧ (.sameMethod x.cls ow x.name x.desc : Cond) ∈ mTL ∧ (.selects C x (mN yy) : Cond) ∈ mTL ∧ (.instanceMethod (mN yy) : Cond) ∈ mTL ∧ (.initialized (mN yy).cls : Cond) ∈ mTL ∧ (.declares ⟨ow, x.name, x.desc⟩ : Cond) ∈ mTL ∧ ow ≠ "java/lang/invoke/MethodHandle" ∧ ow ≠ "java/lang/invoke/VarHandle" ∧ (parseMethodDescriptor x.desc).map (fun d => d.parameters.length) = some n
def mVSok (q : mVSt) : Prop := match q with
  | (o, idx, x, host, ow, n, al) => ∀ z ∈ al, ∃ (C : String) (T : u_T) (N : Nat), mcl[z.1]? = some (C, T, N) ∧ mcodeOk z.2.1 n ∧ (parseMethodDescriptor x.desc).map (fun d => d.parameters.length) = (parseMethodDescriptor (mN z.2.1).desc).map (fun d => d.parameters.length) ∧ mVK z.2.2 o idx x host ow C n z.2.1
def mSSok (q : mSSt) : Prop := match q with
  | (o, idx, host, k, yy, n) => match k with
    | 0 => host = none ∧ mcodeOk yy n ∧ n = n ∧ (.methodLink (mcn o) idx (mN yy) : Cond) ∈ mTL ∧ (.static (mN yy) : Cond) ∈ mTL ∧ (.initialized (mN yy).cls : Cond) ∈ mTL
    | 1 => ∃ h, host = some h ∧ mcodeOk yy n ∧ n = n ∧ (.methodLinkNest (mcn o) idx (mN yy) h : Cond) ∈ mTL ∧ (.static (mN yy) : Cond) ∈ mTL ∧ (.initialized (mN yy).cls : Cond) ∈ mTL
    | 2 => host = none ∧ (.methodLink (mcn o) idx arraycopyName : Cond) ∈ mTL ∧ (.native arraycopyName : Cond) ∈ mTL ∧ (.static arraycopyName : Cond) ∈ mTL ∧ (.initialized "java/lang/System" : Cond) ∈ mTL
    | 3 => host = none ∧ (.methodLink (mcn o) idx Lib.Math.max.name : Cond) ∈ mTL ∧ (.static Lib.Math.max.name : Cond) ∈ mTL ∧ (.initialized "java/lang/Math" : Cond) ∈ mTL ∧ (.code Lib.Math.max.name Lib.Math.max.code 2 (some .int) : Cond) ∈ mTL
    | 4 => host = none ∧ (.methodLink (mcn o) idx Lib.Math.min.name : Cond) ∈ mTL ∧ (.static Lib.Math.min.name : Cond) ∈ mTL ∧ (.initialized "java/lang/Math" : Cond) ∈ mTL ∧ (.code Lib.Math.min.name Lib.Math.min.code 2 (some .int) : Cond) ∈ mTL
    | 5 => host = none ∧ (.methodLink (mcn o) idx Lib.Math.abs.name : Cond) ∈ mTL ∧ (.static Lib.Math.abs.name : Cond) ∈ mTL ∧ (.initialized "java/lang/Math" : Cond) ∈ mTL ∧ (.code Lib.Math.abs.name Lib.Math.abs.code 1 (some .int) : Cond) ∈ mTL
    | _ => False
def mISok (q : mSSt) : Prop := match q with
  | (o, idx, host, k, yy, n) => match k with
    | 0 => host = none ∧ mcodeOk yy n ∧ n = n ∧ (.methodLink (mcn o) idx (mN yy) : Cond) ∈ mTL ∧ (.instanceMethod (mN yy) : Cond) ∈ mTL ∧ (.initialized (mN yy).cls : Cond) ∈ mTL ∧ (mN yy).name = "<init>" ∧ mR yy = none
    | 1 => ∃ h, host = some h ∧ mcodeOk yy n ∧ n = n ∧ (.methodLinkNest (mcn o) idx (mN yy) h : Cond) ∈ mTL ∧ (.instanceMethod (mN yy) : Cond) ∈ mTL ∧ (.initialized (mN yy).cls : Cond) ∈ mTL ∧ (mN yy).name = "<init>" ∧ mR yy = none
    | 2 => host = none ∧ (.methodLink (mcn o) idx Lib.objectInit : Cond) ∈ mTL ∧ (.instanceMethod Lib.objectInit : Cond) ∈ mTL ∧ (.code Lib.objectInit ⟨#[0xb1]⟩ 1 none : Cond) ∈ mTL
    | _ => False
def mKSok (q : Nat × Nat × Bool × Int) : Prop := match q with
  | (o, idx, lg, v) => match lg with | false => (.constant (mcn o) idx (Int32.ofInt v) : Cond) ∈ mTL | true => (.constantLong (mcn o) idx (Int64.ofInt v) : Cond) ∈ mTL
def mNSok (q : Nat × Nat × Nat × String × Nat × Nat) : Prop := match q with
  | (o, idx, k, c, ci, n) => match k with
    | 0 => ∃ T, mcl[ci]? = some (c, T, n) ∧ n = n ∧ (.classLink (mcn o) idx c : Cond) ∈ mTL ∧ (.instantiable c n : Cond) ∈ mTL ∧ (.initialized c : Cond) ∈ mTL
    | 1 => c = RX2 ∧ (.classLink (mcn o) idx c : Cond) ∈ mTL ∧ (.arrayOver (.object c) : Cond) ∈ mTL
    | 2 => c = "[[I" ∧ (.classLink (mcn o) idx c : Cond) ∈ mTL ∧ (.arrayOver (.array .int) : Cond) ∈ mTL
    | _ => False
set_option maxRecDepth 10000 in
theorem dsc0 : (parseMethodDescriptor "()I").map (fun d => d.parameters.length) = some 0 := by decide +kernel
set_option maxRecDepth 10000 in
theorem dsc1 : (parseMethodDescriptor "()LClockOfSwallows$Flock;").map (fun d => d.parameters.length) = some 0 := by decide +kernel
set_option maxRecDepth 10000 in
theorem dsc2 : (parseMethodDescriptor "()V").map (fun d => d.parameters.length) = some 0 := by decide +kernel
set_option maxRecDepth 10000 in
theorem dsc3 : (parseMethodDescriptor "()Z").map (fun d => d.parameters.length) = some 0 := by decide +kernel
set_option maxRecDepth 10000 in
theorem dsc4 : (parseMethodDescriptor "(I)I").map (fun d => d.parameters.length) = some 1 := by decide +kernel
set_option maxRecDepth 10000 in
theorem dsc5 : (parseMethodDescriptor "(I)LClockOfSwallows$Flock;").map (fun d => d.parameters.length) = some 1 := by decide +kernel
set_option maxRecDepth 10000 in
theorem dsc6 : (parseMethodDescriptor "(I)V").map (fun d => d.parameters.length) = some 1 := by decide +kernel
set_option maxRecDepth 10000 in
theorem dsc7 : (parseMethodDescriptor "(I)Z").map (fun d => d.parameters.length) = some 1 := by decide +kernel
set_option maxRecDepth 10000 in
theorem dsc8 : (parseMethodDescriptor "(II)I").map (fun d => d.parameters.length) = some 2 := by decide +kernel
set_option maxRecDepth 10000 in
theorem dsc9 : (parseMethodDescriptor "(II)V").map (fun d => d.parameters.length) = some 2 := by decide +kernel
set_option maxRecDepth 10000 in
theorem dsc10 : (parseMethodDescriptor "(II)Z").map (fun d => d.parameters.length) = some 2 := by decide +kernel
set_option maxRecDepth 10000 in
theorem dsc11 : (parseMethodDescriptor "(III)I").map (fun d => d.parameters.length) = some 3 := by decide +kernel
set_option maxRecDepth 10000 in
theorem dsc12 : (parseMethodDescriptor "(III)V").map (fun d => d.parameters.length) = some 3 := by decide +kernel
set_option maxRecDepth 10000 in
theorem dsc13 : (parseMethodDescriptor "(III)Z").map (fun d => d.parameters.length) = some 3 := by decide +kernel
set_option maxRecDepth 10000 in
theorem dsc14 : (parseMethodDescriptor "(IIII)I").map (fun d => d.parameters.length) = some 4 := by decide +kernel
set_option maxRecDepth 10000 in
theorem dsc15 : (parseMethodDescriptor "(IIZ)I").map (fun d => d.parameters.length) = some 3 := by decide +kernel
set_option maxRecDepth 10000 in
theorem dsc16 : (parseMethodDescriptor "(IZ)V").map (fun d => d.parameters.length) = some 2 := by decide +kernel
set_option maxRecDepth 10000 in
theorem dsc17 : (parseMethodDescriptor "(J)I").map (fun d => d.parameters.length) = some 1 := by decide +kernel
set_option maxRecDepth 10000 in
theorem dsc18 : (parseMethodDescriptor "(LClockOfSwallows$Flock;)I").map (fun d => d.parameters.length) = some 1 := by decide +kernel
set_option maxRecDepth 10000 in
theorem dsc19 : (parseMethodDescriptor "(LClockOfSwallows$Flock;)V").map (fun d => d.parameters.length) = some 1 := by decide +kernel
set_option maxRecDepth 10000 in
theorem dsc20 : (parseMethodDescriptor "(LClockOfSwallows$Flock;)Z").map (fun d => d.parameters.length) = some 1 := by decide +kernel
set_option maxRecDepth 10000 in
theorem dsc21 : (parseMethodDescriptor "(LClockOfSwallows$Flock;I)Z").map (fun d => d.parameters.length) = some 2 := by decide +kernel
set_option maxRecDepth 10000 in
theorem dsc22 : (parseMethodDescriptor "(LClockOfSwallows$Flock;II)I").map (fun d => d.parameters.length) = some 3 := by decide +kernel
set_option maxRecDepth 10000 in
theorem dsc23 : (parseMethodDescriptor "(LClockOfSwallows$Flock;III[I)V").map (fun d => d.parameters.length) = some 5 := by decide +kernel
set_option maxRecDepth 10000 in
theorem dsc24 : (parseMethodDescriptor "(LClockOfSwallows$Quest;)V").map (fun d => d.parameters.length) = some 1 := by decide +kernel
set_option maxRecDepth 10000 in
theorem dsc25 : (parseMethodDescriptor "(LClockOfSwallows$Quest;[LClockOfSwallows$Flock;I)V").map (fun d => d.parameters.length) = some 3 := by decide +kernel
set_option maxRecDepth 10000 in
theorem dsc26 : (parseMethodDescriptor "(LClockOfSwallows$Row;)V").map (fun d => d.parameters.length) = some 1 := by decide +kernel
set_option maxRecDepth 10000 in
theorem dsc27 : (parseMethodDescriptor "(Z)I").map (fun d => d.parameters.length) = some 1 := by decide +kernel
set_option maxRecDepth 10000 in
theorem dsc28 : (parseMethodDescriptor "(Z)V").map (fun d => d.parameters.length) = some 1 := by decide +kernel
set_option maxRecDepth 10000 in
theorem dsc29 : (parseMethodDescriptor "([I)V").map (fun d => d.parameters.length) = some 1 := by decide +kernel
set_option maxRecDepth 10000 in
theorem dsc30 : (parseMethodDescriptor "([II)V").map (fun d => d.parameters.length) = some 2 := by decide +kernel
set_option maxRecDepth 10000 in
theorem mds0 : (parseMethodDescriptor (mN 0).desc).map (fun d => d.parameters.length) = some 1 := dsc4
set_option maxRecDepth 10000 in
theorem mco0 : mcodeOk 0 1 := ⟨wd741, (mcp 13 (by decide) (by decide)).1, (mcp 13 (by decide) (by decide)).2.1, plainFor_of_name (mcp 13 (by decide) (by decide)).2.2, mds0, by decide⟩
set_option maxRecDepth 10000 in
theorem mds1 : (parseMethodDescriptor (mN 1).desc).map (fun d => d.parameters.length) = some 2 := dsc30
set_option maxRecDepth 10000 in
theorem mco1 : mcodeOk 1 2 := ⟨wd734, (mcp 17 (by decide) (by decide)).1, (mcp 17 (by decide) (by decide)).2.1, plainFor_of_name (mcp 17 (by decide) (by decide)).2.2, mds1, by decide⟩
set_option maxRecDepth 10000 in
theorem mds2 : (parseMethodDescriptor (mN 2).desc).map (fun d => d.parameters.length) = some 2 := dsc8
set_option maxRecDepth 10000 in
theorem mco2 : mcodeOk 2 2 := ⟨wd668, by decide +kernel, by decide +kernel, by decide +kernel, mds2, by decide⟩
set_option maxRecDepth 10000 in
theorem mds3 : (parseMethodDescriptor (mN 3).desc).map (fun d => d.parameters.length) = some 1 := dsc4
set_option maxRecDepth 10000 in
theorem mds4 : (parseMethodDescriptor (mN 4).desc).map (fun d => d.parameters.length) = some 2 := dsc8
set_option maxRecDepth 10000 in
theorem mds5 : (parseMethodDescriptor (mN 5).desc).map (fun d => d.parameters.length) = some 2 := dsc8
set_option maxRecDepth 10000 in
theorem mds6 : (parseMethodDescriptor (mN 6).desc).map (fun d => d.parameters.length) = some 1 := dsc17
set_option maxRecDepth 10000 in
theorem mco6 : mcodeOk 6 1 := ⟨wd779, (mcp 14 (by decide) (by decide)).1, (mcp 14 (by decide) (by decide)).2.1, plainFor_of_name (mcp 14 (by decide) (by decide)).2.2, mds6, by decide⟩
set_option maxRecDepth 10000 in
theorem mds7 : (parseMethodDescriptor (mN 7).desc).map (fun d => d.parameters.length) = some 0 := dsc2
set_option maxRecDepth 10000 in
theorem mco7 : mcodeOk 7 0 := ⟨wd299, (mcp 0 (by decide) (by decide)).1, (mcp 0 (by decide) (by decide)).2.1, plainFor_of_name (mcp 0 (by decide) (by decide)).2.2, mds7, by decide⟩
set_option maxRecDepth 10000 in
theorem mds8 : (parseMethodDescriptor (mN 8).desc).map (fun d => d.parameters.length) = some 2 := dsc21
set_option maxRecDepth 10000 in
theorem mco8 : mcodeOk 8 2 := ⟨wd825, (mcp 0 (by decide) (by decide)).1, (mcp 0 (by decide) (by decide)).2.1, plainFor_of_name (mcp 0 (by decide) (by decide)).2.2, mds8, by decide⟩
set_option maxRecDepth 10000 in
theorem mds9 : (parseMethodDescriptor (mN 9).desc).map (fun d => d.parameters.length) = some 0 := dsc2
set_option maxRecDepth 10000 in
theorem mco9 : mcodeOk 9 0 := ⟨wd228, (mcp 1 (by decide) (by decide)).1, (mcp 1 (by decide) (by decide)).2.1, plainFor_of_name (mcp 1 (by decide) (by decide)).2.2, mds9, by decide⟩
set_option maxRecDepth 10000 in
theorem mds10 : (parseMethodDescriptor (mN 10).desc).map (fun d => d.parameters.length) = some 2 := dsc21
set_option maxRecDepth 10000 in
theorem mco10 : mcodeOk 10 2 := ⟨wd844, (mcp 1 (by decide) (by decide)).1, (mcp 1 (by decide) (by decide)).2.1, plainFor_of_name (mcp 1 (by decide) (by decide)).2.2, mds10, by decide⟩
set_option maxRecDepth 10000 in
theorem mds11 : (parseMethodDescriptor (mN 11).desc).map (fun d => d.parameters.length) = some 0 := dsc2
set_option maxRecDepth 10000 in
theorem mco11 : mcodeOk 11 0 := ⟨wd122, (mcp 2 (by decide) (by decide)).1, (mcp 2 (by decide) (by decide)).2.1, plainFor_of_name (mcp 2 (by decide) (by decide)).2.2, mds11, by decide⟩
set_option maxRecDepth 10000 in
theorem mds12 : (parseMethodDescriptor (mN 12).desc).map (fun d => d.parameters.length) = some 1 := dsc19
set_option maxRecDepth 10000 in
theorem mco12 : mcodeOk 12 1 := ⟨wd463, (mcp 2 (by decide) (by decide)).1, (mcp 2 (by decide) (by decide)).2.1, plainFor_of_name (mcp 2 (by decide) (by decide)).2.2, mds12, by decide⟩
set_option maxRecDepth 10000 in
theorem mds13 : (parseMethodDescriptor (mN 13).desc).map (fun d => d.parameters.length) = some 1 := dsc19
set_option maxRecDepth 10000 in
theorem mco13 : mcodeOk 13 1 := ⟨wd470, (mcp 2 (by decide) (by decide)).1, (mcp 2 (by decide) (by decide)).2.1, plainFor_of_name (mcp 2 (by decide) (by decide)).2.2, mds13, by decide⟩
set_option maxRecDepth 10000 in
theorem mds14 : (parseMethodDescriptor (mN 14).desc).map (fun d => d.parameters.length) = some 1 := dsc20
set_option maxRecDepth 10000 in
theorem mco14 : mcodeOk 14 1 := ⟨wd705, (mcp 2 (by decide) (by decide)).1, (mcp 2 (by decide) (by decide)).2.1, plainFor_of_name (mcp 2 (by decide) (by decide)).2.2, mds14, by decide⟩
set_option maxRecDepth 10000 in
theorem mds15 : (parseMethodDescriptor (mN 15).desc).map (fun d => d.parameters.length) = some 1 := dsc7
set_option maxRecDepth 10000 in
theorem mco15 : mcodeOk 15 1 := ⟨wd497, (mcp 2 (by decide) (by decide)).1, (mcp 2 (by decide) (by decide)).2.1, plainFor_of_name (mcp 2 (by decide) (by decide)).2.2, mds15, by decide⟩
set_option maxRecDepth 10000 in
theorem mds16 : (parseMethodDescriptor (mN 16).desc).map (fun d => d.parameters.length) = some 1 := dsc7
set_option maxRecDepth 10000 in
theorem mco16 : mcodeOk 16 1 := ⟨wd583, (mcp 2 (by decide) (by decide)).1, (mcp 2 (by decide) (by decide)).2.1, plainFor_of_name (mcp 2 (by decide) (by decide)).2.2, mds16, by decide⟩
set_option maxRecDepth 10000 in
theorem mds17 : (parseMethodDescriptor (mN 17).desc).map (fun d => d.parameters.length) = some 1 := dsc7
set_option maxRecDepth 10000 in
theorem mco17 : mcodeOk 17 1 := ⟨wd484, (mcp 2 (by decide) (by decide)).1, (mcp 2 (by decide) (by decide)).2.1, plainFor_of_name (mcp 2 (by decide) (by decide)).2.2, mds17, by decide⟩
set_option maxRecDepth 10000 in
theorem mds18 : (parseMethodDescriptor (mN 18).desc).map (fun d => d.parameters.length) = some 3 := dsc11
set_option maxRecDepth 10000 in
theorem mco18 : mcodeOk 18 3 := ⟨wd488, (mcp 2 (by decide) (by decide)).1, (mcp 2 (by decide) (by decide)).2.1, plainFor_of_name (mcp 2 (by decide) (by decide)).2.2, mds18, by decide⟩
set_option maxRecDepth 10000 in
theorem mds19 : (parseMethodDescriptor (mN 19).desc).map (fun d => d.parameters.length) = some 2 := dsc9
set_option maxRecDepth 10000 in
theorem mco19 : mcodeOk 19 2 := ⟨wd540, (mcp 2 (by decide) (by decide)).1, (mcp 2 (by decide) (by decide)).2.1, plainFor_of_name (mcp 2 (by decide) (by decide)).2.2, mds19, by decide⟩
set_option maxRecDepth 10000 in
theorem mds20 : (parseMethodDescriptor (mN 20).desc).map (fun d => d.parameters.length) = some 2 := dsc9
set_option maxRecDepth 10000 in
theorem mco20 : mcodeOk 20 2 := ⟨wd536, (mcp 2 (by decide) (by decide)).1, (mcp 2 (by decide) (by decide)).2.1, plainFor_of_name (mcp 2 (by decide) (by decide)).2.2, mds20, by decide⟩
set_option maxRecDepth 10000 in
theorem mds21 : (parseMethodDescriptor (mN 21).desc).map (fun d => d.parameters.length) = some 1 := dsc28
set_option maxRecDepth 10000 in
theorem mco21 : mcodeOk 21 1 := ⟨wd564, (mcp 2 (by decide) (by decide)).1, (mcp 2 (by decide) (by decide)).2.1, plainFor_of_name (mcp 2 (by decide) (by decide)).2.2, mds21, by decide⟩
set_option maxRecDepth 10000 in
theorem mds22 : (parseMethodDescriptor (mN 22).desc).map (fun d => d.parameters.length) = some 0 := dsc0
set_option maxRecDepth 10000 in
theorem mco22 : mcodeOk 22 0 := ⟨wd623, (mcp 2 (by decide) (by decide)).1, (mcp 2 (by decide) (by decide)).2.1, plainFor_of_name (mcp 2 (by decide) (by decide)).2.2, mds22, by decide⟩
set_option maxRecDepth 10000 in
theorem mds23 : (parseMethodDescriptor (mN 23).desc).map (fun d => d.parameters.length) = some 0 := dsc0
set_option maxRecDepth 10000 in
theorem mco23 : mcodeOk 23 0 := ⟨wd661, (mcp 2 (by decide) (by decide)).1, (mcp 2 (by decide) (by decide)).2.1, plainFor_of_name (mcp 2 (by decide) (by decide)).2.2, mds23, by decide⟩
set_option maxRecDepth 10000 in
theorem mds24 : (parseMethodDescriptor (mN 24).desc).map (fun d => d.parameters.length) = some 0 := dsc0
set_option maxRecDepth 10000 in
theorem mco24 : mcodeOk 24 0 := ⟨wd772, (mcp 2 (by decide) (by decide)).1, (mcp 2 (by decide) (by decide)).2.1, plainFor_of_name (mcp 2 (by decide) (by decide)).2.2, mds24, by decide⟩
set_option maxRecDepth 10000 in
theorem mds25 : (parseMethodDescriptor (mN 25).desc).map (fun d => d.parameters.length) = some 1 := dsc4
set_option maxRecDepth 10000 in
theorem mco25 : mcodeOk 25 1 := ⟨wd505, (mcp 2 (by decide) (by decide)).1, (mcp 2 (by decide) (by decide)).2.1, plainFor_of_name (mcp 2 (by decide) (by decide)).2.2, mds25, by decide⟩
set_option maxRecDepth 10000 in
theorem mds26 : (parseMethodDescriptor (mN 26).desc).map (fun d => d.parameters.length) = some 2 := dsc8
set_option maxRecDepth 10000 in
theorem mco26 : mcodeOk 26 2 := ⟨wd509, (mcp 2 (by decide) (by decide)).1, (mcp 2 (by decide) (by decide)).2.1, plainFor_of_name (mcp 2 (by decide) (by decide)).2.2, mds26, by decide⟩
set_option maxRecDepth 10000 in
theorem mds27 : (parseMethodDescriptor (mN 27).desc).map (fun d => d.parameters.length) = some 2 := dsc8
set_option maxRecDepth 10000 in
theorem mco27 : mcodeOk 27 2 := ⟨wd512, (mcp 2 (by decide) (by decide)).1, (mcp 2 (by decide) (by decide)).2.1, plainFor_of_name (mcp 2 (by decide) (by decide)).2.2, mds27, by decide⟩
set_option maxRecDepth 10000 in
theorem mds28 : (parseMethodDescriptor (mN 28).desc).map (fun d => d.parameters.length) = some 2 := dsc8
set_option maxRecDepth 10000 in
theorem mco28 : mcodeOk 28 2 := ⟨wd516, (mcp 2 (by decide) (by decide)).1, (mcp 2 (by decide) (by decide)).2.1, plainFor_of_name (mcp 2 (by decide) (by decide)).2.2, mds28, by decide⟩
set_option maxRecDepth 10000 in
theorem mds29 : (parseMethodDescriptor (mN 29).desc).map (fun d => d.parameters.length) = some 3 := dsc11
set_option maxRecDepth 10000 in
theorem mco29 : mcodeOk 29 3 := ⟨wd522, (mcp 2 (by decide) (by decide)).1, (mcp 2 (by decide) (by decide)).2.1, plainFor_of_name (mcp 2 (by decide) (by decide)).2.2, mds29, by decide⟩
set_option maxRecDepth 10000 in
theorem mds30 : (parseMethodDescriptor (mN 30).desc).map (fun d => d.parameters.length) = some 2 := dsc10
set_option maxRecDepth 10000 in
theorem mco30 : mcodeOk 30 2 := ⟨wd529, (mcp 2 (by decide) (by decide)).1, (mcp 2 (by decide) (by decide)).2.1, plainFor_of_name (mcp 2 (by decide) (by decide)).2.2, mds30, by decide⟩
set_option maxRecDepth 10000 in
theorem mds31 : (parseMethodDescriptor (mN 31).desc).map (fun d => d.parameters.length) = some 1 := dsc6
set_option maxRecDepth 10000 in
theorem mco31 : mcodeOk 31 1 := ⟨wd721, (mcp 2 (by decide) (by decide)).1, (mcp 2 (by decide) (by decide)).2.1, plainFor_of_name (mcp 2 (by decide) (by decide)).2.2, mds31, by decide⟩
set_option maxRecDepth 10000 in
theorem mds32 : (parseMethodDescriptor (mN 32).desc).map (fun d => d.parameters.length) = some 1 := dsc4
set_option maxRecDepth 10000 in
theorem mco32 : mcodeOk 32 1 := ⟨wd548, (mcp 2 (by decide) (by decide)).1, (mcp 2 (by decide) (by decide)).2.1, plainFor_of_name (mcp 2 (by decide) (by decide)).2.2, mds32, by decide⟩
set_option maxRecDepth 10000 in
theorem mds33 : (parseMethodDescriptor (mN 33).desc).map (fun d => d.parameters.length) = some 1 := dsc4
set_option maxRecDepth 10000 in
theorem mco33 : mcodeOk 33 1 := ⟨wd552, (mcp 2 (by decide) (by decide)).1, (mcp 2 (by decide) (by decide)).2.1, plainFor_of_name (mcp 2 (by decide) (by decide)).2.2, mds33, by decide⟩
set_option maxRecDepth 10000 in
theorem mds34 : (parseMethodDescriptor (mN 34).desc).map (fun d => d.parameters.length) = some 0 := dsc0
set_option maxRecDepth 10000 in
theorem mco34 : mcodeOk 34 0 := ⟨wd556, (mcp 2 (by decide) (by decide)).1, (mcp 2 (by decide) (by decide)).2.1, plainFor_of_name (mcp 2 (by decide) (by decide)).2.2, mds34, by decide⟩
set_option maxRecDepth 10000 in
theorem mds35 : (parseMethodDescriptor (mN 35).desc).map (fun d => d.parameters.length) = some 0 := dsc0
set_option maxRecDepth 10000 in
theorem mco35 : mcodeOk 35 0 := ⟨wd560, (mcp 2 (by decide) (by decide)).1, (mcp 2 (by decide) (by decide)).2.1, plainFor_of_name (mcp 2 (by decide) (by decide)).2.2, mds35, by decide⟩
set_option maxRecDepth 10000 in
theorem mds36 : (parseMethodDescriptor (mN 36).desc).map (fun d => d.parameters.length) = some 0 := dsc2
set_option maxRecDepth 10000 in
theorem mco36 : mcodeOk 36 0 := ⟨wd354, (mcp 3 (by decide) (by decide)).1, (mcp 3 (by decide) (by decide)).2.1, plainFor_of_name (mcp 3 (by decide) (by decide)).2.2, mds36, by decide⟩
set_option maxRecDepth 10000 in
theorem mds37 : (parseMethodDescriptor (mN 37).desc).map (fun d => d.parameters.length) = some 2 := dsc21
set_option maxRecDepth 10000 in
theorem mco37 : mcodeOk 37 2 := ⟨wd857, (mcp 3 (by decide) (by decide)).1, (mcp 3 (by decide) (by decide)).2.1, plainFor_of_name (mcp 3 (by decide) (by decide)).2.2, mds37, by decide⟩
set_option maxRecDepth 10000 in
theorem mds38 : (parseMethodDescriptor (mN 38).desc).map (fun d => d.parameters.length) = some 0 := dsc2
set_option maxRecDepth 10000 in
theorem mco38 : mcodeOk 38 0 := ⟨wd282, (mcp 4 (by decide) (by decide)).1, (mcp 4 (by decide) (by decide)).2.1, plainFor_of_name (mcp 4 (by decide) (by decide)).2.2, mds38, by decide⟩
set_option maxRecDepth 10000 in
theorem mds39 : (parseMethodDescriptor (mN 39).desc).map (fun d => d.parameters.length) = some 2 := dsc21
set_option maxRecDepth 10000 in
theorem mco39 : mcodeOk 39 2 := ⟨wd865, (mcp 4 (by decide) (by decide)).1, (mcp 4 (by decide) (by decide)).2.1, plainFor_of_name (mcp 4 (by decide) (by decide)).2.2, mds39, by decide⟩
set_option maxRecDepth 10000 in
theorem mds40 : (parseMethodDescriptor (mN 40).desc).map (fun d => d.parameters.length) = some 0 := dsc2
set_option maxRecDepth 10000 in
theorem mco40 : mcodeOk 40 0 := ⟨wd333, (mcp 5 (by decide) (by decide)).1, (mcp 5 (by decide) (by decide)).2.1, plainFor_of_name (mcp 5 (by decide) (by decide)).2.2, mds40, by decide⟩
set_option maxRecDepth 10000 in
theorem mds41 : (parseMethodDescriptor (mN 41).desc).map (fun d => d.parameters.length) = some 2 := dsc21
set_option maxRecDepth 10000 in
theorem mco41 : mcodeOk 41 2 := ⟨wd871, (mcp 5 (by decide) (by decide)).1, (mcp 5 (by decide) (by decide)).2.1, plainFor_of_name (mcp 5 (by decide) (by decide)).2.2, mds41, by decide⟩
set_option maxRecDepth 10000 in
theorem mds42 : (parseMethodDescriptor (mN 42).desc).map (fun d => d.parameters.length) = some 0 := dsc2
set_option maxRecDepth 10000 in
theorem mco42 : mcodeOk 42 0 := ⟨wd312, (mcp 6 (by decide) (by decide)).1, (mcp 6 (by decide) (by decide)).2.1, plainFor_of_name (mcp 6 (by decide) (by decide)).2.2, mds42, by decide⟩
set_option maxRecDepth 10000 in
theorem mds43 : (parseMethodDescriptor (mN 43).desc).map (fun d => d.parameters.length) = some 2 := dsc21
set_option maxRecDepth 10000 in
theorem mco43 : mcodeOk 43 2 := ⟨wd877, (mcp 6 (by decide) (by decide)).1, (mcp 6 (by decide) (by decide)).2.1, plainFor_of_name (mcp 6 (by decide) (by decide)).2.2, mds43, by decide⟩
set_option maxRecDepth 10000 in
theorem mds44 : (parseMethodDescriptor (mN 44).desc).map (fun d => d.parameters.length) = some 1 := dsc6
set_option maxRecDepth 10000 in
theorem mco44 : mcodeOk 44 1 := ⟨wd885, (mcp 6 (by decide) (by decide)).1, (mcp 6 (by decide) (by decide)).2.1, plainFor_of_name (mcp 6 (by decide) (by decide)).2.2, mds44, by decide⟩
set_option maxRecDepth 10000 in
theorem mds45 : (parseMethodDescriptor (mN 45).desc).map (fun d => d.parameters.length) = some 0 := dsc2
set_option maxRecDepth 10000 in
theorem mco45 : mcodeOk 45 0 := ⟨wd170, (mcp 7 (by decide) (by decide)).1, (mcp 7 (by decide) (by decide)).2.1, plainFor_of_name (mcp 7 (by decide) (by decide)).2.2, mds45, by decide⟩
set_option maxRecDepth 10000 in
theorem mds46 : (parseMethodDescriptor (mN 46).desc).map (fun d => d.parameters.length) = some 0 := dsc2
set_option maxRecDepth 10000 in
theorem mco46 : mcodeOk 46 0 := ⟨wd571, (mcp 7 (by decide) (by decide)).1, (mcp 7 (by decide) (by decide)).2.1, plainFor_of_name (mcp 7 (by decide) (by decide)).2.2, mds46, by decide⟩
set_option maxRecDepth 10000 in
theorem mds47 : (parseMethodDescriptor (mN 47).desc).map (fun d => d.parameters.length) = some 1 := dsc19
set_option maxRecDepth 10000 in
theorem mco47 : mcodeOk 47 1 := ⟨wd617, (mcp 7 (by decide) (by decide)).1, (mcp 7 (by decide) (by decide)).2.1, plainFor_of_name (mcp 7 (by decide) (by decide)).2.2, mds47, by decide⟩
set_option maxRecDepth 10000 in
theorem mds48 : (parseMethodDescriptor (mN 48).desc).map (fun d => d.parameters.length) = some 1 := dsc19
set_option maxRecDepth 10000 in
theorem mco48 : mcodeOk 48 1 := ⟨wd643, (mcp 7 (by decide) (by decide)).1, (mcp 7 (by decide) (by decide)).2.1, plainFor_of_name (mcp 7 (by decide) (by decide)).2.2, mds48, by decide⟩
set_option maxRecDepth 10000 in
theorem mds49 : (parseMethodDescriptor (mN 49).desc).map (fun d => d.parameters.length) = some 0 := dsc2
set_option maxRecDepth 10000 in
theorem mco49 : mcodeOk 49 0 := ⟨wd231, (mcp 8 (by decide) (by decide)).1, (mcp 8 (by decide) (by decide)).2.1, plainFor_of_name (mcp 8 (by decide) (by decide)).2.2, mds49, by decide⟩
set_option maxRecDepth 10000 in
theorem mds50 : (parseMethodDescriptor (mN 50).desc).map (fun d => d.parameters.length) = some 1 := dsc6
set_option maxRecDepth 10000 in
theorem mco50 : mcodeOk 50 1 := ⟨wd811, (mcp 8 (by decide) (by decide)).1, (mcp 8 (by decide) (by decide)).2.1, plainFor_of_name (mcp 8 (by decide) (by decide)).2.2, mds50, by decide⟩
set_option maxRecDepth 10000 in
theorem mds51 : (parseMethodDescriptor (mN 51).desc).map (fun d => d.parameters.length) = some 1 := dsc26
set_option maxRecDepth 10000 in
theorem mco51 : mcodeOk 51 1 := ⟨wd931, (mcp 8 (by decide) (by decide)).1, (mcp 8 (by decide) (by decide)).2.1, plainFor_of_name (mcp 8 (by decide) (by decide)).2.2, mds51, by decide⟩
set_option maxRecDepth 10000 in
theorem mds52 : (parseMethodDescriptor (mN 52).desc).map (fun d => d.parameters.length) = some 2 := dsc10
set_option maxRecDepth 10000 in
theorem mco52 : mcodeOk 52 2 := ⟨wd833, (mcp 8 (by decide) (by decide)).1, (mcp 8 (by decide) (by decide)).2.1, plainFor_of_name (mcp 8 (by decide) (by decide)).2.2, mds52, by decide⟩
set_option maxRecDepth 10000 in
theorem mds53 : (parseMethodDescriptor (mN 53).desc).map (fun d => d.parameters.length) = some 2 := dsc9
set_option maxRecDepth 10000 in
theorem mco53 : mcodeOk 53 2 := ⟨wd839, (mcp 8 (by decide) (by decide)).1, (mcp 8 (by decide) (by decide)).2.1, plainFor_of_name (mcp 8 (by decide) (by decide)).2.2, mds53, by decide⟩
set_option maxRecDepth 10000 in
theorem mds54 : (parseMethodDescriptor (mN 54).desc).map (fun d => d.parameters.length) = some 1 := dsc4
set_option maxRecDepth 10000 in
theorem mco54 : mcodeOk 54 1 := ⟨wd850, (mcp 8 (by decide) (by decide)).1, (mcp 8 (by decide) (by decide)).2.1, plainFor_of_name (mcp 8 (by decide) (by decide)).2.2, mds54, by decide⟩
set_option maxRecDepth 10000 in
theorem mds55 : (parseMethodDescriptor (mN 55).desc).map (fun d => d.parameters.length) = some 0 := dsc0
set_option maxRecDepth 10000 in
theorem mco55 : mcodeOk 55 0 := ⟨wd896, (mcp 8 (by decide) (by decide)).1, (mcp 8 (by decide) (by decide)).2.1, plainFor_of_name (mcp 8 (by decide) (by decide)).2.2, mds55, by decide⟩
set_option maxRecDepth 10000 in
theorem mds56 : (parseMethodDescriptor (mN 56).desc).map (fun d => d.parameters.length) = some 1 := dsc4
set_option maxRecDepth 10000 in
theorem mco56 : mcodeOk 56 1 := ⟨wd902, (mcp 8 (by decide) (by decide)).1, (mcp 8 (by decide) (by decide)).2.1, plainFor_of_name (mcp 8 (by decide) (by decide)).2.2, mds56, by decide⟩
set_option maxRecDepth 10000 in
theorem mds57 : (parseMethodDescriptor (mN 57).desc).map (fun d => d.parameters.length) = some 0 := dsc2
set_option maxRecDepth 10000 in
theorem mco57 : mcodeOk 57 0 := ⟨wd206, (mcp 9 (by decide) (by decide)).1, (mcp 9 (by decide) (by decide)).2.1, plainFor_of_name (mcp 9 (by decide) (by decide)).2.2, mds57, by decide⟩
set_option maxRecDepth 10000 in
theorem mds58 : (parseMethodDescriptor (mN 58).desc).map (fun d => d.parameters.length) = some 1 := dsc4
set_option maxRecDepth 10000 in
theorem mco58 : mcodeOk 58 1 := ⟨wd1031, (mcp 9 (by decide) (by decide)).1, (mcp 9 (by decide) (by decide)).2.1, plainFor_of_name (mcp 9 (by decide) (by decide)).2.2, mds58, by decide⟩
set_option maxRecDepth 10000 in
theorem mds59 : (parseMethodDescriptor (mN 59).desc).map (fun d => d.parameters.length) = some 0 := dsc0
set_option maxRecDepth 10000 in
theorem mco59 : mcodeOk 59 0 := ⟨wd921, (mcp 9 (by decide) (by decide)).1, (mcp 9 (by decide) (by decide)).2.1, plainFor_of_name (mcp 9 (by decide) (by decide)).2.2, mds59, by decide⟩
set_option maxRecDepth 10000 in
theorem mds60 : (parseMethodDescriptor (mN 60).desc).map (fun d => d.parameters.length) = some 0 := dsc0
set_option maxRecDepth 10000 in
theorem mco60 : mcodeOk 60 0 := ⟨wd1047, (mcp 9 (by decide) (by decide)).1, (mcp 9 (by decide) (by decide)).2.1, plainFor_of_name (mcp 9 (by decide) (by decide)).2.2, mds60, by decide⟩
set_option maxRecDepth 10000 in
theorem mds61 : (parseMethodDescriptor (mN 61).desc).map (fun d => d.parameters.length) = some 0 := dsc3
set_option maxRecDepth 10000 in
theorem mco61 : mcodeOk 61 0 := ⟨wd1051, (mcp 9 (by decide) (by decide)).1, (mcp 9 (by decide) (by decide)).2.1, plainFor_of_name (mcp 9 (by decide) (by decide)).2.2, mds61, by decide⟩
set_option maxRecDepth 10000 in
theorem mds62 : (parseMethodDescriptor (mN 62).desc).map (fun d => d.parameters.length) = some 3 := dsc11
set_option maxRecDepth 10000 in
theorem mco62 : mcodeOk 62 3 := ⟨wd1054, (mcp 9 (by decide) (by decide)).1, (mcp 9 (by decide) (by decide)).2.1, plainFor_of_name (mcp 9 (by decide) (by decide)).2.2, mds62, by decide⟩
set_option maxRecDepth 10000 in
theorem mds63 : (parseMethodDescriptor (mN 63).desc).map (fun d => d.parameters.length) = some 0 := dsc0
set_option maxRecDepth 10000 in
theorem mco63 : mcodeOk 63 0 := ⟨wd1060, (mcp 9 (by decide) (by decide)).1, (mcp 9 (by decide) (by decide)).2.1, plainFor_of_name (mcp 9 (by decide) (by decide)).2.2, mds63, by decide⟩
set_option maxRecDepth 10000 in
theorem mds64 : (parseMethodDescriptor (mN 64).desc).map (fun d => d.parameters.length) = some 0 := dsc2
set_option maxRecDepth 10000 in
theorem mco64 : mcodeOk 64 0 := ⟨wd192, (mcp 10 (by decide) (by decide)).1, (mcp 10 (by decide) (by decide)).2.1, plainFor_of_name (mcp 10 (by decide) (by decide)).2.2, mds64, by decide⟩
set_option maxRecDepth 10000 in
theorem mds65 : (parseMethodDescriptor (mN 65).desc).map (fun d => d.parameters.length) = some 1 := dsc4
set_option maxRecDepth 10000 in
theorem mco65 : mcodeOk 65 1 := ⟨wd436, (mcp 10 (by decide) (by decide)).1, (mcp 10 (by decide) (by decide)).2.1, plainFor_of_name (mcp 10 (by decide) (by decide)).2.2, mds65, by decide⟩
set_option maxRecDepth 10000 in
theorem mds66 : (parseMethodDescriptor (mN 66).desc).map (fun d => d.parameters.length) = some 1 := dsc4
set_option maxRecDepth 10000 in
theorem mco66 : mcodeOk 66 1 := ⟨wd448, (mcp 10 (by decide) (by decide)).1, (mcp 10 (by decide) (by decide)).2.1, plainFor_of_name (mcp 10 (by decide) (by decide)).2.2, mds66, by decide⟩
set_option maxRecDepth 10000 in
theorem mds67 : (parseMethodDescriptor (mN 67).desc).map (fun d => d.parameters.length) = some 1 := dsc4
set_option maxRecDepth 10000 in
theorem mco67 : mcodeOk 67 1 := ⟨wd455, (mcp 10 (by decide) (by decide)).1, (mcp 10 (by decide) (by decide)).2.1, plainFor_of_name (mcp 10 (by decide) (by decide)).2.2, mds67, by decide⟩
set_option maxRecDepth 10000 in
theorem mds68 : (parseMethodDescriptor (mN 68).desc).map (fun d => d.parameters.length) = some 1 := dsc4
set_option maxRecDepth 10000 in
theorem mco68 : mcodeOk 68 1 := ⟨wd451, (mcp 10 (by decide) (by decide)).1, (mcp 10 (by decide) (by decide)).2.1, plainFor_of_name (mcp 10 (by decide) (by decide)).2.2, mds68, by decide⟩
set_option maxRecDepth 10000 in
theorem mds69 : (parseMethodDescriptor (mN 69).desc).map (fun d => d.parameters.length) = some 0 := dsc0
set_option maxRecDepth 10000 in
theorem mco69 : mcodeOk 69 0 := ⟨wd444, (mcp 10 (by decide) (by decide)).1, (mcp 10 (by decide) (by decide)).2.1, plainFor_of_name (mcp 10 (by decide) (by decide)).2.2, mds69, by decide⟩
set_option maxRecDepth 10000 in
theorem mds70 : (parseMethodDescriptor (mN 70).desc).map (fun d => d.parameters.length) = some 0 := dsc2
set_option maxRecDepth 10000 in
theorem mco70 : mcodeOk 70 0 := ⟨wd114, (mcp 11 (by decide) (by decide)).1, (mcp 11 (by decide) (by decide)).2.1, plainFor_of_name (mcp 11 (by decide) (by decide)).2.2, mds70, by decide⟩
set_option maxRecDepth 10000 in
theorem mds71 : (parseMethodDescriptor (mN 71).desc).map (fun d => d.parameters.length) = some 1 := dsc4
set_option maxRecDepth 10000 in
theorem mco71 : mcodeOk 71 1 := ⟨wd432, (mcp 11 (by decide) (by decide)).1, (mcp 11 (by decide) (by decide)).2.1, plainFor_of_name (mcp 11 (by decide) (by decide)).2.2, mds71, by decide⟩
set_option maxRecDepth 10000 in
theorem mds72 : (parseMethodDescriptor (mN 72).desc).map (fun d => d.parameters.length) = some 2 := dsc8
set_option maxRecDepth 10000 in
theorem mco72 : mcodeOk 72 2 := ⟨wd589, (mcp 11 (by decide) (by decide)).1, (mcp 11 (by decide) (by decide)).2.1, plainFor_of_name (mcp 11 (by decide) (by decide)).2.2, mds72, by decide⟩
set_option maxRecDepth 10000 in
theorem mds73 : (parseMethodDescriptor (mN 73).desc).map (fun d => d.parameters.length) = some 3 := dsc11
set_option maxRecDepth 10000 in
theorem mco73 : mcodeOk 73 3 := ⟨wd428, (mcp 11 (by decide) (by decide)).1, (mcp 11 (by decide) (by decide)).2.1, plainFor_of_name (mcp 11 (by decide) (by decide)).2.2, mds73, by decide⟩
set_option maxRecDepth 10000 in
theorem mds74 : (parseMethodDescriptor (mN 74).desc).map (fun d => d.parameters.length) = some 2 := dsc8
set_option maxRecDepth 10000 in
theorem mco74 : mcodeOk 74 2 := ⟨wd805, (mcp 11 (by decide) (by decide)).1, (mcp 11 (by decide) (by decide)).2.1, plainFor_of_name (mcp 11 (by decide) (by decide)).2.2, mds74, by decide⟩
set_option maxRecDepth 10000 in
theorem mds75 : (parseMethodDescriptor (mN 75).desc).map (fun d => d.parameters.length) = some 2 := dsc8
set_option maxRecDepth 10000 in
theorem mco75 : mcodeOk 75 2 := ⟨wd586, (mcp 11 (by decide) (by decide)).1, (mcp 11 (by decide) (by decide)).2.1, plainFor_of_name (mcp 11 (by decide) (by decide)).2.2, mds75, by decide⟩
set_option maxRecDepth 10000 in
theorem mds76 : (parseMethodDescriptor (mN 76).desc).map (fun d => d.parameters.length) = some 1 := dsc4
set_option maxRecDepth 10000 in
theorem mco76 : mcodeOk 76 1 := ⟨wd597, (mcp 11 (by decide) (by decide)).1, (mcp 11 (by decide) (by decide)).2.1, plainFor_of_name (mcp 11 (by decide) (by decide)).2.2, mds76, by decide⟩
set_option maxRecDepth 10000 in
theorem mds77 : (parseMethodDescriptor (mN 77).desc).map (fun d => d.parameters.length) = some 1 := dsc4
set_option maxRecDepth 10000 in
theorem mco77 : mcodeOk 77 1 := ⟨wd579, (mcp 11 (by decide) (by decide)).1, (mcp 11 (by decide) (by decide)).2.1, plainFor_of_name (mcp 11 (by decide) (by decide)).2.2, mds77, by decide⟩
set_option maxRecDepth 10000 in
theorem mds78 : (parseMethodDescriptor (mN 78).desc).map (fun d => d.parameters.length) = some 1 := dsc4
set_option maxRecDepth 10000 in
theorem mco78 : mcodeOk 78 1 := ⟨wd917, (mcp 11 (by decide) (by decide)).1, (mcp 11 (by decide) (by decide)).2.1, plainFor_of_name (mcp 11 (by decide) (by decide)).2.2, mds78, by decide⟩
set_option maxRecDepth 10000 in
theorem mds79 : (parseMethodDescriptor (mN 79).desc).map (fun d => d.parameters.length) = some 1 := dsc4
set_option maxRecDepth 10000 in
theorem mco79 : mcodeOk 79 1 := ⟨wd425, (mcp 11 (by decide) (by decide)).1, (mcp 11 (by decide) (by decide)).2.1, plainFor_of_name (mcp 11 (by decide) (by decide)).2.2, mds79, by decide⟩
set_option maxRecDepth 10000 in
theorem mds80 : (parseMethodDescriptor (mN 80).desc).map (fun d => d.parameters.length) = some 0 := dsc0
set_option maxRecDepth 10000 in
theorem mco80 : mcodeOk 80 0 := ⟨wd440, (mcp 11 (by decide) (by decide)).1, (mcp 11 (by decide) (by decide)).2.1, plainFor_of_name (mcp 11 (by decide) (by decide)).2.2, mds80, by decide⟩
set_option maxRecDepth 10000 in
theorem mds81 : (parseMethodDescriptor (mN 81).desc).map (fun d => d.parameters.length) = some 0 := dsc0
set_option maxRecDepth 10000 in
theorem mco81 : mcodeOk 81 0 := ⟨wd459, (mcp 11 (by decide) (by decide)).1, (mcp 11 (by decide) (by decide)).2.1, plainFor_of_name (mcp 11 (by decide) (by decide)).2.2, mds81, by decide⟩
set_option maxRecDepth 10000 in
theorem mds82 : (parseMethodDescriptor (mN 82).desc).map (fun d => d.parameters.length) = some 1 := dsc7
set_option maxRecDepth 10000 in
theorem mco82 : mcodeOk 82 1 := ⟨wd474, (mcp 11 (by decide) (by decide)).1, (mcp 11 (by decide) (by decide)).2.1, plainFor_of_name (mcp 11 (by decide) (by decide)).2.2, mds82, by decide⟩
set_option maxRecDepth 10000 in
theorem mds83 : (parseMethodDescriptor (mN 83).desc).map (fun d => d.parameters.length) = some 3 := dsc13
set_option maxRecDepth 10000 in
theorem mco83 : mcodeOk 83 3 := ⟨wd480, (mcp 11 (by decide) (by decide)).1, (mcp 11 (by decide) (by decide)).2.1, plainFor_of_name (mcp 11 (by decide) (by decide)).2.2, mds83, by decide⟩
set_option maxRecDepth 10000 in
theorem mds84 : (parseMethodDescriptor (mN 84).desc).map (fun d => d.parameters.length) = some 2 := dsc10
set_option maxRecDepth 10000 in
theorem mco84 : mcodeOk 84 2 := ⟨wd493, (mcp 11 (by decide) (by decide)).1, (mcp 11 (by decide) (by decide)).2.1, plainFor_of_name (mcp 11 (by decide) (by decide)).2.2, mds84, by decide⟩
set_option maxRecDepth 10000 in
theorem mds85 : (parseMethodDescriptor (mN 85).desc).map (fun d => d.parameters.length) = some 2 := dsc10
set_option maxRecDepth 10000 in
theorem mco85 : mcodeOk 85 2 := ⟨wd501, (mcp 11 (by decide) (by decide)).1, (mcp 11 (by decide) (by decide)).2.1, plainFor_of_name (mcp 11 (by decide) (by decide)).2.2, mds85, by decide⟩
set_option maxRecDepth 10000 in
theorem mds86 : (parseMethodDescriptor (mN 86).desc).map (fun d => d.parameters.length) = some 1 := dsc7
set_option maxRecDepth 10000 in
theorem mco86 : mcodeOk 86 1 := ⟨wd544, (mcp 11 (by decide) (by decide)).1, (mcp 11 (by decide) (by decide)).2.1, plainFor_of_name (mcp 11 (by decide) (by decide)).2.2, mds86, by decide⟩
set_option maxRecDepth 10000 in
theorem mds87 : (parseMethodDescriptor (mN 87).desc).map (fun d => d.parameters.length) = some 2 := dsc8
set_option maxRecDepth 10000 in
theorem mco87 : mcodeOk 87 2 := ⟨wd575, (mcp 11 (by decide) (by decide)).1, (mcp 11 (by decide) (by decide)).2.1, plainFor_of_name (mcp 11 (by decide) (by decide)).2.2, mds87, by decide⟩
set_option maxRecDepth 10000 in
theorem mds88 : (parseMethodDescriptor (mN 88).desc).map (fun d => d.parameters.length) = some 3 := dsc11
set_option maxRecDepth 10000 in
theorem mco88 : mcodeOk 88 3 := ⟨wd593, (mcp 11 (by decide) (by decide)).1, (mcp 11 (by decide) (by decide)).2.1, plainFor_of_name (mcp 11 (by decide) (by decide)).2.2, mds88, by decide⟩
set_option maxRecDepth 10000 in
theorem mds89 : (parseMethodDescriptor (mN 89).desc).map (fun d => d.parameters.length) = some 2 := dsc8
set_option maxRecDepth 10000 in
theorem mco89 : mcodeOk 89 2 := ⟨wd601, (mcp 11 (by decide) (by decide)).1, (mcp 11 (by decide) (by decide)).2.1, plainFor_of_name (mcp 11 (by decide) (by decide)).2.2, mds89, by decide⟩
set_option maxRecDepth 10000 in
theorem mds90 : (parseMethodDescriptor (mN 90).desc).map (fun d => d.parameters.length) = some 2 := dsc8
set_option maxRecDepth 10000 in
theorem mco90 : mcodeOk 90 2 := ⟨wd605, (mcp 11 (by decide) (by decide)).1, (mcp 11 (by decide) (by decide)).2.1, plainFor_of_name (mcp 11 (by decide) (by decide)).2.2, mds90, by decide⟩
set_option maxRecDepth 10000 in
theorem mds91 : (parseMethodDescriptor (mN 91).desc).map (fun d => d.parameters.length) = some 1 := dsc4
set_option maxRecDepth 10000 in
theorem mco91 : mcodeOk 91 1 := ⟨wd609, (mcp 11 (by decide) (by decide)).1, (mcp 11 (by decide) (by decide)).2.1, plainFor_of_name (mcp 11 (by decide) (by decide)).2.2, mds91, by decide⟩
set_option maxRecDepth 10000 in
theorem mds92 : (parseMethodDescriptor (mN 92).desc).map (fun d => d.parameters.length) = some 1 := dsc4
set_option maxRecDepth 10000 in
theorem mco92 : mcodeOk 92 1 := ⟨wd613, (mcp 11 (by decide) (by decide)).1, (mcp 11 (by decide) (by decide)).2.1, plainFor_of_name (mcp 11 (by decide) (by decide)).2.2, mds92, by decide⟩
set_option maxRecDepth 10000 in
theorem mds93 : (parseMethodDescriptor (mN 93).desc).map (fun d => d.parameters.length) = some 1 := dsc4
set_option maxRecDepth 10000 in
theorem mco93 : mcodeOk 93 1 := ⟨wd627, (mcp 11 (by decide) (by decide)).1, (mcp 11 (by decide) (by decide)).2.1, plainFor_of_name (mcp 11 (by decide) (by decide)).2.2, mds93, by decide⟩
set_option maxRecDepth 10000 in
theorem mds94 : (parseMethodDescriptor (mN 94).desc).map (fun d => d.parameters.length) = some 0 := dsc0
set_option maxRecDepth 10000 in
theorem mco94 : mcodeOk 94 0 := ⟨wd631, (mcp 11 (by decide) (by decide)).1, (mcp 11 (by decide) (by decide)).2.1, plainFor_of_name (mcp 11 (by decide) (by decide)).2.2, mds94, by decide⟩
set_option maxRecDepth 10000 in
theorem mds95 : (parseMethodDescriptor (mN 95).desc).map (fun d => d.parameters.length) = some 0 := dsc0
set_option maxRecDepth 10000 in
theorem mco95 : mcodeOk 95 0 := ⟨wd635, (mcp 11 (by decide) (by decide)).1, (mcp 11 (by decide) (by decide)).2.1, plainFor_of_name (mcp 11 (by decide) (by decide)).2.2, mds95, by decide⟩
set_option maxRecDepth 10000 in
theorem mds96 : (parseMethodDescriptor (mN 96).desc).map (fun d => d.parameters.length) = some 0 := dsc0
set_option maxRecDepth 10000 in
theorem mco96 : mcodeOk 96 0 := ⟨wd639, (mcp 11 (by decide) (by decide)).1, (mcp 11 (by decide) (by decide)).2.1, plainFor_of_name (mcp 11 (by decide) (by decide)).2.2, mds96, by decide⟩
set_option maxRecDepth 10000 in
theorem mds97 : (parseMethodDescriptor (mN 97).desc).map (fun d => d.parameters.length) = some 0 := dsc1
set_option maxRecDepth 10000 in
theorem mco97 : mcodeOk 97 0 := ⟨wd657, (mcp 11 (by decide) (by decide)).1, (mcp 11 (by decide) (by decide)).2.1, plainFor_of_name (mcp 11 (by decide) (by decide)).2.2, mds97, by decide⟩
set_option maxRecDepth 10000 in
theorem mds98 : (parseMethodDescriptor (mN 98).desc).map (fun d => d.parameters.length) = some 1 := dsc5
set_option maxRecDepth 10000 in
theorem mco98 : mcodeOk 98 1 := ⟨wd653, (mcp 11 (by decide) (by decide)).1, (mcp 11 (by decide) (by decide)).2.1, plainFor_of_name (mcp 11 (by decide) (by decide)).2.2, mds98, by decide⟩
set_option maxRecDepth 10000 in
theorem mds99 : (parseMethodDescriptor (mN 99).desc).map (fun d => d.parameters.length) = some 2 := dsc8
set_option maxRecDepth 10000 in
theorem mco99 : mcodeOk 99 2 := ⟨wd649, (mcp 11 (by decide) (by decide)).1, (mcp 11 (by decide) (by decide)).2.1, plainFor_of_name (mcp 11 (by decide) (by decide)).2.2, mds99, by decide⟩
set_option maxRecDepth 10000 in
theorem mds100 : (parseMethodDescriptor (mN 100).desc).map (fun d => d.parameters.length) = some 2 := dsc8
set_option maxRecDepth 10000 in
theorem mco100 : mcodeOk 100 2 := ⟨wd673, (mcp 11 (by decide) (by decide)).1, (mcp 11 (by decide) (by decide)).2.1, plainFor_of_name (mcp 11 (by decide) (by decide)).2.2, mds100, by decide⟩
set_option maxRecDepth 10000 in
theorem mds101 : (parseMethodDescriptor (mN 101).desc).map (fun d => d.parameters.length) = some 0 := dsc0
set_option maxRecDepth 10000 in
theorem mco101 : mcodeOk 101 0 := ⟨wd677, (mcp 11 (by decide) (by decide)).1, (mcp 11 (by decide) (by decide)).2.1, plainFor_of_name (mcp 11 (by decide) (by decide)).2.2, mds101, by decide⟩
set_option maxRecDepth 10000 in
theorem mds102 : (parseMethodDescriptor (mN 102).desc).map (fun d => d.parameters.length) = some 1 := dsc4
set_option maxRecDepth 10000 in
theorem mco102 : mcodeOk 102 1 := ⟨wd681, (mcp 11 (by decide) (by decide)).1, (mcp 11 (by decide) (by decide)).2.1, plainFor_of_name (mcp 11 (by decide) (by decide)).2.2, mds102, by decide⟩
set_option maxRecDepth 10000 in
theorem mds103 : (parseMethodDescriptor (mN 103).desc).map (fun d => d.parameters.length) = some 2 := dsc8
set_option maxRecDepth 10000 in
theorem mco103 : mcodeOk 103 2 := ⟨wd685, (mcp 11 (by decide) (by decide)).1, (mcp 11 (by decide) (by decide)).2.1, plainFor_of_name (mcp 11 (by decide) (by decide)).2.2, mds103, by decide⟩
set_option maxRecDepth 10000 in
theorem mds104 : (parseMethodDescriptor (mN 104).desc).map (fun d => d.parameters.length) = some 2 := dsc8
set_option maxRecDepth 10000 in
theorem mco104 : mcodeOk 104 2 := ⟨wd689, (mcp 11 (by decide) (by decide)).1, (mcp 11 (by decide) (by decide)).2.1, plainFor_of_name (mcp 11 (by decide) (by decide)).2.2, mds104, by decide⟩
set_option maxRecDepth 10000 in
theorem mds105 : (parseMethodDescriptor (mN 105).desc).map (fun d => d.parameters.length) = some 1 := dsc4
set_option maxRecDepth 10000 in
theorem mco105 : mcodeOk 105 1 := ⟨wd693, (mcp 11 (by decide) (by decide)).1, (mcp 11 (by decide) (by decide)).2.1, plainFor_of_name (mcp 11 (by decide) (by decide)).2.2, mds105, by decide⟩
set_option maxRecDepth 10000 in
theorem mds106 : (parseMethodDescriptor (mN 106).desc).map (fun d => d.parameters.length) = some 0 := dsc0
set_option maxRecDepth 10000 in
theorem mco106 : mcodeOk 106 0 := ⟨wd697, (mcp 11 (by decide) (by decide)).1, (mcp 11 (by decide) (by decide)).2.1, plainFor_of_name (mcp 11 (by decide) (by decide)).2.2, mds106, by decide⟩
set_option maxRecDepth 10000 in
theorem mds107 : (parseMethodDescriptor (mN 107).desc).map (fun d => d.parameters.length) = some 0 := dsc0
set_option maxRecDepth 10000 in
theorem mco107 : mcodeOk 107 0 := ⟨wd701, (mcp 11 (by decide) (by decide)).1, (mcp 11 (by decide) (by decide)).2.1, plainFor_of_name (mcp 11 (by decide) (by decide)).2.2, mds107, by decide⟩
set_option maxRecDepth 10000 in
theorem mds108 : (parseMethodDescriptor (mN 108).desc).map (fun d => d.parameters.length) = some 4 := dsc14
set_option maxRecDepth 10000 in
theorem mco108 : mcodeOk 108 4 := ⟨wd709, (mcp 11 (by decide) (by decide)).1, (mcp 11 (by decide) (by decide)).2.1, plainFor_of_name (mcp 11 (by decide) (by decide)).2.2, mds108, by decide⟩
set_option maxRecDepth 10000 in
theorem mds109 : (parseMethodDescriptor (mN 109).desc).map (fun d => d.parameters.length) = some 3 := dsc15
set_option maxRecDepth 10000 in
theorem mco109 : mcodeOk 109 3 := ⟨wd713, (mcp 11 (by decide) (by decide)).1, (mcp 11 (by decide) (by decide)).2.1, plainFor_of_name (mcp 11 (by decide) (by decide)).2.2, mds109, by decide⟩
set_option maxRecDepth 10000 in
theorem mds110 : (parseMethodDescriptor (mN 110).desc).map (fun d => d.parameters.length) = some 0 := dsc0
set_option maxRecDepth 10000 in
theorem mco110 : mcodeOk 110 0 := ⟨wd717, (mcp 11 (by decide) (by decide)).1, (mcp 11 (by decide) (by decide)).2.1, plainFor_of_name (mcp 11 (by decide) (by decide)).2.2, mds110, by decide⟩
set_option maxRecDepth 10000 in
theorem mds111 : (parseMethodDescriptor (mN 111).desc).map (fun d => d.parameters.length) = some 1 := dsc18
set_option maxRecDepth 10000 in
theorem mco111 : mcodeOk 111 1 := ⟨wd727, (mcp 11 (by decide) (by decide)).1, (mcp 11 (by decide) (by decide)).2.1, plainFor_of_name (mcp 11 (by decide) (by decide)).2.2, mds111, by decide⟩
set_option maxRecDepth 10000 in
theorem mds112 : (parseMethodDescriptor (mN 112).desc).map (fun d => d.parameters.length) = some 1 := dsc4
set_option maxRecDepth 10000 in
theorem mco112 : mcodeOk 112 1 := ⟨wd731, (mcp 11 (by decide) (by decide)).1, (mcp 11 (by decide) (by decide)).2.1, plainFor_of_name (mcp 11 (by decide) (by decide)).2.2, mds112, by decide⟩
set_option maxRecDepth 10000 in
theorem mds113 : (parseMethodDescriptor (mN 113).desc).map (fun d => d.parameters.length) = some 1 := dsc6
set_option maxRecDepth 10000 in
theorem mco113 : mcodeOk 113 1 := ⟨wd738, (mcp 11 (by decide) (by decide)).1, (mcp 11 (by decide) (by decide)).2.1, plainFor_of_name (mcp 11 (by decide) (by decide)).2.2, mds113, by decide⟩
set_option maxRecDepth 10000 in
theorem mds114 : (parseMethodDescriptor (mN 114).desc).map (fun d => d.parameters.length) = some 0 := dsc0
set_option maxRecDepth 10000 in
theorem mco114 : mcodeOk 114 0 := ⟨wd748, (mcp 11 (by decide) (by decide)).1, (mcp 11 (by decide) (by decide)).2.1, plainFor_of_name (mcp 11 (by decide) (by decide)).2.2, mds114, by decide⟩
set_option maxRecDepth 10000 in
theorem mds115 : (parseMethodDescriptor (mN 115).desc).map (fun d => d.parameters.length) = some 3 := dsc11
set_option maxRecDepth 10000 in
theorem mco115 : mcodeOk 115 3 := ⟨wd752, (mcp 11 (by decide) (by decide)).1, (mcp 11 (by decide) (by decide)).2.1, plainFor_of_name (mcp 11 (by decide) (by decide)).2.2, mds115, by decide⟩
set_option maxRecDepth 10000 in
theorem mds116 : (parseMethodDescriptor (mN 116).desc).map (fun d => d.parameters.length) = some 1 := dsc5
set_option maxRecDepth 10000 in
theorem mco116 : mcodeOk 116 1 := ⟨wd764, (mcp 11 (by decide) (by decide)).1, (mcp 11 (by decide) (by decide)).2.1, plainFor_of_name (mcp 11 (by decide) (by decide)).2.2, mds116, by decide⟩
set_option maxRecDepth 10000 in
theorem mds117 : (parseMethodDescriptor (mN 117).desc).map (fun d => d.parameters.length) = some 1 := dsc4
set_option maxRecDepth 10000 in
theorem mco117 : mcodeOk 117 1 := ⟨wd759, (mcp 11 (by decide) (by decide)).1, (mcp 11 (by decide) (by decide)).2.1, plainFor_of_name (mcp 11 (by decide) (by decide)).2.2, mds117, by decide⟩
set_option maxRecDepth 10000 in
theorem mds118 : (parseMethodDescriptor (mN 118).desc).map (fun d => d.parameters.length) = some 1 := dsc4
set_option maxRecDepth 10000 in
theorem mco118 : mcodeOk 118 1 := ⟨wd768, (mcp 11 (by decide) (by decide)).1, (mcp 11 (by decide) (by decide)).2.1, plainFor_of_name (mcp 11 (by decide) (by decide)).2.2, mds118, by decide⟩
set_option maxRecDepth 10000 in
theorem mds119 : (parseMethodDescriptor (mN 119).desc).map (fun d => d.parameters.length) = some 0 := dsc0
set_option maxRecDepth 10000 in
theorem mco119 : mcodeOk 119 0 := ⟨wd776, (mcp 11 (by decide) (by decide)).1, (mcp 11 (by decide) (by decide)).2.1, plainFor_of_name (mcp 11 (by decide) (by decide)).2.2, mds119, by decide⟩
set_option maxRecDepth 10000 in
theorem mds120 : (parseMethodDescriptor (mN 120).desc).map (fun d => d.parameters.length) = some 1 := dsc4
set_option maxRecDepth 10000 in
theorem mco120 : mcodeOk 120 1 := ⟨wd786, (mcp 11 (by decide) (by decide)).1, (mcp 11 (by decide) (by decide)).2.1, plainFor_of_name (mcp 11 (by decide) (by decide)).2.2, mds120, by decide⟩
set_option maxRecDepth 10000 in
theorem mds121 : (parseMethodDescriptor (mN 121).desc).map (fun d => d.parameters.length) = some 2 := dsc8
set_option maxRecDepth 10000 in
theorem mco121 : mcodeOk 121 2 := ⟨wd794, (mcp 11 (by decide) (by decide)).1, (mcp 11 (by decide) (by decide)).2.1, plainFor_of_name (mcp 11 (by decide) (by decide)).2.2, mds121, by decide⟩
set_option maxRecDepth 10000 in
theorem mds122 : (parseMethodDescriptor (mN 122).desc).map (fun d => d.parameters.length) = some 1 := dsc4
set_option maxRecDepth 10000 in
theorem mco122 : mcodeOk 122 1 := ⟨wd790, (mcp 11 (by decide) (by decide)).1, (mcp 11 (by decide) (by decide)).2.1, plainFor_of_name (mcp 11 (by decide) (by decide)).2.2, mds122, by decide⟩
set_option maxRecDepth 10000 in
theorem mds123 : (parseMethodDescriptor (mN 123).desc).map (fun d => d.parameters.length) = some 2 := dsc8
set_option maxRecDepth 10000 in
theorem mco123 : mcodeOk 123 2 := ⟨wd798, (mcp 11 (by decide) (by decide)).1, (mcp 11 (by decide) (by decide)).2.1, plainFor_of_name (mcp 11 (by decide) (by decide)).2.2, mds123, by decide⟩
set_option maxRecDepth 10000 in
theorem mds124 : (parseMethodDescriptor (mN 124).desc).map (fun d => d.parameters.length) = some 3 := dsc25
set_option maxRecDepth 10000 in
theorem mco124 : mcodeOk 124 3 := ⟨wd819, (mcp 11 (by decide) (by decide)).1, (mcp 11 (by decide) (by decide)).2.1, plainFor_of_name (mcp 11 (by decide) (by decide)).2.2, mds124, by decide⟩
set_option maxRecDepth 10000 in
theorem mds125 : (parseMethodDescriptor (mN 125).desc).map (fun d => d.parameters.length) = some 1 := dsc24
set_option maxRecDepth 10000 in
theorem mco125 : mcodeOk 125 1 := ⟨wd816, (mcp 11 (by decide) (by decide)).1, (mcp 11 (by decide) (by decide)).2.1, plainFor_of_name (mcp 11 (by decide) (by decide)).2.2, mds125, by decide⟩
set_option maxRecDepth 10000 in
theorem mds126 : (parseMethodDescriptor (mN 126).desc).map (fun d => d.parameters.length) = some 2 := dsc8
set_option maxRecDepth 10000 in
theorem mco126 : mcodeOk 126 2 := ⟨wd802, (mcp 11 (by decide) (by decide)).1, (mcp 11 (by decide) (by decide)).2.1, plainFor_of_name (mcp 11 (by decide) (by decide)).2.2, mds126, by decide⟩
set_option maxRecDepth 10000 in
theorem mds127 : (parseMethodDescriptor (mN 127).desc).map (fun d => d.parameters.length) = some 1 := dsc4
set_option maxRecDepth 10000 in
theorem mco127 : mcodeOk 127 1 := ⟨wd906, (mcp 11 (by decide) (by decide)).1, (mcp 11 (by decide) (by decide)).2.1, plainFor_of_name (mcp 11 (by decide) (by decide)).2.2, mds127, by decide⟩
set_option maxRecDepth 10000 in
theorem mds128 : (parseMethodDescriptor (mN 128).desc).map (fun d => d.parameters.length) = some 1 := dsc4
set_option maxRecDepth 10000 in
theorem mco128 : mcodeOk 128 1 := ⟨wd913, (mcp 11 (by decide) (by decide)).1, (mcp 11 (by decide) (by decide)).2.1, plainFor_of_name (mcp 11 (by decide) (by decide)).2.2, mds128, by decide⟩
set_option maxRecDepth 10000 in
theorem mds129 : (parseMethodDescriptor (mN 129).desc).map (fun d => d.parameters.length) = some 1 := dsc4
set_option maxRecDepth 10000 in
theorem mco129 : mcodeOk 129 1 := ⟨wd938, (mcp 11 (by decide) (by decide)).1, (mcp 11 (by decide) (by decide)).2.1, plainFor_of_name (mcp 11 (by decide) (by decide)).2.2, mds129, by decide⟩
set_option maxRecDepth 10000 in
theorem mds130 : (parseMethodDescriptor (mN 130).desc).map (fun d => d.parameters.length) = some 3 := dsc11
set_option maxRecDepth 10000 in
theorem mco130 : mcodeOk 130 3 := ⟨wd951, (mcp 11 (by decide) (by decide)).1, (mcp 11 (by decide) (by decide)).2.1, plainFor_of_name (mcp 11 (by decide) (by decide)).2.2, mds130, by decide⟩
set_option maxRecDepth 10000 in
theorem mds131 : (parseMethodDescriptor (mN 131).desc).map (fun d => d.parameters.length) = some 1 := dsc4
set_option maxRecDepth 10000 in
theorem mco131 : mcodeOk 131 1 := ⟨wd964, (mcp 11 (by decide) (by decide)).1, (mcp 11 (by decide) (by decide)).2.1, plainFor_of_name (mcp 11 (by decide) (by decide)).2.2, mds131, by decide⟩
set_option maxRecDepth 10000 in
theorem mds132 : (parseMethodDescriptor (mN 132).desc).map (fun d => d.parameters.length) = some 0 := dsc0
set_option maxRecDepth 10000 in
theorem mco132 : mcodeOk 132 0 := ⟨wd974, (mcp 11 (by decide) (by decide)).1, (mcp 11 (by decide) (by decide)).2.1, plainFor_of_name (mcp 11 (by decide) (by decide)).2.2, mds132, by decide⟩
set_option maxRecDepth 10000 in
theorem mds133 : (parseMethodDescriptor (mN 133).desc).map (fun d => d.parameters.length) = some 1 := dsc4
set_option maxRecDepth 10000 in
theorem mco133 : mcodeOk 133 1 := ⟨wd978, (mcp 11 (by decide) (by decide)).1, (mcp 11 (by decide) (by decide)).2.1, plainFor_of_name (mcp 11 (by decide) (by decide)).2.2, mds133, by decide⟩
set_option maxRecDepth 10000 in
theorem mds134 : (parseMethodDescriptor (mN 134).desc).map (fun d => d.parameters.length) = some 3 := dsc22
set_option maxRecDepth 10000 in
theorem mco134 : mcodeOk 134 3 := ⟨wd981, (mcp 11 (by decide) (by decide)).1, (mcp 11 (by decide) (by decide)).2.1, plainFor_of_name (mcp 11 (by decide) (by decide)).2.2, mds134, by decide⟩
set_option maxRecDepth 10000 in
theorem mds135 : (parseMethodDescriptor (mN 135).desc).map (fun d => d.parameters.length) = some 1 := dsc4
set_option maxRecDepth 10000 in
theorem mco135 : mcodeOk 135 1 := ⟨wd986, (mcp 11 (by decide) (by decide)).1, (mcp 11 (by decide) (by decide)).2.1, plainFor_of_name (mcp 11 (by decide) (by decide)).2.2, mds135, by decide⟩
set_option maxRecDepth 10000 in
theorem mds136 : (parseMethodDescriptor (mN 136).desc).map (fun d => d.parameters.length) = some 5 := dsc23
set_option maxRecDepth 10000 in
theorem mco136 : mcodeOk 136 5 := ⟨wd989, (mcp 11 (by decide) (by decide)).1, (mcp 11 (by decide) (by decide)).2.1, plainFor_of_name (mcp 11 (by decide) (by decide)).2.2, mds136, by decide⟩
set_option maxRecDepth 10000 in
theorem mds137 : (parseMethodDescriptor (mN 137).desc).map (fun d => d.parameters.length) = some 1 := dsc4
set_option maxRecDepth 10000 in
theorem mco137 : mcodeOk 137 1 := ⟨wd993, (mcp 11 (by decide) (by decide)).1, (mcp 11 (by decide) (by decide)).2.1, plainFor_of_name (mcp 11 (by decide) (by decide)).2.2, mds137, by decide⟩
set_option maxRecDepth 10000 in
theorem mds138 : (parseMethodDescriptor (mN 138).desc).map (fun d => d.parameters.length) = some 1 := dsc19
set_option maxRecDepth 10000 in
theorem mco138 : mcodeOk 138 1 := ⟨wd997, (mcp 11 (by decide) (by decide)).1, (mcp 11 (by decide) (by decide)).2.1, plainFor_of_name (mcp 11 (by decide) (by decide)).2.2, mds138, by decide⟩
set_option maxRecDepth 10000 in
theorem mds139 : (parseMethodDescriptor (mN 139).desc).map (fun d => d.parameters.length) = some 2 := dsc8
set_option maxRecDepth 10000 in
theorem mco139 : mcodeOk 139 2 := ⟨wd1002, (mcp 11 (by decide) (by decide)).1, (mcp 11 (by decide) (by decide)).2.1, plainFor_of_name (mcp 11 (by decide) (by decide)).2.2, mds139, by decide⟩
set_option maxRecDepth 10000 in
theorem mds140 : (parseMethodDescriptor (mN 140).desc).map (fun d => d.parameters.length) = some 1 := dsc4
set_option maxRecDepth 10000 in
theorem mco140 : mcodeOk 140 1 := ⟨wd1006, (mcp 11 (by decide) (by decide)).1, (mcp 11 (by decide) (by decide)).2.1, plainFor_of_name (mcp 11 (by decide) (by decide)).2.2, mds140, by decide⟩
set_option maxRecDepth 10000 in
theorem mds141 : (parseMethodDescriptor (mN 141).desc).map (fun d => d.parameters.length) = some 0 := dsc0
set_option maxRecDepth 10000 in
theorem mco141 : mcodeOk 141 0 := ⟨wd1010, (mcp 11 (by decide) (by decide)).1, (mcp 11 (by decide) (by decide)).2.1, plainFor_of_name (mcp 11 (by decide) (by decide)).2.2, mds141, by decide⟩
set_option maxRecDepth 10000 in
theorem mds142 : (parseMethodDescriptor (mN 142).desc).map (fun d => d.parameters.length) = some 1 := dsc4
set_option maxRecDepth 10000 in
theorem mco142 : mcodeOk 142 1 := ⟨wd1014, (mcp 11 (by decide) (by decide)).1, (mcp 11 (by decide) (by decide)).2.1, plainFor_of_name (mcp 11 (by decide) (by decide)).2.2, mds142, by decide⟩
set_option maxRecDepth 10000 in
theorem mds143 : (parseMethodDescriptor (mN 143).desc).map (fun d => d.parameters.length) = some 0 := dsc0
set_option maxRecDepth 10000 in
theorem mco143 : mcodeOk 143 0 := ⟨wd1018, (mcp 11 (by decide) (by decide)).1, (mcp 11 (by decide) (by decide)).2.1, plainFor_of_name (mcp 11 (by decide) (by decide)).2.2, mds143, by decide⟩
set_option maxRecDepth 10000 in
theorem mds144 : (parseMethodDescriptor (mN 144).desc).map (fun d => d.parameters.length) = some 2 := dsc8
set_option maxRecDepth 10000 in
theorem mco144 : mcodeOk 144 2 := ⟨wd1022, (mcp 11 (by decide) (by decide)).1, (mcp 11 (by decide) (by decide)).2.1, plainFor_of_name (mcp 11 (by decide) (by decide)).2.2, mds144, by decide⟩
set_option maxRecDepth 10000 in
theorem mds145 : (parseMethodDescriptor (mN 145).desc).map (fun d => d.parameters.length) = some 1 := dsc4
set_option maxRecDepth 10000 in
theorem mco145 : mcodeOk 145 1 := ⟨wd1027, (mcp 11 (by decide) (by decide)).1, (mcp 11 (by decide) (by decide)).2.1, plainFor_of_name (mcp 11 (by decide) (by decide)).2.2, mds145, by decide⟩
set_option maxRecDepth 10000 in
theorem mds146 : (parseMethodDescriptor (mN 146).desc).map (fun d => d.parameters.length) = some 0 := dsc0
set_option maxRecDepth 10000 in
theorem mco146 : mcodeOk 146 0 := ⟨wd1035, (mcp 11 (by decide) (by decide)).1, (mcp 11 (by decide) (by decide)).2.1, plainFor_of_name (mcp 11 (by decide) (by decide)).2.2, mds146, by decide⟩
set_option maxRecDepth 10000 in
theorem mds147 : (parseMethodDescriptor (mN 147).desc).map (fun d => d.parameters.length) = some 0 := dsc0
set_option maxRecDepth 10000 in
theorem mco147 : mcodeOk 147 0 := ⟨wd1039, (mcp 11 (by decide) (by decide)).1, (mcp 11 (by decide) (by decide)).2.1, plainFor_of_name (mcp 11 (by decide) (by decide)).2.2, mds147, by decide⟩
set_option maxRecDepth 10000 in
theorem mds148 : (parseMethodDescriptor (mN 148).desc).map (fun d => d.parameters.length) = some 1 := dsc4
set_option maxRecDepth 10000 in
theorem mco148 : mcodeOk 148 1 := ⟨wd1043, (mcp 11 (by decide) (by decide)).1, (mcp 11 (by decide) (by decide)).2.1, plainFor_of_name (mcp 11 (by decide) (by decide)).2.2, mds148, by decide⟩
set_option maxRecDepth 10000 in
theorem mds149 : (parseMethodDescriptor (mN 149).desc).map (fun d => d.parameters.length) = some 0 := dsc0
set_option maxRecDepth 10000 in
theorem mco149 : mcodeOk 149 0 := ⟨wd1065, (mcp 11 (by decide) (by decide)).1, (mcp 11 (by decide) (by decide)).2.1, plainFor_of_name (mcp 11 (by decide) (by decide)).2.2, mds149, by decide⟩
set_option maxRecDepth 10000 in
theorem mds150 : (parseMethodDescriptor (mN 150).desc).map (fun d => d.parameters.length) = some 0 := dsc0
set_option maxRecDepth 10000 in
theorem mco150 : mcodeOk 150 0 := ⟨wd1069, (mcp 11 (by decide) (by decide)).1, (mcp 11 (by decide) (by decide)).2.1, plainFor_of_name (mcp 11 (by decide) (by decide)).2.2, mds150, by decide⟩
set_option maxRecDepth 10000 in
theorem mds151 : (parseMethodDescriptor (mN 151).desc).map (fun d => d.parameters.length) = some 1 := dsc4
set_option maxRecDepth 10000 in
theorem mco151 : mcodeOk 151 1 := ⟨wd1073, (mcp 11 (by decide) (by decide)).1, (mcp 11 (by decide) (by decide)).2.1, plainFor_of_name (mcp 11 (by decide) (by decide)).2.2, mds151, by decide⟩
set_option maxRecDepth 10000 in
theorem mds152 : (parseMethodDescriptor (mN 152).desc).map (fun d => d.parameters.length) = some 2 := dsc8
set_option maxRecDepth 10000 in
theorem mco152 : mcodeOk 152 2 := ⟨wd665, (mcp 11 (by decide) (by decide)).1, (mcp 11 (by decide) (by decide)).2.1, plainFor_of_name (mcp 11 (by decide) (by decide)).2.2, mds152, by decide⟩
set_option maxRecDepth 10000 in
theorem mds153 : (parseMethodDescriptor (mN 153).desc).map (fun d => d.parameters.length) = some 0 := dsc2
set_option maxRecDepth 10000 in
theorem mco153 : mcodeOk 153 0 := ⟨wd1078, (mcp 12 (by decide) (by decide)).1, (mcp 12 (by decide) (by decide)).2.1, plainFor_of_name (mcp 12 (by decide) (by decide)).2.2, mds153, by decide⟩
set_option maxRecDepth 10000 in
theorem mds154 : (parseMethodDescriptor (mN 154).desc).map (fun d => d.parameters.length) = some 1 := dsc4
set_option maxRecDepth 10000 in
theorem mco154 : mcodeOk 154 1 := ⟨wd1190, (mcp 12 (by decide) (by decide)).1, (mcp 12 (by decide) (by decide)).2.1, plainFor_of_name (mcp 12 (by decide) (by decide)).2.2, mds154, by decide⟩
set_option maxRecDepth 10000 in
theorem mds155 : (parseMethodDescriptor (mN 155).desc).map (fun d => d.parameters.length) = some 3 := dsc13
set_option maxRecDepth 10000 in
theorem mco155 : mcodeOk 155 3 := ⟨wd1213, (mcp 12 (by decide) (by decide)).1, (mcp 12 (by decide) (by decide)).2.1, plainFor_of_name (mcp 12 (by decide) (by decide)).2.2, mds155, by decide⟩
set_option maxRecDepth 10000 in
theorem mds156 : (parseMethodDescriptor (mN 156).desc).map (fun d => d.parameters.length) = some 3 := dsc11
set_option maxRecDepth 10000 in
theorem mco156 : mcodeOk 156 3 := ⟨wd1186, (mcp 12 (by decide) (by decide)).1, (mcp 12 (by decide) (by decide)).2.1, plainFor_of_name (mcp 12 (by decide) (by decide)).2.2, mds156, by decide⟩
set_option maxRecDepth 10000 in
theorem mds157 : (parseMethodDescriptor (mN 157).desc).map (fun d => d.parameters.length) = some 1 := dsc7
set_option maxRecDepth 10000 in
theorem mco157 : mcodeOk 157 1 := ⟨wd1237, (mcp 12 (by decide) (by decide)).1, (mcp 12 (by decide) (by decide)).2.1, plainFor_of_name (mcp 12 (by decide) (by decide)).2.2, mds157, by decide⟩
set_option maxRecDepth 10000 in
theorem mds158 : (parseMethodDescriptor (mN 158).desc).map (fun d => d.parameters.length) = some 1 := dsc7
set_option maxRecDepth 10000 in
theorem mco158 : mcodeOk 158 1 := ⟨wd1322, (mcp 12 (by decide) (by decide)).1, (mcp 12 (by decide) (by decide)).2.1, plainFor_of_name (mcp 12 (by decide) (by decide)).2.2, mds158, by decide⟩
set_option maxRecDepth 10000 in
theorem mds159 : (parseMethodDescriptor (mN 159).desc).map (fun d => d.parameters.length) = some 1 := dsc4
set_option maxRecDepth 10000 in
theorem mco159 : mcodeOk 159 1 := ⟨wd1245, (mcp 12 (by decide) (by decide)).1, (mcp 12 (by decide) (by decide)).2.1, plainFor_of_name (mcp 12 (by decide) (by decide)).2.2, mds159, by decide⟩
set_option maxRecDepth 10000 in
theorem mds160 : (parseMethodDescriptor (mN 160).desc).map (fun d => d.parameters.length) = some 1 := dsc7
set_option maxRecDepth 10000 in
theorem mco160 : mcodeOk 160 1 := ⟨wd1241, (mcp 12 (by decide) (by decide)).1, (mcp 12 (by decide) (by decide)).2.1, plainFor_of_name (mcp 12 (by decide) (by decide)).2.2, mds160, by decide⟩
set_option maxRecDepth 10000 in
theorem mds161 : (parseMethodDescriptor (mN 161).desc).map (fun d => d.parameters.length) = some 0 := dsc0
set_option maxRecDepth 10000 in
theorem mco161 : mcodeOk 161 0 := ⟨wd1350, (mcp 12 (by decide) (by decide)).1, (mcp 12 (by decide) (by decide)).2.1, plainFor_of_name (mcp 12 (by decide) (by decide)).2.2, mds161, by decide⟩
set_option maxRecDepth 10000 in
theorem mds162 : (parseMethodDescriptor (mN 162).desc).map (fun d => d.parameters.length) = some 0 := dsc0
set_option maxRecDepth 10000 in
theorem mco162 : mcodeOk 162 0 := ⟨wd1381, (mcp 12 (by decide) (by decide)).1, (mcp 12 (by decide) (by decide)).2.1, plainFor_of_name (mcp 12 (by decide) (by decide)).2.2, mds162, by decide⟩
set_option maxRecDepth 10000 in
theorem mds163 : (parseMethodDescriptor (mN 163).desc).map (fun d => d.parameters.length) = some 1 := dsc4
set_option maxRecDepth 10000 in
theorem mco163 : mcodeOk 163 1 := ⟨wd1183, (mcp 12 (by decide) (by decide)).1, (mcp 12 (by decide) (by decide)).2.1, plainFor_of_name (mcp 12 (by decide) (by decide)).2.2, mds163, by decide⟩
set_option maxRecDepth 10000 in
theorem mds164 : (parseMethodDescriptor (mN 164).desc).map (fun d => d.parameters.length) = some 0 := dsc0
set_option maxRecDepth 10000 in
theorem mco164 : mcodeOk 164 0 := ⟨wd1202, (mcp 12 (by decide) (by decide)).1, (mcp 12 (by decide) (by decide)).2.1, plainFor_of_name (mcp 12 (by decide) (by decide)).2.2, mds164, by decide⟩
set_option maxRecDepth 10000 in
theorem mds165 : (parseMethodDescriptor (mN 165).desc).map (fun d => d.parameters.length) = some 2 := dsc10
set_option maxRecDepth 10000 in
theorem mco165 : mcodeOk 165 2 := ⟨wd1210, (mcp 12 (by decide) (by decide)).1, (mcp 12 (by decide) (by decide)).2.1, plainFor_of_name (mcp 12 (by decide) (by decide)).2.2, mds165, by decide⟩
set_option maxRecDepth 10000 in
theorem mds166 : (parseMethodDescriptor (mN 166).desc).map (fun d => d.parameters.length) = some 2 := dsc10
set_option maxRecDepth 10000 in
theorem mco166 : mcodeOk 166 2 := ⟨wd1206, (mcp 12 (by decide) (by decide)).1, (mcp 12 (by decide) (by decide)).2.1, plainFor_of_name (mcp 12 (by decide) (by decide)).2.2, mds166, by decide⟩
set_option maxRecDepth 10000 in
theorem mds167 : (parseMethodDescriptor (mN 167).desc).map (fun d => d.parameters.length) = some 0 := dsc3
set_option maxRecDepth 10000 in
theorem mco167 : mcodeOk 167 0 := ⟨wd1198, (mcp 12 (by decide) (by decide)).1, (mcp 12 (by decide) (by decide)).2.1, plainFor_of_name (mcp 12 (by decide) (by decide)).2.2, mds167, by decide⟩
set_option maxRecDepth 10000 in
theorem mds168 : (parseMethodDescriptor (mN 168).desc).map (fun d => d.parameters.length) = some 1 := dsc7
set_option maxRecDepth 10000 in
theorem mco168 : mcodeOk 168 1 := ⟨wd1233, (mcp 12 (by decide) (by decide)).1, (mcp 12 (by decide) (by decide)).2.1, plainFor_of_name (mcp 12 (by decide) (by decide)).2.2, mds168, by decide⟩
set_option maxRecDepth 10000 in
theorem mds169 : (parseMethodDescriptor (mN 169).desc).map (fun d => d.parameters.length) = some 2 := dsc10
set_option maxRecDepth 10000 in
theorem mco169 : mcodeOk 169 2 := ⟨wd1253, (mcp 12 (by decide) (by decide)).1, (mcp 12 (by decide) (by decide)).2.1, plainFor_of_name (mcp 12 (by decide) (by decide)).2.2, mds169, by decide⟩
set_option maxRecDepth 10000 in
theorem mds170 : (parseMethodDescriptor (mN 170).desc).map (fun d => d.parameters.length) = some 1 := dsc7
set_option maxRecDepth 10000 in
theorem mco170 : mcodeOk 170 1 := ⟨wd1229, (mcp 12 (by decide) (by decide)).1, (mcp 12 (by decide) (by decide)).2.1, plainFor_of_name (mcp 12 (by decide) (by decide)).2.2, mds170, by decide⟩
set_option maxRecDepth 10000 in
theorem mds171 : (parseMethodDescriptor (mN 171).desc).map (fun d => d.parameters.length) = some 0 := dsc0
set_option maxRecDepth 10000 in
theorem mco171 : mcodeOk 171 0 := ⟨wd1194, (mcp 12 (by decide) (by decide)).1, (mcp 12 (by decide) (by decide)).2.1, plainFor_of_name (mcp 12 (by decide) (by decide)).2.2, mds171, by decide⟩
set_option maxRecDepth 10000 in
theorem mds172 : (parseMethodDescriptor (mN 172).desc).map (fun d => d.parameters.length) = some 1 := dsc29
set_option maxRecDepth 10000 in
theorem mco172 : mcodeOk 172 1 := ⟨wd1221, (mcp 12 (by decide) (by decide)).1, (mcp 12 (by decide) (by decide)).2.1, plainFor_of_name (mcp 12 (by decide) (by decide)).2.2, mds172, by decide⟩
set_option maxRecDepth 10000 in
theorem mds173 : (parseMethodDescriptor (mN 173).desc).map (fun d => d.parameters.length) = some 1 := dsc4
set_option maxRecDepth 10000 in
theorem mco173 : mcodeOk 173 1 := ⟨wd1225, (mcp 12 (by decide) (by decide)).1, (mcp 12 (by decide) (by decide)).2.1, plainFor_of_name (mcp 12 (by decide) (by decide)).2.2, mds173, by decide⟩
set_option maxRecDepth 10000 in
theorem mds174 : (parseMethodDescriptor (mN 174).desc).map (fun d => d.parameters.length) = some 2 := dsc16
set_option maxRecDepth 10000 in
theorem mco174 : mcodeOk 174 2 := ⟨wd1217, (mcp 12 (by decide) (by decide)).1, (mcp 12 (by decide) (by decide)).2.1, plainFor_of_name (mcp 12 (by decide) (by decide)).2.2, mds174, by decide⟩
set_option maxRecDepth 10000 in
theorem mds175 : (parseMethodDescriptor (mN 175).desc).map (fun d => d.parameters.length) = some 0 := dsc2
set_option maxRecDepth 10000 in
theorem mco175 : mcodeOk 175 0 := ⟨wd1346, (mcp 12 (by decide) (by decide)).1, (mcp 12 (by decide) (by decide)).2.1, plainFor_of_name (mcp 12 (by decide) (by decide)).2.2, mds175, by decide⟩
set_option maxRecDepth 10000 in
theorem mds176 : (parseMethodDescriptor (mN 176).desc).map (fun d => d.parameters.length) = some 0 := dsc0
set_option maxRecDepth 10000 in
theorem mco176 : mcodeOk 176 0 := ⟨wd1306, (mcp 12 (by decide) (by decide)).1, (mcp 12 (by decide) (by decide)).2.1, plainFor_of_name (mcp 12 (by decide) (by decide)).2.2, mds176, by decide⟩
set_option maxRecDepth 10000 in
theorem mds177 : (parseMethodDescriptor (mN 177).desc).map (fun d => d.parameters.length) = some 0 := dsc0
set_option maxRecDepth 10000 in
theorem mco177 : mcodeOk 177 0 := ⟨wd1310, (mcp 12 (by decide) (by decide)).1, (mcp 12 (by decide) (by decide)).2.1, plainFor_of_name (mcp 12 (by decide) (by decide)).2.2, mds177, by decide⟩
set_option maxRecDepth 10000 in
theorem mds178 : (parseMethodDescriptor (mN 178).desc).map (fun d => d.parameters.length) = some 0 := dsc0
set_option maxRecDepth 10000 in
theorem mco178 : mcodeOk 178 0 := ⟨wd1314, (mcp 12 (by decide) (by decide)).1, (mcp 12 (by decide) (by decide)).2.1, plainFor_of_name (mcp 12 (by decide) (by decide)).2.2, mds178, by decide⟩
set_option maxRecDepth 10000 in
theorem mds179 : (parseMethodDescriptor (mN 179).desc).map (fun d => d.parameters.length) = some 0 := dsc2
set_option maxRecDepth 10000 in
theorem mco179 : mcodeOk 179 0 := ⟨wd1377, (mcp 12 (by decide) (by decide)).1, (mcp 12 (by decide) (by decide)).2.1, plainFor_of_name (mcp 12 (by decide) (by decide)).2.2, mds179, by decide⟩
set_option maxRecDepth 10000 in
theorem mds180 : (parseMethodDescriptor (mN 180).desc).map (fun d => d.parameters.length) = some 0 := dsc2
set_option maxRecDepth 10000 in
theorem mco180 : mcodeOk 180 0 := ⟨wd1385, (mcp 12 (by decide) (by decide)).1, (mcp 12 (by decide) (by decide)).2.1, plainFor_of_name (mcp 12 (by decide) (by decide)).2.2, mds180, by decide⟩
set_option maxRecDepth 10000 in
theorem mds181 : (parseMethodDescriptor (mN 181).desc).map (fun d => d.parameters.length) = some 3 := dsc12
set_option maxRecDepth 10000 in
theorem mco181 : mcodeOk 181 3 := ⟨wd1249, (mcp 12 (by decide) (by decide)).1, (mcp 12 (by decide) (by decide)).2.1, plainFor_of_name (mcp 12 (by decide) (by decide)).2.2, mds181, by decide⟩
set_option maxRecDepth 10000 in
theorem mds182 : (parseMethodDescriptor (mN 182).desc).map (fun d => d.parameters.length) = some 2 := dsc8
set_option maxRecDepth 10000 in
theorem mco182 : mcodeOk 182 2 := ⟨wd1279, (mcp 12 (by decide) (by decide)).1, (mcp 12 (by decide) (by decide)).2.1, plainFor_of_name (mcp 12 (by decide) (by decide)).2.2, mds182, by decide⟩
set_option maxRecDepth 10000 in
theorem mds183 : (parseMethodDescriptor (mN 183).desc).map (fun d => d.parameters.length) = some 2 := dsc8
set_option maxRecDepth 10000 in
theorem mco183 : mcodeOk 183 2 := ⟨wd1282, (mcp 12 (by decide) (by decide)).1, (mcp 12 (by decide) (by decide)).2.1, plainFor_of_name (mcp 12 (by decide) (by decide)).2.2, mds183, by decide⟩
set_option maxRecDepth 10000 in
theorem mds184 : (parseMethodDescriptor (mN 184).desc).map (fun d => d.parameters.length) = some 2 := dsc8
set_option maxRecDepth 10000 in
theorem mco184 : mcodeOk 184 2 := ⟨wd1272, (mcp 12 (by decide) (by decide)).1, (mcp 12 (by decide) (by decide)).2.1, plainFor_of_name (mcp 12 (by decide) (by decide)).2.2, mds184, by decide⟩
set_option maxRecDepth 10000 in
theorem mds185 : (parseMethodDescriptor (mN 185).desc).map (fun d => d.parameters.length) = some 2 := dsc8
set_option maxRecDepth 10000 in
theorem mco185 : mcodeOk 185 2 := ⟨wd1269, (mcp 12 (by decide) (by decide)).1, (mcp 12 (by decide) (by decide)).2.1, plainFor_of_name (mcp 12 (by decide) (by decide)).2.2, mds185, by decide⟩
set_option maxRecDepth 10000 in
theorem mds186 : (parseMethodDescriptor (mN 186).desc).map (fun d => d.parameters.length) = some 2 := dsc8
set_option maxRecDepth 10000 in
theorem mco186 : mcodeOk 186 2 := ⟨wd1276, (mcp 12 (by decide) (by decide)).1, (mcp 12 (by decide) (by decide)).2.1, plainFor_of_name (mcp 12 (by decide) (by decide)).2.2, mds186, by decide⟩
set_option maxRecDepth 10000 in
theorem mds187 : (parseMethodDescriptor (mN 187).desc).map (fun d => d.parameters.length) = some 2 := dsc8
set_option maxRecDepth 10000 in
theorem mco187 : mcodeOk 187 2 := ⟨wd1265, (mcp 12 (by decide) (by decide)).1, (mcp 12 (by decide) (by decide)).2.1, plainFor_of_name (mcp 12 (by decide) (by decide)).2.2, mds187, by decide⟩
set_option maxRecDepth 10000 in
theorem mds188 : (parseMethodDescriptor (mN 188).desc).map (fun d => d.parameters.length) = some 1 := dsc4
set_option maxRecDepth 10000 in
theorem mco188 : mcodeOk 188 1 := ⟨wd1261, (mcp 12 (by decide) (by decide)).1, (mcp 12 (by decide) (by decide)).2.1, plainFor_of_name (mcp 12 (by decide) (by decide)).2.2, mds188, by decide⟩
set_option maxRecDepth 10000 in
theorem mds189 : (parseMethodDescriptor (mN 189).desc).map (fun d => d.parameters.length) = some 2 := dsc9
set_option maxRecDepth 10000 in
theorem mco189 : mcodeOk 189 2 := ⟨wd1257, (mcp 12 (by decide) (by decide)).1, (mcp 12 (by decide) (by decide)).2.1, plainFor_of_name (mcp 12 (by decide) (by decide)).2.2, mds189, by decide⟩
set_option maxRecDepth 10000 in
theorem mds190 : (parseMethodDescriptor (mN 190).desc).map (fun d => d.parameters.length) = some 1 := dsc4
set_option maxRecDepth 10000 in
theorem mco190 : mcodeOk 190 1 := ⟨wd1290, (mcp 12 (by decide) (by decide)).1, (mcp 12 (by decide) (by decide)).2.1, plainFor_of_name (mcp 12 (by decide) (by decide)).2.2, mds190, by decide⟩
set_option maxRecDepth 10000 in
theorem mds191 : (parseMethodDescriptor (mN 191).desc).map (fun d => d.parameters.length) = some 1 := dsc4
set_option maxRecDepth 10000 in
theorem mco191 : mcodeOk 191 1 := ⟨wd1286, (mcp 12 (by decide) (by decide)).1, (mcp 12 (by decide) (by decide)).2.1, plainFor_of_name (mcp 12 (by decide) (by decide)).2.2, mds191, by decide⟩
set_option maxRecDepth 10000 in
theorem mds192 : (parseMethodDescriptor (mN 192).desc).map (fun d => d.parameters.length) = some 1 := dsc27
set_option maxRecDepth 10000 in
theorem mco192 : mcodeOk 192 1 := ⟨wd1298, (mcp 12 (by decide) (by decide)).1, (mcp 12 (by decide) (by decide)).2.1, plainFor_of_name (mcp 12 (by decide) (by decide)).2.2, mds192, by decide⟩
set_option maxRecDepth 10000 in
theorem mds193 : (parseMethodDescriptor (mN 193).desc).map (fun d => d.parameters.length) = some 1 := dsc27
set_option maxRecDepth 10000 in
theorem mco193 : mcodeOk 193 1 := ⟨wd1294, (mcp 12 (by decide) (by decide)).1, (mcp 12 (by decide) (by decide)).2.1, plainFor_of_name (mcp 12 (by decide) (by decide)).2.2, mds193, by decide⟩
set_option maxRecDepth 10000 in
theorem mds194 : (parseMethodDescriptor (mN 194).desc).map (fun d => d.parameters.length) = some 0 := dsc2
set_option maxRecDepth 10000 in
theorem mco194 : mcodeOk 194 0 := ⟨wd1302, (mcp 12 (by decide) (by decide)).1, (mcp 12 (by decide) (by decide)).2.1, plainFor_of_name (mcp 12 (by decide) (by decide)).2.2, mds194, by decide⟩
set_option maxRecDepth 10000 in
theorem mds195 : (parseMethodDescriptor (mN 195).desc).map (fun d => d.parameters.length) = some 1 := dsc6
set_option maxRecDepth 10000 in
theorem mco195 : mcodeOk 195 1 := ⟨wd1456, (mcp 12 (by decide) (by decide)).1, (mcp 12 (by decide) (by decide)).2.1, plainFor_of_name (mcp 12 (by decide) (by decide)).2.2, mds195, by decide⟩
set_option maxRecDepth 10000 in
theorem mds196 : (parseMethodDescriptor (mN 196).desc).map (fun d => d.parameters.length) = some 2 := dsc8
set_option maxRecDepth 10000 in
theorem mco196 : mcodeOk 196 2 := ⟨wd1318, (mcp 12 (by decide) (by decide)).1, (mcp 12 (by decide) (by decide)).2.1, plainFor_of_name (mcp 12 (by decide) (by decide)).2.2, mds196, by decide⟩
set_option maxRecDepth 10000 in
theorem mds197 : (parseMethodDescriptor (mN 197).desc).map (fun d => d.parameters.length) = some 3 := dsc11
set_option maxRecDepth 10000 in
theorem mco197 : mcodeOk 197 3 := ⟨wd1326, (mcp 12 (by decide) (by decide)).1, (mcp 12 (by decide) (by decide)).2.1, plainFor_of_name (mcp 12 (by decide) (by decide)).2.2, mds197, by decide⟩
set_option maxRecDepth 10000 in
theorem mds198 : (parseMethodDescriptor (mN 198).desc).map (fun d => d.parameters.length) = some 2 := dsc8
set_option maxRecDepth 10000 in
theorem mco198 : mcodeOk 198 2 := ⟨wd1330, (mcp 12 (by decide) (by decide)).1, (mcp 12 (by decide) (by decide)).2.1, plainFor_of_name (mcp 12 (by decide) (by decide)).2.2, mds198, by decide⟩
set_option maxRecDepth 10000 in
theorem mds199 : (parseMethodDescriptor (mN 199).desc).map (fun d => d.parameters.length) = some 2 := dsc8
set_option maxRecDepth 10000 in
theorem mco199 : mcodeOk 199 2 := ⟨wd1334, (mcp 12 (by decide) (by decide)).1, (mcp 12 (by decide) (by decide)).2.1, plainFor_of_name (mcp 12 (by decide) (by decide)).2.2, mds199, by decide⟩
set_option maxRecDepth 10000 in
theorem mds200 : (parseMethodDescriptor (mN 200).desc).map (fun d => d.parameters.length) = some 1 := dsc4
set_option maxRecDepth 10000 in
theorem mco200 : mcodeOk 200 1 := ⟨wd1338, (mcp 12 (by decide) (by decide)).1, (mcp 12 (by decide) (by decide)).2.1, plainFor_of_name (mcp 12 (by decide) (by decide)).2.2, mds200, by decide⟩
set_option maxRecDepth 10000 in
theorem mds201 : (parseMethodDescriptor (mN 201).desc).map (fun d => d.parameters.length) = some 1 := dsc4
set_option maxRecDepth 10000 in
theorem mco201 : mcodeOk 201 1 := ⟨wd1342, (mcp 12 (by decide) (by decide)).1, (mcp 12 (by decide) (by decide)).2.1, plainFor_of_name (mcp 12 (by decide) (by decide)).2.2, mds201, by decide⟩
set_option maxRecDepth 10000 in
theorem mds202 : (parseMethodDescriptor (mN 202).desc).map (fun d => d.parameters.length) = some 1 := dsc4
set_option maxRecDepth 10000 in
theorem mco202 : mcodeOk 202 1 := ⟨wd1354, (mcp 12 (by decide) (by decide)).1, (mcp 12 (by decide) (by decide)).2.1, plainFor_of_name (mcp 12 (by decide) (by decide)).2.2, mds202, by decide⟩
set_option maxRecDepth 10000 in
theorem mds203 : (parseMethodDescriptor (mN 203).desc).map (fun d => d.parameters.length) = some 0 := dsc0
set_option maxRecDepth 10000 in
theorem mco203 : mcodeOk 203 0 := ⟨wd1358, (mcp 12 (by decide) (by decide)).1, (mcp 12 (by decide) (by decide)).2.1, plainFor_of_name (mcp 12 (by decide) (by decide)).2.2, mds203, by decide⟩
set_option maxRecDepth 10000 in
theorem mds204 : (parseMethodDescriptor (mN 204).desc).map (fun d => d.parameters.length) = some 0 := dsc0
set_option maxRecDepth 10000 in
theorem mco204 : mcodeOk 204 0 := ⟨wd1362, (mcp 12 (by decide) (by decide)).1, (mcp 12 (by decide) (by decide)).2.1, plainFor_of_name (mcp 12 (by decide) (by decide)).2.2, mds204, by decide⟩
set_option maxRecDepth 10000 in
theorem mds205 : (parseMethodDescriptor (mN 205).desc).map (fun d => d.parameters.length) = some 1 := dsc6
set_option maxRecDepth 10000 in
theorem mco205 : mcodeOk 205 1 := ⟨wd1373, (mcp 12 (by decide) (by decide)).1, (mcp 12 (by decide) (by decide)).2.1, plainFor_of_name (mcp 12 (by decide) (by decide)).2.2, mds205, by decide⟩
set_option maxRecDepth 10000 in
theorem mds206 : (parseMethodDescriptor (mN 206).desc).map (fun d => d.parameters.length) = some 1 := dsc4
set_option maxRecDepth 10000 in
theorem mco206 : mcodeOk 206 1 := ⟨wd1369, (mcp 12 (by decide) (by decide)).1, (mcp 12 (by decide) (by decide)).2.1, plainFor_of_name (mcp 12 (by decide) (by decide)).2.2, mds206, by decide⟩
set_option maxRecDepth 10000 in
theorem mds207 : (parseMethodDescriptor (mN 207).desc).map (fun d => d.parameters.length) = some 2 := dsc8
set_option maxRecDepth 10000 in
theorem mco207 : mcodeOk 207 2 := ⟨wd1366, (mcp 12 (by decide) (by decide)).1, (mcp 12 (by decide) (by decide)).2.1, plainFor_of_name (mcp 12 (by decide) (by decide)).2.2, mds207, by decide⟩
set_option maxRecDepth 10000 in
theorem mds208 : (parseMethodDescriptor (mN 208).desc).map (fun d => d.parameters.length) = some 2 := dsc8
set_option maxRecDepth 10000 in
theorem mco208 : mcodeOk 208 2 := ⟨wd1389, (mcp 12 (by decide) (by decide)).1, (mcp 12 (by decide) (by decide)).2.1, plainFor_of_name (mcp 12 (by decide) (by decide)).2.2, mds208, by decide⟩
set_option maxRecDepth 10000 in
theorem mds209 : (parseMethodDescriptor (mN 209).desc).map (fun d => d.parameters.length) = some 0 := dsc0
set_option maxRecDepth 10000 in
theorem mco209 : mcodeOk 209 0 := ⟨wd1393, (mcp 12 (by decide) (by decide)).1, (mcp 12 (by decide) (by decide)).2.1, plainFor_of_name (mcp 12 (by decide) (by decide)).2.2, mds209, by decide⟩
set_option maxRecDepth 10000 in
theorem mds210 : (parseMethodDescriptor (mN 210).desc).map (fun d => d.parameters.length) = some 1 := dsc4
set_option maxRecDepth 10000 in
theorem mco210 : mcodeOk 210 1 := ⟨wd1401, (mcp 12 (by decide) (by decide)).1, (mcp 12 (by decide) (by decide)).2.1, plainFor_of_name (mcp 12 (by decide) (by decide)).2.2, mds210, by decide⟩
set_option maxRecDepth 10000 in
theorem mds211 : (parseMethodDescriptor (mN 211).desc).map (fun d => d.parameters.length) = some 1 := dsc4
set_option maxRecDepth 10000 in
theorem mco211 : mcodeOk 211 1 := ⟨wd1397, (mcp 12 (by decide) (by decide)).1, (mcp 12 (by decide) (by decide)).2.1, plainFor_of_name (mcp 12 (by decide) (by decide)).2.2, mds211, by decide⟩
set_option maxRecDepth 10000 in
theorem mds212 : (parseMethodDescriptor (mN 212).desc).map (fun d => d.parameters.length) = some 1 := dsc4
set_option maxRecDepth 10000 in
theorem mco212 : mcodeOk 212 1 := ⟨wd1409, (mcp 12 (by decide) (by decide)).1, (mcp 12 (by decide) (by decide)).2.1, plainFor_of_name (mcp 12 (by decide) (by decide)).2.2, mds212, by decide⟩
set_option maxRecDepth 10000 in
theorem mds213 : (parseMethodDescriptor (mN 213).desc).map (fun d => d.parameters.length) = some 2 := dsc9
set_option maxRecDepth 10000 in
theorem mco213 : mcodeOk 213 2 := ⟨wd1413, (mcp 12 (by decide) (by decide)).1, (mcp 12 (by decide) (by decide)).2.1, plainFor_of_name (mcp 12 (by decide) (by decide)).2.2, mds213, by decide⟩
set_option maxRecDepth 10000 in
theorem mds214 : (parseMethodDescriptor (mN 214).desc).map (fun d => d.parameters.length) = some 1 := dsc4
set_option maxRecDepth 10000 in
theorem mco214 : mcodeOk 214 1 := ⟨wd1417, (mcp 12 (by decide) (by decide)).1, (mcp 12 (by decide) (by decide)).2.1, plainFor_of_name (mcp 12 (by decide) (by decide)).2.2, mds214, by decide⟩
set_option maxRecDepth 10000 in
theorem mds215 : (parseMethodDescriptor (mN 215).desc).map (fun d => d.parameters.length) = some 3 := dsc11
set_option maxRecDepth 10000 in
theorem mco215 : mcodeOk 215 3 := ⟨wd1428, (mcp 12 (by decide) (by decide)).1, (mcp 12 (by decide) (by decide)).2.1, plainFor_of_name (mcp 12 (by decide) (by decide)).2.2, mds215, by decide⟩
set_option maxRecDepth 10000 in
theorem mds216 : (parseMethodDescriptor (mN 216).desc).map (fun d => d.parameters.length) = some 0 := dsc0
set_option maxRecDepth 10000 in
theorem mco216 : mcodeOk 216 0 := ⟨wd1425, (mcp 12 (by decide) (by decide)).1, (mcp 12 (by decide) (by decide)).2.1, plainFor_of_name (mcp 12 (by decide) (by decide)).2.2, mds216, by decide⟩
set_option maxRecDepth 10000 in
theorem mds217 : (parseMethodDescriptor (mN 217).desc).map (fun d => d.parameters.length) = some 2 := dsc10
set_option maxRecDepth 10000 in
theorem mco217 : mcodeOk 217 2 := ⟨wd1421, (mcp 12 (by decide) (by decide)).1, (mcp 12 (by decide) (by decide)).2.1, plainFor_of_name (mcp 12 (by decide) (by decide)).2.2, mds217, by decide⟩
set_option maxRecDepth 10000 in
theorem mds218 : (parseMethodDescriptor (mN 218).desc).map (fun d => d.parameters.length) = some 1 := dsc6
set_option maxRecDepth 10000 in
theorem mco218 : mcodeOk 218 1 := ⟨wd1432, (mcp 12 (by decide) (by decide)).1, (mcp 12 (by decide) (by decide)).2.1, plainFor_of_name (mcp 12 (by decide) (by decide)).2.2, mds218, by decide⟩
set_option maxRecDepth 10000 in
theorem mds219 : (parseMethodDescriptor (mN 219).desc).map (fun d => d.parameters.length) = some 2 := dsc8
set_option maxRecDepth 10000 in
theorem mco219 : mcodeOk 219 2 := ⟨wd1405, (mcp 12 (by decide) (by decide)).1, (mcp 12 (by decide) (by decide)).2.1, plainFor_of_name (mcp 12 (by decide) (by decide)).2.2, mds219, by decide⟩
set_option maxRecDepth 10000 in
theorem mds220 : (parseMethodDescriptor (mN 220).desc).map (fun d => d.parameters.length) = some 1 := dsc4
set_option maxRecDepth 10000 in
theorem mco220 : mcodeOk 220 1 := ⟨wd1440, (mcp 12 (by decide) (by decide)).1, (mcp 12 (by decide) (by decide)).2.1, plainFor_of_name (mcp 12 (by decide) (by decide)).2.2, mds220, by decide⟩
set_option maxRecDepth 10000 in
theorem mds221 : (parseMethodDescriptor (mN 221).desc).map (fun d => d.parameters.length) = some 1 := dsc4
set_option maxRecDepth 10000 in
theorem mco221 : mcodeOk 221 1 := ⟨wd1436, (mcp 12 (by decide) (by decide)).1, (mcp 12 (by decide) (by decide)).2.1, plainFor_of_name (mcp 12 (by decide) (by decide)).2.2, mds221, by decide⟩
set_option maxRecDepth 10000 in
theorem mds222 : (parseMethodDescriptor (mN 222).desc).map (fun d => d.parameters.length) = some 1 := dsc4
set_option maxRecDepth 10000 in
theorem mco222 : mcodeOk 222 1 := ⟨wd1444, (mcp 12 (by decide) (by decide)).1, (mcp 12 (by decide) (by decide)).2.1, plainFor_of_name (mcp 12 (by decide) (by decide)).2.2, mds222, by decide⟩
set_option maxRecDepth 10000 in
theorem mds223 : (parseMethodDescriptor (mN 223).desc).map (fun d => d.parameters.length) = some 1 := dsc6
set_option maxRecDepth 10000 in
theorem mco223 : mcodeOk 223 1 := ⟨wd1452, (mcp 12 (by decide) (by decide)).1, (mcp 12 (by decide) (by decide)).2.1, plainFor_of_name (mcp 12 (by decide) (by decide)).2.2, mds223, by decide⟩
set_option maxRecDepth 10000 in
theorem mds224 : (parseMethodDescriptor (mN 224).desc).map (fun d => d.parameters.length) = some 0 := dsc0
set_option maxRecDepth 10000 in
theorem mco224 : mcodeOk 224 0 := ⟨wd1448, (mcp 12 (by decide) (by decide)).1, (mcp 12 (by decide) (by decide)).2.1, plainFor_of_name (mcp 12 (by decide) (by decide)).2.2, mds224, by decide⟩
set_option maxRecDepth 10000 in
theorem mds225 : (parseMethodDescriptor (mN 225).desc).map (fun d => d.parameters.length) = some 1 := dsc4
set_option maxRecDepth 10000 in
theorem mco225 : mcodeOk 225 1 := ⟨wd1464, (mcp 12 (by decide) (by decide)).1, (mcp 12 (by decide) (by decide)).2.1, plainFor_of_name (mcp 12 (by decide) (by decide)).2.2, mds225, by decide⟩
set_option maxRecDepth 10000 in
theorem mds226 : (parseMethodDescriptor (mN 226).desc).map (fun d => d.parameters.length) = some 1 := dsc4
set_option maxRecDepth 10000 in
theorem mco226 : mcodeOk 226 1 := ⟨wd1460, (mcp 12 (by decide) (by decide)).1, (mcp 12 (by decide) (by decide)).2.1, plainFor_of_name (mcp 12 (by decide) (by decide)).2.2, mds226, by decide⟩
set_option maxRecDepth 10000 in
theorem mds227 : (parseMethodDescriptor (mN 227).desc).map (fun d => d.parameters.length) = some 2 := dsc10
set_option maxRecDepth 10000 in
theorem mco227 : mcodeOk 227 2 := ⟨wd1472, (mcp 12 (by decide) (by decide)).1, (mcp 12 (by decide) (by decide)).2.1, plainFor_of_name (mcp 12 (by decide) (by decide)).2.2, mds227, by decide⟩
set_option maxRecDepth 10000 in
theorem mds228 : (parseMethodDescriptor (mN 228).desc).map (fun d => d.parameters.length) = some 0 := dsc0
set_option maxRecDepth 10000 in
theorem mco228 : mcodeOk 228 0 := ⟨wd1468, (mcp 12 (by decide) (by decide)).1, (mcp 12 (by decide) (by decide)).2.1, plainFor_of_name (mcp 12 (by decide) (by decide)).2.2, mds228, by decide⟩
set_option maxRecDepth 10000 in
theorem mds229 : (parseMethodDescriptor (mN 229).desc).map (fun d => d.parameters.length) = some 2 := dsc10
set_option maxRecDepth 10000 in
theorem mco229 : mcodeOk 229 2 := ⟨wd1484, (mcp 12 (by decide) (by decide)).1, (mcp 12 (by decide) (by decide)).2.1, plainFor_of_name (mcp 12 (by decide) (by decide)).2.2, mds229, by decide⟩
set_option maxRecDepth 10000 in
theorem mds230 : (parseMethodDescriptor (mN 230).desc).map (fun d => d.parameters.length) = some 2 := dsc10
set_option maxRecDepth 10000 in
theorem mco230 : mcodeOk 230 2 := ⟨wd1480, (mcp 12 (by decide) (by decide)).1, (mcp 12 (by decide) (by decide)).2.1, plainFor_of_name (mcp 12 (by decide) (by decide)).2.2, mds230, by decide⟩
set_option maxRecDepth 10000 in
theorem mds231 : (parseMethodDescriptor (mN 231).desc).map (fun d => d.parameters.length) = some 1 := dsc4
set_option maxRecDepth 10000 in
theorem mco231 : mcodeOk 231 1 := ⟨wd1476, (mcp 12 (by decide) (by decide)).1, (mcp 12 (by decide) (by decide)).2.1, plainFor_of_name (mcp 12 (by decide) (by decide)).2.2, mds231, by decide⟩
set_option maxRecDepth 10000 in
theorem mds232 : (parseMethodDescriptor (mN 232).desc).map (fun d => d.parameters.length) = some 0 := dsc2
set_option maxRecDepth 10000 in
theorem mco232 : mcodeOk 232 0 := ⟨wd1492, (mcp 12 (by decide) (by decide)).1, (mcp 12 (by decide) (by decide)).2.1, plainFor_of_name (mcp 12 (by decide) (by decide)).2.2, mds232, by decide⟩
set_option maxRecDepth 10000 in
theorem mds233 : (parseMethodDescriptor (mN 233).desc).map (fun d => d.parameters.length) = some 1 := dsc4
set_option maxRecDepth 10000 in
theorem mco233 : mcodeOk 233 1 := ⟨wd1488, (mcp 12 (by decide) (by decide)).1, (mcp 12 (by decide) (by decide)).2.1, plainFor_of_name (mcp 12 (by decide) (by decide)).2.2, mds233, by decide⟩
set_option maxRecDepth 10000 in
theorem mds234 : (parseMethodDescriptor (mN 234).desc).map (fun d => d.parameters.length) = some 1 := dsc4
set_option maxRecDepth 10000 in
theorem mco234 : mcodeOk 234 1 := ⟨wd1496, (mcp 12 (by decide) (by decide)).1, (mcp 12 (by decide) (by decide)).2.1, plainFor_of_name (mcp 12 (by decide) (by decide)).2.2, mds234, by decide⟩
set_option maxRecDepth 10000 in
theorem mds235 : (parseMethodDescriptor (mN 235).desc).map (fun d => d.parameters.length) = some 2 := dsc8
set_option maxRecDepth 10000 in
theorem mco235 : mcodeOk 235 2 := ⟨wd1504, (mcp 12 (by decide) (by decide)).1, (mcp 12 (by decide) (by decide)).2.1, plainFor_of_name (mcp 12 (by decide) (by decide)).2.2, mds235, by decide⟩
set_option maxRecDepth 10000 in
theorem mds236 : (parseMethodDescriptor (mN 236).desc).map (fun d => d.parameters.length) = some 2 := dsc8
set_option maxRecDepth 10000 in
theorem mco236 : mcodeOk 236 2 := ⟨wd1500, (mcp 12 (by decide) (by decide)).1, (mcp 12 (by decide) (by decide)).2.1, plainFor_of_name (mcp 12 (by decide) (by decide)).2.2, mds236, by decide⟩
set_option maxRecDepth 10000 in
theorem mds237 : (parseMethodDescriptor (mN 237).desc).map (fun d => d.parameters.length) = some 0 := dsc0
set_option maxRecDepth 10000 in
theorem mco237 : mcodeOk 237 0 := ⟨wd1512, (mcp 12 (by decide) (by decide)).1, (mcp 12 (by decide) (by decide)).2.1, plainFor_of_name (mcp 12 (by decide) (by decide)).2.2, mds237, by decide⟩
set_option maxRecDepth 10000 in
theorem mds238 : (parseMethodDescriptor (mN 238).desc).map (fun d => d.parameters.length) = some 1 := dsc4
set_option maxRecDepth 10000 in
theorem mco238 : mcodeOk 238 1 := ⟨wd1516, (mcp 12 (by decide) (by decide)).1, (mcp 12 (by decide) (by decide)).2.1, plainFor_of_name (mcp 12 (by decide) (by decide)).2.2, mds238, by decide⟩
set_option maxRecDepth 10000 in
theorem mds239 : (parseMethodDescriptor (mN 239).desc).map (fun d => d.parameters.length) = some 1 := dsc4
set_option maxRecDepth 10000 in
theorem mco239 : mcodeOk 239 1 := ⟨wd1508, (mcp 12 (by decide) (by decide)).1, (mcp 12 (by decide) (by decide)).2.1, plainFor_of_name (mcp 12 (by decide) (by decide)).2.2, mds239, by decide⟩
set_option maxRecDepth 10000 in
theorem mds240 : (parseMethodDescriptor (mN 240).desc).map (fun d => d.parameters.length) = some 1 := dsc7
set_option maxRecDepth 10000 in
theorem mco240 : mcodeOk 240 1 := ⟨wd1524, (mcp 12 (by decide) (by decide)).1, (mcp 12 (by decide) (by decide)).2.1, plainFor_of_name (mcp 12 (by decide) (by decide)).2.2, mds240, by decide⟩
set_option maxRecDepth 10000 in
theorem mds241 : (parseMethodDescriptor (mN 241).desc).map (fun d => d.parameters.length) = some 1 := dsc4
set_option maxRecDepth 10000 in
theorem mco241 : mcodeOk 241 1 := ⟨wd1520, (mcp 12 (by decide) (by decide)).1, (mcp 12 (by decide) (by decide)).2.1, plainFor_of_name (mcp 12 (by decide) (by decide)).2.2, mds241, by decide⟩
set_option maxRecDepth 10000 in
theorem mds242 : (parseMethodDescriptor (mN 242).desc).map (fun d => d.parameters.length) = some 3 := dsc13
set_option maxRecDepth 10000 in
theorem mco242 : mcodeOk 242 3 := ⟨wd1531, (mcp 12 (by decide) (by decide)).1, (mcp 12 (by decide) (by decide)).2.1, plainFor_of_name (mcp 12 (by decide) (by decide)).2.2, mds242, by decide⟩
set_option maxRecDepth 10000 in
theorem mds243 : (parseMethodDescriptor (mN 243).desc).map (fun d => d.parameters.length) = some 4 := dsc14
set_option maxRecDepth 10000 in
theorem mco243 : mcodeOk 243 4 := ⟨wd1528, (mcp 12 (by decide) (by decide)).1, (mcp 12 (by decide) (by decide)).2.1, plainFor_of_name (mcp 12 (by decide) (by decide)).2.2, mds243, by decide⟩
set_option maxRecDepth 10000 in
theorem mds244 : (parseMethodDescriptor (mN 244).desc).map (fun d => d.parameters.length) = some 1 := dsc4
set_option maxRecDepth 10000 in
theorem mco244 : mcodeOk 244 1 := ⟨wd1535, (mcp 12 (by decide) (by decide)).1, (mcp 12 (by decide) (by decide)).2.1, plainFor_of_name (mcp 12 (by decide) (by decide)).2.2, mds244, by decide⟩
set_option maxRecDepth 10000 in
theorem mds245 : (parseMethodDescriptor (mN 245).desc).map (fun d => d.parameters.length) = some 2 := dsc8
set_option maxRecDepth 10000 in
theorem mco245 : mcodeOk 245 2 := ⟨wd1547, (mcp 12 (by decide) (by decide)).1, (mcp 12 (by decide) (by decide)).2.1, plainFor_of_name (mcp 12 (by decide) (by decide)).2.2, mds245, by decide⟩
set_option maxRecDepth 10000 in
theorem mds246 : (parseMethodDescriptor (mN 246).desc).map (fun d => d.parameters.length) = some 1 := dsc4
set_option maxRecDepth 10000 in
theorem mco246 : mcodeOk 246 1 := ⟨wd1543, (mcp 12 (by decide) (by decide)).1, (mcp 12 (by decide) (by decide)).2.1, plainFor_of_name (mcp 12 (by decide) (by decide)).2.2, mds246, by decide⟩
set_option maxRecDepth 10000 in
theorem mds247 : (parseMethodDescriptor (mN 247).desc).map (fun d => d.parameters.length) = some 1 := dsc4
set_option maxRecDepth 10000 in
theorem mco247 : mcodeOk 247 1 := ⟨wd1551, (mcp 12 (by decide) (by decide)).1, (mcp 12 (by decide) (by decide)).2.1, plainFor_of_name (mcp 12 (by decide) (by decide)).2.2, mds247, by decide⟩
set_option maxRecDepth 10000 in
theorem mds248 : (parseMethodDescriptor (mN 248).desc).map (fun d => d.parameters.length) = some 1 := dsc4
set_option maxRecDepth 10000 in
theorem mco248 : mcodeOk 248 1 := ⟨wd1539, (mcp 12 (by decide) (by decide)).1, (mcp 12 (by decide) (by decide)).2.1, plainFor_of_name (mcp 12 (by decide) (by decide)).2.2, mds248, by decide⟩
set_option maxRecDepth 10000 in
theorem mds249 : (parseMethodDescriptor (mN 249).desc).map (fun d => d.parameters.length) = some 3 := dsc11
set_option maxRecDepth 10000 in
theorem mco249 : mcodeOk 249 3 := ⟨wd1562, (mcp 12 (by decide) (by decide)).1, (mcp 12 (by decide) (by decide)).2.1, plainFor_of_name (mcp 12 (by decide) (by decide)).2.2, mds249, by decide⟩
set_option maxRecDepth 10000 in
theorem mds250 : (parseMethodDescriptor (mN 250).desc).map (fun d => d.parameters.length) = some 0 := dsc3
set_option maxRecDepth 10000 in
theorem mco250 : mcodeOk 250 0 := ⟨wd1559, (mcp 12 (by decide) (by decide)).1, (mcp 12 (by decide) (by decide)).2.1, plainFor_of_name (mcp 12 (by decide) (by decide)).2.2, mds250, by decide⟩
set_option maxRecDepth 10000 in
theorem mds251 : (parseMethodDescriptor (mN 251).desc).map (fun d => d.parameters.length) = some 1 := dsc4
set_option maxRecDepth 10000 in
theorem mco251 : mcodeOk 251 1 := ⟨wd1555, (mcp 12 (by decide) (by decide)).1, (mcp 12 (by decide) (by decide)).2.1, plainFor_of_name (mcp 12 (by decide) (by decide)).2.2, mds251, by decide⟩
set_option maxRecDepth 10000 in
theorem mds252 : (parseMethodDescriptor (mN 252).desc).map (fun d => d.parameters.length) = some 0 := dsc0
set_option maxRecDepth 10000 in
theorem mco252 : mcodeOk 252 0 := ⟨wd1566, (mcp 12 (by decide) (by decide)).1, (mcp 12 (by decide) (by decide)).2.1, plainFor_of_name (mcp 12 (by decide) (by decide)).2.2, mds252, by decide⟩
set_option maxRecDepth 10000 in
theorem mds253 : (parseMethodDescriptor (mN 253).desc).map (fun d => d.parameters.length) = some 0 := dsc3
set_option maxRecDepth 10000 in
theorem mco253 : mcodeOk 253 0 := ⟨wd1574, (mcp 12 (by decide) (by decide)).1, (mcp 12 (by decide) (by decide)).2.1, plainFor_of_name (mcp 12 (by decide) (by decide)).2.2, mds253, by decide⟩
set_option maxRecDepth 10000 in
theorem mds254 : (parseMethodDescriptor (mN 254).desc).map (fun d => d.parameters.length) = some 0 := dsc0
set_option maxRecDepth 10000 in
theorem mco254 : mcodeOk 254 0 := ⟨wd1570, (mcp 12 (by decide) (by decide)).1, (mcp 12 (by decide) (by decide)).2.1, plainFor_of_name (mcp 12 (by decide) (by decide)).2.2, mds254, by decide⟩
set_option maxRecDepth 10000 in
theorem mds255 : (parseMethodDescriptor (mN 255).desc).map (fun d => d.parameters.length) = some 2 := dsc8
set_option maxRecDepth 10000 in
theorem mco255 : mcodeOk 255 2 := ⟨wd1578, (mcp 12 (by decide) (by decide)).1, (mcp 12 (by decide) (by decide)).2.1, plainFor_of_name (mcp 12 (by decide) (by decide)).2.2, mds255, by decide⟩
set_option maxRecDepth 10000 in
theorem mds256 : (parseMethodDescriptor (mN 256).desc).map (fun d => d.parameters.length) = some 0 := dsc0
set_option maxRecDepth 10000 in
theorem mco256 : mcodeOk 256 0 := ⟨wd1582, (mcp 12 (by decide) (by decide)).1, (mcp 12 (by decide) (by decide)).2.1, plainFor_of_name (mcp 12 (by decide) (by decide)).2.2, mds256, by decide⟩
set_option maxRecDepth 10000 in
theorem mds257 : (parseMethodDescriptor (mN 257).desc).map (fun d => d.parameters.length) = some 1 := dsc4
set_option maxRecDepth 10000 in
theorem mco257 : mcodeOk 257 1 := ⟨wd1589, (mcp 12 (by decide) (by decide)).1, (mcp 12 (by decide) (by decide)).2.1, plainFor_of_name (mcp 12 (by decide) (by decide)).2.2, mds257, by decide⟩
set_option maxRecDepth 10000 in
theorem mds258 : (parseMethodDescriptor (mN 258).desc).map (fun d => d.parameters.length) = some 1 := dsc4
set_option maxRecDepth 10000 in
theorem mco258 : mcodeOk 258 1 := ⟨wd1597, (mcp 12 (by decide) (by decide)).1, (mcp 12 (by decide) (by decide)).2.1, plainFor_of_name (mcp 12 (by decide) (by decide)).2.2, mds258, by decide⟩
set_option maxRecDepth 10000 in
theorem mds259 : (parseMethodDescriptor (mN 259).desc).map (fun d => d.parameters.length) = some 0 := dsc0
set_option maxRecDepth 10000 in
theorem mco259 : mcodeOk 259 0 := ⟨wd1593, (mcp 12 (by decide) (by decide)).1, (mcp 12 (by decide) (by decide)).2.1, plainFor_of_name (mcp 12 (by decide) (by decide)).2.2, mds259, by decide⟩
set_option maxRecDepth 10000 in
theorem mds260 : (parseMethodDescriptor (mN 260).desc).map (fun d => d.parameters.length) = some 1 := dsc4
set_option maxRecDepth 10000 in
theorem mco260 : mcodeOk 260 1 := ⟨wd1586, (mcp 12 (by decide) (by decide)).1, (mcp 12 (by decide) (by decide)).2.1, plainFor_of_name (mcp 12 (by decide) (by decide)).2.2, mds260, by decide⟩
set_option maxRecDepth 10000 in
theorem mds261 : (parseMethodDescriptor (mN 261).desc).map (fun d => d.parameters.length) = some 2 := dsc8
set_option maxRecDepth 10000 in
theorem mco261 : mcodeOk 261 2 := ⟨wd1601, (mcp 12 (by decide) (by decide)).1, (mcp 12 (by decide) (by decide)).2.1, plainFor_of_name (mcp 12 (by decide) (by decide)).2.2, mds261, by decide⟩
set_option maxRecDepth 10000 in
theorem mds262 : (parseMethodDescriptor (mN 262).desc).map (fun d => d.parameters.length) = some 1 := dsc4
set_option maxRecDepth 10000 in
theorem mco262 : mcodeOk 262 1 := ⟨wd1605, (mcp 12 (by decide) (by decide)).1, (mcp 12 (by decide) (by decide)).2.1, plainFor_of_name (mcp 12 (by decide) (by decide)).2.2, mds262, by decide⟩
set_option maxRecDepth 10000 in
theorem mds263 : (parseMethodDescriptor (mN 263).desc).map (fun d => d.parameters.length) = some 3 := dsc13
set_option maxRecDepth 10000 in
theorem mco263 : mcodeOk 263 3 := ⟨wd1617, (mcp 12 (by decide) (by decide)).1, (mcp 12 (by decide) (by decide)).2.1, plainFor_of_name (mcp 12 (by decide) (by decide)).2.2, mds263, by decide⟩
set_option maxRecDepth 10000 in
theorem mds264 : (parseMethodDescriptor (mN 264).desc).map (fun d => d.parameters.length) = some 2 := dsc8
set_option maxRecDepth 10000 in
theorem mco264 : mcodeOk 264 2 := ⟨wd1613, (mcp 12 (by decide) (by decide)).1, (mcp 12 (by decide) (by decide)).2.1, plainFor_of_name (mcp 12 (by decide) (by decide)).2.2, mds264, by decide⟩
set_option maxRecDepth 10000 in
theorem mds265 : (parseMethodDescriptor (mN 265).desc).map (fun d => d.parameters.length) = some 3 := dsc11
set_option maxRecDepth 10000 in
theorem mco265 : mcodeOk 265 3 := ⟨wd1609, (mcp 12 (by decide) (by decide)).1, (mcp 12 (by decide) (by decide)).2.1, plainFor_of_name (mcp 12 (by decide) (by decide)).2.2, mds265, by decide⟩
set_option maxRecDepth 10000 in
theorem mds266 : (parseMethodDescriptor (mN 266).desc).map (fun d => d.parameters.length) = some 2 := dsc8
set_option maxRecDepth 10000 in
theorem mco266 : mcodeOk 266 2 := ⟨wd1621, (mcp 12 (by decide) (by decide)).1, (mcp 12 (by decide) (by decide)).2.1, plainFor_of_name (mcp 12 (by decide) (by decide)).2.2, mds266, by decide⟩
set_option maxRecDepth 10000 in
theorem mds267 : (parseMethodDescriptor (mN 267).desc).map (fun d => d.parameters.length) = some 0 := dsc0
set_option maxRecDepth 10000 in
theorem mco267 : mcodeOk 267 0 := ⟨wd1625, (mcp 12 (by decide) (by decide)).1, (mcp 12 (by decide) (by decide)).2.1, plainFor_of_name (mcp 12 (by decide) (by decide)).2.2, mds267, by decide⟩
set_option maxRecDepth 10000 in
theorem mds268 : (parseMethodDescriptor (mN 268).desc).map (fun d => d.parameters.length) = some 1 := dsc4
set_option maxRecDepth 10000 in
theorem mco268 : mcodeOk 268 1 := ⟨wd1629, (mcp 12 (by decide) (by decide)).1, (mcp 12 (by decide) (by decide)).2.1, plainFor_of_name (mcp 12 (by decide) (by decide)).2.2, mds268, by decide⟩
set_option maxRecDepth 10000 in
theorem mds269 : (parseMethodDescriptor (mN 269).desc).map (fun d => d.parameters.length) = some 1 := dsc4
set_option maxRecDepth 10000 in
theorem mco269 : mcodeOk 269 1 := ⟨wd1633, (mcp 12 (by decide) (by decide)).1, (mcp 12 (by decide) (by decide)).2.1, plainFor_of_name (mcp 12 (by decide) (by decide)).2.2, mds269, by decide⟩
set_option maxRecDepth 10000 in
theorem mds270 : (parseMethodDescriptor (mN 270).desc).map (fun d => d.parameters.length) = some 0 := dsc0
set_option maxRecDepth 10000 in
theorem mco270 : mcodeOk 270 0 := ⟨wd1637, (mcp 12 (by decide) (by decide)).1, (mcp 12 (by decide) (by decide)).2.1, plainFor_of_name (mcp 12 (by decide) (by decide)).2.2, mds270, by decide⟩
set_option maxRecDepth 10000 in
theorem mds271 : (parseMethodDescriptor (mN 271).desc).map (fun d => d.parameters.length) = some 0 := dsc0
set_option maxRecDepth 10000 in
theorem mco271 : mcodeOk 271 0 := ⟨wd1641, (mcp 12 (by decide) (by decide)).1, (mcp 12 (by decide) (by decide)).2.1, plainFor_of_name (mcp 12 (by decide) (by decide)).2.2, mds271, by decide⟩
set_option maxRecDepth 10000 in
theorem mds272 : (parseMethodDescriptor (mN 272).desc).map (fun d => d.parameters.length) = some 3 := dsc11
set_option maxRecDepth 10000 in
theorem mco272 : mcodeOk 272 3 := ⟨wd1645, (mcp 12 (by decide) (by decide)).1, (mcp 12 (by decide) (by decide)).2.1, plainFor_of_name (mcp 12 (by decide) (by decide)).2.2, mds272, by decide⟩
set_option maxRecDepth 10000 in
theorem mds273 : (parseMethodDescriptor (mN 273).desc).map (fun d => d.parameters.length) = some 1 := dsc4
set_option maxRecDepth 10000 in
theorem mco273 : mcodeOk 273 1 := ⟨wd1652, (mcp 12 (by decide) (by decide)).1, (mcp 12 (by decide) (by decide)).2.1, plainFor_of_name (mcp 12 (by decide) (by decide)).2.2, mds273, by decide⟩
set_option maxRecDepth 10000 in
theorem fok0 : mFSok (mFS.getD 0 (0, 0, "", "", "", none, 0, [])) := ⟨wd252, (List.forall_mem_cons.mpr ⟨⟨RX0, TX0, 6, rfl, by decide, rfl, rfl, Or.inr wd253⟩, (fun _ h => absurd h List.not_mem_nil)⟩)⟩
set_option maxRecDepth 10000 in
theorem fok1 : mFSok (mFS.getD 1 (0, 0, "", "", "", none, 0, [])) := ⟨wd242, (List.forall_mem_cons.mpr ⟨⟨RX0, TX0, 6, rfl, by decide, rfl, rfl, Or.inr wd243⟩, (fun _ h => absurd h List.not_mem_nil)⟩)⟩
set_option maxRecDepth 10000 in
theorem fok2 : mFSok (mFS.getD 2 (0, 0, "", "", "", none, 0, [])) := ⟨wd259, (List.forall_mem_cons.mpr ⟨⟨RX1, TX1, 6, rfl, by decide, rfl, rfl, Or.inr wd260⟩, (fun _ h => absurd h List.not_mem_nil)⟩)⟩
set_option maxRecDepth 10000 in
theorem fok3 : mFSok (mFS.getD 3 (0, 0, "", "", "", none, 0, [])) := ⟨wd244, (List.forall_mem_cons.mpr ⟨⟨RX1, TX1, 6, rfl, by decide, rfl, rfl, Or.inr wd245⟩, (fun _ h => absurd h List.not_mem_nil)⟩)⟩
set_option maxRecDepth 10000 in
theorem fok4 : mFSok (mFS.getD 4 (0, 0, "", "", "", none, 0, [])) := ⟨wd124, (List.forall_mem_cons.mpr ⟨⟨RX2, TX2, 8, rfl, by decide, rfl, rfl, Or.inl rfl⟩, (fun _ h => absurd h List.not_mem_nil)⟩)⟩
set_option maxRecDepth 10000 in
theorem fok5 : mFSok (mFS.getD 5 (0, 0, "", "", "", none, 0, [])) := ⟨wd126, (List.forall_mem_cons.mpr ⟨⟨RX2, TX2, 8, rfl, by decide, rfl, rfl, Or.inl rfl⟩, (fun _ h => absurd h List.not_mem_nil)⟩)⟩
set_option maxRecDepth 10000 in
theorem fok6 : mFSok (mFS.getD 6 (0, 0, "", "", "", none, 0, [])) := ⟨wd128, (List.forall_mem_cons.mpr ⟨⟨RX2, TX2, 8, rfl, by decide, rfl, rfl, Or.inl rfl⟩, (fun _ h => absurd h List.not_mem_nil)⟩)⟩
set_option maxRecDepth 10000 in
theorem fok7 : mFSok (mFS.getD 7 (0, 0, "", "", "", none, 0, [])) := ⟨wd132, (List.forall_mem_cons.mpr ⟨⟨RX2, TX2, 8, rfl, by decide, rfl, rfl, Or.inl rfl⟩, (fun _ h => absurd h List.not_mem_nil)⟩)⟩
set_option maxRecDepth 10000 in
theorem fok8 : mFSok (mFS.getD 8 (0, 0, "", "", "", none, 0, [])) := ⟨wd135, (List.forall_mem_cons.mpr ⟨⟨RX2, TX2, 8, rfl, by decide, rfl, rfl, Or.inl rfl⟩, (fun _ h => absurd h List.not_mem_nil)⟩)⟩
set_option maxRecDepth 10000 in
theorem fok9 : mFSok (mFS.getD 9 (0, 0, "", "", "", none, 0, [])) := ⟨wd141, (List.forall_mem_cons.mpr ⟨⟨RX2, TX2, 8, rfl, by decide, rfl, rfl, Or.inl rfl⟩, (fun _ h => absurd h List.not_mem_nil)⟩)⟩
set_option maxRecDepth 10000 in
theorem fok10 : mFSok (mFS.getD 10 (0, 0, "", "", "", none, 0, [])) := ⟨wd137, (List.forall_mem_cons.mpr ⟨⟨RX2, TX2, 8, rfl, by decide, rfl, rfl, Or.inl rfl⟩, (fun _ h => absurd h List.not_mem_nil)⟩)⟩
set_option maxRecDepth 10000 in
theorem fok11 : mFSok (mFS.getD 11 (0, 0, "", "", "", none, 0, [])) := ⟨wd145, (List.forall_mem_cons.mpr ⟨⟨RX2, TX2, 8, rfl, by decide, rfl, rfl, Or.inl rfl⟩, (fun _ h => absurd h List.not_mem_nil)⟩)⟩
set_option maxRecDepth 10000 in
theorem fok12 : mFSok (mFS.getD 12 (0, 0, "", "", "", none, 0, [])) := ⟨wd254, (List.forall_mem_cons.mpr ⟨⟨RX3, TX3, 7, rfl, by decide, rfl, rfl, Or.inr wd255⟩, (fun _ h => absurd h List.not_mem_nil)⟩)⟩
set_option maxRecDepth 10000 in
theorem fok13 : mFSok (mFS.getD 13 (0, 0, "", "", "", none, 0, [])) := ⟨wd356, (List.forall_mem_cons.mpr ⟨⟨RX3, TX3, 7, rfl, by decide, rfl, rfl, Or.inl rfl⟩, (fun _ h => absurd h List.not_mem_nil)⟩)⟩
set_option maxRecDepth 10000 in
theorem fok14 : mFSok (mFS.getD 14 (0, 0, "", "", "", none, 0, [])) := ⟨wd248, (List.forall_mem_cons.mpr ⟨⟨RX3, TX3, 7, rfl, by decide, rfl, rfl, Or.inr wd249⟩, (fun _ h => absurd h List.not_mem_nil)⟩)⟩
set_option maxRecDepth 10000 in
theorem fok15 : mFSok (mFS.getD 15 (0, 0, "", "", "", none, 0, [])) := ⟨wd142, (List.forall_mem_cons.mpr ⟨⟨RX2, TX2, 8, rfl, by decide, rfl, rfl, Or.inl rfl⟩, (fun _ h => absurd h List.not_mem_nil)⟩)⟩
set_option maxRecDepth 10000 in
theorem fok16 : mFSok (mFS.getD 16 (0, 0, "", "", "", none, 0, [])) := ⟨wd284, (List.forall_mem_cons.mpr ⟨⟨RX4, TX4, 7, rfl, by decide, rfl, rfl, Or.inl rfl⟩, (fun _ h => absurd h List.not_mem_nil)⟩)⟩
set_option maxRecDepth 10000 in
theorem fok17 : mFSok (mFS.getD 17 (0, 0, "", "", "", none, 0, [])) := ⟨wd240, (List.forall_mem_cons.mpr ⟨⟨RX4, TX4, 7, rfl, by decide, rfl, rfl, Or.inr wd241⟩, (fun _ h => absurd h List.not_mem_nil)⟩)⟩
set_option maxRecDepth 10000 in
theorem fok18 : mFSok (mFS.getD 18 (0, 0, "", "", "", none, 0, [])) := ⟨wd133, (List.forall_mem_cons.mpr ⟨⟨RX2, TX2, 8, rfl, by decide, rfl, rfl, Or.inl rfl⟩, (fun _ h => absurd h List.not_mem_nil)⟩)⟩
set_option maxRecDepth 10000 in
theorem fok19 : mFSok (mFS.getD 19 (0, 0, "", "", "", none, 0, [])) := ⟨wd138, (List.forall_mem_cons.mpr ⟨⟨RX2, TX2, 8, rfl, by decide, rfl, rfl, Or.inl rfl⟩, (fun _ h => absurd h List.not_mem_nil)⟩)⟩
set_option maxRecDepth 10000 in
theorem fok20 : mFSok (mFS.getD 20 (0, 0, "", "", "", none, 0, [])) := ⟨wd256, (List.forall_mem_cons.mpr ⟨⟨RX5, TX5, 8, rfl, by decide, rfl, rfl, Or.inr wd257⟩, (fun _ h => absurd h List.not_mem_nil)⟩)⟩
set_option maxRecDepth 10000 in
theorem fok21 : mFSok (mFS.getD 21 (0, 0, "", "", "", none, 0, [])) := ⟨wd129, (List.forall_mem_cons.mpr ⟨⟨RX2, TX2, 8, rfl, by decide, rfl, rfl, Or.inl rfl⟩, (fun _ h => absurd h List.not_mem_nil)⟩)⟩
set_option maxRecDepth 10000 in
theorem fok22 : mFSok (mFS.getD 22 (0, 0, "", "", "", none, 0, [])) := ⟨wd335, (List.forall_mem_cons.mpr ⟨⟨RX5, TX5, 8, rfl, by decide, rfl, rfl, Or.inl rfl⟩, (fun _ h => absurd h List.not_mem_nil)⟩)⟩
set_option maxRecDepth 10000 in
theorem fok23 : mFSok (mFS.getD 23 (0, 0, "", "", "", none, 0, [])) := ⟨wd337, (List.forall_mem_cons.mpr ⟨⟨RX5, TX5, 8, rfl, by decide, rfl, rfl, Or.inl rfl⟩, (fun _ h => absurd h List.not_mem_nil)⟩)⟩
set_option maxRecDepth 10000 in
theorem fok24 : mFSok (mFS.getD 24 (0, 0, "", "", "", none, 0, [])) := ⟨wd250, (List.forall_mem_cons.mpr ⟨⟨RX5, TX5, 8, rfl, by decide, rfl, rfl, Or.inr wd251⟩, (fun _ h => absurd h List.not_mem_nil)⟩)⟩
set_option maxRecDepth 10000 in
theorem fok25 : mFSok (mFS.getD 25 (0, 0, "", "", "", none, 0, [])) := ⟨wd314, (List.forall_mem_cons.mpr ⟨⟨RX6, TX6, 8, rfl, by decide, rfl, rfl, Or.inl rfl⟩, (fun _ h => absurd h List.not_mem_nil)⟩)⟩
set_option maxRecDepth 10000 in
theorem fok26 : mFSok (mFS.getD 26 (0, 0, "", "", "", none, 0, [])) := ⟨wd316, (List.forall_mem_cons.mpr ⟨⟨RX6, TX6, 8, rfl, by decide, rfl, rfl, Or.inl rfl⟩, (fun _ h => absurd h List.not_mem_nil)⟩)⟩
set_option maxRecDepth 10000 in
theorem fok27 : mFSok (mFS.getD 27 (0, 0, "", "", "", none, 0, [])) := ⟨wd246, (List.forall_mem_cons.mpr ⟨⟨RX6, TX6, 8, rfl, by decide, rfl, rfl, Or.inr wd247⟩, (fun _ h => absurd h List.not_mem_nil)⟩)⟩
set_option maxRecDepth 10000 in
theorem fok28 : mFSok (mFS.getD 28 (0, 0, "", "", "", none, 0, [])) := ⟨wd261, (List.forall_mem_cons.mpr ⟨⟨RX6, TX6, 8, rfl, by decide, rfl, rfl, Or.inr wd262⟩, (fun _ h => absurd h List.not_mem_nil)⟩)⟩
set_option maxRecDepth 10000 in
theorem fok29 : mFSok (mFS.getD 29 (0, 0, "", "", "", none, 0, [])) := ⟨wd234, (List.forall_mem_cons.mpr ⟨⟨RX6, TX6, 8, rfl, by decide, rfl, rfl, Or.inr wd235⟩, (fun _ h => absurd h List.not_mem_nil)⟩)⟩
set_option maxRecDepth 10000 in
theorem fok30 : mFSok (mFS.getD 30 (0, 0, "", "", "", none, 0, [])) := ⟨wd174, (List.forall_mem_cons.mpr ⟨⟨RX7, TX7, 4, rfl, by decide, rfl, rfl, Or.inl rfl⟩, (fun _ h => absurd h List.not_mem_nil)⟩)⟩
set_option maxRecDepth 10000 in
theorem fok31 : mFSok (mFS.getD 31 (0, 0, "", "", "", none, 0, [])) := ⟨wd175, (List.forall_mem_cons.mpr ⟨⟨RX7, TX7, 4, rfl, by decide, rfl, rfl, Or.inl rfl⟩, (fun _ h => absurd h List.not_mem_nil)⟩)⟩
set_option maxRecDepth 10000 in
theorem fok32 : mFSok (mFS.getD 32 (0, 0, "", "", "", none, 0, [])) := ⟨wd177, (List.forall_mem_cons.mpr ⟨⟨RX7, TX7, 4, rfl, by decide, rfl, rfl, Or.inl rfl⟩, (fun _ h => absurd h List.not_mem_nil)⟩)⟩
set_option maxRecDepth 10000 in
theorem fok33 : mFSok (mFS.getD 33 (0, 0, "", "", "", none, 0, [])) := ⟨wd130, (List.forall_mem_cons.mpr ⟨⟨RX2, TX2, 8, rfl, by decide, rfl, rfl, Or.inl rfl⟩, (fun _ h => absurd h List.not_mem_nil)⟩)⟩
set_option maxRecDepth 10000 in
theorem fok34 : mFSok (mFS.getD 34 (0, 0, "", "", "", none, 0, [])) := ⟨wd176, (List.forall_mem_cons.mpr ⟨⟨RX7, TX7, 4, rfl, by decide, rfl, rfl, Or.inl rfl⟩, (fun _ h => absurd h List.not_mem_nil)⟩)⟩
set_option maxRecDepth 10000 in
theorem fok35 : mFSok (mFS.getD 35 (0, 0, "", "", "", none, 0, [])) := ⟨wd144, (List.forall_mem_cons.mpr ⟨⟨RX2, TX2, 8, rfl, by decide, rfl, rfl, Or.inl rfl⟩, (fun _ h => absurd h List.not_mem_nil)⟩)⟩
set_option maxRecDepth 10000 in
theorem fok36 : mFSok (mFS.getD 36 (0, 0, "", "", "", none, 0, [])) := ⟨wd139, (List.forall_mem_cons.mpr ⟨⟨RX2, TX2, 8, rfl, by decide, rfl, rfl, Or.inl rfl⟩, (fun _ h => absurd h List.not_mem_nil)⟩)⟩
set_option maxRecDepth 10000 in
theorem fok37 : mFSok (mFS.getD 37 (0, 0, "", "", "", none, 0, [])) := ⟨wd233, (List.forall_mem_cons.mpr ⟨⟨RX0, TX0, 6, rfl, by decide, rfl, rfl, Or.inl rfl⟩, (List.forall_mem_cons.mpr ⟨⟨RX1, TX1, 6, rfl, by decide, rfl, rfl, Or.inl rfl⟩, (List.forall_mem_cons.mpr ⟨⟨RX3, TX3, 7, rfl, by decide, rfl, rfl, Or.inl rfl⟩, (List.forall_mem_cons.mpr ⟨⟨RX4, TX4, 7, rfl, by decide, rfl, rfl, Or.inl rfl⟩, (List.forall_mem_cons.mpr ⟨⟨RX5, TX5, 8, rfl, by decide, rfl, rfl, Or.inl rfl⟩, (List.forall_mem_cons.mpr ⟨⟨RX6, TX6, 8, rfl, by decide, rfl, rfl, Or.inl rfl⟩, (fun _ h => absurd h List.not_mem_nil)⟩)⟩)⟩)⟩)⟩)⟩)⟩
set_option maxRecDepth 10000 in
theorem fok38 : mFSok (mFS.getD 38 (0, 0, "", "", "", none, 0, [])) := ⟨wd237, (List.forall_mem_cons.mpr ⟨⟨RX0, TX0, 6, rfl, by decide, rfl, rfl, Or.inl rfl⟩, (List.forall_mem_cons.mpr ⟨⟨RX1, TX1, 6, rfl, by decide, rfl, rfl, Or.inl rfl⟩, (List.forall_mem_cons.mpr ⟨⟨RX3, TX3, 7, rfl, by decide, rfl, rfl, Or.inl rfl⟩, (List.forall_mem_cons.mpr ⟨⟨RX4, TX4, 7, rfl, by decide, rfl, rfl, Or.inl rfl⟩, (List.forall_mem_cons.mpr ⟨⟨RX5, TX5, 8, rfl, by decide, rfl, rfl, Or.inl rfl⟩, (List.forall_mem_cons.mpr ⟨⟨RX6, TX6, 8, rfl, by decide, rfl, rfl, Or.inl rfl⟩, (fun _ h => absurd h List.not_mem_nil)⟩)⟩)⟩)⟩)⟩)⟩)⟩
set_option maxRecDepth 10000 in
theorem fok39 : mFSok (mFS.getD 39 (0, 0, "", "", "", none, 0, [])) := ⟨wd238, (List.forall_mem_cons.mpr ⟨⟨RX0, TX0, 6, rfl, by decide, rfl, rfl, Or.inl rfl⟩, (List.forall_mem_cons.mpr ⟨⟨RX1, TX1, 6, rfl, by decide, rfl, rfl, Or.inl rfl⟩, (List.forall_mem_cons.mpr ⟨⟨RX3, TX3, 7, rfl, by decide, rfl, rfl, Or.inl rfl⟩, (List.forall_mem_cons.mpr ⟨⟨RX4, TX4, 7, rfl, by decide, rfl, rfl, Or.inl rfl⟩, (List.forall_mem_cons.mpr ⟨⟨RX5, TX5, 8, rfl, by decide, rfl, rfl, Or.inl rfl⟩, (List.forall_mem_cons.mpr ⟨⟨RX6, TX6, 8, rfl, by decide, rfl, rfl, Or.inl rfl⟩, (fun _ h => absurd h List.not_mem_nil)⟩)⟩)⟩)⟩)⟩)⟩)⟩
set_option maxRecDepth 10000 in
theorem fok40 : mFSok (mFS.getD 40 (0, 0, "", "", "", none, 0, [])) := ⟨wd239, (List.forall_mem_cons.mpr ⟨⟨RX0, TX0, 6, rfl, by decide, rfl, rfl, Or.inl rfl⟩, (List.forall_mem_cons.mpr ⟨⟨RX1, TX1, 6, rfl, by decide, rfl, rfl, Or.inl rfl⟩, (List.forall_mem_cons.mpr ⟨⟨RX3, TX3, 7, rfl, by decide, rfl, rfl, Or.inl rfl⟩, (List.forall_mem_cons.mpr ⟨⟨RX4, TX4, 7, rfl, by decide, rfl, rfl, Or.inl rfl⟩, (List.forall_mem_cons.mpr ⟨⟨RX5, TX5, 8, rfl, by decide, rfl, rfl, Or.inl rfl⟩, (List.forall_mem_cons.mpr ⟨⟨RX6, TX6, 8, rfl, by decide, rfl, rfl, Or.inl rfl⟩, (fun _ h => absurd h List.not_mem_nil)⟩)⟩)⟩)⟩)⟩)⟩)⟩
set_option maxRecDepth 10000 in
theorem fok41 : mFSok (mFS.getD 41 (0, 0, "", "", "", none, 0, [])) := ⟨wd258, (List.forall_mem_cons.mpr ⟨⟨RX0, TX0, 6, rfl, by decide, rfl, rfl, Or.inl rfl⟩, (List.forall_mem_cons.mpr ⟨⟨RX1, TX1, 6, rfl, by decide, rfl, rfl, Or.inl rfl⟩, (List.forall_mem_cons.mpr ⟨⟨RX3, TX3, 7, rfl, by decide, rfl, rfl, Or.inl rfl⟩, (List.forall_mem_cons.mpr ⟨⟨RX4, TX4, 7, rfl, by decide, rfl, rfl, Or.inl rfl⟩, (List.forall_mem_cons.mpr ⟨⟨RX5, TX5, 8, rfl, by decide, rfl, rfl, Or.inl rfl⟩, (List.forall_mem_cons.mpr ⟨⟨RX6, TX6, 8, rfl, by decide, rfl, rfl, Or.inl rfl⟩, (fun _ h => absurd h List.not_mem_nil)⟩)⟩)⟩)⟩)⟩)⟩)⟩
set_option maxRecDepth 10000 in
theorem fok42 : mFSok (mFS.getD 42 (0, 0, "", "", "", none, 0, [])) := ⟨wd264, (List.forall_mem_cons.mpr ⟨⟨RX0, TX0, 6, rfl, by decide, rfl, rfl, Or.inl rfl⟩, (List.forall_mem_cons.mpr ⟨⟨RX1, TX1, 6, rfl, by decide, rfl, rfl, Or.inl rfl⟩, (List.forall_mem_cons.mpr ⟨⟨RX3, TX3, 7, rfl, by decide, rfl, rfl, Or.inl rfl⟩, (List.forall_mem_cons.mpr ⟨⟨RX4, TX4, 7, rfl, by decide, rfl, rfl, Or.inl rfl⟩, (List.forall_mem_cons.mpr ⟨⟨RX5, TX5, 8, rfl, by decide, rfl, rfl, Or.inl rfl⟩, (List.forall_mem_cons.mpr ⟨⟨RX6, TX6, 8, rfl, by decide, rfl, rfl, Or.inl rfl⟩, (fun _ h => absurd h List.not_mem_nil)⟩)⟩)⟩)⟩)⟩)⟩)⟩
set_option maxRecDepth 10000 in
theorem fok43 : mFSok (mFS.getD 43 (0, 0, "", "", "", none, 0, [])) := ⟨wd209, (List.forall_mem_cons.mpr ⟨⟨RX9, TX9, 4, rfl, by decide, rfl, rfl, Or.inl rfl⟩, (fun _ h => absurd h List.not_mem_nil)⟩)⟩
set_option maxRecDepth 10000 in
theorem fok44 : mFSok (mFS.getD 44 (0, 0, "", "", "", none, 0, [])) := ⟨wd208, (List.forall_mem_cons.mpr ⟨⟨RX9, TX9, 4, rfl, by decide, rfl, rfl, Or.inl rfl⟩, (fun _ h => absurd h List.not_mem_nil)⟩)⟩
set_option maxRecDepth 10000 in
theorem fok45 : mFSok (mFS.getD 45 (0, 0, "", "", "", none, 0, [])) := ⟨wd211, (List.forall_mem_cons.mpr ⟨⟨RX9, TX9, 4, rfl, by decide, rfl, rfl, Or.inl rfl⟩, (fun _ h => absurd h List.not_mem_nil)⟩)⟩
set_option maxRecDepth 10000 in
theorem fok46 : mFSok (mFS.getD 46 (0, 0, "", "", "", none, 0, [])) := ⟨wd212, (List.forall_mem_cons.mpr ⟨⟨RX9, TX9, 4, rfl, by decide, rfl, rfl, Or.inl rfl⟩, (fun _ h => absurd h List.not_mem_nil)⟩)⟩
set_option maxRecDepth 10000 in
theorem fok47 : mFSok (mFS.getD 47 (0, 0, "", "", "", none, 0, [])) := ⟨wd213, (List.forall_mem_cons.mpr ⟨⟨RX9, TX9, 4, rfl, by decide, rfl, rfl, Or.inl rfl⟩, (fun _ h => absurd h List.not_mem_nil)⟩)⟩
set_option maxRecDepth 10000 in
theorem fok48 : mFSok (mFS.getD 48 (0, 0, "", "", "", none, 0, [])) := ⟨wd194, (List.forall_mem_cons.mpr ⟨⟨RX10, TX10, 2, rfl, by decide, rfl, rfl, Or.inl rfl⟩, (fun _ h => absurd h List.not_mem_nil)⟩)⟩
set_option maxRecDepth 10000 in
theorem fok49 : mFSok (mFS.getD 49 (0, 0, "", "", "", none, 0, [])) := ⟨wd195, (List.forall_mem_cons.mpr ⟨⟨RX10, TX10, 2, rfl, by decide, rfl, rfl, Or.inl rfl⟩, (fun _ h => absurd h List.not_mem_nil)⟩)⟩
set_option maxRecDepth 10000 in
theorem fok50 : mFSok (mFS.getD 50 (0, 0, "", "", "", none, 0, [])) := ⟨wd367, (List.forall_mem_cons.mpr ⟨⟨RX11, TX11, 18, rfl, by decide, rfl, rfl, Or.inl rfl⟩, (fun _ h => absurd h List.not_mem_nil)⟩)⟩
set_option maxRecDepth 10000 in
theorem fok51 : mFSok (mFS.getD 51 (0, 0, "", "", "", none, 0, [])) := ⟨wd368, (List.forall_mem_cons.mpr ⟨⟨RX11, TX11, 18, rfl, by decide, rfl, rfl, Or.inl rfl⟩, (fun _ h => absurd h List.not_mem_nil)⟩)⟩
set_option maxRecDepth 10000 in
theorem fok52 : mFSok (mFS.getD 52 (0, 0, "", "", "", none, 0, [])) := ⟨wd369, (List.forall_mem_cons.mpr ⟨⟨RX11, TX11, 18, rfl, by decide, rfl, rfl, Or.inl rfl⟩, (fun _ h => absurd h List.not_mem_nil)⟩)⟩
set_option maxRecDepth 10000 in
theorem fok53 : mFSok (mFS.getD 53 (0, 0, "", "", "", none, 0, [])) := ⟨wd370, (List.forall_mem_cons.mpr ⟨⟨RX11, TX11, 18, rfl, by decide, rfl, rfl, Or.inl rfl⟩, (fun _ h => absurd h List.not_mem_nil)⟩)⟩
set_option maxRecDepth 10000 in
theorem fok54 : mFSok (mFS.getD 54 (0, 0, "", "", "", none, 0, [])) := ⟨wd371, (List.forall_mem_cons.mpr ⟨⟨RX11, TX11, 18, rfl, by decide, rfl, rfl, Or.inl rfl⟩, (fun _ h => absurd h List.not_mem_nil)⟩)⟩
set_option maxRecDepth 10000 in
theorem fok55 : mFSok (mFS.getD 55 (0, 0, "", "", "", none, 0, [])) := ⟨wd372, (List.forall_mem_cons.mpr ⟨⟨RX11, TX11, 18, rfl, by decide, rfl, rfl, Or.inl rfl⟩, (fun _ h => absurd h List.not_mem_nil)⟩)⟩
set_option maxRecDepth 10000 in
theorem fok56 : mFSok (mFS.getD 56 (0, 0, "", "", "", none, 0, [])) := ⟨wd373, (List.forall_mem_cons.mpr ⟨⟨RX11, TX11, 18, rfl, by decide, rfl, rfl, Or.inl rfl⟩, (fun _ h => absurd h List.not_mem_nil)⟩)⟩
set_option maxRecDepth 10000 in
theorem fok57 : mFSok (mFS.getD 57 (0, 0, "", "", "", none, 0, [])) := ⟨wd374, (List.forall_mem_cons.mpr ⟨⟨RX11, TX11, 18, rfl, by decide, rfl, rfl, Or.inl rfl⟩, (fun _ h => absurd h List.not_mem_nil)⟩)⟩
set_option maxRecDepth 10000 in
theorem fok58 : mFSok (mFS.getD 58 (0, 0, "", "", "", none, 0, [])) := ⟨wd375, (List.forall_mem_cons.mpr ⟨⟨RX11, TX11, 18, rfl, by decide, rfl, rfl, Or.inl rfl⟩, (fun _ h => absurd h List.not_mem_nil)⟩)⟩
set_option maxRecDepth 10000 in
theorem fok59 : mFSok (mFS.getD 59 (0, 0, "", "", "", none, 0, [])) := ⟨wd376, (List.forall_mem_cons.mpr ⟨⟨RX11, TX11, 18, rfl, by decide, rfl, rfl, Or.inl rfl⟩, (fun _ h => absurd h List.not_mem_nil)⟩)⟩
set_option maxRecDepth 10000 in
theorem fok60 : mFSok (mFS.getD 60 (0, 0, "", "", "", none, 0, [])) := ⟨wd377, (List.forall_mem_cons.mpr ⟨⟨RX11, TX11, 18, rfl, by decide, rfl, rfl, Or.inl rfl⟩, (fun _ h => absurd h List.not_mem_nil)⟩)⟩
set_option maxRecDepth 10000 in
theorem fok61 : mFSok (mFS.getD 61 (0, 0, "", "", "", none, 0, [])) := ⟨wd378, (List.forall_mem_cons.mpr ⟨⟨RX11, TX11, 18, rfl, by decide, rfl, rfl, Or.inl rfl⟩, (fun _ h => absurd h List.not_mem_nil)⟩)⟩
set_option maxRecDepth 10000 in
theorem fok62 : mFSok (mFS.getD 62 (0, 0, "", "", "", none, 0, [])) := ⟨wd379, (List.forall_mem_cons.mpr ⟨⟨RX11, TX11, 18, rfl, by decide, rfl, rfl, Or.inl rfl⟩, (fun _ h => absurd h List.not_mem_nil)⟩)⟩
set_option maxRecDepth 10000 in
theorem fok63 : mFSok (mFS.getD 63 (0, 0, "", "", "", none, 0, [])) := ⟨wd380, (List.forall_mem_cons.mpr ⟨⟨RX11, TX11, 18, rfl, by decide, rfl, rfl, Or.inl rfl⟩, (fun _ h => absurd h List.not_mem_nil)⟩)⟩
set_option maxRecDepth 10000 in
theorem fok64 : mFSok (mFS.getD 64 (0, 0, "", "", "", none, 0, [])) := ⟨wd381, (List.forall_mem_cons.mpr ⟨⟨RX11, TX11, 18, rfl, by decide, rfl, rfl, Or.inl rfl⟩, (fun _ h => absurd h List.not_mem_nil)⟩)⟩
set_option maxRecDepth 10000 in
theorem fok65 : mFSok (mFS.getD 65 (0, 0, "", "", "", none, 0, [])) := ⟨wd382, (List.forall_mem_cons.mpr ⟨⟨RX11, TX11, 18, rfl, by decide, rfl, rfl, Or.inl rfl⟩, (fun _ h => absurd h List.not_mem_nil)⟩)⟩
set_option maxRecDepth 10000 in
theorem fok66 : mFSok (mFS.getD 66 (0, 0, "", "", "", none, 0, [])) := ⟨wd383, (List.forall_mem_cons.mpr ⟨⟨RX11, TX11, 18, rfl, by decide, rfl, rfl, Or.inl rfl⟩, (fun _ h => absurd h List.not_mem_nil)⟩)⟩
set_option maxRecDepth 10000 in
theorem fok67 : mFSok (mFS.getD 67 (0, 0, "", "", "", none, 0, [])) := ⟨wd214, (List.forall_mem_cons.mpr ⟨⟨RX9, TX9, 4, rfl, by decide, rfl, rfl, Or.inl rfl⟩, (fun _ h => absurd h List.not_mem_nil)⟩)⟩
set_option maxRecDepth 10000 in
theorem fok68 : mFSok (mFS.getD 68 (0, 0, "", "", "", none, 0, [])) := ⟨wd196, (List.forall_mem_cons.mpr ⟨⟨RX10, TX10, 2, rfl, by decide, rfl, rfl, Or.inl rfl⟩, (fun _ h => absurd h List.not_mem_nil)⟩)⟩
set_option maxRecDepth 10000 in
theorem fok69 : mFSok (mFS.getD 69 (0, 0, "", "", "", none, 0, [])) := ⟨wd143, (List.forall_mem_cons.mpr ⟨⟨RX2, TX2, 8, rfl, by decide, rfl, rfl, Or.inl rfl⟩, (fun _ h => absurd h List.not_mem_nil)⟩)⟩
set_option maxRecDepth 10000 in
theorem fok70 : mFSok (mFS.getD 70 (0, 0, "", "", "", none, 0, [])) := ⟨wd140, (List.forall_mem_cons.mpr ⟨⟨RX2, TX2, 8, rfl, by decide, rfl, rfl, Or.inl rfl⟩, (fun _ h => absurd h List.not_mem_nil)⟩)⟩
set_option maxRecDepth 10000 in
theorem fok71 : mFSok (mFS.getD 71 (0, 0, "", "", "", none, 0, [])) := ⟨wd136, (List.forall_mem_cons.mpr ⟨⟨RX2, TX2, 8, rfl, by decide, rfl, rfl, Or.inl rfl⟩, (fun _ h => absurd h List.not_mem_nil)⟩)⟩
set_option maxRecDepth 10000 in
theorem fok72 : mFSok (mFS.getD 72 (0, 0, "", "", "", none, 0, [])) := ⟨wd146, (List.forall_mem_cons.mpr ⟨⟨RX2, TX2, 8, rfl, by decide, rfl, rfl, Or.inl rfl⟩, (fun _ h => absurd h List.not_mem_nil)⟩)⟩
set_option maxRecDepth 10000 in
theorem fok73 : mFSok (mFS.getD 73 (0, 0, "", "", "", none, 0, [])) := ⟨wd125, (List.forall_mem_cons.mpr ⟨⟨RX2, TX2, 8, rfl, by decide, rfl, rfl, Or.inl rfl⟩, (fun _ h => absurd h List.not_mem_nil)⟩)⟩
set_option maxRecDepth 10000 in
theorem fok74 : mFSok (mFS.getD 74 (0, 0, "", "", "", none, 0, [])) := ⟨wd127, (List.forall_mem_cons.mpr ⟨⟨RX2, TX2, 8, rfl, by decide, rfl, rfl, Or.inl rfl⟩, (fun _ h => absurd h List.not_mem_nil)⟩)⟩
set_option maxRecDepth 10000 in
theorem fok75 : mFSok (mFS.getD 75 (0, 0, "", "", "", none, 0, [])) := ⟨wd131, (List.forall_mem_cons.mpr ⟨⟨RX2, TX2, 8, rfl, by decide, rfl, rfl, Or.inl rfl⟩, (fun _ h => absurd h List.not_mem_nil)⟩)⟩
set_option maxRecDepth 10000 in
theorem fok76 : mFSok (mFS.getD 76 (0, 0, "", "", "", none, 0, [])) := ⟨wd134, (List.forall_mem_cons.mpr ⟨⟨RX2, TX2, 8, rfl, by decide, rfl, rfl, Or.inl rfl⟩, (fun _ h => absurd h List.not_mem_nil)⟩)⟩
set_option maxRecDepth 10000 in
theorem fok77 : mFSok (mFS.getD 77 (0, 0, "", "", "", none, 0, [])) := ⟨wd178, (List.forall_mem_cons.mpr ⟨⟨RX7, TX7, 4, rfl, by decide, rfl, rfl, Or.inl rfl⟩, (fun _ h => absurd h List.not_mem_nil)⟩)⟩
set_option maxRecDepth 10000 in
theorem fok78 : mFSok (mFS.getD 78 (0, 0, "", "", "", none, 0, [])) := ⟨wd210, (List.forall_mem_cons.mpr ⟨⟨RX9, TX9, 4, rfl, by decide, rfl, rfl, Or.inl rfl⟩, (fun _ h => absurd h List.not_mem_nil)⟩)⟩
set_option maxRecDepth 10000 in
theorem fok79 : mFSok (mFS.getD 79 (0, 0, "", "", "", none, 0, [])) := ⟨wd236, (List.forall_mem_cons.mpr ⟨⟨RX0, TX0, 6, rfl, by decide, rfl, rfl, Or.inl rfl⟩, (List.forall_mem_cons.mpr ⟨⟨RX1, TX1, 6, rfl, by decide, rfl, rfl, Or.inl rfl⟩, (List.forall_mem_cons.mpr ⟨⟨RX3, TX3, 7, rfl, by decide, rfl, rfl, Or.inl rfl⟩, (List.forall_mem_cons.mpr ⟨⟨RX4, TX4, 7, rfl, by decide, rfl, rfl, Or.inl rfl⟩, (List.forall_mem_cons.mpr ⟨⟨RX5, TX5, 8, rfl, by decide, rfl, rfl, Or.inl rfl⟩, (List.forall_mem_cons.mpr ⟨⟨RX6, TX6, 8, rfl, by decide, rfl, rfl, Or.inl rfl⟩, (fun _ h => absurd h List.not_mem_nil)⟩)⟩)⟩)⟩)⟩)⟩)⟩
set_option maxRecDepth 10000 in
theorem fok80 : mFSok (mFS.getD 80 (0, 0, "", "", "", none, 0, [])) := ⟨wd285, (List.forall_mem_cons.mpr ⟨⟨RX4, TX4, 7, rfl, by decide, rfl, rfl, Or.inl rfl⟩, (fun _ h => absurd h List.not_mem_nil)⟩)⟩
set_option maxRecDepth 10000 in
theorem fok81 : mFSok (mFS.getD 81 (0, 0, "", "", "", none, 0, [])) := ⟨wd263, (List.forall_mem_cons.mpr ⟨⟨RX0, TX0, 6, rfl, by decide, rfl, rfl, Or.inr wd253⟩, (fun _ h => absurd h List.not_mem_nil)⟩)⟩
set_option maxRecDepth 10000 in
theorem fok82 : mFSok (mFS.getD 82 (0, 0, "", "", "", none, 0, [])) := ⟨wd315, (List.forall_mem_cons.mpr ⟨⟨RX6, TX6, 8, rfl, by decide, rfl, rfl, Or.inl rfl⟩, (fun _ h => absurd h List.not_mem_nil)⟩)⟩
set_option maxRecDepth 10000 in
theorem fok83 : mFSok (mFS.getD 83 (0, 0, "", "", "", none, 0, [])) := ⟨wd317, (List.forall_mem_cons.mpr ⟨⟨RX6, TX6, 8, rfl, by decide, rfl, rfl, Or.inl rfl⟩, (fun _ h => absurd h List.not_mem_nil)⟩)⟩
set_option maxRecDepth 10000 in
theorem fok84 : mFSok (mFS.getD 84 (0, 0, "", "", "", none, 0, [])) := ⟨wd336, (List.forall_mem_cons.mpr ⟨⟨RX5, TX5, 8, rfl, by decide, rfl, rfl, Or.inl rfl⟩, (fun _ h => absurd h List.not_mem_nil)⟩)⟩
set_option maxRecDepth 10000 in
theorem fok85 : mFSok (mFS.getD 85 (0, 0, "", "", "", none, 0, [])) := ⟨wd338, (List.forall_mem_cons.mpr ⟨⟨RX5, TX5, 8, rfl, by decide, rfl, rfl, Or.inl rfl⟩, (fun _ h => absurd h List.not_mem_nil)⟩)⟩
set_option maxRecDepth 10000 in
theorem fok86 : mFSok (mFS.getD 86 (0, 0, "", "", "", none, 0, [])) := ⟨wd357, (List.forall_mem_cons.mpr ⟨⟨RX3, TX3, 7, rfl, by decide, rfl, rfl, Or.inl rfl⟩, (fun _ h => absurd h List.not_mem_nil)⟩)⟩
set_option maxRecDepth 10000 in
theorem fok87 : mFSok (mFS.getD 87 (0, 0, "", "", "", none, 0, [])) := ⟨wd384, (List.forall_mem_cons.mpr ⟨⟨RX11, TX11, 18, rfl, by decide, rfl, rfl, Or.inl rfl⟩, (fun _ h => absurd h List.not_mem_nil)⟩)⟩
set_option maxRecDepth 10000 in
theorem fok88 : mFSok (mFS.getD 88 (0, 0, "", "", "", none, 0, [])) := ⟨wd1080, (List.forall_mem_cons.mpr ⟨⟨RX12, TX12, 33, rfl, by decide, rfl, rfl, Or.inl rfl⟩, (fun _ h => absurd h List.not_mem_nil)⟩)⟩
set_option maxRecDepth 10000 in
theorem fok89 : mFSok (mFS.getD 89 (0, 0, "", "", "", none, 0, [])) := ⟨wd1081, (List.forall_mem_cons.mpr ⟨⟨RX12, TX12, 33, rfl, by decide, rfl, rfl, Or.inl rfl⟩, (fun _ h => absurd h List.not_mem_nil)⟩)⟩
set_option maxRecDepth 10000 in
theorem fok90 : mFSok (mFS.getD 90 (0, 0, "", "", "", none, 0, [])) := ⟨wd1082, (List.forall_mem_cons.mpr ⟨⟨RX12, TX12, 33, rfl, by decide, rfl, rfl, Or.inl rfl⟩, (fun _ h => absurd h List.not_mem_nil)⟩)⟩
set_option maxRecDepth 10000 in
theorem fok91 : mFSok (mFS.getD 91 (0, 0, "", "", "", none, 0, [])) := ⟨wd1083, (List.forall_mem_cons.mpr ⟨⟨RX12, TX12, 33, rfl, by decide, rfl, rfl, Or.inl rfl⟩, (fun _ h => absurd h List.not_mem_nil)⟩)⟩
set_option maxRecDepth 10000 in
theorem fok92 : mFSok (mFS.getD 92 (0, 0, "", "", "", none, 0, [])) := ⟨wd1084, (List.forall_mem_cons.mpr ⟨⟨RX12, TX12, 33, rfl, by decide, rfl, rfl, Or.inl rfl⟩, (fun _ h => absurd h List.not_mem_nil)⟩)⟩
set_option maxRecDepth 10000 in
theorem fok93 : mFSok (mFS.getD 93 (0, 0, "", "", "", none, 0, [])) := ⟨wd1088, (List.forall_mem_cons.mpr ⟨⟨RX12, TX12, 33, rfl, by decide, rfl, rfl, Or.inl rfl⟩, (fun _ h => absurd h List.not_mem_nil)⟩)⟩
set_option maxRecDepth 10000 in
theorem fok94 : mFSok (mFS.getD 94 (0, 0, "", "", "", none, 0, [])) := ⟨wd1089, (List.forall_mem_cons.mpr ⟨⟨RX12, TX12, 33, rfl, by decide, rfl, rfl, Or.inl rfl⟩, (fun _ h => absurd h List.not_mem_nil)⟩)⟩
set_option maxRecDepth 10000 in
theorem fok95 : mFSok (mFS.getD 95 (0, 0, "", "", "", none, 0, [])) := ⟨wd1090, (List.forall_mem_cons.mpr ⟨⟨RX12, TX12, 33, rfl, by decide, rfl, rfl, Or.inl rfl⟩, (fun _ h => absurd h List.not_mem_nil)⟩)⟩
set_option maxRecDepth 10000 in
theorem fok96 : mFSok (mFS.getD 96 (0, 0, "", "", "", none, 0, [])) := ⟨wd1091, (List.forall_mem_cons.mpr ⟨⟨RX12, TX12, 33, rfl, by decide, rfl, rfl, Or.inl rfl⟩, (fun _ h => absurd h List.not_mem_nil)⟩)⟩
set_option maxRecDepth 10000 in
theorem fok97 : mFSok (mFS.getD 97 (0, 0, "", "", "", none, 0, [])) := ⟨wd1095, (List.forall_mem_cons.mpr ⟨⟨RX12, TX12, 33, rfl, by decide, rfl, rfl, Or.inl rfl⟩, (fun _ h => absurd h List.not_mem_nil)⟩)⟩
set_option maxRecDepth 10000 in
theorem fok98 : mFSok (mFS.getD 98 (0, 0, "", "", "", none, 0, [])) := ⟨wd1100, (List.forall_mem_cons.mpr ⟨⟨RX12, TX12, 33, rfl, by decide, rfl, rfl, Or.inl rfl⟩, (fun _ h => absurd h List.not_mem_nil)⟩)⟩
set_option maxRecDepth 10000 in
theorem fok99 : mFSok (mFS.getD 99 (0, 0, "", "", "", none, 0, [])) := ⟨wd1101, (List.forall_mem_cons.mpr ⟨⟨RX12, TX12, 33, rfl, by decide, rfl, rfl, Or.inl rfl⟩, (fun _ h => absurd h List.not_mem_nil)⟩)⟩
set_option maxRecDepth 10000 in
theorem fok100 : mFSok (mFS.getD 100 (0, 0, "", "", "", none, 0, [])) := ⟨wd1102, (List.forall_mem_cons.mpr ⟨⟨RX12, TX12, 33, rfl, by decide, rfl, rfl, Or.inl rfl⟩, (fun _ h => absurd h List.not_mem_nil)⟩)⟩
set_option maxRecDepth 10000 in
theorem fok101 : mFSok (mFS.getD 101 (0, 0, "", "", "", none, 0, [])) := ⟨wd1103, (List.forall_mem_cons.mpr ⟨⟨RX12, TX12, 33, rfl, by decide, rfl, rfl, Or.inl rfl⟩, (fun _ h => absurd h List.not_mem_nil)⟩)⟩
set_option maxRecDepth 10000 in
theorem fok102 : mFSok (mFS.getD 102 (0, 0, "", "", "", none, 0, [])) := ⟨wd1104, (List.forall_mem_cons.mpr ⟨⟨RX12, TX12, 33, rfl, by decide, rfl, rfl, Or.inl rfl⟩, (fun _ h => absurd h List.not_mem_nil)⟩)⟩
set_option maxRecDepth 10000 in
theorem fok103 : mFSok (mFS.getD 103 (0, 0, "", "", "", none, 0, [])) := ⟨wd1105, (List.forall_mem_cons.mpr ⟨⟨RX12, TX12, 33, rfl, by decide, rfl, rfl, Or.inl rfl⟩, (fun _ h => absurd h List.not_mem_nil)⟩)⟩
set_option maxRecDepth 10000 in
theorem fok104 : mFSok (mFS.getD 104 (0, 0, "", "", "", none, 0, [])) := ⟨wd1107, (List.forall_mem_cons.mpr ⟨⟨RX12, TX12, 33, rfl, by decide, rfl, rfl, Or.inl rfl⟩, (fun _ h => absurd h List.not_mem_nil)⟩)⟩
set_option maxRecDepth 10000 in
theorem fok105 : mFSok (mFS.getD 105 (0, 0, "", "", "", none, 0, [])) := ⟨wd1108, (List.forall_mem_cons.mpr ⟨⟨RX12, TX12, 33, rfl, by decide, rfl, rfl, Or.inl rfl⟩, (fun _ h => absurd h List.not_mem_nil)⟩)⟩
set_option maxRecDepth 10000 in
theorem fok106 : mFSok (mFS.getD 106 (0, 0, "", "", "", none, 0, [])) := ⟨wd1109, (List.forall_mem_cons.mpr ⟨⟨RX12, TX12, 33, rfl, by decide, rfl, rfl, Or.inl rfl⟩, (fun _ h => absurd h List.not_mem_nil)⟩)⟩
set_option maxRecDepth 10000 in
theorem fok107 : mFSok (mFS.getD 107 (0, 0, "", "", "", none, 0, [])) := ⟨wd1110, (List.forall_mem_cons.mpr ⟨⟨RX12, TX12, 33, rfl, by decide, rfl, rfl, Or.inl rfl⟩, (fun _ h => absurd h List.not_mem_nil)⟩)⟩
set_option maxRecDepth 10000 in
theorem fok108 : mFSok (mFS.getD 108 (0, 0, "", "", "", none, 0, [])) := ⟨wd1111, (List.forall_mem_cons.mpr ⟨⟨RX12, TX12, 33, rfl, by decide, rfl, rfl, Or.inl rfl⟩, (fun _ h => absurd h List.not_mem_nil)⟩)⟩
set_option maxRecDepth 10000 in
theorem fok109 : mFSok (mFS.getD 109 (0, 0, "", "", "", none, 0, [])) := ⟨wd1112, (List.forall_mem_cons.mpr ⟨⟨RX12, TX12, 33, rfl, by decide, rfl, rfl, Or.inl rfl⟩, (fun _ h => absurd h List.not_mem_nil)⟩)⟩
set_option maxRecDepth 10000 in
theorem fok110 : mFSok (mFS.getD 110 (0, 0, "", "", "", none, 0, [])) := ⟨wd1086, (List.forall_mem_cons.mpr ⟨⟨RX12, TX12, 33, rfl, by decide, rfl, rfl, Or.inl rfl⟩, (fun _ h => absurd h List.not_mem_nil)⟩)⟩
set_option maxRecDepth 10000 in
theorem fok111 : mFSok (mFS.getD 111 (0, 0, "", "", "", none, 0, [])) := ⟨wd1085, (List.forall_mem_cons.mpr ⟨⟨RX12, TX12, 33, rfl, by decide, rfl, rfl, Or.inl rfl⟩, (fun _ h => absurd h List.not_mem_nil)⟩)⟩
set_option maxRecDepth 10000 in
theorem fok112 : mFSok (mFS.getD 112 (0, 0, "", "", "", none, 0, [])) := ⟨wd1087, (List.forall_mem_cons.mpr ⟨⟨RX12, TX12, 33, rfl, by decide, rfl, rfl, Or.inl rfl⟩, (fun _ h => absurd h List.not_mem_nil)⟩)⟩
set_option maxRecDepth 10000 in
theorem fok113 : mFSok (mFS.getD 113 (0, 0, "", "", "", none, 0, [])) := ⟨wd1092, (List.forall_mem_cons.mpr ⟨⟨RX12, TX12, 33, rfl, by decide, rfl, rfl, Or.inl rfl⟩, (fun _ h => absurd h List.not_mem_nil)⟩)⟩
set_option maxRecDepth 10000 in
theorem fok114 : mFSok (mFS.getD 114 (0, 0, "", "", "", none, 0, [])) := ⟨wd1093, (List.forall_mem_cons.mpr ⟨⟨RX12, TX12, 33, rfl, by decide, rfl, rfl, Or.inl rfl⟩, (fun _ h => absurd h List.not_mem_nil)⟩)⟩
set_option maxRecDepth 10000 in
theorem fok115 : mFSok (mFS.getD 115 (0, 0, "", "", "", none, 0, [])) := ⟨wd1094, (List.forall_mem_cons.mpr ⟨⟨RX12, TX12, 33, rfl, by decide, rfl, rfl, Or.inl rfl⟩, (fun _ h => absurd h List.not_mem_nil)⟩)⟩
set_option maxRecDepth 10000 in
theorem fok116 : mFSok (mFS.getD 116 (0, 0, "", "", "", none, 0, [])) := ⟨wd1099, (List.forall_mem_cons.mpr ⟨⟨RX12, TX12, 33, rfl, by decide, rfl, rfl, Or.inl rfl⟩, (fun _ h => absurd h List.not_mem_nil)⟩)⟩
set_option maxRecDepth 10000 in
theorem fok117 : mFSok (mFS.getD 117 (0, 0, "", "", "", none, 0, [])) := ⟨wd1097, (List.forall_mem_cons.mpr ⟨⟨RX12, TX12, 33, rfl, by decide, rfl, rfl, Or.inl rfl⟩, (fun _ h => absurd h List.not_mem_nil)⟩)⟩
set_option maxRecDepth 10000 in
theorem fok118 : mFSok (mFS.getD 118 (0, 0, "", "", "", none, 0, [])) := ⟨wd1098, (List.forall_mem_cons.mpr ⟨⟨RX12, TX12, 33, rfl, by decide, rfl, rfl, Or.inl rfl⟩, (fun _ h => absurd h List.not_mem_nil)⟩)⟩
set_option maxRecDepth 10000 in
theorem fok119 : mFSok (mFS.getD 119 (0, 0, "", "", "", none, 0, [])) := ⟨wd1096, (List.forall_mem_cons.mpr ⟨⟨RX12, TX12, 33, rfl, by decide, rfl, rfl, Or.inl rfl⟩, (fun _ h => absurd h List.not_mem_nil)⟩)⟩
set_option maxRecDepth 10000 in
theorem fok120 : mFSok (mFS.getD 120 (0, 0, "", "", "", none, 0, [])) := ⟨wd1106, (List.forall_mem_cons.mpr ⟨⟨RX12, TX12, 33, rfl, by decide, rfl, rfl, Or.inl rfl⟩, (fun _ h => absurd h List.not_mem_nil)⟩)⟩
set_option maxRecDepth 10000 in
theorem vok0 : mVSok (mVS.getD 0 (0, 0, ⟨"", "", ""⟩, none, "", 0, [])) := (List.forall_mem_cons.mpr ⟨⟨RX2, TX2, 8, rfl, mco24, rfl, ⟨rfl, rfl, rfl, wd827, wd770, wd771, wd93⟩⟩, (fun _ h => absurd h List.not_mem_nil)⟩)
set_option maxRecDepth 10000 in
theorem vok1 : mVSok (mVS.getD 1 (0, 0, ⟨"", "", ""⟩, none, "", 0, [])) := (List.forall_mem_cons.mpr ⟨⟨RX0, TX0, 6, rfl, mco52, rfl, ⟨rfl, rfl, wd828, wd829, wd831, wd832, wd97⟩⟩, (fun _ h => absurd h List.not_mem_nil)⟩)
set_option maxRecDepth 10000 in
theorem vok2 : mVSok (mVS.getD 2 (0, 0, ⟨"", "", ""⟩, none, "", 0, [])) := (List.forall_mem_cons.mpr ⟨⟨RX0, TX0, 6, rfl, mco53, rfl, ⟨rfl, rfl, wd834, wd835, wd837, wd838, wd97⟩⟩, (fun _ h => absurd h List.not_mem_nil)⟩)
set_option maxRecDepth 10000 in
theorem vok3 : mVSok (mVS.getD 3 (0, 0, ⟨"", "", ""⟩, none, "", 0, [])) := (List.forall_mem_cons.mpr ⟨⟨RX1, TX1, 6, rfl, mco54, rfl, ⟨rfl, rfl, wd845, wd846, wd848, wd849, wd97⟩⟩, (fun _ h => absurd h List.not_mem_nil)⟩)
set_option maxRecDepth 10000 in
theorem vok4 : mVSok (mVS.getD 4 (0, 0, ⟨"", "", ""⟩, none, "", 0, [])) := (List.forall_mem_cons.mpr ⟨⟨RX2, TX2, 8, rfl, mco23, rfl, ⟨rfl, rfl, rfl, wd851, wd659, wd660, wd93⟩⟩, (fun _ h => absurd h List.not_mem_nil)⟩)
set_option maxRecDepth 10000 in
theorem vok5 : mVSok (mVS.getD 5 (0, 0, ⟨"", "", ""⟩, none, "", 0, [])) := (List.forall_mem_cons.mpr ⟨⟨RX1, TX1, 6, rfl, mco53, rfl, ⟨rfl, rfl, wd852, wd853, wd854, wd838, wd97⟩⟩, (fun _ h => absurd h List.not_mem_nil)⟩)
set_option maxRecDepth 10000 in
theorem vok6 : mVSok (mVS.getD 6 (0, 0, ⟨"", "", ""⟩, none, "", 0, [])) := (List.forall_mem_cons.mpr ⟨⟨RX2, TX2, 8, rfl, mco13, rfl, ⟨rfl, rfl, rfl, wd467, wd468, wd469, wd93⟩⟩, (fun _ h => absurd h List.not_mem_nil)⟩)
set_option maxRecDepth 10000 in
theorem vok7 : mVSok (mVS.getD 7 (0, 0, ⟨"", "", ""⟩, none, "", 0, [])) := (List.forall_mem_cons.mpr ⟨⟨RX2, TX2, 8, rfl, mco17, rfl, ⟨rfl, rfl, rfl, wd489, wd482, wd483, wd93⟩⟩, (fun _ h => absurd h List.not_mem_nil)⟩)
set_option maxRecDepth 10000 in
theorem vok8 : mVSok (mVS.getD 8 (0, 0, ⟨"", "", ""⟩, none, "", 0, [])) := (List.forall_mem_cons.mpr ⟨⟨RX2, TX2, 8, rfl, mco19, rfl, ⟨rfl, rfl, rfl, wd537, wd538, wd539, wd93⟩⟩, (fun _ h => absurd h List.not_mem_nil)⟩)
set_option maxRecDepth 10000 in
theorem vok9 : mVSok (mVS.getD 9 (0, 0, ⟨"", "", ""⟩, none, "", 0, [])) := (List.forall_mem_cons.mpr ⟨⟨RX2, TX2, 8, rfl, mco32, rfl, ⟨rfl, rfl, rfl, wd565, wd546, wd547, wd93⟩⟩, (fun _ h => absurd h List.not_mem_nil)⟩)
set_option maxRecDepth 10000 in
theorem vok10 : mVSok (mVS.getD 10 (0, 0, ⟨"", "", ""⟩, none, "", 0, [])) := (List.forall_mem_cons.mpr ⟨⟨RX2, TX2, 8, rfl, mco22, rfl, ⟨rfl, rfl, rfl, wd662, wd621, wd622, wd93⟩⟩, (fun _ h => absurd h List.not_mem_nil)⟩)
set_option maxRecDepth 10000 in
theorem vok11 : mVSok (mVS.getD 11 (0, 0, ⟨"", "", ""⟩, none, "", 0, [])) := (List.forall_mem_cons.mpr ⟨⟨RX2, TX2, 8, rfl, mco26, rfl, ⟨rfl, rfl, rfl, wd506, wd508, wd6, wd93⟩⟩, (fun _ h => absurd h List.not_mem_nil)⟩)
set_option maxRecDepth 10000 in
theorem vok12 : mVSok (mVS.getD 12 (0, 0, ⟨"", "", ""⟩, none, "", 0, [])) := (List.forall_mem_cons.mpr ⟨⟨RX2, TX2, 8, rfl, mco20, rfl, ⟨rfl, rfl, rfl, wd533, wd535, wd9, wd93⟩⟩, (fun _ h => absurd h List.not_mem_nil)⟩)
set_option maxRecDepth 10000 in
theorem vok13 : mVSok (mVS.getD 13 (0, 0, ⟨"", "", ""⟩, none, "", 0, [])) := (List.forall_mem_cons.mpr ⟨⟨RX2, TX2, 8, rfl, mco28, rfl, ⟨rfl, rfl, rfl, wd513, wd515, wd7, wd93⟩⟩, (fun _ h => absurd h List.not_mem_nil)⟩)
set_option maxRecDepth 10000 in
theorem vok14 : mVSok (mVS.getD 14 (0, 0, ⟨"", "", ""⟩, none, "", 0, [])) := (List.forall_mem_cons.mpr ⟨⟨RX2, TX2, 8, rfl, mco30, rfl, ⟨rfl, rfl, rfl, wd526, wd528, wd8, wd93⟩⟩, (fun _ h => absurd h List.not_mem_nil)⟩)
set_option maxRecDepth 10000 in
theorem vok15 : mVSok (mVS.getD 15 (0, 0, ⟨"", "", ""⟩, none, "", 0, [])) := (List.forall_mem_cons.mpr ⟨⟨RX2, TX2, 8, rfl, mco34, rfl, ⟨rfl, rfl, rfl, wd722, wd554, wd555, wd93⟩⟩, (fun _ h => absurd h List.not_mem_nil)⟩)
set_option maxRecDepth 10000 in
theorem vok16 : mVSok (mVS.getD 16 (0, 0, ⟨"", "", ""⟩, none, "", 0, [])) := (List.forall_mem_cons.mpr ⟨⟨RX2, TX2, 8, rfl, mco35, rfl, ⟨rfl, rfl, rfl, wd723, wd558, wd559, wd93⟩⟩, (fun _ h => absurd h List.not_mem_nil)⟩)
set_option maxRecDepth 10000 in
theorem vok17 : mVSok (mVS.getD 17 (0, 0, ⟨"", "", ""⟩, none, "", 0, [])) := (List.forall_mem_cons.mpr ⟨⟨RX2, TX2, 8, rfl, mco33, rfl, ⟨rfl, rfl, rfl, wd549, wd551, wd11, wd93⟩⟩, (fun _ h => absurd h List.not_mem_nil)⟩)
set_option maxRecDepth 10000 in
theorem vok18 : mVSok (mVS.getD 18 (0, 0, ⟨"", "", ""⟩, none, "", 0, [])) := (List.forall_mem_cons.mpr ⟨⟨RX2, TX2, 8, rfl, mco24, rfl, ⟨rfl, rfl, rfl, wd858, wd770, wd771, wd93⟩⟩, (fun _ h => absurd h List.not_mem_nil)⟩)
set_option maxRecDepth 10000 in
theorem vok19 : mVSok (mVS.getD 19 (0, 0, ⟨"", "", ""⟩, none, "", 0, [])) := (List.forall_mem_cons.mpr ⟨⟨RX3, TX3, 7, rfl, mco53, rfl, ⟨rfl, rfl, wd860, wd861, wd862, wd838, wd97⟩⟩, (fun _ h => absurd h List.not_mem_nil)⟩)
set_option maxRecDepth 10000 in
theorem vok20 : mVSok (mVS.getD 20 (0, 0, ⟨"", "", ""⟩, none, "", 0, [])) := (List.forall_mem_cons.mpr ⟨⟨RX2, TX2, 8, rfl, mco15, rfl, ⟨rfl, rfl, rfl, wd866, wd495, wd496, wd93⟩⟩, (fun _ h => absurd h List.not_mem_nil)⟩)
set_option maxRecDepth 10000 in
theorem vok21 : mVSok (mVS.getD 21 (0, 0, ⟨"", "", ""⟩, none, "", 0, [])) := (List.forall_mem_cons.mpr ⟨⟨RX5, TX5, 8, rfl, mco53, rfl, ⟨rfl, rfl, wd872, wd873, wd874, wd838, wd97⟩⟩, (fun _ h => absurd h List.not_mem_nil)⟩)
set_option maxRecDepth 10000 in
theorem vok22 : mVSok (mVS.getD 22 (0, 0, ⟨"", "", ""⟩, none, "", 0, [])) := (List.forall_mem_cons.mpr ⟨⟨RX2, TX2, 8, rfl, mco23, rfl, ⟨rfl, rfl, rfl, wd878, wd659, wd660, wd93⟩⟩, (fun _ h => absurd h List.not_mem_nil)⟩)
set_option maxRecDepth 10000 in
theorem vok23 : mVSok (mVS.getD 23 (0, 0, ⟨"", "", ""⟩, none, "", 0, [])) := (List.forall_mem_cons.mpr ⟨⟨RX6, TX6, 8, rfl, mco52, rfl, ⟨rfl, rfl, wd879, wd880, wd881, wd832, wd97⟩⟩, (fun _ h => absurd h List.not_mem_nil)⟩)
set_option maxRecDepth 10000 in
theorem vok24 : mVSok (mVS.getD 24 (0, 0, ⟨"", "", ""⟩, none, "", 0, [])) := (List.forall_mem_cons.mpr ⟨⟨RX6, TX6, 8, rfl, mco44, rfl, ⟨rfl, rfl, rfl, wd882, wd884, wd24, wd101⟩⟩, (fun _ h => absurd h List.not_mem_nil)⟩)
set_option maxRecDepth 10000 in
theorem vok25 : mVSok (mVS.getD 25 (0, 0, ⟨"", "", ""⟩, none, "", 0, [])) := (List.forall_mem_cons.mpr ⟨⟨RX6, TX6, 8, rfl, mco54, rfl, ⟨rfl, rfl, wd886, wd887, wd888, wd849, wd97⟩⟩, (fun _ h => absurd h List.not_mem_nil)⟩)
set_option maxRecDepth 10000 in
theorem vok26 : mVSok (mVS.getD 26 (0, 0, ⟨"", "", ""⟩, none, "", 0, [])) := (List.forall_mem_cons.mpr ⟨⟨RX2, TX2, 8, rfl, mco20, rfl, ⟨_, rfl, rfl, rfl, wd645, wd535, wd9, wd93⟩⟩, (fun _ h => absurd h List.not_mem_nil)⟩)
set_option maxRecDepth 10000 in
theorem vok27 : mVSok (mVS.getD 27 (0, 0, ⟨"", "", ""⟩, none, "", 0, [])) := (List.forall_mem_cons.mpr ⟨⟨RX9, TX9, 4, rfl, mco61, rfl, ⟨rfl, rfl, rfl, wd1048, wd1050, wd30, wd96⟩⟩, (fun _ h => absurd h List.not_mem_nil)⟩)
set_option maxRecDepth 10000 in
theorem vok28 : mVSok (mVS.getD 28 (0, 0, ⟨"", "", ""⟩, none, "", 0, [])) := (List.forall_mem_cons.mpr ⟨⟨RX10, TX10, 2, rfl, mco66, rfl, ⟨rfl, rfl, rfl, wd445, wd446, wd447, wd95⟩⟩, (fun _ h => absurd h List.not_mem_nil)⟩)
set_option maxRecDepth 10000 in
theorem vok29 : mVSok (mVS.getD 29 (0, 0, ⟨"", "", ""⟩, none, "", 0, [])) := (List.forall_mem_cons.mpr ⟨⟨RX10, TX10, 2, rfl, mco67, rfl, ⟨rfl, rfl, rfl, wd452, wd453, wd454, wd95⟩⟩, (fun _ h => absurd h List.not_mem_nil)⟩)
set_option maxRecDepth 10000 in
theorem vok30 : mVSok (mVS.getD 30 (0, 0, ⟨"", "", ""⟩, none, "", 0, [])) := (List.forall_mem_cons.mpr ⟨⟨RX2, TX2, 8, rfl, mco15, rfl, ⟨rfl, rfl, rfl, wd494, wd495, wd496, wd93⟩⟩, (fun _ h => absurd h List.not_mem_nil)⟩)
set_option maxRecDepth 10000 in
theorem vok31 : mVSok (mVS.getD 31 (0, 0, ⟨"", "", ""⟩, none, "", 0, [])) := (List.forall_mem_cons.mpr ⟨⟨RX2, TX2, 8, rfl, mco16, rfl, ⟨rfl, rfl, rfl, wd580, wd581, wd582, wd93⟩⟩, (fun _ h => absurd h List.not_mem_nil)⟩)
set_option maxRecDepth 10000 in
theorem vok32 : mVSok (mVS.getD 32 (0, 0, ⟨"", "", ""⟩, none, "", 0, [])) := (List.forall_mem_cons.mpr ⟨⟨RX9, TX9, 4, rfl, mco59, rfl, ⟨rfl, rfl, rfl, wd918, wd919, wd920, wd96⟩⟩, (fun _ h => absurd h List.not_mem_nil)⟩)
set_option maxRecDepth 10000 in
theorem vok33 : mVSok (mVS.getD 33 (0, 0, ⟨"", "", ""⟩, none, "", 0, [])) := (List.forall_mem_cons.mpr ⟨⟨RX11, TX11, 18, rfl, mco71, rfl, ⟨rfl, rfl, rfl, wd429, wd431, wd0, wd92⟩⟩, (fun _ h => absurd h List.not_mem_nil)⟩)
set_option maxRecDepth 10000 in
theorem vok34 : mVSok (mVS.getD 34 (0, 0, ⟨"", "", ""⟩, none, "", 0, [])) := (List.forall_mem_cons.mpr ⟨⟨RX10, TX10, 2, rfl, mco65, rfl, ⟨rfl, rfl, rfl, wd433, wd434, wd435, wd95⟩⟩, (fun _ h => absurd h List.not_mem_nil)⟩)
set_option maxRecDepth 10000 in
theorem vok35 : mVSok (mVS.getD 35 (0, 0, ⟨"", "", ""⟩, none, "", 0, [])) := (List.forall_mem_cons.mpr ⟨⟨RX10, TX10, 2, rfl, mco69, rfl, ⟨rfl, rfl, rfl, wd441, wd442, wd443, wd95⟩⟩, (fun _ h => absurd h List.not_mem_nil)⟩)
set_option maxRecDepth 10000 in
theorem vok36 : mVSok (mVS.getD 36 (0, 0, ⟨"", "", ""⟩, none, "", 0, [])) := (List.forall_mem_cons.mpr ⟨⟨RX11, TX11, 18, rfl, mco81, rfl, ⟨rfl, rfl, rfl, wd456, wd458, wd1, wd92⟩⟩, (fun _ h => absurd h List.not_mem_nil)⟩)
set_option maxRecDepth 10000 in
theorem vok37 : mVSok (mVS.getD 37 (0, 0, ⟨"", "", ""⟩, none, "", 0, [])) := (List.forall_mem_cons.mpr ⟨⟨RX2, TX2, 8, rfl, mco12, rfl, ⟨rfl, rfl, rfl, wd460, wd461, wd462, wd93⟩⟩, (fun _ h => absurd h List.not_mem_nil)⟩)
set_option maxRecDepth 10000 in
theorem vok38 : mVSok (mVS.getD 38 (0, 0, ⟨"", "", ""⟩, none, "", 0, [])) := (List.forall_mem_cons.mpr ⟨⟨RX11, TX11, 18, rfl, mco82, rfl, ⟨rfl, rfl, rfl, wd471, wd473, wd2, wd92⟩⟩, (fun _ h => absurd h List.not_mem_nil)⟩)
set_option maxRecDepth 10000 in
theorem vok39 : mVSok (mVS.getD 39 (0, 0, ⟨"", "", ""⟩, none, "", 0, [])) := (List.forall_mem_cons.mpr ⟨⟨RX10, TX10, 2, rfl, mco66, rfl, ⟨rfl, rfl, rfl, wd476, wd446, wd447, wd95⟩⟩, (fun _ h => absurd h List.not_mem_nil)⟩)
set_option maxRecDepth 10000 in
theorem vok40 : mVSok (mVS.getD 40 (0, 0, ⟨"", "", ""⟩, none, "", 0, [])) := (List.forall_mem_cons.mpr ⟨⟨RX7, TX7, 4, rfl, mco46, rfl, ⟨rfl, rfl, rfl, wd568, wd569, wd570, wd94⟩⟩, (fun _ h => absurd h List.not_mem_nil)⟩)
set_option maxRecDepth 10000 in
theorem vok41 : mVSok (mVS.getD 41 (0, 0, ⟨"", "", ""⟩, none, "", 0, [])) := (List.forall_mem_cons.mpr ⟨⟨RX10, TX10, 2, rfl, mco67, rfl, ⟨rfl, rfl, rfl, wd475, wd453, wd454, wd95⟩⟩, (fun _ h => absurd h List.not_mem_nil)⟩)
set_option maxRecDepth 10000 in
theorem vok42 : mVSok (mVS.getD 42 (0, 0, ⟨"", "", ""⟩, none, "", 0, [])) := (List.forall_mem_cons.mpr ⟨⟨RX11, TX11, 18, rfl, mco83, rfl, ⟨rfl, rfl, rfl, wd477, wd479, wd3, wd92⟩⟩, (fun _ h => absurd h List.not_mem_nil)⟩)
set_option maxRecDepth 10000 in
theorem vok43 : mVSok (mVS.getD 43 (0, 0, ⟨"", "", ""⟩, none, "", 0, [])) := (List.forall_mem_cons.mpr ⟨⟨RX11, TX11, 18, rfl, mco84, rfl, ⟨rfl, rfl, rfl, wd490, wd492, wd4, wd92⟩⟩, (fun _ h => absurd h List.not_mem_nil)⟩)
set_option maxRecDepth 10000 in
theorem vok44 : mVSok (mVS.getD 44 (0, 0, ⟨"", "", ""⟩, none, "", 0, [])) := (List.forall_mem_cons.mpr ⟨⟨RX11, TX11, 18, rfl, mco85, rfl, ⟨rfl, rfl, rfl, wd498, wd500, wd5, wd92⟩⟩, (fun _ h => absurd h List.not_mem_nil)⟩)
set_option maxRecDepth 10000 in
theorem vok45 : mVSok (mVS.getD 45 (0, 0, ⟨"", "", ""⟩, none, "", 0, [])) := (List.forall_mem_cons.mpr ⟨⟨RX11, TX11, 18, rfl, mco86, rfl, ⟨rfl, rfl, rfl, wd541, wd543, wd10, wd92⟩⟩, (fun _ h => absurd h List.not_mem_nil)⟩)
set_option maxRecDepth 10000 in
theorem vok46 : mVSok (mVS.getD 46 (0, 0, ⟨"", "", ""⟩, none, "", 0, [])) := (List.forall_mem_cons.mpr ⟨⟨RX2, TX2, 8, rfl, mco34, rfl, ⟨rfl, rfl, rfl, wd553, wd554, wd555, wd93⟩⟩, (fun _ h => absurd h List.not_mem_nil)⟩)
set_option maxRecDepth 10000 in
theorem vok47 : mVSok (mVS.getD 47 (0, 0, ⟨"", "", ""⟩, none, "", 0, [])) := (List.forall_mem_cons.mpr ⟨⟨RX2, TX2, 8, rfl, mco35, rfl, ⟨rfl, rfl, rfl, wd557, wd558, wd559, wd93⟩⟩, (fun _ h => absurd h List.not_mem_nil)⟩)
set_option maxRecDepth 10000 in
theorem vok48 : mVSok (mVS.getD 48 (0, 0, ⟨"", "", ""⟩, none, "", 0, [])) := (List.forall_mem_cons.mpr ⟨⟨RX2, TX2, 8, rfl, mco21, rfl, ⟨rfl, rfl, rfl, wd561, wd562, wd563, wd93⟩⟩, (fun _ h => absurd h List.not_mem_nil)⟩)
set_option maxRecDepth 10000 in
theorem vok49 : mVSok (mVS.getD 49 (0, 0, ⟨"", "", ""⟩, none, "", 0, [])) := (List.forall_mem_cons.mpr ⟨⟨RX2, TX2, 8, rfl, mco17, rfl, ⟨rfl, rfl, rfl, wd481, wd482, wd483, wd93⟩⟩, (fun _ h => absurd h List.not_mem_nil)⟩)
set_option maxRecDepth 10000 in
theorem vok50 : mVSok (mVS.getD 50 (0, 0, ⟨"", "", ""⟩, none, "", 0, [])) := (List.forall_mem_cons.mpr ⟨⟨RX2, TX2, 8, rfl, mco18, rfl, ⟨rfl, rfl, rfl, wd485, wd486, wd487, wd93⟩⟩, (fun _ h => absurd h List.not_mem_nil)⟩)
set_option maxRecDepth 10000 in
theorem vok51 : mVSok (mVS.getD 51 (0, 0, ⟨"", "", ""⟩, none, "", 0, [])) := (List.forall_mem_cons.mpr ⟨⟨RX2, TX2, 8, rfl, mco25, rfl, ⟨rfl, rfl, rfl, wd502, wd503, wd504, wd93⟩⟩, (fun _ h => absurd h List.not_mem_nil)⟩)
set_option maxRecDepth 10000 in
theorem vok52 : mVSok (mVS.getD 52 (0, 0, ⟨"", "", ""⟩, none, "", 0, [])) := (List.forall_mem_cons.mpr ⟨⟨RX2, TX2, 8, rfl, mco32, rfl, ⟨rfl, rfl, rfl, wd545, wd546, wd547, wd93⟩⟩, (fun _ h => absurd h List.not_mem_nil)⟩)
set_option maxRecDepth 10000 in
theorem vok53 : mVSok (mVS.getD 53 (0, 0, ⟨"", "", ""⟩, none, "", 0, [])) := (List.forall_mem_cons.mpr ⟨⟨RX11, TX11, 18, rfl, mco77, rfl, ⟨rfl, rfl, rfl, wd576, wd578, wd12, wd92⟩⟩, (fun _ h => absurd h List.not_mem_nil)⟩)
set_option maxRecDepth 10000 in
theorem vok54 : mVSok (mVS.getD 54 (0, 0, ⟨"", "", ""⟩, none, "", 0, [])) := (List.forall_mem_cons.mpr ⟨⟨RX11, TX11, 18, rfl, mco76, rfl, ⟨rfl, rfl, rfl, wd594, wd596, wd13, wd92⟩⟩, (fun _ h => absurd h List.not_mem_nil)⟩)
set_option maxRecDepth 10000 in
theorem vok55 : mVSok (mVS.getD 55 (0, 0, ⟨"", "", ""⟩, none, "", 0, [])) := (List.forall_mem_cons.mpr ⟨⟨RX7, TX7, 4, rfl, mco47, rfl, ⟨rfl, rfl, rfl, wd614, wd615, wd616, wd94⟩⟩, (fun _ h => absurd h List.not_mem_nil)⟩)
set_option maxRecDepth 10000 in
theorem vok56 : mVSok (mVS.getD 56 (0, 0, ⟨"", "", ""⟩, none, "", 0, [])) := (List.forall_mem_cons.mpr ⟨⟨RX2, TX2, 8, rfl, mco22, rfl, ⟨rfl, rfl, rfl, wd620, wd621, wd622, wd93⟩⟩, (fun _ h => absurd h List.not_mem_nil)⟩)
set_option maxRecDepth 10000 in
theorem vok57 : mVSok (mVS.getD 57 (0, 0, ⟨"", "", ""⟩, none, "", 0, [])) := (List.forall_mem_cons.mpr ⟨⟨RX7, TX7, 4, rfl, mco48, rfl, ⟨rfl, rfl, rfl, wd640, wd641, wd642, wd94⟩⟩, (fun _ h => absurd h List.not_mem_nil)⟩)
set_option maxRecDepth 10000 in
theorem vok58 : mVSok (mVS.getD 58 (0, 0, ⟨"", "", ""⟩, none, "", 0, [])) := (List.forall_mem_cons.mpr ⟨⟨RX11, TX11, 18, rfl, mco97, rfl, ⟨rfl, rfl, rfl, wd654, wd656, wd15, wd92⟩⟩, (fun _ h => absurd h List.not_mem_nil)⟩)
set_option maxRecDepth 10000 in
theorem vok59 : mVSok (mVS.getD 59 (0, 0, ⟨"", "", ""⟩, none, "", 0, [])) := (List.forall_mem_cons.mpr ⟨⟨RX11, TX11, 18, rfl, mco98, rfl, ⟨rfl, rfl, rfl, wd650, wd652, wd14, wd92⟩⟩, (fun _ h => absurd h List.not_mem_nil)⟩)
set_option maxRecDepth 10000 in
theorem vok60 : mVSok (mVS.getD 60 (0, 0, ⟨"", "", ""⟩, none, "", 0, [])) := (List.forall_mem_cons.mpr ⟨⟨RX2, TX2, 8, rfl, mco23, rfl, ⟨rfl, rfl, rfl, wd658, wd659, wd660, wd93⟩⟩, (fun _ h => absurd h List.not_mem_nil)⟩)
set_option maxRecDepth 10000 in
theorem vok61 : mVSok (mVS.getD 61 (0, 0, ⟨"", "", ""⟩, none, "", 0, [])) := (List.forall_mem_cons.mpr ⟨⟨RX2, TX2, 8, rfl, mco14, rfl, ⟨rfl, rfl, rfl, wd702, wd703, wd704, wd93⟩⟩, (fun _ h => absurd h List.not_mem_nil)⟩)
set_option maxRecDepth 10000 in
theorem vok62 : mVSok (mVS.getD 62 (0, 0, ⟨"", "", ""⟩, none, "", 0, [])) := (List.forall_mem_cons.mpr ⟨⟨RX11, TX11, 18, rfl, mco109, rfl, ⟨rfl, rfl, rfl, wd710, wd712, wd16, wd92⟩⟩, (fun _ h => absurd h List.not_mem_nil)⟩)
set_option maxRecDepth 10000 in
theorem vok63 : mVSok (mVS.getD 63 (0, 0, ⟨"", "", ""⟩, none, "", 0, [])) := (List.forall_mem_cons.mpr ⟨⟨RX2, TX2, 8, rfl, mco31, rfl, ⟨rfl, rfl, rfl, wd718, wd719, wd720, wd93⟩⟩, (fun _ h => absurd h List.not_mem_nil)⟩)
set_option maxRecDepth 10000 in
theorem vok64 : mVSok (mVS.getD 64 (0, 0, ⟨"", "", ""⟩, none, "", 0, [])) := (List.forall_mem_cons.mpr ⟨⟨RX11, TX11, 18, rfl, mco111, rfl, ⟨rfl, rfl, rfl, wd724, wd726, wd17, wd92⟩⟩, (fun _ h => absurd h List.not_mem_nil)⟩)
set_option maxRecDepth 10000 in
theorem vok65 : mVSok (mVS.getD 65 (0, 0, ⟨"", "", ""⟩, none, "", 0, [])) := (List.forall_mem_cons.mpr ⟨⟨RX11, TX11, 18, rfl, mco113, rfl, ⟨rfl, rfl, rfl, wd735, wd737, wd18, wd92⟩⟩, (fun _ h => absurd h List.not_mem_nil)⟩)
set_option maxRecDepth 10000 in
theorem vok66 : mVSok (mVS.getD 66 (0, 0, ⟨"", "", ""⟩, none, "", 0, [])) := (List.forall_mem_cons.mpr ⟨⟨RX11, TX11, 18, rfl, mco116, rfl, ⟨rfl, rfl, rfl, wd761, wd763, wd19, wd92⟩⟩, (fun _ h => absurd h List.not_mem_nil)⟩)
set_option maxRecDepth 10000 in
theorem vok67 : mVSok (mVS.getD 67 (0, 0, ⟨"", "", ""⟩, none, "", 0, [])) := (List.forall_mem_cons.mpr ⟨⟨RX2, TX2, 8, rfl, mco24, rfl, ⟨rfl, rfl, rfl, wd769, wd770, wd771, wd93⟩⟩, (fun _ h => absurd h List.not_mem_nil)⟩)
set_option maxRecDepth 10000 in
theorem vok68 : mVSok (mVS.getD 68 (0, 0, ⟨"", "", ""⟩, none, "", 0, [])) := (List.forall_mem_cons.mpr ⟨⟨RX11, TX11, 18, rfl, mco119, rfl, ⟨rfl, rfl, rfl, wd773, wd775, wd20, wd92⟩⟩, (fun _ h => absurd h List.not_mem_nil)⟩)
set_option maxRecDepth 10000 in
theorem vok69 : mVSok (mVS.getD 69 (0, 0, ⟨"", "", ""⟩, none, "", 0, [])) := (List.forall_mem_cons.mpr ⟨⟨RX11, TX11, 18, rfl, mco122, rfl, ⟨rfl, rfl, rfl, wd787, wd789, wd21, wd92⟩⟩, (fun _ h => absurd h List.not_mem_nil)⟩)
set_option maxRecDepth 10000 in
theorem vok70 : mVSok (mVS.getD 70 (0, 0, ⟨"", "", ""⟩, none, "", 0, [])) := (List.forall_mem_cons.mpr ⟨⟨RX11, TX11, 18, rfl, mco121, rfl, ⟨rfl, rfl, rfl, wd791, wd793, wd22, wd92⟩⟩, (fun _ h => absurd h List.not_mem_nil)⟩)
set_option maxRecDepth 10000 in
theorem vok71 : mVSok (mVS.getD 71 (0, 0, ⟨"", "", ""⟩, none, "", 0, [])) := (List.forall_mem_cons.mpr ⟨⟨RX0, TX0, 6, rfl, mco8, rfl, ⟨rfl, wd820, wd822, wd823, wd824, wd100, wd821, (mcp 8 (by decide) (by decide)).1, (mcp 8 (by decide) (by decide)).2.1, mds8⟩⟩, (List.forall_mem_cons.mpr ⟨⟨RX1, TX1, 6, rfl, mco10, rfl, ⟨rfl, wd820, wd822, wd842, wd843, wd98, wd821, (mcp 8 (by decide) (by decide)).1, (mcp 8 (by decide) (by decide)).2.1, mds10⟩⟩, (List.forall_mem_cons.mpr ⟨⟨RX3, TX3, 7, rfl, mco37, rfl, ⟨rfl, wd820, wd822, wd855, wd856, wd103, wd821, (mcp 8 (by decide) (by decide)).1, (mcp 8 (by decide) (by decide)).2.1, mds37⟩⟩, (List.forall_mem_cons.mpr ⟨⟨RX4, TX4, 7, rfl, mco39, rfl, ⟨rfl, wd820, wd822, wd863, wd864, wd99, wd821, (mcp 8 (by decide) (by decide)).1, (mcp 8 (by decide) (by decide)).2.1, mds39⟩⟩, (List.forall_mem_cons.mpr ⟨⟨RX5, TX5, 8, rfl, mco41, rfl, ⟨rfl, wd820, wd822, wd869, wd870, wd102, wd821, (mcp 8 (by decide) (by decide)).1, (mcp 8 (by decide) (by decide)).2.1, mds41⟩⟩, (List.forall_mem_cons.mpr ⟨⟨RX6, TX6, 8, rfl, mco43, rfl, ⟨rfl, wd820, wd822, wd875, wd876, wd101, wd821, (mcp 8 (by decide) (by decide)).1, (mcp 8 (by decide) (by decide)).2.1, mds43⟩⟩, (fun _ h => absurd h List.not_mem_nil)⟩)⟩)⟩)⟩)⟩)⟩)
set_option maxRecDepth 10000 in
theorem vok72 : mVSok (mVS.getD 72 (0, 0, ⟨"", "", ""⟩, none, "", 0, [])) := (List.forall_mem_cons.mpr ⟨⟨RX2, TX2, 8, rfl, mco13, rfl, ⟨rfl, rfl, rfl, wd890, wd468, wd469, wd93⟩⟩, (fun _ h => absurd h List.not_mem_nil)⟩)
set_option maxRecDepth 10000 in
theorem vok73 : mVSok (mVS.getD 73 (0, 0, ⟨"", "", ""⟩, none, "", 0, [])) := (List.forall_mem_cons.mpr ⟨⟨RX1, TX1, 6, rfl, mco50, rfl, ⟨rfl, rfl, wd806, wd807, wd809, wd810, wd97⟩⟩, (fun _ h => absurd h List.not_mem_nil)⟩)
set_option maxRecDepth 10000 in
theorem vok74 : mVSok (mVS.getD 74 (0, 0, ⟨"", "", ""⟩, none, "", 0, [])) := (List.forall_mem_cons.mpr ⟨⟨RX11, TX11, 18, rfl, mco125, rfl, ⟨rfl, rfl, rfl, wd813, wd815, wd23, wd92⟩⟩, (fun _ h => absurd h List.not_mem_nil)⟩)
set_option maxRecDepth 10000 in
theorem vok75 : mVSok (mVS.getD 75 (0, 0, ⟨"", "", ""⟩, none, "", 0, [])) := (List.forall_mem_cons.mpr ⟨⟨RX1, TX1, 6, rfl, mco55, rfl, ⟨rfl, rfl, wd891, wd892, wd894, wd895, wd97⟩⟩, (fun _ h => absurd h List.not_mem_nil)⟩)
set_option maxRecDepth 10000 in
theorem vok76 : mVSok (mVS.getD 76 (0, 0, ⟨"", "", ""⟩, none, "", 0, [])) := (List.forall_mem_cons.mpr ⟨⟨RX1, TX1, 6, rfl, mco56, rfl, ⟨rfl, rfl, wd897, wd898, wd900, wd901, wd97⟩⟩, (fun _ h => absurd h List.not_mem_nil)⟩)
set_option maxRecDepth 10000 in
theorem vok77 : mVSok (mVS.getD 77 (0, 0, ⟨"", "", ""⟩, none, "", 0, [])) := (List.forall_mem_cons.mpr ⟨⟨RX4, TX4, 7, rfl, mco50, rfl, ⟨rfl, rfl, wd907, wd908, wd909, wd810, wd97⟩⟩, (fun _ h => absurd h List.not_mem_nil)⟩)
set_option maxRecDepth 10000 in
theorem vok78 : mVSok (mVS.getD 78 (0, 0, ⟨"", "", ""⟩, none, "", 0, [])) := (List.forall_mem_cons.mpr ⟨⟨RX11, TX11, 18, rfl, mco78, rfl, ⟨rfl, rfl, rfl, wd914, wd916, wd25, wd92⟩⟩, (fun _ h => absurd h List.not_mem_nil)⟩)
set_option maxRecDepth 10000 in
theorem vok79 : mVSok (mVS.getD 79 (0, 0, ⟨"", "", ""⟩, none, "", 0, [])) := (List.forall_mem_cons.mpr ⟨⟨RX0, TX0, 6, rfl, mco50, rfl, ⟨rfl, rfl, wd923, wd924, wd925, wd810, wd97⟩⟩, (fun _ h => absurd h List.not_mem_nil)⟩)
set_option maxRecDepth 10000 in
theorem vok80 : mVSok (mVS.getD 80 (0, 0, ⟨"", "", ""⟩, none, "", 0, [])) := (List.forall_mem_cons.mpr ⟨⟨RX0, TX0, 6, rfl, mco51, rfl, ⟨rfl, rfl, wd926, wd927, wd929, wd930, wd97⟩⟩, (fun _ h => absurd h List.not_mem_nil)⟩)
set_option maxRecDepth 10000 in
theorem vok81 : mVSok (mVS.getD 81 (0, 0, ⟨"", "", ""⟩, none, "", 0, [])) := (List.forall_mem_cons.mpr ⟨⟨RX0, TX0, 6, rfl, mco56, rfl, ⟨rfl, rfl, wd932, wd933, wd934, wd901, wd97⟩⟩, (fun _ h => absurd h List.not_mem_nil)⟩)
set_option maxRecDepth 10000 in
theorem vok82 : mVSok (mVS.getD 82 (0, 0, ⟨"", "", ""⟩, none, "", 0, [])) := (List.forall_mem_cons.mpr ⟨⟨RX6, TX6, 8, rfl, mco50, rfl, ⟨rfl, rfl, wd939, wd940, wd941, wd810, wd97⟩⟩, (fun _ h => absurd h List.not_mem_nil)⟩)
set_option maxRecDepth 10000 in
theorem vok83 : mVSok (mVS.getD 83 (0, 0, ⟨"", "", ""⟩, none, "", 0, [])) := (List.forall_mem_cons.mpr ⟨⟨RX6, TX6, 8, rfl, mco51, rfl, ⟨rfl, rfl, wd942, wd943, wd944, wd930, wd97⟩⟩, (fun _ h => absurd h List.not_mem_nil)⟩)
set_option maxRecDepth 10000 in
theorem vok84 : mVSok (mVS.getD 84 (0, 0, ⟨"", "", ""⟩, none, "", 0, [])) := (List.forall_mem_cons.mpr ⟨⟨RX6, TX6, 8, rfl, mco55, rfl, ⟨rfl, rfl, wd945, wd946, wd947, wd895, wd97⟩⟩, (fun _ h => absurd h List.not_mem_nil)⟩)
set_option maxRecDepth 10000 in
theorem vok85 : mVSok (mVS.getD 85 (0, 0, ⟨"", "", ""⟩, none, "", 0, [])) := (List.forall_mem_cons.mpr ⟨⟨RX5, TX5, 8, rfl, mco50, rfl, ⟨rfl, rfl, wd952, wd953, wd954, wd810, wd97⟩⟩, (fun _ h => absurd h List.not_mem_nil)⟩)
set_option maxRecDepth 10000 in
theorem vok86 : mVSok (mVS.getD 86 (0, 0, ⟨"", "", ""⟩, none, "", 0, [])) := (List.forall_mem_cons.mpr ⟨⟨RX5, TX5, 8, rfl, mco55, rfl, ⟨rfl, rfl, wd955, wd956, wd957, wd895, wd97⟩⟩, (fun _ h => absurd h List.not_mem_nil)⟩)
set_option maxRecDepth 10000 in
theorem vok87 : mVSok (mVS.getD 87 (0, 0, ⟨"", "", ""⟩, none, "", 0, [])) := (List.forall_mem_cons.mpr ⟨⟨RX5, TX5, 8, rfl, mco56, rfl, ⟨rfl, rfl, wd958, wd959, wd960, wd901, wd97⟩⟩, (fun _ h => absurd h List.not_mem_nil)⟩)
set_option maxRecDepth 10000 in
theorem vok88 : mVSok (mVS.getD 88 (0, 0, ⟨"", "", ""⟩, none, "", 0, [])) := (List.forall_mem_cons.mpr ⟨⟨RX3, TX3, 7, rfl, mco50, rfl, ⟨rfl, rfl, wd965, wd966, wd967, wd810, wd97⟩⟩, (fun _ h => absurd h List.not_mem_nil)⟩)
set_option maxRecDepth 10000 in
theorem vok89 : mVSok (mVS.getD 89 (0, 0, ⟨"", "", ""⟩, none, "", 0, [])) := (List.forall_mem_cons.mpr ⟨⟨RX3, TX3, 7, rfl, mco55, rfl, ⟨rfl, rfl, wd968, wd969, wd970, wd895, wd97⟩⟩, (fun _ h => absurd h List.not_mem_nil)⟩)
set_option maxRecDepth 10000 in
theorem vok90 : mVSok (mVS.getD 90 (0, 0, ⟨"", "", ""⟩, none, "", 0, [])) := (List.forall_mem_cons.mpr ⟨⟨RX2, TX2, 8, rfl, mco19, rfl, ⟨rfl, rfl, rfl, wd982, wd538, wd539, wd93⟩⟩, (fun _ h => absurd h List.not_mem_nil)⟩)
set_option maxRecDepth 10000 in
theorem vok91 : mVSok (mVS.getD 91 (0, 0, ⟨"", "", ""⟩, none, "", 0, [])) := (List.forall_mem_cons.mpr ⟨⟨RX11, TX11, 18, rfl, mco138, rfl, ⟨rfl, rfl, rfl, wd994, wd996, wd26, wd92⟩⟩, (fun _ h => absurd h List.not_mem_nil)⟩)
set_option maxRecDepth 10000 in
theorem vok92 : mVSok (mVS.getD 92 (0, 0, ⟨"", "", ""⟩, none, "", 0, [])) := (List.forall_mem_cons.mpr ⟨⟨RX11, TX11, 18, rfl, mco140, rfl, ⟨rfl, rfl, rfl, wd1003, wd1005, wd27, wd92⟩⟩, (fun _ h => absurd h List.not_mem_nil)⟩)
set_option maxRecDepth 10000 in
theorem vok93 : mVSok (mVS.getD 93 (0, 0, ⟨"", "", ""⟩, none, "", 0, [])) := (List.forall_mem_cons.mpr ⟨⟨RX11, TX11, 18, rfl, mco143, rfl, ⟨rfl, rfl, rfl, wd1015, wd1017, wd28, wd92⟩⟩, (fun _ h => absurd h List.not_mem_nil)⟩)
set_option maxRecDepth 10000 in
theorem vok94 : mVSok (mVS.getD 94 (0, 0, ⟨"", "", ""⟩, none, "", 0, [])) := (List.forall_mem_cons.mpr ⟨⟨RX11, TX11, 18, rfl, mco144, rfl, ⟨rfl, rfl, rfl, wd1019, wd1021, wd29, wd92⟩⟩, (fun _ h => absurd h List.not_mem_nil)⟩)
set_option maxRecDepth 10000 in
theorem vok95 : mVSok (mVS.getD 95 (0, 0, ⟨"", "", ""⟩, none, "", 0, [])) := (List.forall_mem_cons.mpr ⟨⟨RX9, TX9, 4, rfl, mco58, rfl, ⟨rfl, rfl, rfl, wd1028, wd1029, wd1030, wd96⟩⟩, (fun _ h => absurd h List.not_mem_nil)⟩)
set_option maxRecDepth 10000 in
theorem vok96 : mVSok (mVS.getD 96 (0, 0, ⟨"", "", ""⟩, none, "", 0, [])) := (List.forall_mem_cons.mpr ⟨⟨RX9, TX9, 4, rfl, mco60, rfl, ⟨rfl, rfl, rfl, wd1044, wd1045, wd1046, wd96⟩⟩, (fun _ h => absurd h List.not_mem_nil)⟩)
set_option maxRecDepth 10000 in
theorem vok97 : mVSok (mVS.getD 97 (0, 0, ⟨"", "", ""⟩, none, "", 0, [])) := (List.forall_mem_cons.mpr ⟨⟨RX9, TX9, 4, rfl, mco63, rfl, ⟨rfl, rfl, rfl, wd1057, wd1058, wd1059, wd96⟩⟩, (fun _ h => absurd h List.not_mem_nil)⟩)
set_option maxRecDepth 10000 in
theorem vok98 : mVSok (mVS.getD 98 (0, 0, ⟨"", "", ""⟩, none, "", 0, [])) := (List.forall_mem_cons.mpr ⟨⟨RX12, TX12, 33, rfl, mco159, rfl, ⟨rfl, rfl, rfl, wd1242, wd1244, wd43, wd104⟩⟩, (fun _ h => absurd h List.not_mem_nil)⟩)
set_option maxRecDepth 10000 in
theorem vok99 : mVSok (mVS.getD 99 (0, 0, ⟨"", "", ""⟩, none, "", 0, [])) := (List.forall_mem_cons.mpr ⟨⟨RX12, TX12, 33, rfl, mco161, rfl, ⟨rfl, rfl, rfl, wd1347, wd1349, wd58, wd104⟩⟩, (fun _ h => absurd h List.not_mem_nil)⟩)
set_option maxRecDepth 10000 in
theorem vok100 : mVSok (mVS.getD 100 (0, 0, ⟨"", "", ""⟩, none, "", 0, [])) := (List.forall_mem_cons.mpr ⟨⟨RX12, TX12, 33, rfl, mco154, rfl, ⟨rfl, rfl, rfl, wd1187, wd1189, wd31, wd104⟩⟩, (fun _ h => absurd h List.not_mem_nil)⟩)
set_option maxRecDepth 10000 in
theorem vok101 : mVSok (mVS.getD 101 (0, 0, ⟨"", "", ""⟩, none, "", 0, [])) := (List.forall_mem_cons.mpr ⟨⟨RX12, TX12, 33, rfl, mco164, rfl, ⟨rfl, rfl, rfl, wd1199, wd1201, wd33, wd104⟩⟩, (fun _ h => absurd h List.not_mem_nil)⟩)
set_option maxRecDepth 10000 in
theorem vok102 : mVSok (mVS.getD 102 (0, 0, ⟨"", "", ""⟩, none, "", 0, [])) := (List.forall_mem_cons.mpr ⟨⟨RX12, TX12, 33, rfl, mco165, rfl, ⟨rfl, rfl, rfl, wd1207, wd1209, wd35, wd104⟩⟩, (fun _ h => absurd h List.not_mem_nil)⟩)
set_option maxRecDepth 10000 in
theorem vok103 : mVSok (mVS.getD 103 (0, 0, ⟨"", "", ""⟩, none, "", 0, [])) := (List.forall_mem_cons.mpr ⟨⟨RX12, TX12, 33, rfl, mco166, rfl, ⟨rfl, rfl, rfl, wd1203, wd1205, wd34, wd104⟩⟩, (fun _ h => absurd h List.not_mem_nil)⟩)
set_option maxRecDepth 10000 in
theorem vok104 : mVSok (mVS.getD 104 (0, 0, ⟨"", "", ""⟩, none, "", 0, [])) := (List.forall_mem_cons.mpr ⟨⟨RX12, TX12, 33, rfl, mco157, rfl, ⟨rfl, rfl, rfl, wd1234, wd1236, wd41, wd104⟩⟩, (fun _ h => absurd h List.not_mem_nil)⟩)
set_option maxRecDepth 10000 in
theorem vok105 : mVSok (mVS.getD 105 (0, 0, ⟨"", "", ""⟩, none, "", 0, [])) := (List.forall_mem_cons.mpr ⟨⟨RX12, TX12, 33, rfl, mco160, rfl, ⟨rfl, rfl, rfl, wd1238, wd1240, wd42, wd104⟩⟩, (fun _ h => absurd h List.not_mem_nil)⟩)
set_option maxRecDepth 10000 in
theorem vok106 : mVSok (mVS.getD 106 (0, 0, ⟨"", "", ""⟩, none, "", 0, [])) := (List.forall_mem_cons.mpr ⟨⟨RX12, TX12, 33, rfl, mco181, rfl, ⟨rfl, rfl, rfl, wd1246, wd1248, wd44, wd104⟩⟩, (fun _ h => absurd h List.not_mem_nil)⟩)
set_option maxRecDepth 10000 in
theorem vok107 : mVSok (mVS.getD 107 (0, 0, ⟨"", "", ""⟩, none, "", 0, [])) := (List.forall_mem_cons.mpr ⟨⟨RX12, TX12, 33, rfl, mco189, rfl, ⟨rfl, rfl, rfl, wd1254, wd1256, wd46, wd104⟩⟩, (fun _ h => absurd h List.not_mem_nil)⟩)
set_option maxRecDepth 10000 in
theorem vok108 : mVSok (mVS.getD 108 (0, 0, ⟨"", "", ""⟩, none, "", 0, [])) := (List.forall_mem_cons.mpr ⟨⟨RX12, TX12, 33, rfl, mco168, rfl, ⟨rfl, rfl, rfl, wd1230, wd1232, wd40, wd104⟩⟩, (fun _ h => absurd h List.not_mem_nil)⟩)
set_option maxRecDepth 10000 in
theorem vok109 : mVSok (mVS.getD 109 (0, 0, ⟨"", "", ""⟩, none, "", 0, [])) := (List.forall_mem_cons.mpr ⟨⟨RX12, TX12, 33, rfl, mco169, rfl, ⟨rfl, rfl, rfl, wd1250, wd1252, wd45, wd104⟩⟩, (fun _ h => absurd h List.not_mem_nil)⟩)
set_option maxRecDepth 10000 in
theorem vok110 : mVSok (mVS.getD 110 (0, 0, ⟨"", "", ""⟩, none, "", 0, [])) := (List.forall_mem_cons.mpr ⟨⟨RX12, TX12, 33, rfl, mco191, rfl, ⟨rfl, rfl, rfl, wd1283, wd1285, wd51, wd104⟩⟩, (fun _ h => absurd h List.not_mem_nil)⟩)
set_option maxRecDepth 10000 in
theorem vok111 : mVSok (mVS.getD 111 (0, 0, ⟨"", "", ""⟩, none, "", 0, [])) := (List.forall_mem_cons.mpr ⟨⟨RX12, TX12, 33, rfl, mco193, rfl, ⟨rfl, rfl, rfl, wd1291, wd1293, wd53, wd104⟩⟩, (fun _ h => absurd h List.not_mem_nil)⟩)
set_option maxRecDepth 10000 in
theorem vok112 : mVSok (mVS.getD 112 (0, 0, ⟨"", "", ""⟩, none, "", 0, [])) := (List.forall_mem_cons.mpr ⟨⟨RX12, TX12, 33, rfl, mco194, rfl, ⟨rfl, rfl, rfl, wd1299, wd1301, wd55, wd104⟩⟩, (fun _ h => absurd h List.not_mem_nil)⟩)
set_option maxRecDepth 10000 in
theorem vok113 : mVSok (mVS.getD 113 (0, 0, ⟨"", "", ""⟩, none, "", 0, [])) := (List.forall_mem_cons.mpr ⟨⟨RX12, TX12, 33, rfl, mco167, rfl, ⟨rfl, rfl, rfl, wd1195, wd1197, wd32, wd104⟩⟩, (fun _ h => absurd h List.not_mem_nil)⟩)
set_option maxRecDepth 10000 in
theorem vok114 : mVSok (mVS.getD 114 (0, 0, ⟨"", "", ""⟩, none, "", 0, [])) := (List.forall_mem_cons.mpr ⟨⟨RX12, TX12, 33, rfl, mco174, rfl, ⟨rfl, rfl, rfl, wd1214, wd1216, wd36, wd104⟩⟩, (fun _ h => absurd h List.not_mem_nil)⟩)
set_option maxRecDepth 10000 in
theorem vok115 : mVSok (mVS.getD 115 (0, 0, ⟨"", "", ""⟩, none, "", 0, [])) := (List.forall_mem_cons.mpr ⟨⟨RX12, TX12, 33, rfl, mco170, rfl, ⟨rfl, rfl, rfl, wd1226, wd1228, wd39, wd104⟩⟩, (fun _ h => absurd h List.not_mem_nil)⟩)
set_option maxRecDepth 10000 in
theorem vok116 : mVSok (mVS.getD 116 (0, 0, ⟨"", "", ""⟩, none, "", 0, [])) := (List.forall_mem_cons.mpr ⟨⟨RX12, TX12, 33, rfl, mco172, rfl, ⟨rfl, rfl, rfl, wd1218, wd1220, wd37, wd104⟩⟩, (fun _ h => absurd h List.not_mem_nil)⟩)
set_option maxRecDepth 10000 in
theorem vok117 : mVSok (mVS.getD 117 (0, 0, ⟨"", "", ""⟩, none, "", 0, [])) := (List.forall_mem_cons.mpr ⟨⟨RX12, TX12, 33, rfl, mco173, rfl, ⟨rfl, rfl, rfl, wd1222, wd1224, wd38, wd104⟩⟩, (fun _ h => absurd h List.not_mem_nil)⟩)
set_option maxRecDepth 10000 in
theorem vok118 : mVSok (mVS.getD 118 (0, 0, ⟨"", "", ""⟩, none, "", 0, [])) := (List.forall_mem_cons.mpr ⟨⟨RX12, TX12, 33, rfl, mco185, rfl, ⟨rfl, rfl, rfl, wd1266, wd1268, wd49, wd104⟩⟩, (fun _ h => absurd h List.not_mem_nil)⟩)
set_option maxRecDepth 10000 in
theorem vok119 : mVSok (mVS.getD 119 (0, 0, ⟨"", "", ""⟩, none, "", 0, [])) := (List.forall_mem_cons.mpr ⟨⟨RX12, TX12, 33, rfl, mco186, rfl, ⟨rfl, rfl, rfl, wd1273, wd1275, wd50, wd104⟩⟩, (fun _ h => absurd h List.not_mem_nil)⟩)
set_option maxRecDepth 10000 in
theorem vok120 : mVSok (mVS.getD 120 (0, 0, ⟨"", "", ""⟩, none, "", 0, [])) := (List.forall_mem_cons.mpr ⟨⟨RX12, TX12, 33, rfl, mco187, rfl, ⟨rfl, rfl, rfl, wd1262, wd1264, wd48, wd104⟩⟩, (fun _ h => absurd h List.not_mem_nil)⟩)
set_option maxRecDepth 10000 in
theorem vok121 : mVSok (mVS.getD 121 (0, 0, ⟨"", "", ""⟩, none, "", 0, [])) := (List.forall_mem_cons.mpr ⟨⟨RX12, TX12, 33, rfl, mco188, rfl, ⟨rfl, rfl, rfl, wd1258, wd1260, wd47, wd104⟩⟩, (fun _ h => absurd h List.not_mem_nil)⟩)
set_option maxRecDepth 10000 in
theorem vok122 : mVSok (mVS.getD 122 (0, 0, ⟨"", "", ""⟩, none, "", 0, [])) := (List.forall_mem_cons.mpr ⟨⟨RX12, TX12, 33, rfl, mco190, rfl, ⟨rfl, rfl, rfl, wd1287, wd1289, wd52, wd104⟩⟩, (fun _ h => absurd h List.not_mem_nil)⟩)
set_option maxRecDepth 10000 in
theorem vok123 : mVSok (mVS.getD 123 (0, 0, ⟨"", "", ""⟩, none, "", 0, [])) := (List.forall_mem_cons.mpr ⟨⟨RX12, TX12, 33, rfl, mco192, rfl, ⟨rfl, rfl, rfl, wd1295, wd1297, wd54, wd104⟩⟩, (fun _ h => absurd h List.not_mem_nil)⟩)
set_option maxRecDepth 10000 in
theorem vok124 : mVSok (mVS.getD 124 (0, 0, ⟨"", "", ""⟩, none, "", 0, [])) := (List.forall_mem_cons.mpr ⟨⟨RX12, TX12, 33, rfl, mco158, rfl, ⟨rfl, rfl, rfl, wd1319, wd1321, wd56, wd104⟩⟩, (fun _ h => absurd h List.not_mem_nil)⟩)
set_option maxRecDepth 10000 in
theorem vok125 : mVSok (mVS.getD 125 (0, 0, ⟨"", "", ""⟩, none, "", 0, [])) := (List.forall_mem_cons.mpr ⟨⟨RX12, TX12, 33, rfl, mco175, rfl, ⟨rfl, rfl, rfl, wd1343, wd1345, wd57, wd104⟩⟩, (fun _ h => absurd h List.not_mem_nil)⟩)
set_option maxRecDepth 10000 in
theorem vok126 : mVSok (mVS.getD 126 (0, 0, ⟨"", "", ""⟩, none, "", 0, [])) := (List.forall_mem_cons.mpr ⟨⟨RX12, TX12, 33, rfl, mco179, rfl, ⟨rfl, rfl, rfl, wd1374, wd1376, wd60, wd104⟩⟩, (fun _ h => absurd h List.not_mem_nil)⟩)
set_option maxRecDepth 10000 in
theorem vok127 : mVSok (mVS.getD 127 (0, 0, ⟨"", "", ""⟩, none, "", 0, [])) := (List.forall_mem_cons.mpr ⟨⟨RX12, TX12, 33, rfl, mco162, rfl, ⟨rfl, rfl, rfl, wd1378, wd1380, wd61, wd104⟩⟩, (fun _ h => absurd h List.not_mem_nil)⟩)
set_option maxRecDepth 10000 in
theorem vok128 : mVSok (mVS.getD 128 (0, 0, ⟨"", "", ""⟩, none, "", 0, [])) := (List.forall_mem_cons.mpr ⟨⟨RX12, TX12, 33, rfl, mco180, rfl, ⟨rfl, rfl, rfl, wd1382, wd1384, wd62, wd104⟩⟩, (fun _ h => absurd h List.not_mem_nil)⟩)
set_option maxRecDepth 10000 in
theorem vok129 : mVSok (mVS.getD 129 (0, 0, ⟨"", "", ""⟩, none, "", 0, [])) := (List.forall_mem_cons.mpr ⟨⟨RX12, TX12, 33, rfl, mco205, rfl, ⟨rfl, rfl, rfl, wd1370, wd1372, wd59, wd104⟩⟩, (fun _ h => absurd h List.not_mem_nil)⟩)
set_option maxRecDepth 10000 in
theorem vok130 : mVSok (mVS.getD 130 (0, 0, ⟨"", "", ""⟩, none, "", 0, [])) := (List.forall_mem_cons.mpr ⟨⟨RX12, TX12, 33, rfl, mco210, rfl, ⟨rfl, rfl, rfl, wd1398, wd1400, wd63, wd104⟩⟩, (fun _ h => absurd h List.not_mem_nil)⟩)
set_option maxRecDepth 10000 in
theorem vok131 : mVSok (mVS.getD 131 (0, 0, ⟨"", "", ""⟩, none, "", 0, [])) := (List.forall_mem_cons.mpr ⟨⟨RX12, TX12, 33, rfl, mco216, rfl, ⟨rfl, rfl, rfl, wd1422, wd1424, wd68, wd104⟩⟩, (fun _ h => absurd h List.not_mem_nil)⟩)
set_option maxRecDepth 10000 in
theorem vok132 : mVSok (mVS.getD 132 (0, 0, ⟨"", "", ""⟩, none, "", 0, [])) := (List.forall_mem_cons.mpr ⟨⟨RX12, TX12, 33, rfl, mco212, rfl, ⟨rfl, rfl, rfl, wd1406, wd1408, wd64, wd104⟩⟩, (fun _ h => absurd h List.not_mem_nil)⟩)
set_option maxRecDepth 10000 in
theorem vok133 : mVSok (mVS.getD 133 (0, 0, ⟨"", "", ""⟩, none, "", 0, [])) := (List.forall_mem_cons.mpr ⟨⟨RX12, TX12, 33, rfl, mco213, rfl, ⟨rfl, rfl, rfl, wd1410, wd1412, wd65, wd104⟩⟩, (fun _ h => absurd h List.not_mem_nil)⟩)
set_option maxRecDepth 10000 in
theorem vok134 : mVSok (mVS.getD 134 (0, 0, ⟨"", "", ""⟩, none, "", 0, [])) := (List.forall_mem_cons.mpr ⟨⟨RX12, TX12, 33, rfl, mco214, rfl, ⟨rfl, rfl, rfl, wd1414, wd1416, wd66, wd104⟩⟩, (fun _ h => absurd h List.not_mem_nil)⟩)
set_option maxRecDepth 10000 in
theorem vok135 : mVSok (mVS.getD 135 (0, 0, ⟨"", "", ""⟩, none, "", 0, [])) := (List.forall_mem_cons.mpr ⟨⟨RX12, TX12, 33, rfl, mco217, rfl, ⟨rfl, rfl, rfl, wd1418, wd1420, wd67, wd104⟩⟩, (fun _ h => absurd h List.not_mem_nil)⟩)
set_option maxRecDepth 10000 in
theorem vok136 : mVSok (mVS.getD 136 (0, 0, ⟨"", "", ""⟩, none, "", 0, [])) := (List.forall_mem_cons.mpr ⟨⟨RX12, TX12, 33, rfl, mco218, rfl, ⟨rfl, rfl, rfl, wd1429, wd1431, wd69, wd104⟩⟩, (fun _ h => absurd h List.not_mem_nil)⟩)
set_option maxRecDepth 10000 in
theorem vok137 : mVSok (mVS.getD 137 (0, 0, ⟨"", "", ""⟩, none, "", 0, [])) := (List.forall_mem_cons.mpr ⟨⟨RX12, TX12, 33, rfl, mco220, rfl, ⟨rfl, rfl, rfl, wd1437, wd1439, wd70, wd104⟩⟩, (fun _ h => absurd h List.not_mem_nil)⟩)
set_option maxRecDepth 10000 in
theorem vok138 : mVSok (mVS.getD 138 (0, 0, ⟨"", "", ""⟩, none, "", 0, [])) := (List.forall_mem_cons.mpr ⟨⟨RX12, TX12, 33, rfl, mco195, rfl, ⟨rfl, rfl, rfl, wd1453, wd1455, wd72, wd104⟩⟩, (fun _ h => absurd h List.not_mem_nil)⟩)
set_option maxRecDepth 10000 in
theorem vok139 : mVSok (mVS.getD 139 (0, 0, ⟨"", "", ""⟩, none, "", 0, [])) := (List.forall_mem_cons.mpr ⟨⟨RX12, TX12, 33, rfl, mco223, rfl, ⟨rfl, rfl, rfl, wd1449, wd1451, wd71, wd104⟩⟩, (fun _ h => absurd h List.not_mem_nil)⟩)
set_option maxRecDepth 10000 in
theorem vok140 : mVSok (mVS.getD 140 (0, 0, ⟨"", "", ""⟩, none, "", 0, [])) := (List.forall_mem_cons.mpr ⟨⟨RX12, TX12, 33, rfl, mco225, rfl, ⟨rfl, rfl, rfl, wd1461, wd1463, wd73, wd104⟩⟩, (fun _ h => absurd h List.not_mem_nil)⟩)
set_option maxRecDepth 10000 in
theorem vok141 : mVSok (mVS.getD 141 (0, 0, ⟨"", "", ""⟩, none, "", 0, [])) := (List.forall_mem_cons.mpr ⟨⟨RX12, TX12, 33, rfl, mco227, rfl, ⟨rfl, rfl, rfl, wd1469, wd1471, wd74, wd104⟩⟩, (fun _ h => absurd h List.not_mem_nil)⟩)
set_option maxRecDepth 10000 in
theorem vok142 : mVSok (mVS.getD 142 (0, 0, ⟨"", "", ""⟩, none, "", 0, [])) := (List.forall_mem_cons.mpr ⟨⟨RX12, TX12, 33, rfl, mco229, rfl, ⟨rfl, rfl, rfl, wd1481, wd1483, wd76, wd104⟩⟩, (fun _ h => absurd h List.not_mem_nil)⟩)
set_option maxRecDepth 10000 in
theorem vok143 : mVSok (mVS.getD 143 (0, 0, ⟨"", "", ""⟩, none, "", 0, [])) := (List.forall_mem_cons.mpr ⟨⟨RX12, TX12, 33, rfl, mco230, rfl, ⟨rfl, rfl, rfl, wd1477, wd1479, wd75, wd104⟩⟩, (fun _ h => absurd h List.not_mem_nil)⟩)
set_option maxRecDepth 10000 in
theorem vok144 : mVSok (mVS.getD 144 (0, 0, ⟨"", "", ""⟩, none, "", 0, [])) := (List.forall_mem_cons.mpr ⟨⟨RX12, TX12, 33, rfl, mco232, rfl, ⟨rfl, rfl, rfl, wd1489, wd1491, wd77, wd104⟩⟩, (fun _ h => absurd h List.not_mem_nil)⟩)
set_option maxRecDepth 10000 in
theorem vok145 : mVSok (mVS.getD 145 (0, 0, ⟨"", "", ""⟩, none, "", 0, [])) := (List.forall_mem_cons.mpr ⟨⟨RX12, TX12, 33, rfl, mco235, rfl, ⟨rfl, rfl, rfl, wd1501, wd1503, wd78, wd104⟩⟩, (fun _ h => absurd h List.not_mem_nil)⟩)
set_option maxRecDepth 10000 in
theorem vok146 : mVSok (mVS.getD 146 (0, 0, ⟨"", "", ""⟩, none, "", 0, [])) := (List.forall_mem_cons.mpr ⟨⟨RX12, TX12, 33, rfl, mco238, rfl, ⟨rfl, rfl, rfl, wd1513, wd1515, wd80, wd104⟩⟩, (fun _ h => absurd h List.not_mem_nil)⟩)
set_option maxRecDepth 10000 in
theorem vok147 : mVSok (mVS.getD 147 (0, 0, ⟨"", "", ""⟩, none, "", 0, [])) := (List.forall_mem_cons.mpr ⟨⟨RX12, TX12, 33, rfl, mco237, rfl, ⟨rfl, rfl, rfl, wd1509, wd1511, wd79, wd104⟩⟩, (fun _ h => absurd h List.not_mem_nil)⟩)
set_option maxRecDepth 10000 in
theorem vok148 : mVSok (mVS.getD 148 (0, 0, ⟨"", "", ""⟩, none, "", 0, [])) := (List.forall_mem_cons.mpr ⟨⟨RX12, TX12, 33, rfl, mco240, rfl, ⟨rfl, rfl, rfl, wd1521, wd1523, wd81, wd104⟩⟩, (fun _ h => absurd h List.not_mem_nil)⟩)
set_option maxRecDepth 10000 in
theorem vok149 : mVSok (mVS.getD 149 (0, 0, ⟨"", "", ""⟩, none, "", 0, [])) := (List.forall_mem_cons.mpr ⟨⟨RX12, TX12, 33, rfl, mco245, rfl, ⟨rfl, rfl, rfl, wd1544, wd1546, wd83, wd104⟩⟩, (fun _ h => absurd h List.not_mem_nil)⟩)
set_option maxRecDepth 10000 in
theorem vok150 : mVSok (mVS.getD 150 (0, 0, ⟨"", "", ""⟩, none, "", 0, [])) := (List.forall_mem_cons.mpr ⟨⟨RX12, TX12, 33, rfl, mco246, rfl, ⟨rfl, rfl, rfl, wd1540, wd1542, wd82, wd104⟩⟩, (fun _ h => absurd h List.not_mem_nil)⟩)
set_option maxRecDepth 10000 in
theorem vok151 : mVSok (mVS.getD 151 (0, 0, ⟨"", "", ""⟩, none, "", 0, [])) := (List.forall_mem_cons.mpr ⟨⟨RX12, TX12, 33, rfl, mco247, rfl, ⟨rfl, rfl, rfl, wd1548, wd1550, wd84, wd104⟩⟩, (fun _ h => absurd h List.not_mem_nil)⟩)
set_option maxRecDepth 10000 in
theorem vok152 : mVSok (mVS.getD 152 (0, 0, ⟨"", "", ""⟩, none, "", 0, [])) := (List.forall_mem_cons.mpr ⟨⟨RX12, TX12, 33, rfl, mco250, rfl, ⟨rfl, rfl, rfl, wd1556, wd1558, wd85, wd104⟩⟩, (fun _ h => absurd h List.not_mem_nil)⟩)
set_option maxRecDepth 10000 in
theorem vok153 : mVSok (mVS.getD 153 (0, 0, ⟨"", "", ""⟩, none, "", 0, [])) := (List.forall_mem_cons.mpr ⟨⟨RX12, TX12, 33, rfl, mco253, rfl, ⟨rfl, rfl, rfl, wd1571, wd1573, wd86, wd104⟩⟩, (fun _ h => absurd h List.not_mem_nil)⟩)
set_option maxRecDepth 10000 in
theorem vok154 : mVSok (mVS.getD 154 (0, 0, ⟨"", "", ""⟩, none, "", 0, [])) := (List.forall_mem_cons.mpr ⟨⟨RX12, TX12, 33, rfl, mco258, rfl, ⟨rfl, rfl, rfl, wd1594, wd1596, wd88, wd104⟩⟩, (fun _ h => absurd h List.not_mem_nil)⟩)
set_option maxRecDepth 10000 in
theorem vok155 : mVSok (mVS.getD 155 (0, 0, ⟨"", "", ""⟩, none, "", 0, [])) := (List.forall_mem_cons.mpr ⟨⟨RX12, TX12, 33, rfl, mco259, rfl, ⟨rfl, rfl, rfl, wd1590, wd1592, wd87, wd104⟩⟩, (fun _ h => absurd h List.not_mem_nil)⟩)
set_option maxRecDepth 10000 in
theorem vok156 : mVSok (mVS.getD 156 (0, 0, ⟨"", "", ""⟩, none, "", 0, [])) := (List.forall_mem_cons.mpr ⟨⟨RX12, TX12, 33, rfl, mco263, rfl, ⟨rfl, rfl, rfl, wd1614, wd1616, wd90, wd104⟩⟩, (fun _ h => absurd h List.not_mem_nil)⟩)
set_option maxRecDepth 10000 in
theorem vok157 : mVSok (mVS.getD 157 (0, 0, ⟨"", "", ""⟩, none, "", 0, [])) := (List.forall_mem_cons.mpr ⟨⟨RX12, TX12, 33, rfl, mco264, rfl, ⟨rfl, rfl, rfl, wd1610, wd1612, wd89, wd104⟩⟩, (fun _ h => absurd h List.not_mem_nil)⟩)
set_option maxRecDepth 10000 in
theorem vok158 : mVSok (mVS.getD 158 (0, 0, ⟨"", "", ""⟩, none, "", 0, [])) := (List.forall_mem_cons.mpr ⟨⟨RX11, TX11, 18, rfl, mco79, rfl, ⟨rfl, rfl, rfl, wd422, wd423, wd424, wd92⟩⟩, (fun _ h => absurd h List.not_mem_nil)⟩)
set_option maxRecDepth 10000 in
theorem vok159 : mVSok (mVS.getD 159 (0, 0, ⟨"", "", ""⟩, none, "", 0, [])) := (List.forall_mem_cons.mpr ⟨⟨RX12, TX12, 33, rfl, mco163, rfl, ⟨rfl, rfl, rfl, wd1180, wd1181, wd1182, wd104⟩⟩, (fun _ h => absurd h List.not_mem_nil)⟩)
set_option maxRecDepth 10000 in
theorem vok160 : mVSok (mVS.getD 160 (0, 0, ⟨"", "", ""⟩, none, "", 0, [])) := (List.forall_mem_cons.mpr ⟨⟨RX11, TX11, 18, rfl, mco80, rfl, ⟨rfl, rfl, rfl, wd437, wd438, wd439, wd92⟩⟩, (fun _ h => absurd h List.not_mem_nil)⟩)
set_option maxRecDepth 10000 in
theorem vok161 : mVSok (mVS.getD 161 (0, 0, ⟨"", "", ""⟩, none, "", 0, [])) := (List.forall_mem_cons.mpr ⟨⟨RX12, TX12, 33, rfl, mco171, rfl, ⟨rfl, rfl, rfl, wd1191, wd1192, wd1193, wd104⟩⟩, (fun _ h => absurd h List.not_mem_nil)⟩)
set_option maxRecDepth 10000 in
theorem vok162 : mVSok (mVS.getD 162 (0, 0, ⟨"", "", ""⟩, none, "", 0, [])) := (List.forall_mem_cons.mpr ⟨⟨RX11, TX11, 18, rfl, mco87, rfl, ⟨rfl, rfl, rfl, wd572, wd573, wd574, wd92⟩⟩, (fun _ h => absurd h List.not_mem_nil)⟩)
set_option maxRecDepth 10000 in
theorem vok163 : mVSok (mVS.getD 163 (0, 0, ⟨"", "", ""⟩, none, "", 0, [])) := (List.forall_mem_cons.mpr ⟨⟨RX12, TX12, 33, rfl, mco196, rfl, ⟨rfl, rfl, rfl, wd1315, wd1316, wd1317, wd104⟩⟩, (fun _ h => absurd h List.not_mem_nil)⟩)
set_option maxRecDepth 10000 in
theorem vok164 : mVSok (mVS.getD 164 (0, 0, ⟨"", "", ""⟩, none, "", 0, [])) := (List.forall_mem_cons.mpr ⟨⟨RX11, TX11, 18, rfl, mco88, rfl, ⟨rfl, rfl, rfl, wd590, wd591, wd592, wd92⟩⟩, (fun _ h => absurd h List.not_mem_nil)⟩)
set_option maxRecDepth 10000 in
theorem vok165 : mVSok (mVS.getD 165 (0, 0, ⟨"", "", ""⟩, none, "", 0, [])) := (List.forall_mem_cons.mpr ⟨⟨RX12, TX12, 33, rfl, mco197, rfl, ⟨rfl, rfl, rfl, wd1323, wd1324, wd1325, wd104⟩⟩, (fun _ h => absurd h List.not_mem_nil)⟩)
set_option maxRecDepth 10000 in
theorem vok166 : mVSok (mVS.getD 166 (0, 0, ⟨"", "", ""⟩, none, "", 0, [])) := (List.forall_mem_cons.mpr ⟨⟨RX11, TX11, 18, rfl, mco89, rfl, ⟨rfl, rfl, rfl, wd598, wd599, wd600, wd92⟩⟩, (fun _ h => absurd h List.not_mem_nil)⟩)
set_option maxRecDepth 10000 in
theorem vok167 : mVSok (mVS.getD 167 (0, 0, ⟨"", "", ""⟩, none, "", 0, [])) := (List.forall_mem_cons.mpr ⟨⟨RX12, TX12, 33, rfl, mco198, rfl, ⟨rfl, rfl, rfl, wd1327, wd1328, wd1329, wd104⟩⟩, (fun _ h => absurd h List.not_mem_nil)⟩)
set_option maxRecDepth 10000 in
theorem vok168 : mVSok (mVS.getD 168 (0, 0, ⟨"", "", ""⟩, none, "", 0, [])) := (List.forall_mem_cons.mpr ⟨⟨RX11, TX11, 18, rfl, mco90, rfl, ⟨rfl, rfl, rfl, wd602, wd603, wd604, wd92⟩⟩, (fun _ h => absurd h List.not_mem_nil)⟩)
set_option maxRecDepth 10000 in
theorem vok169 : mVSok (mVS.getD 169 (0, 0, ⟨"", "", ""⟩, none, "", 0, [])) := (List.forall_mem_cons.mpr ⟨⟨RX12, TX12, 33, rfl, mco199, rfl, ⟨rfl, rfl, rfl, wd1331, wd1332, wd1333, wd104⟩⟩, (fun _ h => absurd h List.not_mem_nil)⟩)
set_option maxRecDepth 10000 in
theorem vok170 : mVSok (mVS.getD 170 (0, 0, ⟨"", "", ""⟩, none, "", 0, [])) := (List.forall_mem_cons.mpr ⟨⟨RX11, TX11, 18, rfl, mco91, rfl, ⟨rfl, rfl, rfl, wd606, wd607, wd608, wd92⟩⟩, (fun _ h => absurd h List.not_mem_nil)⟩)
set_option maxRecDepth 10000 in
theorem vok171 : mVSok (mVS.getD 171 (0, 0, ⟨"", "", ""⟩, none, "", 0, [])) := (List.forall_mem_cons.mpr ⟨⟨RX12, TX12, 33, rfl, mco200, rfl, ⟨rfl, rfl, rfl, wd1335, wd1336, wd1337, wd104⟩⟩, (fun _ h => absurd h List.not_mem_nil)⟩)
set_option maxRecDepth 10000 in
theorem vok172 : mVSok (mVS.getD 172 (0, 0, ⟨"", "", ""⟩, none, "", 0, [])) := (List.forall_mem_cons.mpr ⟨⟨RX11, TX11, 18, rfl, mco92, rfl, ⟨rfl, rfl, rfl, wd610, wd611, wd612, wd92⟩⟩, (fun _ h => absurd h List.not_mem_nil)⟩)
set_option maxRecDepth 10000 in
theorem vok173 : mVSok (mVS.getD 173 (0, 0, ⟨"", "", ""⟩, none, "", 0, [])) := (List.forall_mem_cons.mpr ⟨⟨RX12, TX12, 33, rfl, mco201, rfl, ⟨rfl, rfl, rfl, wd1339, wd1340, wd1341, wd104⟩⟩, (fun _ h => absurd h List.not_mem_nil)⟩)
set_option maxRecDepth 10000 in
theorem vok174 : mVSok (mVS.getD 174 (0, 0, ⟨"", "", ""⟩, none, "", 0, [])) := (List.forall_mem_cons.mpr ⟨⟨RX11, TX11, 18, rfl, mco93, rfl, ⟨rfl, rfl, rfl, wd624, wd625, wd626, wd92⟩⟩, (fun _ h => absurd h List.not_mem_nil)⟩)
set_option maxRecDepth 10000 in
theorem vok175 : mVSok (mVS.getD 175 (0, 0, ⟨"", "", ""⟩, none, "", 0, [])) := (List.forall_mem_cons.mpr ⟨⟨RX12, TX12, 33, rfl, mco202, rfl, ⟨rfl, rfl, rfl, wd1351, wd1352, wd1353, wd104⟩⟩, (fun _ h => absurd h List.not_mem_nil)⟩)
set_option maxRecDepth 10000 in
theorem vok176 : mVSok (mVS.getD 176 (0, 0, ⟨"", "", ""⟩, none, "", 0, [])) := (List.forall_mem_cons.mpr ⟨⟨RX11, TX11, 18, rfl, mco94, rfl, ⟨rfl, rfl, rfl, wd628, wd629, wd630, wd92⟩⟩, (fun _ h => absurd h List.not_mem_nil)⟩)
set_option maxRecDepth 10000 in
theorem vok177 : mVSok (mVS.getD 177 (0, 0, ⟨"", "", ""⟩, none, "", 0, [])) := (List.forall_mem_cons.mpr ⟨⟨RX12, TX12, 33, rfl, mco203, rfl, ⟨rfl, rfl, rfl, wd1355, wd1356, wd1357, wd104⟩⟩, (fun _ h => absurd h List.not_mem_nil)⟩)
set_option maxRecDepth 10000 in
theorem vok178 : mVSok (mVS.getD 178 (0, 0, ⟨"", "", ""⟩, none, "", 0, [])) := (List.forall_mem_cons.mpr ⟨⟨RX11, TX11, 18, rfl, mco95, rfl, ⟨rfl, rfl, rfl, wd632, wd633, wd634, wd92⟩⟩, (fun _ h => absurd h List.not_mem_nil)⟩)
set_option maxRecDepth 10000 in
theorem vok179 : mVSok (mVS.getD 179 (0, 0, ⟨"", "", ""⟩, none, "", 0, [])) := (List.forall_mem_cons.mpr ⟨⟨RX12, TX12, 33, rfl, mco204, rfl, ⟨rfl, rfl, rfl, wd1359, wd1360, wd1361, wd104⟩⟩, (fun _ h => absurd h List.not_mem_nil)⟩)
set_option maxRecDepth 10000 in
theorem vok180 : mVSok (mVS.getD 180 (0, 0, ⟨"", "", ""⟩, none, "", 0, [])) := (List.forall_mem_cons.mpr ⟨⟨RX11, TX11, 18, rfl, mco96, rfl, ⟨rfl, rfl, rfl, wd636, wd637, wd638, wd92⟩⟩, (fun _ h => absurd h List.not_mem_nil)⟩)
set_option maxRecDepth 10000 in
theorem vok181 : mVSok (mVS.getD 181 (0, 0, ⟨"", "", ""⟩, none, "", 0, [])) := (List.forall_mem_cons.mpr ⟨⟨RX12, TX12, 33, rfl, mco176, rfl, ⟨rfl, rfl, rfl, wd1303, wd1304, wd1305, wd104⟩⟩, (fun _ h => absurd h List.not_mem_nil)⟩)
set_option maxRecDepth 10000 in
theorem vok182 : mVSok (mVS.getD 182 (0, 0, ⟨"", "", ""⟩, none, "", 0, [])) := (List.forall_mem_cons.mpr ⟨⟨RX11, TX11, 18, rfl, mco99, rfl, ⟨rfl, rfl, rfl, wd646, wd647, wd648, wd92⟩⟩, (fun _ h => absurd h List.not_mem_nil)⟩)
set_option maxRecDepth 10000 in
theorem vok183 : mVSok (mVS.getD 183 (0, 0, ⟨"", "", ""⟩, none, "", 0, [])) := (List.forall_mem_cons.mpr ⟨⟨RX12, TX12, 33, rfl, mco207, rfl, ⟨rfl, rfl, rfl, wd1363, wd1364, wd1365, wd104⟩⟩, (fun _ h => absurd h List.not_mem_nil)⟩)
set_option maxRecDepth 10000 in
theorem vok184 : mVSok (mVS.getD 184 (0, 0, ⟨"", "", ""⟩, none, "", 0, [])) := (List.forall_mem_cons.mpr ⟨⟨RX11, TX11, 18, rfl, mco100, rfl, ⟨rfl, rfl, rfl, wd670, wd671, wd672, wd92⟩⟩, (fun _ h => absurd h List.not_mem_nil)⟩)
set_option maxRecDepth 10000 in
theorem vok185 : mVSok (mVS.getD 185 (0, 0, ⟨"", "", ""⟩, none, "", 0, [])) := (List.forall_mem_cons.mpr ⟨⟨RX12, TX12, 33, rfl, mco208, rfl, ⟨rfl, rfl, rfl, wd1386, wd1387, wd1388, wd104⟩⟩, (fun _ h => absurd h List.not_mem_nil)⟩)
set_option maxRecDepth 10000 in
theorem vok186 : mVSok (mVS.getD 186 (0, 0, ⟨"", "", ""⟩, none, "", 0, [])) := (List.forall_mem_cons.mpr ⟨⟨RX11, TX11, 18, rfl, mco101, rfl, ⟨rfl, rfl, rfl, wd674, wd675, wd676, wd92⟩⟩, (fun _ h => absurd h List.not_mem_nil)⟩)
set_option maxRecDepth 10000 in
theorem vok187 : mVSok (mVS.getD 187 (0, 0, ⟨"", "", ""⟩, none, "", 0, [])) := (List.forall_mem_cons.mpr ⟨⟨RX12, TX12, 33, rfl, mco209, rfl, ⟨rfl, rfl, rfl, wd1390, wd1391, wd1392, wd104⟩⟩, (fun _ h => absurd h List.not_mem_nil)⟩)
set_option maxRecDepth 10000 in
theorem vok188 : mVSok (mVS.getD 188 (0, 0, ⟨"", "", ""⟩, none, "", 0, [])) := (List.forall_mem_cons.mpr ⟨⟨RX11, TX11, 18, rfl, mco102, rfl, ⟨rfl, rfl, rfl, wd678, wd679, wd680, wd92⟩⟩, (fun _ h => absurd h List.not_mem_nil)⟩)
set_option maxRecDepth 10000 in
theorem vok189 : mVSok (mVS.getD 189 (0, 0, ⟨"", "", ""⟩, none, "", 0, [])) := (List.forall_mem_cons.mpr ⟨⟨RX12, TX12, 33, rfl, mco211, rfl, ⟨rfl, rfl, rfl, wd1394, wd1395, wd1396, wd104⟩⟩, (fun _ h => absurd h List.not_mem_nil)⟩)
set_option maxRecDepth 10000 in
theorem vok190 : mVSok (mVS.getD 190 (0, 0, ⟨"", "", ""⟩, none, "", 0, [])) := (List.forall_mem_cons.mpr ⟨⟨RX11, TX11, 18, rfl, mco126, rfl, ⟨rfl, rfl, rfl, wd799, wd800, wd801, wd92⟩⟩, (fun _ h => absurd h List.not_mem_nil)⟩)
set_option maxRecDepth 10000 in
theorem vok191 : mVSok (mVS.getD 191 (0, 0, ⟨"", "", ""⟩, none, "", 0, [])) := (List.forall_mem_cons.mpr ⟨⟨RX12, TX12, 33, rfl, mco219, rfl, ⟨rfl, rfl, rfl, wd1402, wd1403, wd1404, wd104⟩⟩, (fun _ h => absurd h List.not_mem_nil)⟩)
set_option maxRecDepth 10000 in
theorem vok192 : mVSok (mVS.getD 192 (0, 0, ⟨"", "", ""⟩, none, "", 0, [])) := (List.forall_mem_cons.mpr ⟨⟨RX11, TX11, 18, rfl, mco117, rfl, ⟨rfl, rfl, rfl, wd756, wd757, wd758, wd92⟩⟩, (fun _ h => absurd h List.not_mem_nil)⟩)
set_option maxRecDepth 10000 in
theorem vok193 : mVSok (mVS.getD 193 (0, 0, ⟨"", "", ""⟩, none, "", 0, [])) := (List.forall_mem_cons.mpr ⟨⟨RX12, TX12, 33, rfl, mco221, rfl, ⟨rfl, rfl, rfl, wd1433, wd1434, wd1435, wd104⟩⟩, (fun _ h => absurd h List.not_mem_nil)⟩)
set_option maxRecDepth 10000 in
theorem vok194 : mVSok (mVS.getD 194 (0, 0, ⟨"", "", ""⟩, none, "", 0, [])) := (List.forall_mem_cons.mpr ⟨⟨RX11, TX11, 18, rfl, mco127, rfl, ⟨rfl, rfl, rfl, wd903, wd904, wd905, wd92⟩⟩, (fun _ h => absurd h List.not_mem_nil)⟩)
set_option maxRecDepth 10000 in
theorem vok195 : mVSok (mVS.getD 195 (0, 0, ⟨"", "", ""⟩, none, "", 0, [])) := (List.forall_mem_cons.mpr ⟨⟨RX12, TX12, 33, rfl, mco222, rfl, ⟨rfl, rfl, rfl, wd1441, wd1442, wd1443, wd104⟩⟩, (fun _ h => absurd h List.not_mem_nil)⟩)
set_option maxRecDepth 10000 in
theorem vok196 : mVSok (mVS.getD 196 (0, 0, ⟨"", "", ""⟩, none, "", 0, [])) := (List.forall_mem_cons.mpr ⟨⟨RX11, TX11, 18, rfl, mco110, rfl, ⟨rfl, rfl, rfl, wd714, wd715, wd716, wd92⟩⟩, (fun _ h => absurd h List.not_mem_nil)⟩)
set_option maxRecDepth 10000 in
theorem vok197 : mVSok (mVS.getD 197 (0, 0, ⟨"", "", ""⟩, none, "", 0, [])) := (List.forall_mem_cons.mpr ⟨⟨RX12, TX12, 33, rfl, mco224, rfl, ⟨rfl, rfl, rfl, wd1445, wd1446, wd1447, wd104⟩⟩, (fun _ h => absurd h List.not_mem_nil)⟩)
set_option maxRecDepth 10000 in
theorem vok198 : mVSok (mVS.getD 198 (0, 0, ⟨"", "", ""⟩, none, "", 0, [])) := (List.forall_mem_cons.mpr ⟨⟨RX11, TX11, 18, rfl, mco112, rfl, ⟨rfl, rfl, rfl, wd728, wd729, wd730, wd92⟩⟩, (fun _ h => absurd h List.not_mem_nil)⟩)
set_option maxRecDepth 10000 in
theorem vok199 : mVSok (mVS.getD 199 (0, 0, ⟨"", "", ""⟩, none, "", 0, [])) := (List.forall_mem_cons.mpr ⟨⟨RX12, TX12, 33, rfl, mco226, rfl, ⟨rfl, rfl, rfl, wd1457, wd1458, wd1459, wd104⟩⟩, (fun _ h => absurd h List.not_mem_nil)⟩)
set_option maxRecDepth 10000 in
theorem vok200 : mVSok (mVS.getD 200 (0, 0, ⟨"", "", ""⟩, none, "", 0, [])) := (List.forall_mem_cons.mpr ⟨⟨RX11, TX11, 18, rfl, mco132, rfl, ⟨rfl, rfl, rfl, wd971, wd972, wd973, wd92⟩⟩, (fun _ h => absurd h List.not_mem_nil)⟩)
set_option maxRecDepth 10000 in
theorem vok201 : mVSok (mVS.getD 201 (0, 0, ⟨"", "", ""⟩, none, "", 0, [])) := (List.forall_mem_cons.mpr ⟨⟨RX12, TX12, 33, rfl, mco228, rfl, ⟨rfl, rfl, rfl, wd1465, wd1466, wd1467, wd104⟩⟩, (fun _ h => absurd h List.not_mem_nil)⟩)
set_option maxRecDepth 10000 in
theorem vok202 : mVSok (mVS.getD 202 (0, 0, ⟨"", "", ""⟩, none, "", 0, [])) := (List.forall_mem_cons.mpr ⟨⟨RX11, TX11, 18, rfl, mco133, rfl, ⟨rfl, rfl, rfl, wd975, wd976, wd977, wd92⟩⟩, (fun _ h => absurd h List.not_mem_nil)⟩)
set_option maxRecDepth 10000 in
theorem vok203 : mVSok (mVS.getD 203 (0, 0, ⟨"", "", ""⟩, none, "", 0, [])) := (List.forall_mem_cons.mpr ⟨⟨RX12, TX12, 33, rfl, mco231, rfl, ⟨rfl, rfl, rfl, wd1473, wd1474, wd1475, wd104⟩⟩, (fun _ h => absurd h List.not_mem_nil)⟩)
set_option maxRecDepth 10000 in
theorem vok204 : mVSok (mVS.getD 204 (0, 0, ⟨"", "", ""⟩, none, "", 0, [])) := (List.forall_mem_cons.mpr ⟨⟨RX11, TX11, 18, rfl, mco135, rfl, ⟨rfl, rfl, rfl, wd983, wd984, wd985, wd92⟩⟩, (fun _ h => absurd h List.not_mem_nil)⟩)
set_option maxRecDepth 10000 in
theorem vok205 : mVSok (mVS.getD 205 (0, 0, ⟨"", "", ""⟩, none, "", 0, [])) := (List.forall_mem_cons.mpr ⟨⟨RX12, TX12, 33, rfl, mco233, rfl, ⟨rfl, rfl, rfl, wd1485, wd1486, wd1487, wd104⟩⟩, (fun _ h => absurd h List.not_mem_nil)⟩)
set_option maxRecDepth 10000 in
theorem vok206 : mVSok (mVS.getD 206 (0, 0, ⟨"", "", ""⟩, none, "", 0, [])) := (List.forall_mem_cons.mpr ⟨⟨RX11, TX11, 18, rfl, mco137, rfl, ⟨rfl, rfl, rfl, wd990, wd991, wd992, wd92⟩⟩, (fun _ h => absurd h List.not_mem_nil)⟩)
set_option maxRecDepth 10000 in
theorem vok207 : mVSok (mVS.getD 207 (0, 0, ⟨"", "", ""⟩, none, "", 0, [])) := (List.forall_mem_cons.mpr ⟨⟨RX12, TX12, 33, rfl, mco234, rfl, ⟨rfl, rfl, rfl, wd1493, wd1494, wd1495, wd104⟩⟩, (fun _ h => absurd h List.not_mem_nil)⟩)
set_option maxRecDepth 10000 in
theorem vok208 : mVSok (mVS.getD 208 (0, 0, ⟨"", "", ""⟩, none, "", 0, [])) := (List.forall_mem_cons.mpr ⟨⟨RX11, TX11, 18, rfl, mco139, rfl, ⟨rfl, rfl, rfl, wd999, wd1000, wd1001, wd92⟩⟩, (fun _ h => absurd h List.not_mem_nil)⟩)
set_option maxRecDepth 10000 in
theorem vok209 : mVSok (mVS.getD 209 (0, 0, ⟨"", "", ""⟩, none, "", 0, [])) := (List.forall_mem_cons.mpr ⟨⟨RX12, TX12, 33, rfl, mco236, rfl, ⟨rfl, rfl, rfl, wd1497, wd1498, wd1499, wd104⟩⟩, (fun _ h => absurd h List.not_mem_nil)⟩)
set_option maxRecDepth 10000 in
theorem vok210 : mVSok (mVS.getD 210 (0, 0, ⟨"", "", ""⟩, none, "", 0, [])) := (List.forall_mem_cons.mpr ⟨⟨RX11, TX11, 18, rfl, mco118, rfl, ⟨rfl, rfl, rfl, wd765, wd766, wd767, wd92⟩⟩, (fun _ h => absurd h List.not_mem_nil)⟩)
set_option maxRecDepth 10000 in
theorem vok211 : mVSok (mVS.getD 211 (0, 0, ⟨"", "", ""⟩, none, "", 0, [])) := (List.forall_mem_cons.mpr ⟨⟨RX12, TX12, 33, rfl, mco239, rfl, ⟨rfl, rfl, rfl, wd1505, wd1506, wd1507, wd104⟩⟩, (fun _ h => absurd h List.not_mem_nil)⟩)
set_option maxRecDepth 10000 in
theorem vok212 : mVSok (mVS.getD 212 (0, 0, ⟨"", "", ""⟩, none, "", 0, [])) := (List.forall_mem_cons.mpr ⟨⟨RX11, TX11, 18, rfl, mco128, rfl, ⟨rfl, rfl, rfl, wd910, wd911, wd912, wd92⟩⟩, (fun _ h => absurd h List.not_mem_nil)⟩)
set_option maxRecDepth 10000 in
theorem vok213 : mVSok (mVS.getD 213 (0, 0, ⟨"", "", ""⟩, none, "", 0, [])) := (List.forall_mem_cons.mpr ⟨⟨RX12, TX12, 33, rfl, mco241, rfl, ⟨rfl, rfl, rfl, wd1517, wd1518, wd1519, wd104⟩⟩, (fun _ h => absurd h List.not_mem_nil)⟩)
set_option maxRecDepth 10000 in
theorem vok214 : mVSok (mVS.getD 214 (0, 0, ⟨"", "", ""⟩, none, "", 0, [])) := (List.forall_mem_cons.mpr ⟨⟨RX11, TX11, 18, rfl, mco108, rfl, ⟨rfl, rfl, rfl, wd706, wd707, wd708, wd92⟩⟩, (fun _ h => absurd h List.not_mem_nil)⟩)
set_option maxRecDepth 10000 in
theorem vok215 : mVSok (mVS.getD 215 (0, 0, ⟨"", "", ""⟩, none, "", 0, [])) := (List.forall_mem_cons.mpr ⟨⟨RX12, TX12, 33, rfl, mco243, rfl, ⟨rfl, rfl, rfl, wd1525, wd1526, wd1527, wd104⟩⟩, (fun _ h => absurd h List.not_mem_nil)⟩)
set_option maxRecDepth 10000 in
theorem vok216 : mVSok (mVS.getD 216 (0, 0, ⟨"", "", ""⟩, none, "", 0, [])) := (List.forall_mem_cons.mpr ⟨⟨RX11, TX11, 18, rfl, mco129, rfl, ⟨rfl, rfl, rfl, wd935, wd936, wd937, wd92⟩⟩, (fun _ h => absurd h List.not_mem_nil)⟩)
set_option maxRecDepth 10000 in
theorem vok217 : mVSok (mVS.getD 217 (0, 0, ⟨"", "", ""⟩, none, "", 0, [])) := (List.forall_mem_cons.mpr ⟨⟨RX12, TX12, 33, rfl, mco244, rfl, ⟨rfl, rfl, rfl, wd1532, wd1533, wd1534, wd104⟩⟩, (fun _ h => absurd h List.not_mem_nil)⟩)
set_option maxRecDepth 10000 in
theorem vok218 : mVSok (mVS.getD 218 (0, 0, ⟨"", "", ""⟩, none, "", 0, [])) := (List.forall_mem_cons.mpr ⟨⟨RX11, TX11, 18, rfl, mco120, rfl, ⟨rfl, rfl, rfl, wd783, wd784, wd785, wd92⟩⟩, (fun _ h => absurd h List.not_mem_nil)⟩)
set_option maxRecDepth 10000 in
theorem vok219 : mVSok (mVS.getD 219 (0, 0, ⟨"", "", ""⟩, none, "", 0, [])) := (List.forall_mem_cons.mpr ⟨⟨RX12, TX12, 33, rfl, mco248, rfl, ⟨rfl, rfl, rfl, wd1536, wd1537, wd1538, wd104⟩⟩, (fun _ h => absurd h List.not_mem_nil)⟩)
set_option maxRecDepth 10000 in
theorem vok220 : mVSok (mVS.getD 220 (0, 0, ⟨"", "", ""⟩, none, "", 0, [])) := (List.forall_mem_cons.mpr ⟨⟨RX11, TX11, 18, rfl, mco148, rfl, ⟨rfl, rfl, rfl, wd1040, wd1041, wd1042, wd92⟩⟩, (fun _ h => absurd h List.not_mem_nil)⟩)
set_option maxRecDepth 10000 in
theorem vok221 : mVSok (mVS.getD 221 (0, 0, ⟨"", "", ""⟩, none, "", 0, [])) := (List.forall_mem_cons.mpr ⟨⟨RX12, TX12, 33, rfl, mco251, rfl, ⟨rfl, rfl, rfl, wd1552, wd1553, wd1554, wd104⟩⟩, (fun _ h => absurd h List.not_mem_nil)⟩)
set_option maxRecDepth 10000 in
theorem vok222 : mVSok (mVS.getD 222 (0, 0, ⟨"", "", ""⟩, none, "", 0, [])) := (List.forall_mem_cons.mpr ⟨⟨RX11, TX11, 18, rfl, mco106, rfl, ⟨rfl, rfl, rfl, wd694, wd695, wd696, wd92⟩⟩, (fun _ h => absurd h List.not_mem_nil)⟩)
set_option maxRecDepth 10000 in
theorem vok223 : mVSok (mVS.getD 223 (0, 0, ⟨"", "", ""⟩, none, "", 0, [])) := (List.forall_mem_cons.mpr ⟨⟨RX12, TX12, 33, rfl, mco252, rfl, ⟨rfl, rfl, rfl, wd1563, wd1564, wd1565, wd104⟩⟩, (fun _ h => absurd h List.not_mem_nil)⟩)
set_option maxRecDepth 10000 in
theorem vok224 : mVSok (mVS.getD 224 (0, 0, ⟨"", "", ""⟩, none, "", 0, [])) := (List.forall_mem_cons.mpr ⟨⟨RX11, TX11, 18, rfl, mco107, rfl, ⟨rfl, rfl, rfl, wd698, wd699, wd700, wd92⟩⟩, (fun _ h => absurd h List.not_mem_nil)⟩)
set_option maxRecDepth 10000 in
theorem vok225 : mVSok (mVS.getD 225 (0, 0, ⟨"", "", ""⟩, none, "", 0, [])) := (List.forall_mem_cons.mpr ⟨⟨RX12, TX12, 33, rfl, mco254, rfl, ⟨rfl, rfl, rfl, wd1567, wd1568, wd1569, wd104⟩⟩, (fun _ h => absurd h List.not_mem_nil)⟩)
set_option maxRecDepth 10000 in
theorem vok226 : mVSok (mVS.getD 226 (0, 0, ⟨"", "", ""⟩, none, "", 0, [])) := (List.forall_mem_cons.mpr ⟨⟨RX11, TX11, 18, rfl, mco123, rfl, ⟨rfl, rfl, rfl, wd795, wd796, wd797, wd92⟩⟩, (fun _ h => absurd h List.not_mem_nil)⟩)
set_option maxRecDepth 10000 in
theorem vok227 : mVSok (mVS.getD 227 (0, 0, ⟨"", "", ""⟩, none, "", 0, [])) := (List.forall_mem_cons.mpr ⟨⟨RX12, TX12, 33, rfl, mco255, rfl, ⟨rfl, rfl, rfl, wd1575, wd1576, wd1577, wd104⟩⟩, (fun _ h => absurd h List.not_mem_nil)⟩)
set_option maxRecDepth 10000 in
theorem vok228 : mVSok (mVS.getD 228 (0, 0, ⟨"", "", ""⟩, none, "", 0, [])) := (List.forall_mem_cons.mpr ⟨⟨RX11, TX11, 18, rfl, mco114, rfl, ⟨rfl, rfl, rfl, wd745, wd746, wd747, wd92⟩⟩, (fun _ h => absurd h List.not_mem_nil)⟩)
set_option maxRecDepth 10000 in
theorem vok229 : mVSok (mVS.getD 229 (0, 0, ⟨"", "", ""⟩, none, "", 0, [])) := (List.forall_mem_cons.mpr ⟨⟨RX12, TX12, 33, rfl, mco256, rfl, ⟨rfl, rfl, rfl, wd1579, wd1580, wd1581, wd104⟩⟩, (fun _ h => absurd h List.not_mem_nil)⟩)
set_option maxRecDepth 10000 in
theorem vok230 : mVSok (mVS.getD 230 (0, 0, ⟨"", "", ""⟩, none, "", 0, [])) := (List.forall_mem_cons.mpr ⟨⟨RX11, TX11, 18, rfl, mco142, rfl, ⟨rfl, rfl, rfl, wd1011, wd1012, wd1013, wd92⟩⟩, (fun _ h => absurd h List.not_mem_nil)⟩)
set_option maxRecDepth 10000 in
theorem vok231 : mVSok (mVS.getD 231 (0, 0, ⟨"", "", ""⟩, none, "", 0, [])) := (List.forall_mem_cons.mpr ⟨⟨RX12, TX12, 33, rfl, mco260, rfl, ⟨rfl, rfl, rfl, wd1583, wd1584, wd1585, wd104⟩⟩, (fun _ h => absurd h List.not_mem_nil)⟩)
set_option maxRecDepth 10000 in
theorem vok232 : mVSok (mVS.getD 232 (0, 0, ⟨"", "", ""⟩, none, "", 0, [])) := (List.forall_mem_cons.mpr ⟨⟨RX11, TX11, 18, rfl, mco104, rfl, ⟨rfl, rfl, rfl, wd686, wd687, wd688, wd92⟩⟩, (fun _ h => absurd h List.not_mem_nil)⟩)
set_option maxRecDepth 10000 in
theorem vok233 : mVSok (mVS.getD 233 (0, 0, ⟨"", "", ""⟩, none, "", 0, [])) := (List.forall_mem_cons.mpr ⟨⟨RX12, TX12, 33, rfl, mco261, rfl, ⟨rfl, rfl, rfl, wd1598, wd1599, wd1600, wd104⟩⟩, (fun _ h => absurd h List.not_mem_nil)⟩)
set_option maxRecDepth 10000 in
theorem vok234 : mVSok (mVS.getD 234 (0, 0, ⟨"", "", ""⟩, none, "", 0, [])) := (List.forall_mem_cons.mpr ⟨⟨RX11, TX11, 18, rfl, mco105, rfl, ⟨rfl, rfl, rfl, wd690, wd691, wd692, wd92⟩⟩, (fun _ h => absurd h List.not_mem_nil)⟩)
set_option maxRecDepth 10000 in
theorem vok235 : mVSok (mVS.getD 235 (0, 0, ⟨"", "", ""⟩, none, "", 0, [])) := (List.forall_mem_cons.mpr ⟨⟨RX12, TX12, 33, rfl, mco262, rfl, ⟨rfl, rfl, rfl, wd1602, wd1603, wd1604, wd104⟩⟩, (fun _ h => absurd h List.not_mem_nil)⟩)
set_option maxRecDepth 10000 in
theorem vok236 : mVSok (mVS.getD 236 (0, 0, ⟨"", "", ""⟩, none, "", 0, [])) := (List.forall_mem_cons.mpr ⟨⟨RX11, TX11, 18, rfl, mco130, rfl, ⟨rfl, rfl, rfl, wd948, wd949, wd950, wd92⟩⟩, (fun _ h => absurd h List.not_mem_nil)⟩)
set_option maxRecDepth 10000 in
theorem vok237 : mVSok (mVS.getD 237 (0, 0, ⟨"", "", ""⟩, none, "", 0, [])) := (List.forall_mem_cons.mpr ⟨⟨RX12, TX12, 33, rfl, mco265, rfl, ⟨rfl, rfl, rfl, wd1606, wd1607, wd1608, wd104⟩⟩, (fun _ h => absurd h List.not_mem_nil)⟩)
set_option maxRecDepth 10000 in
theorem vok238 : mVSok (mVS.getD 238 (0, 0, ⟨"", "", ""⟩, none, "", 0, [])) := (List.forall_mem_cons.mpr ⟨⟨RX11, TX11, 18, rfl, mco103, rfl, ⟨rfl, rfl, rfl, wd682, wd683, wd684, wd92⟩⟩, (fun _ h => absurd h List.not_mem_nil)⟩)
set_option maxRecDepth 10000 in
theorem vok239 : mVSok (mVS.getD 239 (0, 0, ⟨"", "", ""⟩, none, "", 0, [])) := (List.forall_mem_cons.mpr ⟨⟨RX12, TX12, 33, rfl, mco266, rfl, ⟨rfl, rfl, rfl, wd1618, wd1619, wd1620, wd104⟩⟩, (fun _ h => absurd h List.not_mem_nil)⟩)
set_option maxRecDepth 10000 in
theorem vok240 : mVSok (mVS.getD 240 (0, 0, ⟨"", "", ""⟩, none, "", 0, [])) := (List.forall_mem_cons.mpr ⟨⟨RX11, TX11, 18, rfl, mco141, rfl, ⟨rfl, rfl, rfl, wd1007, wd1008, wd1009, wd92⟩⟩, (fun _ h => absurd h List.not_mem_nil)⟩)
set_option maxRecDepth 10000 in
theorem vok241 : mVSok (mVS.getD 241 (0, 0, ⟨"", "", ""⟩, none, "", 0, [])) := (List.forall_mem_cons.mpr ⟨⟨RX12, TX12, 33, rfl, mco267, rfl, ⟨rfl, rfl, rfl, wd1622, wd1623, wd1624, wd104⟩⟩, (fun _ h => absurd h List.not_mem_nil)⟩)
set_option maxRecDepth 10000 in
theorem vok242 : mVSok (mVS.getD 242 (0, 0, ⟨"", "", ""⟩, none, "", 0, [])) := (List.forall_mem_cons.mpr ⟨⟨RX11, TX11, 18, rfl, mco131, rfl, ⟨rfl, rfl, rfl, wd961, wd962, wd963, wd92⟩⟩, (fun _ h => absurd h List.not_mem_nil)⟩)
set_option maxRecDepth 10000 in
theorem vok243 : mVSok (mVS.getD 243 (0, 0, ⟨"", "", ""⟩, none, "", 0, [])) := (List.forall_mem_cons.mpr ⟨⟨RX12, TX12, 33, rfl, mco268, rfl, ⟨rfl, rfl, rfl, wd1626, wd1627, wd1628, wd104⟩⟩, (fun _ h => absurd h List.not_mem_nil)⟩)
set_option maxRecDepth 10000 in
theorem vok244 : mVSok (mVS.getD 244 (0, 0, ⟨"", "", ""⟩, none, "", 0, [])) := (List.forall_mem_cons.mpr ⟨⟨RX11, TX11, 18, rfl, mco145, rfl, ⟨rfl, rfl, rfl, wd1024, wd1025, wd1026, wd92⟩⟩, (fun _ h => absurd h List.not_mem_nil)⟩)
set_option maxRecDepth 10000 in
theorem vok245 : mVSok (mVS.getD 245 (0, 0, ⟨"", "", ""⟩, none, "", 0, [])) := (List.forall_mem_cons.mpr ⟨⟨RX12, TX12, 33, rfl, mco269, rfl, ⟨rfl, rfl, rfl, wd1630, wd1631, wd1632, wd104⟩⟩, (fun _ h => absurd h List.not_mem_nil)⟩)
set_option maxRecDepth 10000 in
theorem vok246 : mVSok (mVS.getD 246 (0, 0, ⟨"", "", ""⟩, none, "", 0, [])) := (List.forall_mem_cons.mpr ⟨⟨RX11, TX11, 18, rfl, mco146, rfl, ⟨rfl, rfl, rfl, wd1032, wd1033, wd1034, wd92⟩⟩, (fun _ h => absurd h List.not_mem_nil)⟩)
set_option maxRecDepth 10000 in
theorem vok247 : mVSok (mVS.getD 247 (0, 0, ⟨"", "", ""⟩, none, "", 0, [])) := (List.forall_mem_cons.mpr ⟨⟨RX12, TX12, 33, rfl, mco270, rfl, ⟨rfl, rfl, rfl, wd1634, wd1635, wd1636, wd104⟩⟩, (fun _ h => absurd h List.not_mem_nil)⟩)
set_option maxRecDepth 10000 in
theorem vok248 : mVSok (mVS.getD 248 (0, 0, ⟨"", "", ""⟩, none, "", 0, [])) := (List.forall_mem_cons.mpr ⟨⟨RX11, TX11, 18, rfl, mco147, rfl, ⟨rfl, rfl, rfl, wd1036, wd1037, wd1038, wd92⟩⟩, (fun _ h => absurd h List.not_mem_nil)⟩)
set_option maxRecDepth 10000 in
theorem vok249 : mVSok (mVS.getD 249 (0, 0, ⟨"", "", ""⟩, none, "", 0, [])) := (List.forall_mem_cons.mpr ⟨⟨RX12, TX12, 33, rfl, mco271, rfl, ⟨rfl, rfl, rfl, wd1638, wd1639, wd1640, wd104⟩⟩, (fun _ h => absurd h List.not_mem_nil)⟩)
set_option maxRecDepth 10000 in
theorem vok250 : mVSok (mVS.getD 250 (0, 0, ⟨"", "", ""⟩, none, "", 0, [])) := (List.forall_mem_cons.mpr ⟨⟨RX11, TX11, 18, rfl, mco115, rfl, ⟨rfl, rfl, rfl, wd749, wd750, wd751, wd92⟩⟩, (fun _ h => absurd h List.not_mem_nil)⟩)
set_option maxRecDepth 10000 in
theorem vok251 : mVSok (mVS.getD 251 (0, 0, ⟨"", "", ""⟩, none, "", 0, [])) := (List.forall_mem_cons.mpr ⟨⟨RX12, TX12, 33, rfl, mco272, rfl, ⟨rfl, rfl, rfl, wd1642, wd1643, wd1644, wd104⟩⟩, (fun _ h => absurd h List.not_mem_nil)⟩)
set_option maxRecDepth 10000 in
theorem vok252 : mVSok (mVS.getD 252 (0, 0, ⟨"", "", ""⟩, none, "", 0, [])) := (List.forall_mem_cons.mpr ⟨⟨RX11, TX11, 18, rfl, mco149, rfl, ⟨rfl, rfl, rfl, wd1062, wd1063, wd1064, wd92⟩⟩, (fun _ h => absurd h List.not_mem_nil)⟩)
set_option maxRecDepth 10000 in
theorem vok253 : mVSok (mVS.getD 253 (0, 0, ⟨"", "", ""⟩, none, "", 0, [])) := (List.forall_mem_cons.mpr ⟨⟨RX12, TX12, 33, rfl, mco177, rfl, ⟨rfl, rfl, rfl, wd1307, wd1308, wd1309, wd104⟩⟩, (fun _ h => absurd h List.not_mem_nil)⟩)
set_option maxRecDepth 10000 in
theorem vok254 : mVSok (mVS.getD 254 (0, 0, ⟨"", "", ""⟩, none, "", 0, [])) := (List.forall_mem_cons.mpr ⟨⟨RX11, TX11, 18, rfl, mco150, rfl, ⟨rfl, rfl, rfl, wd1066, wd1067, wd1068, wd92⟩⟩, (fun _ h => absurd h List.not_mem_nil)⟩)
set_option maxRecDepth 10000 in
theorem vok255 : mVSok (mVS.getD 255 (0, 0, ⟨"", "", ""⟩, none, "", 0, [])) := (List.forall_mem_cons.mpr ⟨⟨RX12, TX12, 33, rfl, mco178, rfl, ⟨rfl, rfl, rfl, wd1311, wd1312, wd1313, wd104⟩⟩, (fun _ h => absurd h List.not_mem_nil)⟩)
set_option maxRecDepth 10000 in
theorem vok256 : mVSok (mVS.getD 256 (0, 0, ⟨"", "", ""⟩, none, "", 0, [])) := (List.forall_mem_cons.mpr ⟨⟨RX11, TX11, 18, rfl, mco151, rfl, ⟨rfl, rfl, rfl, wd1070, wd1071, wd1072, wd92⟩⟩, (fun _ h => absurd h List.not_mem_nil)⟩)
set_option maxRecDepth 10000 in
theorem vok257 : mVSok (mVS.getD 257 (0, 0, ⟨"", "", ""⟩, none, "", 0, [])) := (List.forall_mem_cons.mpr ⟨⟨RX12, TX12, 33, rfl, mco273, rfl, ⟨rfl, rfl, rfl, wd1649, wd1650, wd1651, wd104⟩⟩, (fun _ h => absurd h List.not_mem_nil)⟩)
set_option maxRecDepth 10000 in
theorem sok0 : mSSok (mSS.getD 0 (0, 0, none, 3, 0, 0)) := ⟨rfl, wd464, wd466, wd465, wd105⟩
set_option maxRecDepth 10000 in
theorem sok1 : mSSok (mSS.getD 1 (0, 0, none, 3, 0, 0)) := ⟨_, rfl, mco152, rfl, wd663, wd664, wd92⟩
set_option maxRecDepth 10000 in
theorem sok2 : mSSok (mSS.getD 2 (0, 0, none, 3, 0, 0)) := ⟨rfl, mco27, rfl, wd510, wd511, wd93⟩
set_option maxRecDepth 10000 in
theorem sok3 : mSSok (mSS.getD 3 (0, 0, none, 3, 0, 0)) := ⟨rfl, mco29, rfl, wd520, wd521, wd93⟩
set_option maxRecDepth 10000 in
theorem sok4 : mSSok (mSS.getD 4 (0, 0, none, 3, 0, 0)) := ⟨rfl, wd530, wd531, wd106, wd532⟩
set_option maxRecDepth 10000 in
theorem sok5 : mSSok (mSS.getD 5 (0, 0, none, 3, 0, 0)) := ⟨rfl, wd517, wd518, wd106, wd519⟩
set_option maxRecDepth 10000 in
theorem sok6 : mSSok (mSS.getD 6 (0, 0, none, 3, 0, 0)) := ⟨rfl, wd523, wd524, wd106, wd525⟩
set_option maxRecDepth 10000 in
theorem sok7 : mSSok (mSS.getD 7 (0, 0, none, 3, 0, 0)) := ⟨rfl, mco0, rfl, wd859, wd740, wd107⟩
set_option maxRecDepth 10000 in
theorem sok8 : mSSok (mSS.getD 8 (0, 0, none, 3, 0, 0)) := ⟨rfl, wd867, wd518, wd106, wd519⟩
set_option maxRecDepth 10000 in
theorem sok9 : mSSok (mSS.getD 9 (0, 0, none, 3, 0, 0)) := ⟨rfl, wd868, wd531, wd106, wd532⟩
set_option maxRecDepth 10000 in
theorem sok10 : mSSok (mSS.getD 10 (0, 0, none, 3, 0, 0)) := ⟨rfl, wd889, wd531, wd106, wd532⟩
set_option maxRecDepth 10000 in
theorem sok11 : mSSok (mSS.getD 11 (0, 0, none, 3, 0, 0)) := ⟨rfl, wd618, wd466, wd465, wd105⟩
set_option maxRecDepth 10000 in
theorem sok12 : mSSok (mSS.getD 12 (0, 0, none, 3, 0, 0)) := ⟨rfl, wd619, wd531, wd106, wd532⟩
set_option maxRecDepth 10000 in
theorem sok13 : mSSok (mSS.getD 13 (0, 0, none, 3, 0, 0)) := ⟨rfl, wd644, wd518, wd106, wd519⟩
set_option maxRecDepth 10000 in
theorem sok14 : mSSok (mSS.getD 14 (0, 0, none, 3, 0, 0)) := ⟨rfl, wd841, wd466, wd465, wd105⟩
set_option maxRecDepth 10000 in
theorem sok15 : mSSok (mSS.getD 15 (0, 0, none, 3, 0, 0)) := ⟨rfl, wd840, wd531, wd106, wd532⟩
set_option maxRecDepth 10000 in
theorem sok16 : mSSok (mSS.getD 16 (0, 0, none, 3, 0, 0)) := ⟨rfl, wd922, wd518, wd106, wd519⟩
set_option maxRecDepth 10000 in
theorem sok17 : mSSok (mSS.getD 17 (0, 0, none, 3, 0, 0)) := ⟨rfl, wd1056, wd466, wd465, wd105⟩
set_option maxRecDepth 10000 in
theorem sok18 : mSSok (mSS.getD 18 (0, 0, none, 3, 0, 0)) := ⟨rfl, mco62, rfl, wd1052, wd1053, wd96⟩
set_option maxRecDepth 10000 in
theorem sok19 : mSSok (mSS.getD 19 (0, 0, none, 3, 0, 0)) := ⟨rfl, wd1055, wd531, wd106, wd532⟩
set_option maxRecDepth 10000 in
theorem sok20 : mSSok (mSS.getD 20 (0, 0, none, 3, 0, 0)) := ⟨rfl, mco0, rfl, wd1061, wd740, wd107⟩
set_option maxRecDepth 10000 in
theorem sok21 : mSSok (mSS.getD 21 (0, 0, none, 3, 0, 0)) := ⟨rfl, mco68, rfl, wd449, wd450, wd95⟩
set_option maxRecDepth 10000 in
theorem sok22 : mSSok (mSS.getD 22 (0, 0, none, 3, 0, 0)) := ⟨rfl, mco73, rfl, wd426, wd427, wd92⟩
set_option maxRecDepth 10000 in
theorem sok23 : mSSok (mSS.getD 23 (0, 0, none, 3, 0, 0)) := ⟨rfl, mco68, rfl, wd566, wd450, wd95⟩
set_option maxRecDepth 10000 in
theorem sok24 : mSSok (mSS.getD 24 (0, 0, none, 3, 0, 0)) := ⟨rfl, wd567, wd518, wd106, wd519⟩
set_option maxRecDepth 10000 in
theorem sok25 : mSSok (mSS.getD 25 (0, 0, none, 3, 0, 0)) := ⟨rfl, mco75, rfl, wd584, wd585, wd92⟩
set_option maxRecDepth 10000 in
theorem sok26 : mSSok (mSS.getD 26 (0, 0, none, 3, 0, 0)) := ⟨rfl, mco72, rfl, wd587, wd588, wd92⟩
set_option maxRecDepth 10000 in
theorem sok27 : mSSok (mSS.getD 27 (0, 0, none, 3, 0, 0)) := ⟨rfl, mco2, rfl, wd666, wd667, wd106⟩
set_option maxRecDepth 10000 in
theorem sok28 : mSSok (mSS.getD 28 (0, 0, none, 3, 0, 0)) := ⟨rfl, mco1, rfl, wd732, wd733, wd108⟩
set_option maxRecDepth 10000 in
theorem sok29 : mSSok (mSS.getD 29 (0, 0, none, 3, 0, 0)) := ⟨rfl, mco0, rfl, wd739, wd740, wd107⟩
set_option maxRecDepth 10000 in
theorem sok30 : mSSok (mSS.getD 30 (0, 0, none, 3, 0, 0)) := ⟨rfl, mco6, rfl, wd777, wd778, wd109⟩
set_option maxRecDepth 10000 in
theorem sok31 : mSSok (mSS.getD 31 (0, 0, none, 3, 0, 0)) := ⟨rfl, wd669, wd531, wd106, wd532⟩
set_option maxRecDepth 10000 in
theorem sok32 : mSSok (mSS.getD 32 (0, 0, none, 3, 0, 0)) := ⟨rfl, mco124, rfl, wd817, wd818, wd92⟩
set_option maxRecDepth 10000 in
theorem sok33 : mSSok (mSS.getD 33 (0, 0, none, 3, 0, 0)) := ⟨rfl, mco74, rfl, wd803, wd804, wd92⟩
set_option maxRecDepth 10000 in
theorem sok34 : mSSok (mSS.getD 34 (0, 0, none, 3, 0, 0)) := ⟨rfl, mco134, rfl, wd979, wd980, wd92⟩
set_option maxRecDepth 10000 in
theorem sok35 : mSSok (mSS.getD 35 (0, 0, none, 3, 0, 0)) := ⟨rfl, mco136, rfl, wd987, wd988, wd92⟩
set_option maxRecDepth 10000 in
theorem sok36 : mSSok (mSS.getD 36 (0, 0, none, 3, 0, 0)) := ⟨rfl, mco152, rfl, wd998, wd664, wd92⟩
set_option maxRecDepth 10000 in
theorem sok37 : mSSok (mSS.getD 37 (0, 0, none, 3, 0, 0)) := ⟨rfl, wd1023, wd524, wd106, wd525⟩
set_option maxRecDepth 10000 in
theorem sok38 : mSSok (mSS.getD 38 (0, 0, none, 3, 0, 0)) := ⟨rfl, mco156, rfl, wd1184, wd1185, wd104⟩
set_option maxRecDepth 10000 in
theorem sok39 : mSSok (mSS.getD 39 (0, 0, none, 3, 0, 0)) := ⟨rfl, mco155, rfl, wd1211, wd1212, wd104⟩
set_option maxRecDepth 10000 in
theorem sok40 : mSSok (mSS.getD 40 (0, 0, none, 3, 0, 0)) := ⟨rfl, mco184, rfl, wd1270, wd1271, wd104⟩
set_option maxRecDepth 10000 in
theorem sok41 : mSSok (mSS.getD 41 (0, 0, none, 3, 0, 0)) := ⟨rfl, mco182, rfl, wd1277, wd1278, wd104⟩
set_option maxRecDepth 10000 in
theorem sok42 : mSSok (mSS.getD 42 (0, 0, none, 3, 0, 0)) := ⟨rfl, mco183, rfl, wd1280, wd1281, wd104⟩
set_option maxRecDepth 10000 in
theorem sok43 : mSSok (mSS.getD 43 (0, 0, none, 3, 0, 0)) := ⟨rfl, mco206, rfl, wd1367, wd1368, wd104⟩
set_option maxRecDepth 10000 in
theorem sok44 : mSSok (mSS.getD 44 (0, 0, none, 3, 0, 0)) := ⟨rfl, mco215, rfl, wd1426, wd1427, wd104⟩
set_option maxRecDepth 10000 in
theorem sok45 : mSSok (mSS.getD 45 (0, 0, none, 3, 0, 0)) := ⟨rfl, mco242, rfl, wd1529, wd1530, wd104⟩
set_option maxRecDepth 10000 in
theorem sok46 : mSSok (mSS.getD 46 (0, 0, none, 3, 0, 0)) := ⟨rfl, mco249, rfl, wd1560, wd1561, wd104⟩
set_option maxRecDepth 10000 in
theorem sok47 : mSSok (mSS.getD 47 (0, 0, none, 3, 0, 0)) := ⟨rfl, mco257, rfl, wd1587, wd1588, wd104⟩
set_option maxRecDepth 10000 in
theorem iok0 : mISok (mIS.getD 0 (0, 0, none, 3, 0, 0)) := ⟨_, rfl, mco49, rfl, wd300, wd230, wd97, rfl, rfl⟩
set_option maxRecDepth 10000 in
theorem iok1 : mISok (mIS.getD 1 (0, 0, none, 3, 0, 0)) := ⟨_, rfl, mco49, rfl, wd229, wd230, wd97, rfl, rfl⟩
set_option maxRecDepth 10000 in
theorem iok2 : mISok (mIS.getD 2 (0, 0, none, 3, 0, 0)) := ⟨rfl, wd123, wd116, wd117⟩
set_option maxRecDepth 10000 in
theorem iok3 : mISok (mIS.getD 3 (0, 0, none, 3, 0, 0)) := ⟨_, rfl, mco49, rfl, wd355, wd230, wd97, rfl, rfl⟩
set_option maxRecDepth 10000 in
theorem iok4 : mISok (mIS.getD 4 (0, 0, none, 3, 0, 0)) := ⟨_, rfl, mco49, rfl, wd283, wd230, wd97, rfl, rfl⟩
set_option maxRecDepth 10000 in
theorem iok5 : mISok (mIS.getD 5 (0, 0, none, 3, 0, 0)) := ⟨_, rfl, mco49, rfl, wd334, wd230, wd97, rfl, rfl⟩
set_option maxRecDepth 10000 in
theorem iok6 : mISok (mIS.getD 6 (0, 0, none, 3, 0, 0)) := ⟨_, rfl, mco49, rfl, wd313, wd230, wd97, rfl, rfl⟩
set_option maxRecDepth 10000 in
theorem iok7 : mISok (mIS.getD 7 (0, 0, none, 3, 0, 0)) := ⟨rfl, wd171, wd116, wd117⟩
set_option maxRecDepth 10000 in
theorem iok8 : mISok (mIS.getD 8 (0, 0, none, 3, 0, 0)) := ⟨rfl, wd232, wd116, wd117⟩
set_option maxRecDepth 10000 in
theorem iok9 : mISok (mIS.getD 9 (0, 0, none, 3, 0, 0)) := ⟨rfl, wd207, wd116, wd117⟩
set_option maxRecDepth 10000 in
theorem iok10 : mISok (mIS.getD 10 (0, 0, none, 3, 0, 0)) := ⟨rfl, wd193, wd116, wd117⟩
set_option maxRecDepth 10000 in
theorem iok11 : mISok (mIS.getD 11 (0, 0, none, 3, 0, 0)) := ⟨rfl, wd115, wd116, wd117⟩
set_option maxRecDepth 10000 in
theorem iok12 : mISok (mIS.getD 12 (0, 0, none, 3, 0, 0)) := ⟨rfl, mco11, rfl, wd120, wd121, wd93, rfl, rfl⟩
set_option maxRecDepth 10000 in
theorem iok13 : mISok (mIS.getD 13 (0, 0, none, 3, 0, 0)) := ⟨_, rfl, mco45, rfl, wd168, wd169, wd94, rfl, rfl⟩
set_option maxRecDepth 10000 in
theorem iok14 : mISok (mIS.getD 14 (0, 0, none, 3, 0, 0)) := ⟨_, rfl, mco64, rfl, wd190, wd191, wd95, rfl, rfl⟩
set_option maxRecDepth 10000 in
theorem iok15 : mISok (mIS.getD 15 (0, 0, none, 3, 0, 0)) := ⟨_, rfl, mco57, rfl, wd204, wd205, wd96, rfl, rfl⟩
set_option maxRecDepth 10000 in
theorem iok16 : mISok (mIS.getD 16 (0, 0, none, 3, 0, 0)) := ⟨_, rfl, mco9, rfl, wd226, wd227, wd98, rfl, rfl⟩
set_option maxRecDepth 10000 in
theorem iok17 : mISok (mIS.getD 17 (0, 0, none, 3, 0, 0)) := ⟨_, rfl, mco38, rfl, wd280, wd281, wd99, rfl, rfl⟩
set_option maxRecDepth 10000 in
theorem iok18 : mISok (mIS.getD 18 (0, 0, none, 3, 0, 0)) := ⟨_, rfl, mco7, rfl, wd297, wd298, wd100, rfl, rfl⟩
set_option maxRecDepth 10000 in
theorem iok19 : mISok (mIS.getD 19 (0, 0, none, 3, 0, 0)) := ⟨_, rfl, mco42, rfl, wd310, wd311, wd101, rfl, rfl⟩
set_option maxRecDepth 10000 in
theorem iok20 : mISok (mIS.getD 20 (0, 0, none, 3, 0, 0)) := ⟨_, rfl, mco40, rfl, wd331, wd332, wd102, rfl, rfl⟩
set_option maxRecDepth 10000 in
theorem iok21 : mISok (mIS.getD 21 (0, 0, none, 3, 0, 0)) := ⟨_, rfl, mco36, rfl, wd352, wd353, wd103, rfl, rfl⟩
set_option maxRecDepth 10000 in
theorem iok22 : mISok (mIS.getD 22 (0, 0, none, 3, 0, 0)) := ⟨rfl, wd1079, wd116, wd117⟩
set_option maxRecDepth 10000 in
theorem iok23 : mISok (mIS.getD 23 (0, 0, none, 3, 0, 0)) := ⟨rfl, mco70, rfl, wd112, wd113, wd92, rfl, rfl⟩
set_option maxRecDepth 10000 in
theorem iok24 : mISok (mIS.getD 24 (0, 0, none, 3, 0, 0)) := ⟨rfl, mco153, rfl, wd1076, wd1077, wd104, rfl, rfl⟩
set_option maxRecDepth 10000 in
theorem kok0 : mKSok (mKS.getD 0 (0, 0, false, 0)) := wd742
set_option maxRecDepth 10000 in
theorem kok1 : mKSok (mKS.getD 1 (0, 0, false, 0)) := wd743
set_option maxRecDepth 10000 in
theorem kok2 : mKSok (mKS.getD 2 (0, 0, false, 0)) := wd744
set_option maxRecDepth 10000 in
theorem kok3 : mKSok (mKS.getD 3 (0, 0, false, 0)) := wd780
set_option maxRecDepth 10000 in
theorem kok4 : mKSok (mKS.getD 4 (0, 0, false, 0)) := wd781
set_option maxRecDepth 10000 in
theorem kok5 : mKSok (mKS.getD 5 (0, 0, false, 0)) := wd782
set_option maxRecDepth 10000 in
theorem kok6 : mKSok (mKS.getD 6 (0, 0, false, 0)) := wd826
set_option maxRecDepth 10000 in
theorem kok7 : mKSok (mKS.getD 7 (0, 0, false, 0)) := wd812
set_option maxRecDepth 10000 in
theorem kok8 : mKSok (mKS.getD 8 (0, 0, false, 0)) := wd753
set_option maxRecDepth 10000 in
theorem kok9 : mKSok (mKS.getD 9 (0, 0, false, 0)) := wd754
set_option maxRecDepth 10000 in
theorem kok10 : mKSok (mKS.getD 10 (0, 0, false, 0)) := wd755
set_option maxRecDepth 10000 in
theorem kok11 : mKSok (mKS.getD 11 (0, 0, false, 0)) := wd760
set_option maxRecDepth 10000 in
theorem kok12 : mKSok (mKS.getD 12 (0, 0, false, 0)) := wd1646
set_option maxRecDepth 10000 in
theorem kok13 : mKSok (mKS.getD 13 (0, 0, false, 0)) := wd1647
set_option maxRecDepth 10000 in
theorem kok14 : mKSok (mKS.getD 14 (0, 0, false, 0)) := wd1648
set_option maxRecDepth 10000 in
theorem nok0 : mNSok (mNS.getD 0 (0, 0, 3, "", 0, 0)) := ⟨rfl, wd172, wd173⟩
set_option maxRecDepth 10000 in
theorem nok1 : mNSok (mNS.getD 1 (0, 0, 3, "", 0, 0)) := ⟨_, rfl, rfl, wd118, wd119, wd93⟩
set_option maxRecDepth 10000 in
theorem nok2 : mNSok (mNS.getD 2 (0, 0, 3, "", 0, 0)) := ⟨rfl, wd118, wd165⟩
set_option maxRecDepth 10000 in
theorem nok3 : mNSok (mNS.getD 3 (0, 0, 3, "", 0, 0)) := ⟨_, rfl, rfl, wd166, wd167, wd94⟩
set_option maxRecDepth 10000 in
theorem nok4 : mNSok (mNS.getD 4 (0, 0, 3, "", 0, 0)) := ⟨_, rfl, rfl, wd188, wd189, wd95⟩
set_option maxRecDepth 10000 in
theorem nok5 : mNSok (mNS.getD 5 (0, 0, 3, "", 0, 0)) := ⟨_, rfl, rfl, wd202, wd203, wd96⟩
set_option maxRecDepth 10000 in
theorem nok6 : mNSok (mNS.getD 6 (0, 0, 3, "", 0, 0)) := ⟨_, rfl, rfl, wd224, wd225, wd98⟩
set_option maxRecDepth 10000 in
theorem nok7 : mNSok (mNS.getD 7 (0, 0, 3, "", 0, 0)) := ⟨_, rfl, rfl, wd278, wd279, wd99⟩
set_option maxRecDepth 10000 in
theorem nok8 : mNSok (mNS.getD 8 (0, 0, 3, "", 0, 0)) := ⟨_, rfl, rfl, wd295, wd296, wd100⟩
set_option maxRecDepth 10000 in
theorem nok9 : mNSok (mNS.getD 9 (0, 0, 3, "", 0, 0)) := ⟨_, rfl, rfl, wd308, wd309, wd101⟩
set_option maxRecDepth 10000 in
theorem nok10 : mNSok (mNS.getD 10 (0, 0, 3, "", 0, 0)) := ⟨_, rfl, rfl, wd329, wd330, wd102⟩
set_option maxRecDepth 10000 in
theorem nok11 : mNSok (mNS.getD 11 (0, 0, 3, "", 0, 0)) := ⟨_, rfl, rfl, wd350, wd351, wd103⟩
set_option maxRecDepth 10000 in
theorem nok12 : mNSok (mNS.getD 12 (0, 0, 3, "", 0, 0)) := ⟨_, rfl, rfl, wd110, wd111, wd92⟩
set_option maxRecDepth 10000 in
theorem nok13 : mNSok (mNS.getD 13 (0, 0, 3, "", 0, 0)) := ⟨_, rfl, rfl, wd1074, wd1075, wd104⟩
set_option maxRecDepth 10000 in
theorem lay0 : ∀ w ∈ u_ws RX0 TX0 6, w ∈ mTL := by
  show ∀ w ∈ ([u_lay RX0 TX0 0, u_lay RX0 TX0 1, u_lay RX0 TX0 2, u_lay RX0 TX0 3, u_lay RX0 TX0 4, u_lay RX0 TX0 5] : List Cond), w ∈ mTL
  exact (List.forall_mem_cons.mpr ⟨wd301, (List.forall_mem_cons.mpr ⟨wd302, (List.forall_mem_cons.mpr ⟨wd303, (List.forall_mem_cons.mpr ⟨wd304, (List.forall_mem_cons.mpr ⟨wd305, (List.forall_mem_cons.mpr ⟨wd306, (fun _ h => absurd h List.not_mem_nil)⟩)⟩)⟩)⟩)⟩)⟩)
set_option maxRecDepth 10000 in
theorem lay1 : ∀ w ∈ u_ws RX1 TX1 6, w ∈ mTL := by
  show ∀ w ∈ ([u_lay RX1 TX1 0, u_lay RX1 TX1 1, u_lay RX1 TX1 2, u_lay RX1 TX1 3, u_lay RX1 TX1 4, u_lay RX1 TX1 5] : List Cond), w ∈ mTL
  exact (List.forall_mem_cons.mpr ⟨wd265, (List.forall_mem_cons.mpr ⟨wd267, (List.forall_mem_cons.mpr ⟨wd269, (List.forall_mem_cons.mpr ⟨wd271, (List.forall_mem_cons.mpr ⟨wd273, (List.forall_mem_cons.mpr ⟨wd275, (fun _ h => absurd h List.not_mem_nil)⟩)⟩)⟩)⟩)⟩)⟩)
set_option maxRecDepth 10000 in
theorem lay2 : ∀ w ∈ u_ws RX2 TX2 8, w ∈ mTL := by
  show ∀ w ∈ ([u_lay RX2 TX2 0, u_lay RX2 TX2 1, u_lay RX2 TX2 2, u_lay RX2 TX2 3, u_lay RX2 TX2 4, u_lay RX2 TX2 5, u_lay RX2 TX2 6, u_lay RX2 TX2 7] : List Cond), w ∈ mTL
  exact (List.forall_mem_cons.mpr ⟨wd147, (List.forall_mem_cons.mpr ⟨wd149, (List.forall_mem_cons.mpr ⟨wd151, (List.forall_mem_cons.mpr ⟨wd153, (List.forall_mem_cons.mpr ⟨wd155, (List.forall_mem_cons.mpr ⟨wd157, (List.forall_mem_cons.mpr ⟨wd159, (List.forall_mem_cons.mpr ⟨wd161, (fun _ h => absurd h List.not_mem_nil)⟩)⟩)⟩)⟩)⟩)⟩)⟩)⟩)
set_option maxRecDepth 10000 in
theorem lay3 : ∀ w ∈ u_ws RX3 TX3 7, w ∈ mTL := by
  show ∀ w ∈ ([u_lay RX3 TX3 0, u_lay RX3 TX3 1, u_lay RX3 TX3 2, u_lay RX3 TX3 3, u_lay RX3 TX3 4, u_lay RX3 TX3 5, u_lay RX3 TX3 6] : List Cond), w ∈ mTL
  exact (List.forall_mem_cons.mpr ⟨wd360, (List.forall_mem_cons.mpr ⟨wd361, (List.forall_mem_cons.mpr ⟨wd362, (List.forall_mem_cons.mpr ⟨wd363, (List.forall_mem_cons.mpr ⟨wd364, (List.forall_mem_cons.mpr ⟨wd365, (List.forall_mem_cons.mpr ⟨wd358, (fun _ h => absurd h List.not_mem_nil)⟩)⟩)⟩)⟩)⟩)⟩)⟩)
set_option maxRecDepth 10000 in
theorem lay4 : ∀ w ∈ u_ws RX4 TX4 7, w ∈ mTL := by
  show ∀ w ∈ ([u_lay RX4 TX4 0, u_lay RX4 TX4 1, u_lay RX4 TX4 2, u_lay RX4 TX4 3, u_lay RX4 TX4 4, u_lay RX4 TX4 5, u_lay RX4 TX4 6] : List Cond), w ∈ mTL
  exact (List.forall_mem_cons.mpr ⟨wd288, (List.forall_mem_cons.mpr ⟨wd289, (List.forall_mem_cons.mpr ⟨wd290, (List.forall_mem_cons.mpr ⟨wd291, (List.forall_mem_cons.mpr ⟨wd292, (List.forall_mem_cons.mpr ⟨wd293, (List.forall_mem_cons.mpr ⟨wd286, (fun _ h => absurd h List.not_mem_nil)⟩)⟩)⟩)⟩)⟩)⟩)⟩)
set_option maxRecDepth 10000 in
theorem lay5 : ∀ w ∈ u_ws RX5 TX5 8, w ∈ mTL := by
  show ∀ w ∈ ([u_lay RX5 TX5 0, u_lay RX5 TX5 1, u_lay RX5 TX5 2, u_lay RX5 TX5 3, u_lay RX5 TX5 4, u_lay RX5 TX5 5, u_lay RX5 TX5 6, u_lay RX5 TX5 7] : List Cond), w ∈ mTL
  exact (List.forall_mem_cons.mpr ⟨wd343, (List.forall_mem_cons.mpr ⟨wd344, (List.forall_mem_cons.mpr ⟨wd345, (List.forall_mem_cons.mpr ⟨wd346, (List.forall_mem_cons.mpr ⟨wd347, (List.forall_mem_cons.mpr ⟨wd348, (List.forall_mem_cons.mpr ⟨wd339, (List.forall_mem_cons.mpr ⟨wd341, (fun _ h => absurd h List.not_mem_nil)⟩)⟩)⟩)⟩)⟩)⟩)⟩)⟩)
set_option maxRecDepth 10000 in
theorem lay6 : ∀ w ∈ u_ws RX6 TX6 8, w ∈ mTL := by
  show ∀ w ∈ ([u_lay RX6 TX6 0, u_lay RX6 TX6 1, u_lay RX6 TX6 2, u_lay RX6 TX6 3, u_lay RX6 TX6 4, u_lay RX6 TX6 5, u_lay RX6 TX6 6, u_lay RX6 TX6 7] : List Cond), w ∈ mTL
  exact (List.forall_mem_cons.mpr ⟨wd322, (List.forall_mem_cons.mpr ⟨wd323, (List.forall_mem_cons.mpr ⟨wd324, (List.forall_mem_cons.mpr ⟨wd325, (List.forall_mem_cons.mpr ⟨wd326, (List.forall_mem_cons.mpr ⟨wd327, (List.forall_mem_cons.mpr ⟨wd318, (List.forall_mem_cons.mpr ⟨wd320, (fun _ h => absurd h List.not_mem_nil)⟩)⟩)⟩)⟩)⟩)⟩)⟩)⟩)
set_option maxRecDepth 10000 in
theorem lay7 : ∀ w ∈ u_ws RX7 TX7 4, w ∈ mTL := by
  show ∀ w ∈ ([u_lay RX7 TX7 0, u_lay RX7 TX7 1, u_lay RX7 TX7 2, u_lay RX7 TX7 3] : List Cond), w ∈ mTL
  exact (List.forall_mem_cons.mpr ⟨wd179, (List.forall_mem_cons.mpr ⟨wd181, (List.forall_mem_cons.mpr ⟨wd183, (List.forall_mem_cons.mpr ⟨wd185, (fun _ h => absurd h List.not_mem_nil)⟩)⟩)⟩)⟩)
set_option maxRecDepth 10000 in
theorem lay9 : ∀ w ∈ u_ws RX9 TX9 4, w ∈ mTL := by
  show ∀ w ∈ ([u_lay RX9 TX9 0, u_lay RX9 TX9 1, u_lay RX9 TX9 2, u_lay RX9 TX9 3] : List Cond), w ∈ mTL
  exact (List.forall_mem_cons.mpr ⟨wd215, (List.forall_mem_cons.mpr ⟨wd217, (List.forall_mem_cons.mpr ⟨wd219, (List.forall_mem_cons.mpr ⟨wd221, (fun _ h => absurd h List.not_mem_nil)⟩)⟩)⟩)⟩)
set_option maxRecDepth 10000 in
theorem lay10 : ∀ w ∈ u_ws RX10 TX10 2, w ∈ mTL := by
  show ∀ w ∈ ([u_lay RX10 TX10 0, u_lay RX10 TX10 1] : List Cond), w ∈ mTL
  exact (List.forall_mem_cons.mpr ⟨wd197, (List.forall_mem_cons.mpr ⟨wd199, (fun _ h => absurd h List.not_mem_nil)⟩)⟩)
set_option maxRecDepth 10000 in
theorem lay11 : ∀ w ∈ u_ws RX11 TX11 18, w ∈ mTL := by
  show ∀ w ∈ ([u_lay RX11 TX11 0, u_lay RX11 TX11 1, u_lay RX11 TX11 2, u_lay RX11 TX11 3, u_lay RX11 TX11 4, u_lay RX11 TX11 5, u_lay RX11 TX11 6, u_lay RX11 TX11 7, u_lay RX11 TX11 8, u_lay RX11 TX11 9, u_lay RX11 TX11 10, u_lay RX11 TX11 11, u_lay RX11 TX11 12, u_lay RX11 TX11 13, u_lay RX11 TX11 14, u_lay RX11 TX11 15, u_lay RX11 TX11 16, u_lay RX11 TX11 17] : List Cond), w ∈ mTL
  exact (List.forall_mem_cons.mpr ⟨wd385, (List.forall_mem_cons.mpr ⟨wd387, (List.forall_mem_cons.mpr ⟨wd389, (List.forall_mem_cons.mpr ⟨wd391, (List.forall_mem_cons.mpr ⟨wd393, (List.forall_mem_cons.mpr ⟨wd395, (List.forall_mem_cons.mpr ⟨wd397, (List.forall_mem_cons.mpr ⟨wd399, (List.forall_mem_cons.mpr ⟨wd401, (List.forall_mem_cons.mpr ⟨wd403, (List.forall_mem_cons.mpr ⟨wd405, (List.forall_mem_cons.mpr ⟨wd407, (List.forall_mem_cons.mpr ⟨wd409, (List.forall_mem_cons.mpr ⟨wd411, (List.forall_mem_cons.mpr ⟨wd413, (List.forall_mem_cons.mpr ⟨wd415, (List.forall_mem_cons.mpr ⟨wd417, (List.forall_mem_cons.mpr ⟨wd419, (fun _ h => absurd h List.not_mem_nil)⟩)⟩)⟩)⟩)⟩)⟩)⟩)⟩)⟩)⟩)⟩)⟩)⟩)⟩)⟩)⟩)⟩)⟩)
set_option maxRecDepth 10000 in
theorem lay12 : ∀ w ∈ u_ws RX12 TX12 33, w ∈ mTL := by
  show ∀ w ∈ ([u_lay RX12 TX12 0, u_lay RX12 TX12 1, u_lay RX12 TX12 2, u_lay RX12 TX12 3, u_lay RX12 TX12 4, u_lay RX12 TX12 5, u_lay RX12 TX12 6, u_lay RX12 TX12 7, u_lay RX12 TX12 8, u_lay RX12 TX12 9, u_lay RX12 TX12 10, u_lay RX12 TX12 11, u_lay RX12 TX12 12, u_lay RX12 TX12 13, u_lay RX12 TX12 14, u_lay RX12 TX12 15, u_lay RX12 TX12 16, u_lay RX12 TX12 17, u_lay RX12 TX12 18, u_lay RX12 TX12 19, u_lay RX12 TX12 20, u_lay RX12 TX12 21, u_lay RX12 TX12 22, u_lay RX12 TX12 23, u_lay RX12 TX12 24, u_lay RX12 TX12 25, u_lay RX12 TX12 26, u_lay RX12 TX12 27, u_lay RX12 TX12 28, u_lay RX12 TX12 29, u_lay RX12 TX12 30, u_lay RX12 TX12 31, u_lay RX12 TX12 32] : List Cond), w ∈ mTL
  exact (List.forall_mem_cons.mpr ⟨wd1113, (List.forall_mem_cons.mpr ⟨wd1115, (List.forall_mem_cons.mpr ⟨wd1117, (List.forall_mem_cons.mpr ⟨wd1119, (List.forall_mem_cons.mpr ⟨wd1121, (List.forall_mem_cons.mpr ⟨wd1123, (List.forall_mem_cons.mpr ⟨wd1125, (List.forall_mem_cons.mpr ⟨wd1127, (List.forall_mem_cons.mpr ⟨wd1129, (List.forall_mem_cons.mpr ⟨wd1131, (List.forall_mem_cons.mpr ⟨wd1133, (List.forall_mem_cons.mpr ⟨wd1135, (List.forall_mem_cons.mpr ⟨wd1137, (List.forall_mem_cons.mpr ⟨wd1139, (List.forall_mem_cons.mpr ⟨wd1141, (List.forall_mem_cons.mpr ⟨wd1143, (List.forall_mem_cons.mpr ⟨wd1145, (List.forall_mem_cons.mpr ⟨wd1147, (List.forall_mem_cons.mpr ⟨wd1149, (List.forall_mem_cons.mpr ⟨wd1151, (List.forall_mem_cons.mpr ⟨wd1153, (List.forall_mem_cons.mpr ⟨wd1155, (List.forall_mem_cons.mpr ⟨wd1157, (List.forall_mem_cons.mpr ⟨wd1159, (List.forall_mem_cons.mpr ⟨wd1161, (List.forall_mem_cons.mpr ⟨wd1163, (List.forall_mem_cons.mpr ⟨wd1165, (List.forall_mem_cons.mpr ⟨wd1167, (List.forall_mem_cons.mpr ⟨wd1169, (List.forall_mem_cons.mpr ⟨wd1171, (List.forall_mem_cons.mpr ⟨wd1173, (List.forall_mem_cons.mpr ⟨wd1175, (List.forall_mem_cons.mpr ⟨wd1177, (fun _ h => absurd h List.not_mem_nil)⟩)⟩)⟩)⟩)⟩)⟩)⟩)⟩)⟩)⟩)⟩)⟩)⟩)⟩)⟩)⟩)⟩)⟩)⟩)⟩)⟩)⟩)⟩)⟩)⟩)⟩)⟩)⟩)⟩)⟩)⟩)⟩)⟩)
set_option maxRecDepth 10000 in
theorem ynlt_s {P : Nat → Prop} {n : Nat} (ih : ∀ y, y < n → P y) (h : P n) : ∀ y, y < n + 1 → P y := fun y hy => (Nat.lt_succ_iff_lt_or_eq.mp hy).elim (ih y) (fun e => e ▸ h)
set_option maxRecDepth 10000 in
theorem ynlt_0 {P : Nat → Prop} : ∀ y, y < 0 → P y := fun y h => absurd h (Nat.not_lt_zero y)
set_option maxRecDepth 10000 in
def yP_mFS (i : Nat) : Prop := mFSok (mFS.getD i (0, 0, "", "", "", none, 0, []))
set_option maxRecDepth 10000 in
theorem ych1_0 : ∀ i, i < 20 → yP_mFS i := (ynlt_s (ynlt_s (ynlt_s (ynlt_s (ynlt_s (ynlt_s (ynlt_s (ynlt_s (ynlt_s (ynlt_s (ynlt_s (ynlt_s (ynlt_s (ynlt_s (ynlt_s (ynlt_s (ynlt_s (ynlt_s (ynlt_s (ynlt_s ynlt_0 fok0) fok1) fok2) fok3) fok4) fok5) fok6) fok7) fok8) fok9) fok10) fok11) fok12) fok13) fok14) fok15) fok16) fok17) fok18) fok19)
set_option maxRecDepth 10000 in
theorem ych1_1 : ∀ i, i < 40 → yP_mFS i := (ynlt_s (ynlt_s (ynlt_s (ynlt_s (ynlt_s (ynlt_s (ynlt_s (ynlt_s (ynlt_s (ynlt_s (ynlt_s (ynlt_s (ynlt_s (ynlt_s (ynlt_s (ynlt_s (ynlt_s (ynlt_s (ynlt_s (ynlt_s ych1_0 fok20) fok21) fok22) fok23) fok24) fok25) fok26) fok27) fok28) fok29) fok30) fok31) fok32) fok33) fok34) fok35) fok36) fok37) fok38) fok39)
set_option maxRecDepth 10000 in
theorem ych1_2 : ∀ i, i < 60 → yP_mFS i := (ynlt_s (ynlt_s (ynlt_s (ynlt_s (ynlt_s (ynlt_s (ynlt_s (ynlt_s (ynlt_s (ynlt_s (ynlt_s (ynlt_s (ynlt_s (ynlt_s (ynlt_s (ynlt_s (ynlt_s (ynlt_s (ynlt_s (ynlt_s ych1_1 fok40) fok41) fok42) fok43) fok44) fok45) fok46) fok47) fok48) fok49) fok50) fok51) fok52) fok53) fok54) fok55) fok56) fok57) fok58) fok59)
set_option maxRecDepth 10000 in
theorem ych1_3 : ∀ i, i < 80 → yP_mFS i := (ynlt_s (ynlt_s (ynlt_s (ynlt_s (ynlt_s (ynlt_s (ynlt_s (ynlt_s (ynlt_s (ynlt_s (ynlt_s (ynlt_s (ynlt_s (ynlt_s (ynlt_s (ynlt_s (ynlt_s (ynlt_s (ynlt_s (ynlt_s ych1_2 fok60) fok61) fok62) fok63) fok64) fok65) fok66) fok67) fok68) fok69) fok70) fok71) fok72) fok73) fok74) fok75) fok76) fok77) fok78) fok79)
set_option maxRecDepth 10000 in
theorem ych1_4 : ∀ i, i < 100 → yP_mFS i := (ynlt_s (ynlt_s (ynlt_s (ynlt_s (ynlt_s (ynlt_s (ynlt_s (ynlt_s (ynlt_s (ynlt_s (ynlt_s (ynlt_s (ynlt_s (ynlt_s (ynlt_s (ynlt_s (ynlt_s (ynlt_s (ynlt_s (ynlt_s ych1_3 fok80) fok81) fok82) fok83) fok84) fok85) fok86) fok87) fok88) fok89) fok90) fok91) fok92) fok93) fok94) fok95) fok96) fok97) fok98) fok99)
set_option maxRecDepth 10000 in
theorem ych1_5 : ∀ i, i < 120 → yP_mFS i := (ynlt_s (ynlt_s (ynlt_s (ynlt_s (ynlt_s (ynlt_s (ynlt_s (ynlt_s (ynlt_s (ynlt_s (ynlt_s (ynlt_s (ynlt_s (ynlt_s (ynlt_s (ynlt_s (ynlt_s (ynlt_s (ynlt_s (ynlt_s ych1_4 fok100) fok101) fok102) fok103) fok104) fok105) fok106) fok107) fok108) fok109) fok110) fok111) fok112) fok113) fok114) fok115) fok116) fok117) fok118) fok119)
set_option maxRecDepth 10000 in
theorem ych1_6 : ∀ i, i < 121 → yP_mFS i := (ynlt_s ych1_5 fok120)
set_option maxRecDepth 10000 in
theorem mFS_all : ∀ i, i < 121 → mFSok (mFS.getD i (0, 0, "", "", "", none, 0, [])) := ych1_6
set_option maxRecDepth 10000 in
def yP_mVS (i : Nat) : Prop := mVSok (mVS.getD i (0, 0, ⟨"", "", ""⟩, none, "", 0, []))
set_option maxRecDepth 10000 in
theorem ych2_0 : ∀ i, i < 20 → yP_mVS i := (ynlt_s (ynlt_s (ynlt_s (ynlt_s (ynlt_s (ynlt_s (ynlt_s (ynlt_s (ynlt_s (ynlt_s (ynlt_s (ynlt_s (ynlt_s (ynlt_s (ynlt_s (ynlt_s (ynlt_s (ynlt_s (ynlt_s (ynlt_s ynlt_0 vok0) vok1) vok2) vok3) vok4) vok5) vok6) vok7) vok8) vok9) vok10) vok11) vok12) vok13) vok14) vok15) vok16) vok17) vok18) vok19)
set_option maxRecDepth 10000 in
theorem ych2_1 : ∀ i, i < 40 → yP_mVS i := (ynlt_s (ynlt_s (ynlt_s (ynlt_s (ynlt_s (ynlt_s (ynlt_s (ynlt_s (ynlt_s (ynlt_s (ynlt_s (ynlt_s (ynlt_s (ynlt_s (ynlt_s (ynlt_s (ynlt_s (ynlt_s (ynlt_s (ynlt_s ych2_0 vok20) vok21) vok22) vok23) vok24) vok25) vok26) vok27) vok28) vok29) vok30) vok31) vok32) vok33) vok34) vok35) vok36) vok37) vok38) vok39)
set_option maxRecDepth 10000 in
theorem ych2_2 : ∀ i, i < 60 → yP_mVS i := (ynlt_s (ynlt_s (ynlt_s (ynlt_s (ynlt_s (ynlt_s (ynlt_s (ynlt_s (ynlt_s (ynlt_s (ynlt_s (ynlt_s (ynlt_s (ynlt_s (ynlt_s (ynlt_s (ynlt_s (ynlt_s (ynlt_s (ynlt_s ych2_1 vok40) vok41) vok42) vok43) vok44) vok45) vok46) vok47) vok48) vok49) vok50) vok51) vok52) vok53) vok54) vok55) vok56) vok57) vok58) vok59)
set_option maxRecDepth 10000 in
theorem ych2_3 : ∀ i, i < 80 → yP_mVS i := (ynlt_s (ynlt_s (ynlt_s (ynlt_s (ynlt_s (ynlt_s (ynlt_s (ynlt_s (ynlt_s (ynlt_s (ynlt_s (ynlt_s (ynlt_s (ynlt_s (ynlt_s (ynlt_s (ynlt_s (ynlt_s (ynlt_s (ynlt_s ych2_2 vok60) vok61) vok62) vok63) vok64) vok65) vok66) vok67) vok68) vok69) vok70) vok71) vok72) vok73) vok74) vok75) vok76) vok77) vok78) vok79)
set_option maxRecDepth 10000 in
theorem ych2_4 : ∀ i, i < 100 → yP_mVS i := (ynlt_s (ynlt_s (ynlt_s (ynlt_s (ynlt_s (ynlt_s (ynlt_s (ynlt_s (ynlt_s (ynlt_s (ynlt_s (ynlt_s (ynlt_s (ynlt_s (ynlt_s (ynlt_s (ynlt_s (ynlt_s (ynlt_s (ynlt_s ych2_3 vok80) vok81) vok82) vok83) vok84) vok85) vok86) vok87) vok88) vok89) vok90) vok91) vok92) vok93) vok94) vok95) vok96) vok97) vok98) vok99)
set_option maxRecDepth 10000 in
theorem ych2_5 : ∀ i, i < 120 → yP_mVS i := (ynlt_s (ynlt_s (ynlt_s (ynlt_s (ynlt_s (ynlt_s (ynlt_s (ynlt_s (ynlt_s (ynlt_s (ynlt_s (ynlt_s (ynlt_s (ynlt_s (ynlt_s (ynlt_s (ynlt_s (ynlt_s (ynlt_s (ynlt_s ych2_4 vok100) vok101) vok102) vok103) vok104) vok105) vok106) vok107) vok108) vok109) vok110) vok111) vok112) vok113) vok114) vok115) vok116) vok117) vok118) vok119)
set_option maxRecDepth 10000 in
theorem ych2_6 : ∀ i, i < 140 → yP_mVS i := (ynlt_s (ynlt_s (ynlt_s (ynlt_s (ynlt_s (ynlt_s (ynlt_s (ynlt_s (ynlt_s (ynlt_s (ynlt_s (ynlt_s (ynlt_s (ynlt_s (ynlt_s (ynlt_s (ynlt_s (ynlt_s (ynlt_s (ynlt_s ych2_5 vok120) vok121) vok122) vok123) vok124) vok125) vok126) vok127) vok128) vok129) vok130) vok131) vok132) vok133) vok134) vok135) vok136) vok137) vok138) vok139)
set_option maxRecDepth 10000 in
theorem ych2_7 : ∀ i, i < 160 → yP_mVS i := (ynlt_s (ynlt_s (ynlt_s (ynlt_s (ynlt_s (ynlt_s (ynlt_s (ynlt_s (ynlt_s (ynlt_s (ynlt_s (ynlt_s (ynlt_s (ynlt_s (ynlt_s (ynlt_s (ynlt_s (ynlt_s (ynlt_s (ynlt_s ych2_6 vok140) vok141) vok142) vok143) vok144) vok145) vok146) vok147) vok148) vok149) vok150) vok151) vok152) vok153) vok154) vok155) vok156) vok157) vok158) vok159)
set_option maxRecDepth 10000 in
theorem ych2_8 : ∀ i, i < 180 → yP_mVS i := (ynlt_s (ynlt_s (ynlt_s (ynlt_s (ynlt_s (ynlt_s (ynlt_s (ynlt_s (ynlt_s (ynlt_s (ynlt_s (ynlt_s (ynlt_s (ynlt_s (ynlt_s (ynlt_s (ynlt_s (ynlt_s (ynlt_s (ynlt_s ych2_7 vok160) vok161) vok162) vok163) vok164) vok165) vok166) vok167) vok168) vok169) vok170) vok171) vok172) vok173) vok174) vok175) vok176) vok177) vok178) vok179)
set_option maxRecDepth 10000 in
theorem ych2_9 : ∀ i, i < 200 → yP_mVS i := (ynlt_s (ynlt_s (ynlt_s (ynlt_s (ynlt_s (ynlt_s (ynlt_s (ynlt_s (ynlt_s (ynlt_s (ynlt_s (ynlt_s (ynlt_s (ynlt_s (ynlt_s (ynlt_s (ynlt_s (ynlt_s (ynlt_s (ynlt_s ych2_8 vok180) vok181) vok182) vok183) vok184) vok185) vok186) vok187) vok188) vok189) vok190) vok191) vok192) vok193) vok194) vok195) vok196) vok197) vok198) vok199)
set_option maxRecDepth 10000 in
theorem ych2_10 : ∀ i, i < 220 → yP_mVS i := (ynlt_s (ynlt_s (ynlt_s (ynlt_s (ynlt_s (ynlt_s (ynlt_s (ynlt_s (ynlt_s (ynlt_s (ynlt_s (ynlt_s (ynlt_s (ynlt_s (ynlt_s (ynlt_s (ynlt_s (ynlt_s (ynlt_s (ynlt_s ych2_9 vok200) vok201) vok202) vok203) vok204) vok205) vok206) vok207) vok208) vok209) vok210) vok211) vok212) vok213) vok214) vok215) vok216) vok217) vok218) vok219)
set_option maxRecDepth 10000 in
theorem ych2_11 : ∀ i, i < 240 → yP_mVS i := (ynlt_s (ynlt_s (ynlt_s (ynlt_s (ynlt_s (ynlt_s (ynlt_s (ynlt_s (ynlt_s (ynlt_s (ynlt_s (ynlt_s (ynlt_s (ynlt_s (ynlt_s (ynlt_s (ynlt_s (ynlt_s (ynlt_s (ynlt_s ych2_10 vok220) vok221) vok222) vok223) vok224) vok225) vok226) vok227) vok228) vok229) vok230) vok231) vok232) vok233) vok234) vok235) vok236) vok237) vok238) vok239)
set_option maxRecDepth 10000 in
theorem ych2_12 : ∀ i, i < 258 → yP_mVS i := (ynlt_s (ynlt_s (ynlt_s (ynlt_s (ynlt_s (ynlt_s (ynlt_s (ynlt_s (ynlt_s (ynlt_s (ynlt_s (ynlt_s (ynlt_s (ynlt_s (ynlt_s (ynlt_s (ynlt_s (ynlt_s ych2_11 vok240) vok241) vok242) vok243) vok244) vok245) vok246) vok247) vok248) vok249) vok250) vok251) vok252) vok253) vok254) vok255) vok256) vok257)
set_option maxRecDepth 10000 in
theorem mVS_all : ∀ i, i < 258 → mVSok (mVS.getD i (0, 0, ⟨"", "", ""⟩, none, "", 0, [])) := ych2_12
set_option maxRecDepth 10000 in
def yP_mSS (i : Nat) : Prop := mSSok (mSS.getD i (0, 0, none, 3, 0, 0))
set_option maxRecDepth 10000 in
theorem ych3_0 : ∀ i, i < 20 → yP_mSS i := (ynlt_s (ynlt_s (ynlt_s (ynlt_s (ynlt_s (ynlt_s (ynlt_s (ynlt_s (ynlt_s (ynlt_s (ynlt_s (ynlt_s (ynlt_s (ynlt_s (ynlt_s (ynlt_s (ynlt_s (ynlt_s (ynlt_s (ynlt_s ynlt_0 sok0) sok1) sok2) sok3) sok4) sok5) sok6) sok7) sok8) sok9) sok10) sok11) sok12) sok13) sok14) sok15) sok16) sok17) sok18) sok19)
set_option maxRecDepth 10000 in
theorem ych3_1 : ∀ i, i < 40 → yP_mSS i := (ynlt_s (ynlt_s (ynlt_s (ynlt_s (ynlt_s (ynlt_s (ynlt_s (ynlt_s (ynlt_s (ynlt_s (ynlt_s (ynlt_s (ynlt_s (ynlt_s (ynlt_s (ynlt_s (ynlt_s (ynlt_s (ynlt_s (ynlt_s ych3_0 sok20) sok21) sok22) sok23) sok24) sok25) sok26) sok27) sok28) sok29) sok30) sok31) sok32) sok33) sok34) sok35) sok36) sok37) sok38) sok39)
set_option maxRecDepth 10000 in
theorem ych3_2 : ∀ i, i < 48 → yP_mSS i := (ynlt_s (ynlt_s (ynlt_s (ynlt_s (ynlt_s (ynlt_s (ynlt_s (ynlt_s ych3_1 sok40) sok41) sok42) sok43) sok44) sok45) sok46) sok47)
set_option maxRecDepth 10000 in
theorem mSS_all : ∀ i, i < 48 → mSSok (mSS.getD i (0, 0, none, 3, 0, 0)) := ych3_2
set_option maxRecDepth 10000 in
def yP_mIS (i : Nat) : Prop := mISok (mIS.getD i (0, 0, none, 3, 0, 0))
set_option maxRecDepth 10000 in
theorem ych4_0 : ∀ i, i < 20 → yP_mIS i := (ynlt_s (ynlt_s (ynlt_s (ynlt_s (ynlt_s (ynlt_s (ynlt_s (ynlt_s (ynlt_s (ynlt_s (ynlt_s (ynlt_s (ynlt_s (ynlt_s (ynlt_s (ynlt_s (ynlt_s (ynlt_s (ynlt_s (ynlt_s ynlt_0 iok0) iok1) iok2) iok3) iok4) iok5) iok6) iok7) iok8) iok9) iok10) iok11) iok12) iok13) iok14) iok15) iok16) iok17) iok18) iok19)
set_option maxRecDepth 10000 in
theorem ych4_1 : ∀ i, i < 25 → yP_mIS i := (ynlt_s (ynlt_s (ynlt_s (ynlt_s (ynlt_s ych4_0 iok20) iok21) iok22) iok23) iok24)
set_option maxRecDepth 10000 in
theorem mIS_all : ∀ i, i < 25 → mISok (mIS.getD i (0, 0, none, 3, 0, 0)) := ych4_1
set_option maxRecDepth 10000 in
def yP_mKS (i : Nat) : Prop := mKSok (mKS.getD i (0, 0, false, 0))
set_option maxRecDepth 10000 in
theorem ych5_0 : ∀ i, i < 15 → yP_mKS i := (ynlt_s (ynlt_s (ynlt_s (ynlt_s (ynlt_s (ynlt_s (ynlt_s (ynlt_s (ynlt_s (ynlt_s (ynlt_s (ynlt_s (ynlt_s (ynlt_s (ynlt_s ynlt_0 kok0) kok1) kok2) kok3) kok4) kok5) kok6) kok7) kok8) kok9) kok10) kok11) kok12) kok13) kok14)
set_option maxRecDepth 10000 in
theorem mKS_all : ∀ i, i < 15 → mKSok (mKS.getD i (0, 0, false, 0)) := ych5_0
set_option maxRecDepth 10000 in
def yP_mNS (i : Nat) : Prop := mNSok (mNS.getD i (0, 0, 3, "", 0, 0))
set_option maxRecDepth 10000 in
theorem ych6_0 : ∀ i, i < 14 → yP_mNS i := (ynlt_s (ynlt_s (ynlt_s (ynlt_s (ynlt_s (ynlt_s (ynlt_s (ynlt_s (ynlt_s (ynlt_s (ynlt_s (ynlt_s (ynlt_s (ynlt_s ynlt_0 nok0) nok1) nok2) nok3) nok4) nok5) nok6) nok7) nok8) nok9) nok10) nok11) nok12) nok13)
set_option maxRecDepth 10000 in
theorem mNS_all : ∀ i, i < 14 → mNSok (mNS.getD i (0, 0, 3, "", 0, 0)) := ych6_0
set_option maxRecDepth 10000 in
theorem mlay_all : ∀ (ci : Nat) (q : vw_C), mcl[ci]? = some q → ∀ w ∈ u_ws q.1 q.2.1 q.2.2, w ∈ mTL := by
  intro ci q h
  match ci, h with
  | 0, h => cases h; exact lay0
  | 1, h => cases h; exact lay1
  | 2, h => cases h; exact lay2
  | 3, h => cases h; exact lay3
  | 4, h => cases h; exact lay4
  | 5, h => cases h; exact lay5
  | 6, h => cases h; exact lay6
  | 7, h => cases h; exact lay7
  | 8, h => cases h; exact lay9
  | 9, h => cases h; exact lay10
  | 10, h => cases h; exact lay11
  | 11, h => cases h; exact lay12
  | n + 12, h => simp [mcl] at h
set_option maxRecDepth 10000 in
theorem mins_all : ∀ (ci : Nat) (q : vw_C), mcl[ci]? = some q → (.instantiable q.1 q.2.2 : Cond) ∈ mTL := by
  intro ci q h
  match ci, h with
  | 0, h => cases h; exact wd296
  | 1, h => cases h; exact wd225
  | 2, h => cases h; exact wd119
  | 3, h => cases h; exact wd351
  | 4, h => cases h; exact wd279
  | 5, h => cases h; exact wd330
  | 6, h => cases h; exact wd309
  | 7, h => cases h; exact wd167
  | 8, h => cases h; exact wd203
  | 9, h => cases h; exact wd189
  | 10, h => cases h; exact wd111
  | 11, h => cases h; exact wd1075
  | n + 12, h => simp [mcl] at h
set_option maxRecDepth 10000 in
theorem mnm_all : ∀ (ci : Nat) (q : vw_C), mcl[ci]? = some q → ∀ a, a < q.2.2 → ∀ b, b < q.2.2 → a ≠ b → (q.2.1 a).2.1 ≠ (q.2.1 b).2.1 := by
  intro ci q h
  match ci, h with
  | 0, h => cases h; exact nmX0
  | 1, h => cases h; exact nmX1
  | 2, h => cases h; exact nmX2
  | 3, h => cases h; exact nmX3
  | 4, h => cases h; exact nmX4
  | 5, h => cases h; exact nmX5
  | 6, h => cases h; exact nmX6
  | 7, h => cases h; exact nmX7
  | 8, h => cases h; exact nmX9
  | 9, h => cases h; exact nmX10
  | 10, h => cases h; exact nmX11
  | 11, h => cases h; exact nmX12
  | n + 12, h => simp [mcl] at h
set_option maxRecDepth 10000 in
theorem mty_all : ∀ (ci : Nat) (q : vw_C) (ty : Nat → FieldType), mcl[ci]? = some q → mty[ci]? = some ty → ∀ k, k < q.2.2 → parseFieldDescriptor (q.2.1 k).2.2.1 = some (ty k) := by
  intro ci q ty h h2
  match ci, h, h2 with
  | 0, h, h2 => cases h; cases h2; exact tyX0_ok
  | 1, h, h2 => cases h; cases h2; exact tyX1_ok
  | 2, h, h2 => cases h; cases h2; exact tyX2_ok
  | 3, h, h2 => cases h; cases h2; exact tyX3_ok
  | 4, h, h2 => cases h; cases h2; exact tyX4_ok
  | 5, h, h2 => cases h; cases h2; exact tyX5_ok
  | 6, h, h2 => cases h; cases h2; exact tyX6_ok
  | 7, h, h2 => cases h; cases h2; exact tyX7_ok
  | 8, h, h2 => cases h; cases h2; exact tyX9_ok
  | 9, h, h2 => cases h; cases h2; exact tyX10_ok
  | 10, h, h2 => cases h; cases h2; exact tyX11_ok
  | 11, h, h2 => cases h; cases h2; exact tyX12_ok
  | n + 12, h, _ => simp [mcl] at h
set_option maxRecDepth 10000 in
theorem mcls_all : ∀ y, y < 275 → (mN y).cls = mcn (mCno y) := by decide +kernel
set_option maxRecDepth 10000 in
theorem warr : (.arrayClass .int : Cond) ∈ mTL := wd164
