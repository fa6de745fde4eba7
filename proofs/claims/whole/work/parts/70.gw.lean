/-! the judgement for what makes cells: constructors, the law -/
def rawW (ad : Nat → Nat) (X : List (Nat × Nat × List Value)) : va_W := X.map (fun q => (ad q.1, .inr (q.2.1, q.2.2.map (trv ad))))
def gw (M : Mth) (p : Program) (l : Launch) (e : Env) (R : Room) (s : State) (m : MethodId) (args : Array Value) (below : List Frame) (meth : Method) (c : Code) (D : va_G) (cI cQ : ClassId) (A : Nat → Prop) (Z : State → Prop) (X : List (Nat × Nat × List Value)) (ad : Nat → Nat) (tb : Sd) (mc ms pc : Nat) (lv : List (Nat × Value)) (st : List Value) (sg : Hp) : Prop :=
  ∀ (H : Heap) (locs : List Loc) (ls : Array Slot), va_P D vwCl (rawW ad X ++ wld cI cQ ad tb sg) H → va_D A (rawW ad X ++ wld cI cQ ad tb sg) → va_S A s.heap H locs → lv_has ls M.2.2.1 (tlv ad lv) → W p l e R s m args below meth c H locs mc ms Z (F0 m pc ls (st.map (trv ad)))
section GW
variable {M : Mth} {p : Program} {l : Launch} {e : Env} {R : Room} {s : State} {m : MethodId} {args : Array Value} {below : List Frame} {meth : Method} {c : Code} {D : va_G} {cI cQ : ClassId} {A : Nat → Prop} {Z : State → Prop} {X : List (Nat × Nat × List Value)} {ad : Nat → Nat} {tb : Sd} {mc ms pc : Nat} {lv : List (Nat × Value)} {st : List Value} {sg : Hp}
theorem g_iconst (hc : cxt M p s m args meth c D cI cQ) {n : Int} {v : Int32} (hv : Int32.ofInt n = v) (hd : decode M.2.1 pc = .ok (.iconst n, 1)) (k : gw M p l e R s m args below meth c D cI cQ A Z X ad tb mc ms (pc + 1) lv (.int v :: st) sg) : gw M p l e R s m args below meth c D cI cQ A Z X ad tb mc ms pc lv (st) sg := by
  intro H locs ls hP hD hS hl
  exact lv_iconst hc.1 hc.2.1 hd hv (k H locs ls hP hD hS hl)
theorem g_bipush (hc : cxt M p s m args meth c D cI cQ) {n : Int} {v : Int32} (hv : (Int8.ofInt n).toInt32 = v) (hd : decode M.2.1 pc = .ok (.bipush n, 2)) (k : gw M p l e R s m args below meth c D cI cQ A Z X ad tb mc ms (pc + 2) lv (.int v :: st) sg) : gw M p l e R s m args below meth c D cI cQ A Z X ad tb mc ms pc lv (st) sg := by
  intro H locs ls hP hD hS hl
  exact lv_bipush hc.1 hc.2.1 hd hv (k H locs ls hP hD hS hl)
theorem g_sipush (hc : cxt M p s m args meth c D cI cQ) {n : Int} {v : Int32} (hv : (Int16.ofInt n).toInt32 = v) (hd : decode M.2.1 pc = .ok (.sipush n, 3)) (k : gw M p l e R s m args below meth c D cI cQ A Z X ad tb mc ms (pc + 3) lv (.int v :: st) sg) : gw M p l e R s m args below meth c D cI cQ A Z X ad tb mc ms pc lv (st) sg := by
  intro H locs ls hP hD hS hl
  exact lv_sipush hc.1 hc.2.1 hd hv (k H locs ls hP hD hS hl)
theorem g_iload_n (hc : cxt M p s m args meth c D cI cQ) {k0 : Fin 4} {x : Int32} (h : lget lv (k0 : Nat) = some (.int x)) (hd : decode M.2.1 pc = .ok (.iload_n k0, 1)) (k : gw M p l e R s m args below meth c D cI cQ A Z X ad tb mc ms (pc + 1) lv (.int x :: st) sg) : gw M p l e R s m args below meth c D cI cQ A Z X ad tb mc ms pc lv (st) sg := by
  intro H locs ls hP hD hS hl
  exact lv_iload_n hc.1 hc.2.1 hd rfl (lget_at (nL := 0) hl.2.2 h) (k H locs ls hP hD hS hl)
theorem g_aload_n (hc : cxt M p s m args meth c D cI cQ) {k0 : Fin 4} {x : Nat} (h : lget lv (k0 : Nat) = some (.ref x)) (hd : decode M.2.1 pc = .ok (.aload_n k0, 1)) (k : gw M p l e R s m args below meth c D cI cQ A Z X ad tb mc ms (pc + 1) lv (.ref x :: st) sg) : gw M p l e R s m args below meth c D cI cQ A Z X ad tb mc ms pc lv (st) sg := by
  intro H locs ls hP hD hS hl
  exact lv_aload_n hc.1 hc.2.1 hd rfl (lget_at (nL := 0) hl.2.2 h) (k H locs ls hP hD hS hl)
theorem g_iadd (hc : cxt M p s m args meth c D cI cQ) {x y : Int32} (hd : decode M.2.1 pc = .ok (.iadd, 1)) (k : gw M p l e R s m args below meth c D cI cQ A Z X ad tb mc ms (pc + 1) lv (.int (x + y) :: st) sg) : gw M p l e R s m args below meth c D cI cQ A Z X ad tb mc ms pc lv (.int y :: .int x :: st) sg := by
  intro H locs ls hP hD hS hl
  exact lv_iadd hc.1 hc.2.1 hd (k H locs ls hP hD hS hl)
theorem g_isub (hc : cxt M p s m args meth c D cI cQ) {x y : Int32} (hd : decode M.2.1 pc = .ok (.isub, 1)) (k : gw M p l e R s m args below meth c D cI cQ A Z X ad tb mc ms (pc + 1) lv (.int (x - y) :: st) sg) : gw M p l e R s m args below meth c D cI cQ A Z X ad tb mc ms pc lv (.int y :: .int x :: st) sg := by
  intro H locs ls hP hD hS hl
  exact lv_isub hc.1 hc.2.1 hd (k H locs ls hP hD hS hl)
theorem g_iand (hc : cxt M p s m args meth c D cI cQ) {x y : Int32} (hd : decode M.2.1 pc = .ok (.iand, 1)) (k : gw M p l e R s m args below meth c D cI cQ A Z X ad tb mc ms (pc + 1) lv (.int (x &&& y) :: st) sg) : gw M p l e R s m args below meth c D cI cQ A Z X ad tb mc ms pc lv (.int y :: .int x :: st) sg := by
  intro H locs ls hP hD hS hl
  exact lv_iand hc.1 hc.2.1 hd (k H locs ls hP hD hS hl)
theorem g_lcmp (hc : cxt M p s m args meth c D cI cQ) {x y : Int64} (hd : decode M.2.1 pc = .ok (.lcmp, 1)) (k : gw M p l e R s m args below meth c D cI cQ A Z X ad tb mc ms (pc + 1) lv (.int (lg_cmp x y) :: st) sg) : gw M p l e R s m args below meth c D cI cQ A Z X ad tb mc ms pc lv (.long y :: .long x :: st) sg := by
  intro H locs ls hP hD hS hl
  exact W.lcmp hc.1 hc.2.1 hd (k H locs ls hP hD hS hl)
theorem g_dup (hc : cxt M p s m args meth c D cI cQ) {v : Value} (hcat : v.category = 1) (hd : decode M.2.1 pc = .ok (.dup, 1)) (k : gw M p l e R s m args below meth c D cI cQ A Z X ad tb mc ms (pc + 1) lv (v :: v :: st) sg) : gw M p l e R s m args below meth c D cI cQ A Z X ad tb mc ms pc lv (v :: st) sg := by
  intro H locs ls hP hD hS hl
  exact lv_dup hc.1 hc.2.1 hd (by rw [trv_cat]; exact hcat) (k H locs ls hP hD hS hl)
theorem g_istore_n (hc : cxt M p s m args meth c D cI cQ) {k0 : Fin 4} {x : Int32} (hn : (k0 : Nat) < M.2.2.1) (hs : (ldis lv && lone lv (k0 : Nat)) = true) (hd : decode M.2.1 pc = .ok (.istore_n k0, 1)) (k : gw M p l e R s m args below meth c D cI cQ A Z X ad tb mc ms (pc + 1) (lset lv (k0 : Nat) (.int x)) st sg) : gw M p l e R s m args below meth c D cI cQ A Z X ad tb mc ms pc lv (.int x :: st) sg := by
  intro H locs ls hP hD hS hl
  have hs2 := Bool.and_eq_true_iff.mp hs
  exact lv_istore_n hc.1 hc.2.1 hd rfl hl hn rfl (fun ls2 hl2 => k H locs ls2 hP hD hS (lset_has (v := .int x) hs2.1 hs2.2 hl2))
theorem g_astore_n (hc : cxt M p s m args meth c D cI cQ) {k0 : Fin 4} {x : Nat} (hn : (k0 : Nat) < M.2.2.1) (hs : (ldis lv && lone lv (k0 : Nat)) = true) (hd : decode M.2.1 pc = .ok (.astore_n k0, 1)) (k : gw M p l e R s m args below meth c D cI cQ A Z X ad tb mc ms (pc + 1) (lset lv (k0 : Nat) (.ref x)) st sg) : gw M p l e R s m args below meth c D cI cQ A Z X ad tb mc ms pc lv (.ref x :: st) sg := by
  intro H locs ls hP hD hS hl
  have hs2 := Bool.and_eq_true_iff.mp hs
  exact lv_astore_n hc.1 hc.2.1 hd rfl hl hn rfl (fun ls2 hl2 => k H locs ls2 hP hD hS (lset_has (v := .ref x) hs2.1 hs2.2 hl2))
theorem g_iinc (hc : cxt M p s m args meth c D cI cQ) {i : Nat} {n : Int} {x w : Int32} (hv : Int32.ofInt n = w) (hg : lget lv i = some (.int x)) (hn : i < M.2.2.1) (hs : (ldis lv && lone lv i) = true) (hd : decode M.2.1 pc = .ok (.iinc i n, 3)) (k : gw M p l e R s m args below meth c D cI cQ A Z X ad tb mc ms (pc + 3) (lset lv i (.int (x + w))) st sg) : gw M p l e R s m args below meth c D cI cQ A Z X ad tb mc ms pc lv st sg := by
  intro H locs ls hP hD hS hl
  have hs2 := Bool.and_eq_true_iff.mp hs
  obtain ⟨j, hj⟩ := List.getElem?_of_mem (List.mem_map.mpr ⟨_, lget_mem hg, rfl⟩ : (i, trv ad (.int x)) ∈ tlv ad lv)
  exact lv_iinc hc.1 hc.2.1 hd hl hj (by rw [hv]) hn rfl (fun ls2 hl2 => k H locs ls2 hP hD hS (lset_has (v := .int (x + w)) hs2.1 hs2.2 hl2))
theorem g_goto (hc : cxt M p s m args meth c D cI cQ) {off : Int} {tgt : Nat} (hd : decode M.2.1 pc = .ok (.goto off, 3)) (ht : (pc : Int) + off = (tgt : Int)) (k : gw M p l e R s m args below meth c D cI cQ A Z X ad tb mc ms tgt lv st sg) : gw M p l e R s m args below meth c D cI cQ A Z X ad tb mc ms pc lv st sg := by
  intro H locs ls hP hD hS hl
  exact lv_goto hc.1 hc.2.1 hd ht (k H locs ls hP hD hS hl)
theorem g_if_eq (hc : cxt M p s m args meth c D cI cQ) {x : Int32} {off : Int} {tgt : Nat} (hd : decode M.2.1 pc = .ok (.ifCond .eq off, 3)) (ht : (pc : Int) + off = (tgt : Int)) (kt : x = 0 → gw M p l e R s m args below meth c D cI cQ A Z X ad tb mc ms tgt lv st sg) (kf : ¬ x = 0 → gw M p l e R s m args below meth c D cI cQ A Z X ad tb mc ms (pc + 3) lv st sg) : gw M p l e R s m args below meth c D cI cQ A Z X ad tb mc ms pc lv (.int x :: st) sg := by
  intro H locs ls hP hD hS hl
  exact lv_if_eq hc.1 hc.2.1 hd ht (fun z => kt z H locs ls hP hD hS hl) (fun z => kf z H locs ls hP hD hS hl)
theorem g_icmp_eq (hc : cxt M p s m args meth c D cI cQ) {x y : Int32} {off : Int} {tgt : Nat} (hd : decode M.2.1 pc = .ok (.if_icmp .eq off, 3)) (ht : (pc : Int) + off = (tgt : Int)) (kt : x = y → gw M p l e R s m args below meth c D cI cQ A Z X ad tb mc ms tgt lv st sg) (kf : ¬ x = y → gw M p l e R s m args below meth c D cI cQ A Z X ad tb mc ms (pc + 3) lv st sg) : gw M p l e R s m args below meth c D cI cQ A Z X ad tb mc ms pc lv (.int y :: .int x :: st) sg := by
  intro H locs ls hP hD hS hl
  exact lv_icmp_eq hc.1 hc.2.1 hd ht (fun z => kt z H locs ls hP hD hS hl) (fun z => kf z H locs ls hP hD hS hl)
theorem g_icmp_gt (hc : cxt M p s m args meth c D cI cQ) {x y : Int32} {off : Int} {tgt : Nat} (hd : decode M.2.1 pc = .ok (.if_icmp .gt off, 3)) (ht : (pc : Int) + off = (tgt : Int)) (kt : y < x → gw M p l e R s m args below meth c D cI cQ A Z X ad tb mc ms tgt lv st sg) (kf : ¬ y < x → gw M p l e R s m args below meth c D cI cQ A Z X ad tb mc ms (pc + 3) lv st sg) : gw M p l e R s m args below meth c D cI cQ A Z X ad tb mc ms pc lv (.int y :: .int x :: st) sg := by
  intro H locs ls hP hD hS hl
  exact lv_icmp_gt hc.1 hc.2.1 hd ht (fun z => kt z H locs ls hP hD hS hl) (fun z => kf z H locs ls hP hD hS hl)
theorem g_icmp_ge (hc : cxt M p s m args meth c D cI cQ) {x y : Int32} {off : Int} {tgt : Nat} (hd : decode M.2.1 pc = .ok (.if_icmp .ge off, 3)) (ht : (pc : Int) + off = (tgt : Int)) (kt : y ≤ x → gw M p l e R s m args below meth c D cI cQ A Z X ad tb mc ms tgt lv st sg) (kf : ¬ y ≤ x → gw M p l e R s m args below meth c D cI cQ A Z X ad tb mc ms (pc + 3) lv st sg) : gw M p l e R s m args below meth c D cI cQ A Z X ad tb mc ms pc lv (.int y :: .int x :: st) sg := by
  intro H locs ls hP hD hS hl
  exact lv_icmp_ge hc.1 hc.2.1 hd ht (fun z => kt z H locs ls hP hD hS hl) (fun z => kf z H locs ls hP hD hS hl)
theorem g_tabOut (hc : cxt M p s m args meth c D cI cQ) {dflt lo hi : Int} {offs : Array Int} {len : Nat} {x : Int32} {tgt : Nat} (hd : decode M.2.1 pc = .ok (.tableswitch dflt lo hi offs, len)) (h : x.toInt < lo ∨ hi < x.toInt) (ht : (pc : Int) + dflt = (tgt : Int)) (k : gw M p l e R s m args below meth c D cI cQ A Z X ad tb mc ms tgt lv st sg) : gw M p l e R s m args below meth c D cI cQ A Z X ad tb mc ms pc lv (.int x :: st) sg := by
  intro H locs ls hP hD hS hl
  exact lv_tableOut hc.1 hc.2.1 hd h ht (k H locs ls hP hD hS hl)
theorem g_tabIn (hc : cxt M p s m args meth c D cI cQ) {dflt lo hi : Int} {offs : Array Int} {len : Nat} {x : Int32} {off : Int} {tgt : Nat} (hd : decode M.2.1 pc = .ok (.tableswitch dflt lo hi offs, len)) (h1 : ¬ x.toInt < lo) (h2 : ¬ hi < x.toInt) (ho : offs[(x.toInt - lo).toNat]? = some off) (ht : (pc : Int) + off = (tgt : Int)) (k : gw M p l e R s m args below meth c D cI cQ A Z X ad tb mc ms tgt lv st sg) : gw M p l e R s m args below meth c D cI cQ A Z X ad tb mc ms pc lv (.int x :: st) sg := by
  intro H locs ls hP hD hS hl
  exact lv_tableIn hc.1 hc.2.1 hd h1 h2 ho ht (k H locs ls hP hD hS hl)
/-- a cell of the script -/
theorem g_sld (hc : cxt M p s m args meth c D cI cQ) {b L a : Nat} {xs : Nat → Int32} {i : Int32} (hX : va_X b L xs s s.heap) (hbl : b < s.heap.size) (hbA : ¬ A b) (ha : ad a = b) (hin : vp_in i L) (hd : decode M.2.1 pc = .ok (.iaload, 1)) (k : gw M p l e R s m args below meth c D cI cQ A Z X ad tb mc ms (pc + 1) lv (.int (xs i.toNatClampNeg) :: st) sg) : gw M p l e R s m args below meth c D cI cQ A Z X ad tb mc ms pc lv (.int i :: .ref a :: st) sg := by
  intro H locs ls hP hD hS hl
  show W p l e R s m args below meth c H locs mc ms Z (F0 m pc ls (.int i :: .ref (ad a) :: st.map (trv ad)))
  rw [ha]
  exact va_sld hc.1 hc.2.1 hX hbl hbA hS hin hd (k H locs ls hP hD hS hl)
theorem g_slen (hc : cxt M p s m args meth c D cI cQ) {b L a : Nat} {xs : Nat → Int32} (hX : va_X b L xs s s.heap) (hbl : b < s.heap.size) (hbA : ¬ A b) (ha : ad a = b) (hd : decode M.2.1 pc = .ok (.arraylength, 1)) (k : gw M p l e R s m args below meth c D cI cQ A Z X ad tb mc ms (pc + 1) lv (.int (nI L) :: st) sg) : gw M p l e R s m args below meth c D cI cQ A Z X ad tb mc ms pc lv (.ref a :: st) sg := by
  intro H locs ls hP hD hS hl
  show W p l e R s m args below meth c H locs mc ms Z (F0 m pc ls (.ref (ad a) :: st.map (trv ad)))
  rw [ha]
  exact va_slen hc.1 hc.2.1 hX hbl hbA hS hd (k H locs ls hP hD hS hl)
end GW
