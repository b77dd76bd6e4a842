/-! A call of the small machine in a constructor; the grid's constructor. -/
theorem z_okRf : z_okR zRf := by
  intro k i j h
  unfold z_aty at h
  split at h <;> first | (cases h; done) | skip
  exact .inr ⟨_, rfl⟩
theorem z_okN1 : z_okN zN1 := by
  intro k h
  unfold zN1 at h
  split at h <;> first | omega | skip
theorem z_okN2 : z_okN zN2 := by
  intro k h
  unfold zN2 at h
  split at h <;> first | omega | skip
section
variable {p : Program} {l : Launch} {e : Env} {R : Room} {s : State} {m : MethodId} {args : Array Value} {below : List Frame} {meth : Method} {c : Code} {H : Heap} {locs : List Loc} {cells slots : Nat} {Q : State → Prop}
variable {cc : ByteArray} {pc : Nat} {ls : Array Slot} {rest : List Value}
variable {dC : Nat → ClassId} {dI : Nat → Nat → Nat} {cs : Nat → ClassId} {ci a : Nat} {fs : List Value} {es : List va_E}
theorem zCx.w0 (X : zCx dC dI cs ci a p s m args meth c cc) {N : Nat → Nat} (hN : z_okN N) : z_W0 (zFa a s.heap.size) N zRf dC dI (fun k _ => cs (z_aty k)) s :=
  ⟨X.2.2.2.2.2.1, fun k i _ hk => X.2.2.2.2.2.2.1 k hk, z_okRf, hN, fun q h => .inr h⟩
theorem zc_zcall (X : zCx dC dI cs ci a p s m args meth c cc) (htr : l.stackTraces = false) {nL : Nat} (hml : c.maxLocals = nL) {lv : List (Nat × Value)} (hl : lv_has ls nL lv) {N : Nat → Nat} (hN : z_okN N) {ad : Nat → Nat → Nat} (hA : ∀ k i, i < N k → zFa a s.heap.size (ad k i)) {d y b w v : Nat} (st : List zA) {mm mm' : zM} (hev : z_Ev z_MT N zRf d 0 y (st.take b).reverse mm (.inl none, mm')) (hlk : z_lkc ci cc z_MT (pc, 3, .inr (18, y, b, w, v, 0, 0)) = true) (hRf : d + 6 ≤ R.frames) (hRl : 164 + 64 * d ≤ R.locals) (hc : cells ≤ R.cells ∧ slots ≤ R.slots) (hbl : b ≤ st.length) (hcs : z_cs (st.drop b) ≤ 8) (hrcv : z_rcv N (zKD y) (st.take b).reverse) (hI : z_I (zFa a s.heap.size) ad N zRf dC dI (fun k _ => cs (z_aty k)) s.heap mm H locs)
    (kk : ∀ (H1 : Heap) (locs1 : List Loc), z_I (zFa a s.heap.size) ad N zRf dC dI (fun k _ => cs (z_aty k)) s.heap mm' H1 locs1 → H1.size ≤ s.heap.size + cells → H.size ≤ H1.size → (∀ q : Nat, q < H.size → (∀ k i, i < N k → q ≠ ad k i) → H1[q]? = H[q]?) → W p l e R s m args below meth c H1 locs1 cells slots Q (F0 m (pc + 3) ls ((st.drop b).map (z_cv ad)))) : W p l e R s m args below meth c H locs cells slots Q (F0 m pc ls (st.map (z_cv ad))) := by
  have h0 := X.w0 hN
  obtain ⟨hx, hb, hts, hown, hin, hE⟩ := X
  have hr := z_vrun (p := p) (l := l) (e := e) (below := below) (meth := meth) (lsC := ls) (cells := cells) (slots := slots) (k1 := 0) (len := 3) (MT := z_MT) (ls := z_rep nL) hx hb hml hts hown hA h0 hE.2.2.1 (z_okA y).1 z_ML_all hlk hRf hRl ⟨hc.1, hc.2⟩ hbl hcs hrcv (z_sound l htr z_MT N zRf z_okA z_ML_all d 0 y _ mm _ hev) hI ⟨z_rep_len nL, hl.1, hl.2.1, fun i v hv => by rw [z_rep_get] at hv; cases hv⟩
  have hsub : ∀ q, z_A ad N H.size q → zFa a s.heap.size q := by
    rintro q (⟨k, i, h1, rfl⟩ | h1)
    · exact hA k i h1
    · exact .inr (Nat.le_trans hI.2.2.1 h1)
  intro T hT X'
  rcases hr T hT X' with ⟨v0, st₀, t, T', L, e0, X2, hL', e1, e2, ⟨v', m1, ho, hret, g1, g2, g3⟩, hgo⟩ | ⟨q, st₀, t, T', L, E, ce, e0, X2, hL', e1, e2, ⟨e', m1, ho, he5, hE9, g1, g2, g3⟩, hc9, hv, hcl, hst⟩
  · cases ho
    obtain ⟨b1, b2, b3⟩ := vx_keep e0 e1 hI.2.2 (fun q _ h => hsub q h) hsub hL' g3
    have hret : v0 = none := by injection hret
    subst hret
    obtain ⟨t2, a1, a2⟩ := kk T'.heap (locs ++ L) ⟨by rw [e1]; exact g1, g2.weaken (fun _ _ _ h => hsub _ h), b3⟩ X2.heapSize (by rw [e1, ← e0]; exact g3.1) (fun q q1 q2 => by
      rw [e1, g3.2 q (by rw [e0]; exact q1) (by
        rintro (⟨k, i, h1, h2⟩ | h1)
        · exact q2 k i h1 h2
        · omega), e0]) T' rfl X2
    exact ⟨t2, hgo _ a1, a2⟩
  · cases ho
end
