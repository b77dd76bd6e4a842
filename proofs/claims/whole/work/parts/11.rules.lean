theorem z_mask_len : ∀ (b : List Bool) (ls : zL), (z_mask b ls).length = ls.length
  | [], [] => by simp [z_mask]
  | [], x :: t => by simp [z_mask]
  | true :: b, [] => by simp [z_mask]
  | false :: b, [] => by simp [z_mask]
  | true :: b, x :: t => by simp [z_mask, z_mask_len b t]
  | false :: b, x :: t => by simp [z_mask, z_mask_len b t]
theorem z_get_none : ∀ (t : zL) (i : Nat), z_get (t.map fun _ => none) i = none
  | [], _ => rfl
  | _ :: _, 0 => rfl
  | _ :: t, i + 1 => z_get_none t i
theorem z_mask_get : ∀ (b : List Bool) (ls : zL) (i : Nat) (v : zA), z_get (z_mask b ls) i = some v → z_get ls i = some v
  | [], ls, i, v, h => by
    have e : z_mask [] ls = ls.map fun _ => none := by cases ls <;> simp [z_mask]
    rw [e, z_get_none] at h
    cases h
  | true :: b, [], i, v, h => by simp [z_mask, z_get] at h
  | false :: b, [], i, v, h => by simp [z_mask, z_get] at h
  | true :: b, x :: t, 0, v, h => by simpa [z_mask, z_get] using h
  | true :: b, x :: t, i + 1, v, h => by
    simp only [z_mask, z_get] at h ⊢
    exact z_mask_get b t i v h
  | false :: b, x :: t, 0, v, h => by simp [z_mask, z_get] at h
  | false :: b, x :: t, i + 1, v, h => by
    simp only [z_mask, z_get] at h ⊢
    exact z_mask_get b t i v h
section
variable {p : Program} {l : Launch} {e : Env} {R : Room} {s : State} {mi : MethodId} {args : Array Value} {below : List Frame} {meth : Method} {c : Code} {Q : State → Prop} {K nL : Nat}
variable {A : Nat → Prop} {ad : Nat → Nat → Nat} {N : Nat → Nat} {Rf : Nat → Nat → Nat → zA} {dC : Nat → ClassId} {dI : Nat → Nat → Nat} {cA : Nat → Nat → ClassId}
variable {cc : ByteArray} {pc nx : Nat} {ls : zL} {m : zM} {st : List zA} {k : Nat} {r : zS} {P : Prop} {ow : Nat} {ct : zT} {MT : Nat → zI}
/-- a call: it comes back with an answer, or an exception goes on -/
theorem z_scall {d k1 k2 y : Nat} {as st' : List zA} {o : zO}
    (hx : p.tables.exec = Jvm.exec) (hb : c.code = cc) (hml : c.maxLocals = nL) (hts : ∀ w ∈ z_W, w.before args s = true) (hown : s.vm.findClass (z_cn ow) = some mi.cls)
    (hA : ∀ k i, i < N k → A (ad k i)) (h0 : z_W0 A N Rf dC dI cA s) (hWX : z_WX A s s.heap) (hmk : ∀ y, z_mok (MT y)) (hML : ∀ e ∈ z_ML, z_MLp MT e) (hcc : z_okC ow cc MT ct = true)
    (hRf : d + 6 ≤ R.frames) (hRl : 164 + 64 * d ≤ R.locals) (hRc : K ≤ R.cells ∧ 6 * K ≤ R.slots)
    (h : z_call ct pc st = some (y, as, nx, st')) (hrcv : z_rcv N (MT y).2.2.2.2.2.2.1 as) (hM : z_Con l MT N Rf d k1 y as m o)
    (kk : ∀ v m', o = (.inl v, m') → z_G p l e R s mi args below meth c Q K nL A ad N Rf dC dI cA k2 nx ls (v.toList ++ st') m')
    (kx : ∀ e' m', o = (.inr e', m') → e' < 5 → ∀ (H : Heap) (locs : List Loc) (lsC : Array Slot) (cells slots : Nat) (q : Addr) (ce : Cell), cells + k2 ≤ K → slots + 6 * k2 ≤ 6 * K → z_I A ad N Rf dC dI cA s.heap m' H locs → z_LR ad ls lsC nL → H[q]? = some ce → ce.vm = .none → s.vm.findClass (z_ex e') = some ce.cls → vx_W p l e R s mi args below meth c H locs cells slots Q (F0 mi pc lsC (st'.map (z_cv ad))) q) :
    z_G p l e R s mi args below meth c Q K nL A ad N Rf dC dI cA (k1 + k2) pc ls st m := by
  intro H locs lsC cells slots hk1 hk2 hI hL
  unfold z_call at h
  split at h
  · rename_i len y0 b rest hlk
    obtain ⟨w, v, ci, cl⟩ := rest
    cases hcb : (Nat.ble b st.length && Nat.ble (z_cs (st.drop b)) 8) with
    | false => rw [hcb] at h; cases h
    | true =>
      rw [hcb] at h
      cases h
      rw [Bool.and_eq_true] at hcb
      have hl := z_lk_okC hcc hlk
      have hlen : len = 3 := by
        simp only [z_lkc, Bool.and_eq_true] at hl
        exact z_beq hl.1
      have hr := z_vrun (p := p) (l := l) (e := e) (below := below) (meth := meth) (lsC := lsC) (cells := cells) (slots := slots) hx hb hml hts hown hA h0 hWX (hmk _) hML hl hRf hRl ⟨by omega, by omega⟩ (Nat.le_of_ble_eq_true hcb.1) (Nat.le_of_ble_eq_true hcb.2) hrcv hM hI hL
      have hsub : ∀ q, z_A ad N H.size q → A q := by
        rintro q (⟨k, i, h1, rfl⟩ | h1)
        · exact hA k i h1
        · exact h0.2.2.2.2 q (Nat.le_trans hI.2.2.1 h1)
      intro T hT X
      rcases hr T hT X with ⟨v, st₀, t, T', L, e0, X', hL', e1, e2, ⟨v', m', ho, hret, g1, g2, g3⟩, hgo⟩ | ⟨q, st₀, t, T', L, E, ce, e0, X', hL', e1, e2, ⟨e', m', ho, he5, hE, g1, g2, g3⟩, hc, hv, hcl, hst⟩
      · obtain ⟨b1, b2, b3⟩ := vx_keep e0 e1 hI.2.2 (fun q _ h => hsub q h) hsub hL' g3
        have hret : v = v'.map (z_cv ad) := by injection hret
        subst hret
        obtain ⟨t2, a1, a2⟩ := kk v' m' ho T'.heap (locs ++ L) lsC (cells + k1) (slots + 6 * k1) (by omega) (by omega) ⟨by rw [e1]; exact g1, g2.weaken (fun _ _ _ h => hsub _ h), b3⟩ hL T' rfl X'
        refine ⟨t2, hgo _ ?_, a2⟩
        rw [show ({ F0 mi pc lsC (st.map (z_cv ad)) with pc := (F0 mi pc lsC (st.map (z_cv ad))).pc + 3, stack := (v'.map (z_cv ad)).toList ++ (st.drop b).map (z_cv ad) } : JFrame) = F0 mi (pc + len) lsC ((v'.toList ++ st.drop b).map (z_cv ad)) by rw [hlen]; cases v' <;> rfl]
        exact a1
      · obtain ⟨b1, b2, b3⟩ := vx_keep e0 e1 hI.2.2 (fun q _ h => hsub q h) hsub hL' g3
        subst hE
        obtain ⟨t2, a1, a2⟩ := kx e' m' ho he5 T'.heap (locs ++ L) lsC (cells + k1) (slots + 6 * k1) q ce (by omega) (by omega) ⟨by rw [e1]; exact g1, g2.weaken (fun _ _ _ h => hsub _ h), b3⟩ hL (by rw [e1]; exact hc) hv hcl T' rfl X'
        exact ⟨t2, hst.trans a1, a2⟩
  · cases h
theorem z_smask {b : List Bool} (kk : z_G p l e R s mi args below meth c Q K nL A ad N Rf dC dI cA k pc (z_mask b ls) st m) : z_G p l e R s mi args below meth c Q K nL A ad N Rf dC dI cA k pc ls st m := by
  intro H locs lsC cells slots hk1 hk2 hI hL
  refine kk H locs lsC cells slots hk1 hk2 hI ⟨?_, hL.2.1, hL.2.2.1, fun i v hv => hL.2.2.2 i v ?_⟩
  · rw [← hL.1]
    exact z_mask_len b ls
  · exact z_mask_get b ls i v hv
end
