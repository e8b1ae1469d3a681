theorem ag_all : AgAll InvA := ⟨fun _ _ a0 h => ag_wait h a0, fun _ _ a0 a1 a2 h => ag_mark h a0 a1 a2, fun _ _ a0 a1 a2 a3 a4 h => an_feed h a0 a1 a2 a3 a4, fun _ _ a0 a1 h => ag_ring h a0 a1, fun _ _ a0 a1 h => ag_unring h a0 a1, fun _ _ a0 h => ag_strip h a0, fun _ _ a0 h => ag_bounds h a0, fun _ _ a0 a1 a2 h => ag_where h a0 a1 a2, fun _ _ a0 h => ag_walk h a0, fun _ _ a0 h => an_walked h a0, fun _ _ h => an_rivals h, fun _ _ a0 a1 h => ag_text h a0 a1, fun _ _ h => an_fault h, fun _ _ a0 a1 h => ag_force h a0 a1, fun _ _ a0 a1 h => ag_rule h a0 a1, fun _ _ a0 a1 h => ag_person h a0 a1, fun _ _ a0 a1 h => ag_heir h a0 a1, fun _ _ a0 h => ag_die h a0, fun _ _ a0 a1 h => ag_told h a0 a1, fun _ _ a0 a1 a2 h => ag_warden h a0 a1 a2, fun _ _ a0 a1 a2 a3 a4 a5 h => ag_deed h a0 a1 a2 a3 a4 a5, fun _ _ a0 h => ag_barred h a0, fun _ _ a0 h => ag_why h a0, fun _ _ a0 h => ag_fine h a0, fun _ _ a0 a1 a2 a3 h => ag_present h a0 a1 a2 a3, fun _ _ a0 a1 h => ag_proof h a0 a1, fun _ _ a0 a1 h => ag_of h a0 a1, fun _ _ a0 a1 a2 a3 h => ag_claim h a0 a1 a2 a3, fun _ _ a0 a1 a2 h => ag_use h a0 a1 a2, fun _ _ a0 a1 h => ag_sure h a0 a1, fun _ _ a0 a1 a2 h => ag_enter h a0 a1 a2, fun _ _ h => an_quarrel h, fun _ _ a0 a1 h => ag_joined h a0 a1, fun _ _ a0 a1 a2 a3 h => ag_lodge h a0 a1 a2 a3, fun _ _ a0 a1 a2 h => ag_spot h a0 a1 a2, fun _ _ h => an_beats h, fun _ _ a0 h => ag_beat h a0, fun _ _ a0 a1 a2 h => ag_wood h a0 a1 a2, fun _ _ a0 a1 a2 a3 h => ag_take h a0 a1 a2 a3, fun _ _ a0 a1 a2 a3 h => ag_stock h a0 a1 a2 a3, fun _ _ a0 h => an_count h a0⟩
/-! the start -/
theorem rows0 : ∀ t, t < 16 → rws σ0 t = 0 := fun t ht => all16 (P := fun t => rws σ0 t = 0) (by decide +kernel) ht
theorem WC0 : WC σ0 := fun t ht => by
  have h := all16 (P := fun t => σ0.1 (3 * t) = nI (wid t) ∧ σ0.1 (3 * t + 1) = nI (lim t) ∧ σ0.1 (3 * t + 2) = nI 0 ∧ σ0.2.2 t = wid t * 2 ^ (0 + 2) ∧ 2 ^ (0 + 2) ≤ cap t) (by decide +kernel) ht
  unfold Tok
  rw [rows0 t ht]
  exact ⟨h.1, h.2.1, h.2.2.1, Nat.zero_le _, 0, h.2.2.2.1, h.2.2.2.2, Nat.zero_le _⟩
theorem inv0 : InvA σ0 τ0 := by
  have n : ∀ t, t < 16 → ∀ i, ¬ i < rws σ0 t := fun t ht i h => by
    rw [rows0 t ht] at h
    omega
  have nl : nL σ0 = 0 := by
    unfold nL
    exact cnt_zero (P := Lp σ0) (m := 0) 40 (fun p _ _ => by
      unfold Lp
      rw [rows0 12 (by omega)]
      rfl)
  have z0 : Rg (σ0.1 62) 100000 := ⟨0, by omega, rfl⟩
  have eMar : IMar σ0 τ0 := ⟨by rw [rows0 1 (by omega)]; rfl, fun i hi => absurd hi (n 1 (by omega) i), fun x => by rw [rows0 1 (by omega)]; exact Nat.zero_le _⟩
  have eRin : IRin σ0 τ0 := ⟨by rw [rows0 2 (by omega)]; rfl, rfl, ⟨0, by omega, rfl⟩, fun i hi => absurd hi (n 2 (by omega) i)⟩
  have eTxt : ITxt σ0 τ0 := ⟨by rw [rows0 3 (by omega)]; rfl, fun i hi => absurd hi (n 3 (by omega) i)⟩
  have eCls : ICls σ0 τ0 := ⟨by rw [rows0 4 (by omega), rows0 3 (by omega)]; rfl, by rw [rows0 5 (by omega)]; exact Nat.zero_le _, fun i hi => absurd hi (n 3 (by omega) i)⟩
  have ePeo : IPeo σ0 τ0 := ⟨by rw [rows0 6 (by omega)]; rfl, fun i hi => absurd hi (n 6 (by omega) i)⟩
  have eDee : IDee σ0 τ0 := ⟨by rw [rows0 10 (by omega)]; rfl, fun i hi => absurd hi (n 10 (by omega) i)⟩
  have eWar : IWar σ0 τ0 := ⟨by rw [rows0 9 (by omega)]; rfl, fun i hi => absurd hi (n 9 (by omega) i), fun i _ _ => rfl⟩
  have eCas : ICas σ0 τ0 := ⟨by rw [rows0 11 (by omega)]; rfl, fun i hi => absurd hi (n 11 (by omega) i), fun i _ _ => ⟨rfl, rfl, rfl, fun _ _ => rfl⟩, fun i hi => absurd hi (n 10 (by omega) i)⟩
  have eCR : CR σ0 := ⟨0, Nat.zero_le _, rfl, fun _ d w v h1 h2 _ _ => absurd (Int32.lt_of_le_of_lt h1 h2) (show ¬ σ0.1 62 < σ0.1 60 by decide)⟩
  have eTap : ITap σ0 τ0 := ⟨by rw [rows0 0 (by omega)]; rfl, fun i hi => absurd hi (n 0 (by omega) i)⟩
  have eWoo : IWoo σ0 τ0 := ⟨by rw [rows0 14 (by omega)]; rfl, fun i hi => absurd hi (n 14 (by omega) i)⟩
  have eTak : ITak σ0 τ0 := ⟨by rw [rows0 15 (by omega)]; rfl, fun i hi => absurd hi (n 15 (by omega) i)⟩
  have eSpo : ISpo σ0 τ0 := ⟨by rw [rows0 13 (by omega)]; rfl, fun i hi => absurd hi (n 13 (by omega) i)⟩
  have eCla : ICla σ0 τ0 := ⟨by rw [rows0 7 (by omega)]; rfl, fun i hi => absurd hi (n 7 (by omega) i), fun _ _ _ => rfl, by rw [rows0 8 (by omega)]; exact sumN_zero _ (fun i _ => rfl), fun i hi => absurd hi (n 8 (by omega) i), fun i _ hi => absurd hi (n 7 (by omega) i), fun i hi => absurd hi (n 8 (by omega) i)⟩
  have eWlk : IWlk σ0 τ0 := ⟨0, by omega, rfl, rfl, fun _ => rfl, fun h => absurd h (by omega)⟩
  have eJS : JS σ0 := Or.inr ⟨by rw [nl]; exact Nat.zero_le _, rfl, by rw [nl]; rfl, by rw [nl]; rfl, fun k hk => by rw [nl] at hk; omega⟩
  have eRol : IRol σ0 τ0 := ⟨⟨fun i hi => absurd hi (n 12 (by omega) i), fun h hh => ⟨by rw [rows0 12 (by omega)]; rfl, by rw [rows0 12 (by omega)]; exact Nat.zero_le _⟩, fun i _ hi => absurd hi (n 12 (by omega) i)⟩, Or.inl ⟨rfl, eJS⟩⟩
  exact ⟨⟨WC0, eMar, eRin, eTxt, eCls, ePeo, eDee, eWar, eCas, rfl, z0, rfl⟩, eCR, eTap, eWoo, eTak, eSpo, eCla, eWlk, eRol, Or.inr rfl, rfl, fun z => absurd z (by rw [rows0 3 (by omega)]; decide)⟩
/-- YOUR PART: from the entry, for every script of at most 3584 ints, the law comes to its end with true ('hflags': the launch's flags, for a law that throws: no stack traces) -/
theorem whole_start {p : Program} {e : Env} {s : State} {m : MethodId} {below : List Frame} {meth : Method} {c : Code} (l : Launch) (hflags : l.flags = flags0) {b L : Nat} {xs : Nat → Int32} (hL : L ≤ 3584) (C0 : lw_At p s m meth c b L xs) : W p l e room_1 s m #[Value.ref b] below meth c s.heap [] 0 0 (lw_Z below #[Value.ref b] s) (entryFrame m ([Value.ref b] : List Value).toArray 7) := by
  exact whole_from ag_all inv0 l hflags hL C0
set_option maxHeartbeats 4000000 in
theorem lw_walk (l : Launch) (hflags : l.flags = flags0) (b : Addr) (xs : List Int32) : MetFree l x (headSpec (Jvm.Cond.code x code maxLocals ret :: tables_1) room_1) (lw_P b xs) (fun _ _ _ _ _ => True) lw_Q := by
  refine MetFree.of_bodyS (code := code) (maxLocals := maxLocals) (ret := ret) (by decide) ?_ ?_
  · intro args s m h hn
    obtain ⟨meth, c, h1, h2, h3, h4, h5, h6, -, -⟩ := Cond.code_spec hn (atoms_spec (ws := Jvm.Cond.code x code maxLocals ret :: tables_1) h _ List.mem_cons_self)
    exact ⟨meth, c, h1, h2, h3, h4, h5, h6⟩
  · intro p e s m args below meth c s₁ B hml0 hP _
    obtain ⟨rfl, hx, hbd, hgv⟩ := hP
    obtain ⟨scr, harrAt, hlist, hof, hsmall⟩ := hx
    obtain ⟨hcb, hkn, -, -⟩ := State.arrayAt?_spec harrAt
    have hown : s.vm.findClass R_law = some m.cls := findClass_of_methodNamed B.named
    have hts0 : ∀ c ∈ (Jvm.Cond.code x code maxLocals ret :: tables_1), c.before #[Value.ref b] s = true := atoms_spec (ws := Jvm.Cond.code x code maxLocals ret :: tables_1) B.pre
    have hts : ∀ w ∈ lw_tbl, w.before #[Value.ref b] s = true := k2_hts_sels lw_privs (fun w hw => hts0 w (List.mem_cons_of_mem _ hw)) lw_privs_ok
    have hml : c.maxLocals = 7 := B.maxLocals_eq (hts0 _ List.mem_cons_self)
    have X₀ : Stand p l e room_1 s m #[Value.ref b] below meth c s₁ [] 0 0 := Stand.of_body B
    have hh0 : s₁.heap = s.heap := by rw [B.state]; rfl
    have hsz : scr.slots.size = xs.length := by rw [← Array.length_toList, hlist, List.length_map]
    have hval : ∀ j : Nat, j < xs.length → scr.slots[j]? = some (.int (xs.getD j 0)) := fun j hj => by
      rw [← Array.getElem?_toList, hlist]
      simp [hj]
    have hbl : b < s.heap.size := (Array.getElem?_eq_some_iff.mp hcb).1
    have hX : va_X b xs.length (fun j => xs.getD j 0) s s.heap := ⟨scr, hcb, hof, hkn, hsz, hval⟩
    have K : W p l e room_1 s m #[Value.ref b] below meth c s₁.heap [] 0 0 (lw_Z below #[Value.ref b] s) (entryFrame m ([Value.ref b] : List Value).toArray 7) := by
      rw [hh0]
      exact whole_start l hflags hbd ⟨B.exec, B.bytes, B.returns, hml, hown, hts, hX, hbl, B.notSynchronized, hgv⟩
    obtain ⟨t, a1, o, b1, b2, b3⟩ := K s₁ rfl X₀
    exact ⟨t, o, a1, b1, b2, b3⟩
theorem lw_pre_spec {args : Array Value} {s : State} (h : (Jvm.Cond.and given_1 narrow_1).before args s = true) (hr : rest_1_c.before args s = true) : ∃ (b : Addr) (xs : List Int32), lw_P b xs args s := by
  have hs := flat_of_before _ h
  have hq := flat_of_before _ hr
  have hc : (Cond.count 1).before args s = true := hs _ (by decide +kernel)
  have harr : (Cond.arrayOf (.arg 0) .int).before args s = true := hs _ (by decide +kernel)
  have hle : (Cond.le (.length (.arg 0)) (.int 3584)).before args s = true := hs _ (by decide +kernel)
  have hlen : (Cond.isInt (.length (.arg 0))).before args s = true := hq _ (by decide +kernel)
  have hall : (Cond.all (.arg 0) (.isInt (.elem (.arg 0) (.index 0)))).before args s = true := hq _ (by decide +kernel)
  obtain ⟨b, xs, hb, hx⟩ := State.ints_of_pre rfl harr hlen hall
  have hsm : xs.length < 2 ^ 31 := hx.choose_spec.2.2.2
  have hev : (Term.length (.arg 0)).eval args s none [] s = some (.int xs.length.toInt32) := hx.length_eval hb
  have hv := Cond.le_ints hev (show (Term.int 3584).eval args s none [] s = some (.int 3584) from rfl)
  have hd : xs.length.toInt32 ≤ 3584 := by
    simpa [Cond.before, Cond.holds, hv] using hle
  have hN : xs.length ≤ 3584 := (Int32.ofNat_le_ofNat hsm (by decide)).mp (show Int32.ofNat xs.length ≤ Int32.ofNat 3584 from hd)
  exact ⟨b, xs, Cond.one_arg hc (show args[0]? = some (.ref b) from hb), hx, hN, h⟩
theorem lw_comes (l : Launch) (hflags : l.flags = flags0) : Comes l x (Jvm.Cond.code x code maxLocals ret :: tables_1) room_1 (fun tb e args s => Calls_1 tb e args s ∧ rest_1 tb e args s ∧ Pre_1 tb e args s)
    (fun _ _ args s o t => lw_Q args s o t) := by
  intro p e ha hc hk s m args below hf hfit hheap happ hpre
  obtain ⟨b, xs, hP⟩ := lw_pre_spec hpre.2.2 hpre.2.1
  obtain ⟨k, o, h1, h2, h3, hQ⟩ := lw_walk l hflags b xs p e ha hc hk s m args below hf ((Spec.applies_iff_loose hf).mp happ).1 hP trivial
  exact ⟨k, o, h1, h2, h3, hQ⟩
theorem lw_frame {s t : State} {o : Outcome} {args : Array Value} (h : Framed s o t [] 601024 7293033) :
    Framed s o t (fieldLocs frame_1_writes args s ++ arrayLocs frame_1_arrays args s ++ staticLocs frame_1_statics s) 601024 7293033 := h
theorem lw_limb (L : Cond) (hL : ∀ (args : Array Value) (s t : State), L.after args s (.returned (some (.int 1))) t = true) :
    ArmFor flags0 classFile x code maxLocals ret World_1 tables_1 room_1 Calls_1 rest_1 Pre_1
      (fun tb e a s o t => postC L tb e a s o t ∧ Framed s o t (fieldLocs frame_1_writes a s ++ arrayLocs frame_1_arrays a s ++ staticLocs frame_1_statics s) 601024 7293033) := by
  intro l hflags _ _ p e ha hc hk s m args below hf hfit hheap happ hpre
  obtain ⟨k, o, h1, h2, h3, rfl, hF⟩ := lw_comes l hflags p e ha hc hk s m args below hf hfit hheap happ hpre
  exact ⟨k, _, h1, h2, h3, hL args s _, lw_frame hF⟩
theorem i_vc : Claimed_1_1 ∧ Claimed_1_2 := ⟨lw_limb limb_1_1 (fun args s t => by simp [limb_1_1, Cond.after, Cond.holds, Cond.value]), lw_limb limb_1_2 (fun args s t => Cond.after_iff.mpr (by
  first | (rw [show limb_1_2 = Cond.eq .result (.int 1) from rfl, Cond.eq_ints (x := 1) (y := 1) rfl rfl]; simp; done) | (simp [limb_1_2, Cond.value, Term.eval]; done)))⟩
