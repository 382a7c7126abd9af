/-! ===== the law's walk ===== -/
theorem law_sim {G : aG} {p : Program} {l : Launch} {e : Env} {s : State} {m : MethodId} {args : Array Value} {below : List Frame} {meth : Method} {c : Code} {d C S : Nat} {cl : aC} {Q : aQ} (X : aCtx G pg p s m args meth c mi_225) (ih : aIH G l pg cl d) (n : Nat) : aRul cl mi_225.cd C S mi_225.rt false Q (aW G p l e (aRm (d + 1) C S) s m args below meth c mi_225 (MQ below (aPost G Q) args s C S (fun q => G.1.heap.size ≤ q))) n := by
  match n with
  | 0 => exact sm_0 X
  | 1 => exact sm_1 X
  | 2 => exact sm_2 X
  | 3 => exact sm_3 X
  | 4 => exact sm_4 X
  | 5 => exact sm_5 X
  | 6 => exact sm_6 X
  | 7 => exact sm_7 X
  | 8 => exact sm_8 X
  | 9 => exact sm_9 X
  | 10 => exact sm_10 X
  | 11 => exact sm_11 X
  | 12 => exact sm_12 X
  | 13 => exact sm_13 X
  | 14 => exact sm_14 X
  | 15 => exact sm_15 X
  | 16 => exact sm_16 X
  | 17 => exact sm_17 X
  | 18 => exact sm_18 X
  | 19 => exact sm_19 X
  | 20 => exact sm_20 X
  | 21 => exact sm_21 X
  | 22 => exact sm_22 X
  | 23 => exact sm_23 X
  | 24 => exact sm_24 X
  | 25 => exact sm_25 X
  | 26 => exact sm_26 X
  | 27 => exact sm_27 X
  | 28 => exact sm_28 X
  | 29 => exact sm_29 X
  | 30 => exact sm_30 X
  | 31 => exact sm_31 X
  | 32 => exact sm_32 X
  | 33 => exact sm_33 X
  | 34 => exact sm_34 X
  | 35 => exact sm_35 X
  | 36 => exact sm_36 X
  | 37 => exact sm_37 X
  | 38 => exact sm_38 X rfl rfl
  | 39 => exact sm_39 X rfl rfl
  | 40 => exact sm_40 X rfl rfl
  | 41 => exact sm_41 X
  | 42 => exact sm_42 X
  | 43 => exact sm_43 X
  | 44 => exact sm_44 X pg_ok ih
  | 45 => exact sm_45 X pg_ok ih
  | 46 => exact sm_46 X pg_ok ih
  | 47 => exact sm_47 X
  | 48 => exact sm_48 X rfl
  | 49 => exact sm_49 X rfl
  | 50 => exact sm_50 X
  | 51 => exact sm_51 X pg_ok ih
  | 52 => exact sm_52 X pg_ok ih
  | 53 => exact sm_53 X
  | 54 => exact sm_54 X
  | _ + 55 => trivial
theorem whole_start {p : Program} {e : Env} {s : State} {m : MethodId} {below : List Frame} {meth : Method} {c : Code} (l : Launch) {b L : Nat} {xs : Nat → Int32} (hL : L ≤ 3072) (C0 : lw_At p s m meth c b L xs) : W p l e room_1 s m #[Value.ref b] below meth c s.heap [] 0 0 (lw_Z below #[Value.ref b] s) (entryFrame m ([Value.ref b] : List Value).toArray 4) := by
  obtain ⟨hx, hb, hr, hml, hown, hts, hX, hbl, hlk, hgv⟩ := C0
  have hn : ∀ w ∈ nF, w.before #[Value.ref b] s = true := flat_of_before _ hgv
  have hA : ∀ a : Nat, a < s.heap.size → ¬ (fun q => s.heap.size ≤ q) a := fun a ha h => absurd ha (Nat.not_lt.mpr h)
  obtain ⟨t0, z0, T0⟩ := nT_ok hts hn (by decide) n_0t.1 n_0t.2 n_0
  obtain ⟨t1, z1, T1⟩ := nT_ok hts hn (by decide) n_1t.1 n_1t.2 n_1
  obtain ⟨t2, z2, T2⟩ := nT_ok hts hn (by decide) n_2t.1 n_2t.2 n_2
  obtain ⟨t3, z3, T3⟩ := nT_ok hts hn (by decide) n_3t.1 n_3t.2 n_3
  obtain ⟨a4, v5, R4, S4⟩ := nS_ok hts hn (by decide) n_4t n_4
  obtain ⟨a6, v7, R6, S6⟩ := nS_ok hts hn (by decide) n_6t n_6
  obtain ⟨a8, v9, R8, S8⟩ := nS_ok hts hn (by decide) n_8t n_8
  obtain ⟨a10, v11, R10, S10⟩ := nS_ok hts hn (by decide) n_10t n_10
  obtain ⟨a12, v13, R12, S12⟩ := nS_ok hts hn (by decide) n_12t n_12
  have zc := va_Zof (A := fun q => s.heap.size ≤ q) (hts _ n_s.1.1) (hts _ n_s.1.2) (va_eqi (hn _ n_c)) hA
  obtain ⟨f15, z15⟩ : ∃ f15 : Nat, va_Z "jdk/internal/util/Preconditions" "SIOOBE_FORMATTER" "Ljava/util/function/BiFunction;" .null (fun q => s.heap.size ≤ q) s s.heap ∨ va_Z "jdk/internal/util/Preconditions" "SIOOBE_FORMATTER" "Ljava/util/function/BiFunction;" (.ref f15) (fun q => s.heap.size ≤ q) s s.heap := by
    rcases va_Zqof (A := fun q => s.heap.size ≤ q) (hts _ n_s.2.1) (hts _ n_s.2.2) (hn _ n_p) hA with h | ⟨t, h⟩
    · exact ⟨0, Or.inl h⟩
    · exact ⟨t, Or.inr h⟩
  obtain ⟨D, hD⟩ := Classical.axiomOfChoice (a_cls hts)
  obtain ⟨Ty, hTy⟩ := Classical.axiomOfChoice (a_tys hts)
  have hH := s_H (f15 := f15) Ty (fun c => (D c).1, fun c => (D c).2) T0 T1 T2 T3 S4 S6 S8 S10 S12 hX hbl
  have hV := s_V hts [t0, t1, t2, t3, a4, v5, a6, v7, a8, v9, a10, v11, a12, v13, b, f15] Ty D hTy hD (by
    intro q hq
    unfold aSta at hq
    simp only [List.mem_cons, List.not_mem_nil, or_false] at hq
    rcases hq with rfl | rfl | rfl | rfl | rfl | rfl
    · exact ⟨fun _ => z0, fun h => absurd h (by decide), fun h => absurd h (by decide)⟩
    · exact ⟨fun _ => z1, fun h => absurd h (by decide), fun h => absurd h (by decide)⟩
    · exact ⟨fun h => absurd h (by decide), fun _ => zc, fun h => absurd h (by decide)⟩
    · exact ⟨fun _ => z2, fun h => absurd h (by decide), fun h => absurd h (by decide)⟩
    · exact ⟨fun _ => z3, fun h => absurd h (by decide), fun h => absurd h (by decide)⟩
    · exact ⟨fun h => absurd h (by decide), fun h => absurd h (by decide), fun _ => z15⟩) (by
    intro q hq
    unfold aStr at hq
    simp only [List.mem_cons, List.not_mem_nil, or_false] at hq
    rcases hq with rfl | rfl | rfl | rfl | rfl
    · exact R4
    · exact R6
    · exact R8
    · exact R10
    · exact R12)
  generalize hG : ((s, kA [t0, t1, t2, t3, a4, v5, a6, v7, a8, v9, a10, v11, a12, v13, b, f15], Ty, (fun c => (D c).1, fun c => (D c).2)) : aG) = G at hH hV
  have hG1 : G.1 = s := by rw [← hG]
  have hG14 : up G (.ref 14) = .ref b := by rw [← hG]; rfl
  have X : aCtx G pg p s m #[Value.ref b] meth c mi_225 := ⟨hx, hb, hml, hr, hlk, hown, fun q => absurd q (by decide), good_ok hts, hV, law_e, by rw [hG1]; exact Nat.le_refl _⟩
  have ih : aIH G l pg (aRun pg (fun _ _ _ _ _ _ => False) (1349 + 50)) (1349 + 50) := aSimAll pg_ok (fun d j mj as h mc ms Q _ hf => hf.elim) (1349 + 50)
  have K := law_am (pr := fun _ _ _ _ _ _ => False) (D := 1349) (xs := xs) hL (aW G p l e (aRm (1349 + 50 + 1) 600000 7302250) s m #[Value.ref b] below meth c mi_225 (MQ below (aPost G (fun r _ => r = some (.int 1))) #[Value.ref b] s 600000 7302250 (fun q => G.1.heap.size ≤ q))) (fun n => law_sim X ih n)
  have K2 := K s.heap _ [] hH (aEnt_lv G [.ref 14] (n := 4) (by decide)) (fun q hq => by cases hq)
  rw [law_pc] at K2
  rw [lg_entry_eq]
  intro T hT XT
  have hmap : [Value.ref 14].map (up G) = [Value.ref b] := by show [up G (.ref 14)] = _; rw [hG14]
  rw [hmap] at K2
  obtain ⟨t, st, o, r1, r2, ⟨rv, h', ho, _, _, hq⟩, Lc, hF, hfree⟩ := K2 T hT ⟨XT.admits, XT.cas, XT.clock, XT.frames, s_room (by decide) (by decide) (by decide) (by decide) XT.room, XT.hears, XT.method, XT.code, XT.here, XT.tail, XT.warmed, XT.limits, XT.bytes, XT.same⟩
  refine ⟨t, st, o, r1, r2, ?_, hF.1, hF.2.1, s_drop hF.2.2 (fun q hq => by have := hfree q hq; rw [hG1] at this; exact this)⟩
  rw [ho, hq]
  rfl
