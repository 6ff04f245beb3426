/-! THE LAW IN THE REAL MACHINE, from its entry, where the start is as 04 asks -/
section S98i
variable {base : Nat} {av : Nat → Value} {D : va_G} {cA : Nat → ClassId} {Hs : Heap} {Ls : Nat} {xs : Nat → Int32}
theorem W_forget {p : Program} {l : Launch} {e : Env} {R : Room} {s : State} {m : MethodId} {args : Array Value} {below : List Frame} {meth : Method} {c : Code} {H : Heap} {locs : List Loc} {cells slots : Nat} {Q : State → Prop} {g : JFrame} (hb : ∀ x ∈ locs, s.heap.size ≤ x.base) (kk : W p l e R s m args below meth c H [] cells slots Q g) : W p l e R s m args below meth c H locs cells slots Q g := fun T hT X => kk T hT (Stand.forget (locs := []) X hb)
theorem law_W (hv : ax_vok av) (hnn : ax_vnn av) {p : Program} {l : Launch} {e : Env} {s : State} {m : MethodId} {below : List Frame} {meth : Method} {c : Code} {Q : State → Prop} (hL : Ls ≤ 4096) (hbase : base = s.heap.size)
    (CX : ax_Cx base av D cA Hs Ls xs p s m (([.ref 48] : List Value).map (ax_cv base av)).toArray meth c 112) (hR : ax_Rep base av D cA Hs Ls xs false (psi (fun j => .int (xs j)) Ls h00) s.heap)
    (fin : ∀ pc H cls, decode (ax_code 112) pc = .ok (.ireturn, 1) → W p l e room_1 s m (([.ref 48] : List Value).map (ax_cv base av)).toArray below meth c H [] 794960 6717368 Q (F0 m pc cls [.int (nI 1)])) :
    W p l e room_1 s m (([.ref 48] : List Value).map (ax_cv base av)).toArray below meth c s.heap [] 0 0 Q (entryFrame m (([.ref 48] : List Value).map (ax_cv base av)).toArray (ax_L 112)) := by
  obtain ⟨h9, S, b1, b2⟩ := law_all (base := base) (D := D) (cA := cA) (Hs := Hs) (xs := xs) hv hnn (Ls := Ls) (by omega)
  have he : (ax_ent0 ([.ref 48] : List Value)).length ≤ ax_L 112 := by decide +kernel
  rw [lg_entry_eq]
  refine S.2.2 p l e room_1 s m _ below meth c s.heap [] 0 0 (h9.2.2.1 - 64) h9.2.2.2.1 Q _ CX (by decide +kernel) (ax_ent_Lr hv he) hR (fun q hq => by cases hq) (by decide) (by decide) (Nat.zero_add _) (by show 0 + (h9.2.2.2.1 - 0) = _; omega) (by show h9.2.2.1 - 64 ≤ 794960; omega) (by show h9.2.2.2.1 ≤ 6717368; omega) ?_
  intro pc' cls' H' locs' st' i hd hrv hR' hlo'
  unfold ax_W
  cases i <;> try (exact absurd hrv (by intro z; cases z))
  case ireturn =>
    simp only [ax_retv] at hrv
    split at hrv
    · split at hrv
      · rename_i v hc
        cases hrv
        exact W.widen (by omega) (by omega) (W_forget (fun x hx => by rw [← hbase]; exact hlo' x hx) (fin pc' H' cls' hd))
      · cases hrv
    · cases hrv
  case lreturn =>
    simp only [ax_retv] at hrv
    split at hrv
    · split at hrv <;> cases hrv
    · cases hrv
  case areturn =>
    simp only [ax_retv] at hrv
    split at hrv
    · rename_i v
      by_cases hk : ax_kd v = 2
      · rw [if_pos hk] at hrv
        split at hrv
        · cases hrv
          exact absurd hk (by decide)
        · cases hrv
          exact absurd hk (by decide)
        · cases hrv
      · rw [if_neg hk] at hrv
        cases hrv
    · cases hrv
  case return_ =>
    simp only [ax_retv] at hrv
    split at hrv
    · split at hrv <;> cases hrv
    · cases hrv
end S98i
