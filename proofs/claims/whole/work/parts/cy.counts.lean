/-! words on the reference's side: so many words more come to a state -/
theorem md_counts {d L m n : Nat} {h : PH} {Q : PQ} {N gs V : List (List Nat)} {P : List Nat} {cs : Nat → Nat} {w : List Nat} (hM : MdS h) (hL : L < 2) (hN : okN N) (hT : LT h L N gs m V P cs) (hD : DgA h 52 (stD N gs m w)) (hV : V.length < 16384) (kold : ∀ h' i v, V[i]? = some v → stD N gs m v = stD N gs m w → LT h' L N gs m V P (updD cs i (cs i + n)) → Fr (Wly L) h h' → Q none h') (knew : ∀ h' p, (∀ v ∈ V, stD N gs m v ≠ stD N gs m w) → LT h' L N gs m (V ++ [w]) (P ++ [p]) (updD (updD cs P.length 0) P.length (0 + n)) → Fr (Wly L) h h' → Q none h') : wpm (d + 2) 254 [.ref 17, .int (nI L), .long (lN n)] h Q := by
  refine wpm_in P_Md_counts rfl (by decide) (by show ¬ 8 < 4; decide) ?_
  refine md_counts0 hM hD (fun y4 => md_seek hM hL hN hT hD hV (fun i v p hv hp e => ?_) (fun p j hp hn hj hc hne => ?_))
  · exact md_counts_old hM hL hT hp (List.getElem?_eq_some_iff.mp hv).1 (fun h' hT' f => kold h' i v hv e hT' f)
  · exact md_counts_new hM hL hT hD hV hp hn hj hc (fun h' hT' f => knew h' p hne hT' f)
