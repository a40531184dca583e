/-! The law's run, by the kernel. -/
noncomputable section
/-- the law's start -/
def kLaw0 : kS := ((0, [(0, (2, sC 4))], [], [], 0, 0, ([(0, 3072)], [], [], [])), [(0, [sX 0])])
def kLawX : kX := (fun _ => true, 22, sC 0, sC 1000)
def kFin (K : kS) : Bool := decide (K.1.2.2.1 = [(0, sC 1)]) && (decide (K.1.2.2.2.2.1 ≤ 600000) && decide (K.1.2.2.2.2.2.1 ≤ 7302249))
def kLawGo : Bool := match kRun kSOx eMTg (kDp kUDf) 86 kHKx (kStep kSOx eCL eCT kUDf nKW nKC kKWL kLC nIC 4) kCS kLawX 100000 0 280 kLaw0 with
  | some outs => outs.all kFin
  | none => false
def fLawGo : Bool := @Option.rec (List kS) (fun _ => Bool) false (fun outs => outs.all kFin) (fRn kLawX 1237940039285380274899124223 100000 280 kLaw0)
theorem fLawGo_ok : fLawGo = true := by decide +kernel
theorem kLawGo_ok : kLawGo = true := by
  have h := fLawGo_ok
  unfold fLawGo at h
  rw [fRn_eq (fun _ _ => rfl)] at h
  unfold fR fKS at h
  unfold kLawGo
  generalize kRun kSOx eMTg (kDp kUDf) 86 kHKx (kStep kSOx eCL eCT kUDf nKW nKC kKWL kLC nIC 4) kCS kLawX 100000 0 280 kLaw0 = o at h ⊢
  cases o
  · exact h
  · exact h
end
