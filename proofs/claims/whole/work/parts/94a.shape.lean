/-- the pointers and lengths of the class that stay, plans and runs aside -/
def cS (B : Nat) (s : vt_S) : Prop := vt_P s 1300 B = B + 1 ∧ vt_P s 1301 B = B + 3 ∧ vt_P s 500 (B + 5) = B + 1 ∧ vt_P s 1302 B = B + 5 ∧ vt_P s 900 (B + 6) = B + 7 ∧ vt_P s 1303 B = B + 6 ∧ vt_P s 1100 (B + 628) = B + 621 ∧ vt_P s 1304 B = B + 628 ∧ vt_P s 1000 (B + 629) = B + 621 ∧ vt_P s 1305 B = B + 629 ∧ vt_L s 907 (B + 6) = 130 ∧ vt_L s 908 (B + 6) = 130 ∧ vt_L s 909 (B + 6) = 130 ∧ vt_L s 400 (B + 621) = 128 ∧ vt_L s 401 (B + 621) = 128 ∧ vt_L s 402 (B + 621) = 128 ∧ vt_L s 403 (B + 621) = 128 ∧ vt_L s 404 (B + 621) = 128 ∧ vt_L s 405 (B + 621) = 128 ∧ vt_L s 1001 (B + 629) = 48 ∧ vt_L s 1002 (B + 629) = 48 ∧ vt_L s 1003 (B + 629) = 128
theorem cS.P1300 {B : Nat} {s : vt_S} (h : cS B s) : vt_P s 1300 B = B + 1 := h.1
theorem cS.P1301 {B : Nat} {s : vt_S} (h : cS B s) : vt_P s 1301 B = B + 3 := h.2.1
theorem cS.P500 {B : Nat} {s : vt_S} (h : cS B s) : vt_P s 500 (B + 5) = B + 1 := h.2.2.1
theorem cS.P1302 {B : Nat} {s : vt_S} (h : cS B s) : vt_P s 1302 B = B + 5 := h.2.2.2.1
theorem cS.P900 {B : Nat} {s : vt_S} (h : cS B s) : vt_P s 900 (B + 6) = B + 7 := h.2.2.2.2.1
theorem cS.P1303 {B : Nat} {s : vt_S} (h : cS B s) : vt_P s 1303 B = B + 6 := h.2.2.2.2.2.1
theorem cS.P1100 {B : Nat} {s : vt_S} (h : cS B s) : vt_P s 1100 (B + 628) = B + 621 := h.2.2.2.2.2.2.1
theorem cS.P1304 {B : Nat} {s : vt_S} (h : cS B s) : vt_P s 1304 B = B + 628 := h.2.2.2.2.2.2.2.1
theorem cS.P1000 {B : Nat} {s : vt_S} (h : cS B s) : vt_P s 1000 (B + 629) = B + 621 := h.2.2.2.2.2.2.2.2.1
theorem cS.P1305 {B : Nat} {s : vt_S} (h : cS B s) : vt_P s 1305 B = B + 629 := h.2.2.2.2.2.2.2.2.2.1
theorem cS.L907 {B : Nat} {s : vt_S} (h : cS B s) : vt_L s 907 (B + 6) = 130 := h.2.2.2.2.2.2.2.2.2.2.1
theorem cS.L908 {B : Nat} {s : vt_S} (h : cS B s) : vt_L s 908 (B + 6) = 130 := h.2.2.2.2.2.2.2.2.2.2.2.1
theorem cS.L909 {B : Nat} {s : vt_S} (h : cS B s) : vt_L s 909 (B + 6) = 130 := h.2.2.2.2.2.2.2.2.2.2.2.2.1
theorem cS.L400 {B : Nat} {s : vt_S} (h : cS B s) : vt_L s 400 (B + 621) = 128 := h.2.2.2.2.2.2.2.2.2.2.2.2.2.1
theorem cS.L401 {B : Nat} {s : vt_S} (h : cS B s) : vt_L s 401 (B + 621) = 128 := h.2.2.2.2.2.2.2.2.2.2.2.2.2.2.1
theorem cS.L402 {B : Nat} {s : vt_S} (h : cS B s) : vt_L s 402 (B + 621) = 128 := h.2.2.2.2.2.2.2.2.2.2.2.2.2.2.2.1
theorem cS.L403 {B : Nat} {s : vt_S} (h : cS B s) : vt_L s 403 (B + 621) = 128 := h.2.2.2.2.2.2.2.2.2.2.2.2.2.2.2.2.1
theorem cS.L404 {B : Nat} {s : vt_S} (h : cS B s) : vt_L s 404 (B + 621) = 128 := h.2.2.2.2.2.2.2.2.2.2.2.2.2.2.2.2.2.1
theorem cS.L405 {B : Nat} {s : vt_S} (h : cS B s) : vt_L s 405 (B + 621) = 128 := h.2.2.2.2.2.2.2.2.2.2.2.2.2.2.2.2.2.2.1
theorem cS.L1001 {B : Nat} {s : vt_S} (h : cS B s) : vt_L s 1001 (B + 629) = 48 := h.2.2.2.2.2.2.2.2.2.2.2.2.2.2.2.2.2.2.2.1
theorem cS.L1002 {B : Nat} {s : vt_S} (h : cS B s) : vt_L s 1002 (B + 629) = 48 := h.2.2.2.2.2.2.2.2.2.2.2.2.2.2.2.2.2.2.2.2.1
theorem cS.L1003 {B : Nat} {s : vt_S} (h : cS B s) : vt_L s 1003 (B + 629) = 128 := h.2.2.2.2.2.2.2.2.2.2.2.2.2.2.2.2.2.2.2.2.2
/-- the pointers and lengths of the reference -/
def rS (B : Nat) (s : vt_S) : Prop := vt_P s 1801 (B + 639) = B + 640 ∧ vt_P s 1802 (B + 639) = B + 643 ∧ vt_P s 1803 (B + 639) = B + 656 ∧ vt_P s 1804 (B + 639) = B + 670 ∧ vt_L s 1500 (B + 640) = 8192 ∧ vt_L s 1502 (B + 640) = 8192 ∧ vt_L s 1600 (B + 643) = 4 ∧ vt_L s 1601 (B + 643) = 1024 ∧ vt_L s 1602 (B + 643) = 1024 ∧ vt_L s 1603 (B + 643) = 1024 ∧ vt_L s 1604 (B + 643) = 1024 ∧ vt_L s 1606 (B + 643) = 4200 ∧ vt_L s 1608 (B + 643) = 8192 ∧ vt_L s 1610 (B + 643) = 4 ∧ vt_L s 1611 (B + 643) = 1024 ∧ vt_L s 1612 (B + 643) = 1024 ∧ vt_L s 1613 (B + 643) = 1024 ∧ vt_L s 1614 (B + 643) = 1024 ∧ vt_L s 1401 (B + 656) = 32 ∧ vt_L s 1402 (B + 656) = 32 ∧ vt_L s 1403 (B + 656) = 32 ∧ vt_L s 1404 (B + 656) = 32 ∧ vt_L s 1405 (B + 656) = 32 ∧ vt_L s 1406 (B + 656) = 1024 ∧ vt_L s 1408 (B + 656) = 32 ∧ vt_L s 1409 (B + 656) = 32 ∧ vt_L s 1410 (B + 656) = 32 ∧ vt_L s 1411 (B + 656) = 32 ∧ vt_L s 1412 (B + 656) = 32 ∧ vt_L s 1413 (B + 656) = 32 ∧ vt_L s 1414 (B + 656) = 32 ∧ vt_L s 1700 (B + 670) = 128 ∧ vt_L s 1701 (B + 670) = 128 ∧ vt_L s 1702 (B + 670) = 128 ∧ vt_L s 1703 (B + 670) = 128 ∧ vt_L s 1704 (B + 670) = 128 ∧ vt_L s 1706 (B + 670) = 16600 ∧ vt_L s 1707 (B + 670) = 16600 ∧ vt_L s 1708 (B + 670) = 16600 ∧ vt_L s 1709 (B + 670) = 16600 ∧ vt_L s 1710 (B + 670) = 16600 ∧ vt_L s 1712 (B + 670) = 34000 ∧ vt_L s 1713 (B + 670) = 280 ∧ vt_L s 1714 (B + 670) = 280 ∧ vt_L s 1715 (B + 670) = 280 ∧ vt_L s 1716 (B + 670) = 280 ∧ vt_L s 1718 (B + 670) = 8400 ∧ vt_L s 1719 (B + 670) = 8400 ∧ vt_L s 1720 (B + 670) = 8400 ∧ vt_L s 1721 (B + 670) = 8400 ∧ vt_L s 1722 (B + 670) = 8400 ∧ vt_L s 1723 (B + 670) = 8400 ∧ vt_L s 1724 (B + 670) = 16600 ∧ vt_L s 1805 (B + 639) = 8192 ∧ vt_L s 1820 (B + 639) = 128 ∧ vt_L s 1822 (B + 639) = 128 ∧ vt_L s 1824 (B + 639) = 48 ∧ vt_L s 1825 (B + 639) = 48 ∧ vt_L s 1826 (B + 639) = 3072
theorem rS.P1801 {B : Nat} {s : vt_S} (h : rS B s) : vt_P s 1801 (B + 639) = B + 640 := h.1
theorem rS.P1802 {B : Nat} {s : vt_S} (h : rS B s) : vt_P s 1802 (B + 639) = B + 643 := h.2.1
theorem rS.P1803 {B : Nat} {s : vt_S} (h : rS B s) : vt_P s 1803 (B + 639) = B + 656 := h.2.2.1
theorem rS.P1804 {B : Nat} {s : vt_S} (h : rS B s) : vt_P s 1804 (B + 639) = B + 670 := h.2.2.2.1
theorem rS.L1500 {B : Nat} {s : vt_S} (h : rS B s) : vt_L s 1500 (B + 640) = 8192 := h.2.2.2.2.1
theorem rS.L1502 {B : Nat} {s : vt_S} (h : rS B s) : vt_L s 1502 (B + 640) = 8192 := h.2.2.2.2.2.1
theorem rS.L1600 {B : Nat} {s : vt_S} (h : rS B s) : vt_L s 1600 (B + 643) = 4 := h.2.2.2.2.2.2.1
theorem rS.L1601 {B : Nat} {s : vt_S} (h : rS B s) : vt_L s 1601 (B + 643) = 1024 := h.2.2.2.2.2.2.2.1
theorem rS.L1602 {B : Nat} {s : vt_S} (h : rS B s) : vt_L s 1602 (B + 643) = 1024 := h.2.2.2.2.2.2.2.2.1
theorem rS.L1603 {B : Nat} {s : vt_S} (h : rS B s) : vt_L s 1603 (B + 643) = 1024 := h.2.2.2.2.2.2.2.2.2.1
theorem rS.L1604 {B : Nat} {s : vt_S} (h : rS B s) : vt_L s 1604 (B + 643) = 1024 := h.2.2.2.2.2.2.2.2.2.2.1
theorem rS.L1606 {B : Nat} {s : vt_S} (h : rS B s) : vt_L s 1606 (B + 643) = 4200 := h.2.2.2.2.2.2.2.2.2.2.2.1
theorem rS.L1608 {B : Nat} {s : vt_S} (h : rS B s) : vt_L s 1608 (B + 643) = 8192 := h.2.2.2.2.2.2.2.2.2.2.2.2.1
theorem rS.L1610 {B : Nat} {s : vt_S} (h : rS B s) : vt_L s 1610 (B + 643) = 4 := h.2.2.2.2.2.2.2.2.2.2.2.2.2.1
theorem rS.L1611 {B : Nat} {s : vt_S} (h : rS B s) : vt_L s 1611 (B + 643) = 1024 := h.2.2.2.2.2.2.2.2.2.2.2.2.2.2.1
theorem rS.L1612 {B : Nat} {s : vt_S} (h : rS B s) : vt_L s 1612 (B + 643) = 1024 := h.2.2.2.2.2.2.2.2.2.2.2.2.2.2.2.1
theorem rS.L1613 {B : Nat} {s : vt_S} (h : rS B s) : vt_L s 1613 (B + 643) = 1024 := h.2.2.2.2.2.2.2.2.2.2.2.2.2.2.2.2.1
theorem rS.L1614 {B : Nat} {s : vt_S} (h : rS B s) : vt_L s 1614 (B + 643) = 1024 := h.2.2.2.2.2.2.2.2.2.2.2.2.2.2.2.2.2.1
theorem rS.L1401 {B : Nat} {s : vt_S} (h : rS B s) : vt_L s 1401 (B + 656) = 32 := h.2.2.2.2.2.2.2.2.2.2.2.2.2.2.2.2.2.2.1
theorem rS.L1402 {B : Nat} {s : vt_S} (h : rS B s) : vt_L s 1402 (B + 656) = 32 := h.2.2.2.2.2.2.2.2.2.2.2.2.2.2.2.2.2.2.2.1
theorem rS.L1403 {B : Nat} {s : vt_S} (h : rS B s) : vt_L s 1403 (B + 656) = 32 := h.2.2.2.2.2.2.2.2.2.2.2.2.2.2.2.2.2.2.2.2.1
theorem rS.L1404 {B : Nat} {s : vt_S} (h : rS B s) : vt_L s 1404 (B + 656) = 32 := h.2.2.2.2.2.2.2.2.2.2.2.2.2.2.2.2.2.2.2.2.2.1
theorem rS.L1405 {B : Nat} {s : vt_S} (h : rS B s) : vt_L s 1405 (B + 656) = 32 := h.2.2.2.2.2.2.2.2.2.2.2.2.2.2.2.2.2.2.2.2.2.2.1
theorem rS.L1406 {B : Nat} {s : vt_S} (h : rS B s) : vt_L s 1406 (B + 656) = 1024 := h.2.2.2.2.2.2.2.2.2.2.2.2.2.2.2.2.2.2.2.2.2.2.2.1
theorem rS.L1408 {B : Nat} {s : vt_S} (h : rS B s) : vt_L s 1408 (B + 656) = 32 := h.2.2.2.2.2.2.2.2.2.2.2.2.2.2.2.2.2.2.2.2.2.2.2.2.1
theorem rS.L1409 {B : Nat} {s : vt_S} (h : rS B s) : vt_L s 1409 (B + 656) = 32 := h.2.2.2.2.2.2.2.2.2.2.2.2.2.2.2.2.2.2.2.2.2.2.2.2.2.1
theorem rS.L1410 {B : Nat} {s : vt_S} (h : rS B s) : vt_L s 1410 (B + 656) = 32 := h.2.2.2.2.2.2.2.2.2.2.2.2.2.2.2.2.2.2.2.2.2.2.2.2.2.2.1
theorem rS.L1411 {B : Nat} {s : vt_S} (h : rS B s) : vt_L s 1411 (B + 656) = 32 := h.2.2.2.2.2.2.2.2.2.2.2.2.2.2.2.2.2.2.2.2.2.2.2.2.2.2.2.1
theorem rS.L1412 {B : Nat} {s : vt_S} (h : rS B s) : vt_L s 1412 (B + 656) = 32 := h.2.2.2.2.2.2.2.2.2.2.2.2.2.2.2.2.2.2.2.2.2.2.2.2.2.2.2.2.1
theorem rS.L1413 {B : Nat} {s : vt_S} (h : rS B s) : vt_L s 1413 (B + 656) = 32 := h.2.2.2.2.2.2.2.2.2.2.2.2.2.2.2.2.2.2.2.2.2.2.2.2.2.2.2.2.2.1
theorem rS.L1414 {B : Nat} {s : vt_S} (h : rS B s) : vt_L s 1414 (B + 656) = 32 := h.2.2.2.2.2.2.2.2.2.2.2.2.2.2.2.2.2.2.2.2.2.2.2.2.2.2.2.2.2.2.1
theorem rS.L1700 {B : Nat} {s : vt_S} (h : rS B s) : vt_L s 1700 (B + 670) = 128 := h.2.2.2.2.2.2.2.2.2.2.2.2.2.2.2.2.2.2.2.2.2.2.2.2.2.2.2.2.2.2.2.1
theorem rS.L1701 {B : Nat} {s : vt_S} (h : rS B s) : vt_L s 1701 (B + 670) = 128 := h.2.2.2.2.2.2.2.2.2.2.2.2.2.2.2.2.2.2.2.2.2.2.2.2.2.2.2.2.2.2.2.2.1
theorem rS.L1702 {B : Nat} {s : vt_S} (h : rS B s) : vt_L s 1702 (B + 670) = 128 := h.2.2.2.2.2.2.2.2.2.2.2.2.2.2.2.2.2.2.2.2.2.2.2.2.2.2.2.2.2.2.2.2.2.1
theorem rS.L1703 {B : Nat} {s : vt_S} (h : rS B s) : vt_L s 1703 (B + 670) = 128 := h.2.2.2.2.2.2.2.2.2.2.2.2.2.2.2.2.2.2.2.2.2.2.2.2.2.2.2.2.2.2.2.2.2.2.1
theorem rS.L1704 {B : Nat} {s : vt_S} (h : rS B s) : vt_L s 1704 (B + 670) = 128 := h.2.2.2.2.2.2.2.2.2.2.2.2.2.2.2.2.2.2.2.2.2.2.2.2.2.2.2.2.2.2.2.2.2.2.2.1
theorem rS.L1706 {B : Nat} {s : vt_S} (h : rS B s) : vt_L s 1706 (B + 670) = 16600 := h.2.2.2.2.2.2.2.2.2.2.2.2.2.2.2.2.2.2.2.2.2.2.2.2.2.2.2.2.2.2.2.2.2.2.2.2.1
theorem rS.L1707 {B : Nat} {s : vt_S} (h : rS B s) : vt_L s 1707 (B + 670) = 16600 := h.2.2.2.2.2.2.2.2.2.2.2.2.2.2.2.2.2.2.2.2.2.2.2.2.2.2.2.2.2.2.2.2.2.2.2.2.2.1
theorem rS.L1708 {B : Nat} {s : vt_S} (h : rS B s) : vt_L s 1708 (B + 670) = 16600 := h.2.2.2.2.2.2.2.2.2.2.2.2.2.2.2.2.2.2.2.2.2.2.2.2.2.2.2.2.2.2.2.2.2.2.2.2.2.2.1
theorem rS.L1709 {B : Nat} {s : vt_S} (h : rS B s) : vt_L s 1709 (B + 670) = 16600 := h.2.2.2.2.2.2.2.2.2.2.2.2.2.2.2.2.2.2.2.2.2.2.2.2.2.2.2.2.2.2.2.2.2.2.2.2.2.2.2.1
theorem rS.L1710 {B : Nat} {s : vt_S} (h : rS B s) : vt_L s 1710 (B + 670) = 16600 := h.2.2.2.2.2.2.2.2.2.2.2.2.2.2.2.2.2.2.2.2.2.2.2.2.2.2.2.2.2.2.2.2.2.2.2.2.2.2.2.2.1
theorem rS.L1712 {B : Nat} {s : vt_S} (h : rS B s) : vt_L s 1712 (B + 670) = 34000 := h.2.2.2.2.2.2.2.2.2.2.2.2.2.2.2.2.2.2.2.2.2.2.2.2.2.2.2.2.2.2.2.2.2.2.2.2.2.2.2.2.2.1
theorem rS.L1713 {B : Nat} {s : vt_S} (h : rS B s) : vt_L s 1713 (B + 670) = 280 := h.2.2.2.2.2.2.2.2.2.2.2.2.2.2.2.2.2.2.2.2.2.2.2.2.2.2.2.2.2.2.2.2.2.2.2.2.2.2.2.2.2.2.1
theorem rS.L1714 {B : Nat} {s : vt_S} (h : rS B s) : vt_L s 1714 (B + 670) = 280 := h.2.2.2.2.2.2.2.2.2.2.2.2.2.2.2.2.2.2.2.2.2.2.2.2.2.2.2.2.2.2.2.2.2.2.2.2.2.2.2.2.2.2.2.1
theorem rS.L1715 {B : Nat} {s : vt_S} (h : rS B s) : vt_L s 1715 (B + 670) = 280 := h.2.2.2.2.2.2.2.2.2.2.2.2.2.2.2.2.2.2.2.2.2.2.2.2.2.2.2.2.2.2.2.2.2.2.2.2.2.2.2.2.2.2.2.2.1
theorem rS.L1716 {B : Nat} {s : vt_S} (h : rS B s) : vt_L s 1716 (B + 670) = 280 := h.2.2.2.2.2.2.2.2.2.2.2.2.2.2.2.2.2.2.2.2.2.2.2.2.2.2.2.2.2.2.2.2.2.2.2.2.2.2.2.2.2.2.2.2.2.1
theorem rS.L1718 {B : Nat} {s : vt_S} (h : rS B s) : vt_L s 1718 (B + 670) = 8400 := h.2.2.2.2.2.2.2.2.2.2.2.2.2.2.2.2.2.2.2.2.2.2.2.2.2.2.2.2.2.2.2.2.2.2.2.2.2.2.2.2.2.2.2.2.2.2.1
theorem rS.L1719 {B : Nat} {s : vt_S} (h : rS B s) : vt_L s 1719 (B + 670) = 8400 := h.2.2.2.2.2.2.2.2.2.2.2.2.2.2.2.2.2.2.2.2.2.2.2.2.2.2.2.2.2.2.2.2.2.2.2.2.2.2.2.2.2.2.2.2.2.2.2.1
theorem rS.L1720 {B : Nat} {s : vt_S} (h : rS B s) : vt_L s 1720 (B + 670) = 8400 := h.2.2.2.2.2.2.2.2.2.2.2.2.2.2.2.2.2.2.2.2.2.2.2.2.2.2.2.2.2.2.2.2.2.2.2.2.2.2.2.2.2.2.2.2.2.2.2.2.1
theorem rS.L1721 {B : Nat} {s : vt_S} (h : rS B s) : vt_L s 1721 (B + 670) = 8400 := h.2.2.2.2.2.2.2.2.2.2.2.2.2.2.2.2.2.2.2.2.2.2.2.2.2.2.2.2.2.2.2.2.2.2.2.2.2.2.2.2.2.2.2.2.2.2.2.2.2.1
theorem rS.L1722 {B : Nat} {s : vt_S} (h : rS B s) : vt_L s 1722 (B + 670) = 8400 := h.2.2.2.2.2.2.2.2.2.2.2.2.2.2.2.2.2.2.2.2.2.2.2.2.2.2.2.2.2.2.2.2.2.2.2.2.2.2.2.2.2.2.2.2.2.2.2.2.2.2.1
theorem rS.L1723 {B : Nat} {s : vt_S} (h : rS B s) : vt_L s 1723 (B + 670) = 8400 := h.2.2.2.2.2.2.2.2.2.2.2.2.2.2.2.2.2.2.2.2.2.2.2.2.2.2.2.2.2.2.2.2.2.2.2.2.2.2.2.2.2.2.2.2.2.2.2.2.2.2.2.1
theorem rS.L1724 {B : Nat} {s : vt_S} (h : rS B s) : vt_L s 1724 (B + 670) = 16600 := h.2.2.2.2.2.2.2.2.2.2.2.2.2.2.2.2.2.2.2.2.2.2.2.2.2.2.2.2.2.2.2.2.2.2.2.2.2.2.2.2.2.2.2.2.2.2.2.2.2.2.2.2.1
theorem rS.L1805 {B : Nat} {s : vt_S} (h : rS B s) : vt_L s 1805 (B + 639) = 8192 := h.2.2.2.2.2.2.2.2.2.2.2.2.2.2.2.2.2.2.2.2.2.2.2.2.2.2.2.2.2.2.2.2.2.2.2.2.2.2.2.2.2.2.2.2.2.2.2.2.2.2.2.2.2.1
theorem rS.L1820 {B : Nat} {s : vt_S} (h : rS B s) : vt_L s 1820 (B + 639) = 128 := h.2.2.2.2.2.2.2.2.2.2.2.2.2.2.2.2.2.2.2.2.2.2.2.2.2.2.2.2.2.2.2.2.2.2.2.2.2.2.2.2.2.2.2.2.2.2.2.2.2.2.2.2.2.2.1
theorem rS.L1822 {B : Nat} {s : vt_S} (h : rS B s) : vt_L s 1822 (B + 639) = 128 := h.2.2.2.2.2.2.2.2.2.2.2.2.2.2.2.2.2.2.2.2.2.2.2.2.2.2.2.2.2.2.2.2.2.2.2.2.2.2.2.2.2.2.2.2.2.2.2.2.2.2.2.2.2.2.2.1
theorem rS.L1824 {B : Nat} {s : vt_S} (h : rS B s) : vt_L s 1824 (B + 639) = 48 := h.2.2.2.2.2.2.2.2.2.2.2.2.2.2.2.2.2.2.2.2.2.2.2.2.2.2.2.2.2.2.2.2.2.2.2.2.2.2.2.2.2.2.2.2.2.2.2.2.2.2.2.2.2.2.2.2.1
theorem rS.L1825 {B : Nat} {s : vt_S} (h : rS B s) : vt_L s 1825 (B + 639) = 48 := h.2.2.2.2.2.2.2.2.2.2.2.2.2.2.2.2.2.2.2.2.2.2.2.2.2.2.2.2.2.2.2.2.2.2.2.2.2.2.2.2.2.2.2.2.2.2.2.2.2.2.2.2.2.2.2.2.2.1
theorem rS.L1826 {B : Nat} {s : vt_S} (h : rS B s) : vt_L s 1826 (B + 639) = 3072 := h.2.2.2.2.2.2.2.2.2.2.2.2.2.2.2.2.2.2.2.2.2.2.2.2.2.2.2.2.2.2.2.2.2.2.2.2.2.2.2.2.2.2.2.2.2.2.2.2.2.2.2.2.2.2.2.2.2.2
/-- a plan and its parts -/
def pS (p : Nat) (s : vt_S) : Prop := vt_P s 300 p = p + 1 ∧ vt_P s 301 p = p + 3 ∧ vt_L s 302 p = 128 ∧ vt_L s 303 p = 128 ∧ vt_L s 304 p = 16 ∧ vt_L s 305 p = 16 ∧ vt_L s 306 p = 16 ∧ vt_L s 307 p = 32 ∧ vt_L s 308 p = 128 ∧ (∀ j, j < 32 → vt_E s 307 p j = p + 11 + j) ∧ (∀ j, j < 128 → vt_E s 308 p j = p + 43 + 2 * j) ∧ (∀ j, j < 128 → vt_L s 1211 (p + 43 + 2 * j) = 6)
theorem pS.P300 {p : Nat} {s : vt_S} (h : pS p s) : vt_P s 300 p = p + 1 := h.1
theorem pS.P301 {p : Nat} {s : vt_S} (h : pS p s) : vt_P s 301 p = p + 3 := h.2.1
theorem pS.L302 {p : Nat} {s : vt_S} (h : pS p s) : vt_L s 302 p = 128 := h.2.2.1
theorem pS.L303 {p : Nat} {s : vt_S} (h : pS p s) : vt_L s 303 p = 128 := h.2.2.2.1
theorem pS.L304 {p : Nat} {s : vt_S} (h : pS p s) : vt_L s 304 p = 16 := h.2.2.2.2.1
theorem pS.L305 {p : Nat} {s : vt_S} (h : pS p s) : vt_L s 305 p = 16 := h.2.2.2.2.2.1
theorem pS.L306 {p : Nat} {s : vt_S} (h : pS p s) : vt_L s 306 p = 16 := h.2.2.2.2.2.2.1
theorem pS.L307 {p : Nat} {s : vt_S} (h : pS p s) : vt_L s 307 p = 32 := h.2.2.2.2.2.2.2.1
theorem pS.L308 {p : Nat} {s : vt_S} (h : pS p s) : vt_L s 308 p = 128 := h.2.2.2.2.2.2.2.2.1
theorem pS.E307 {p : Nat} {s : vt_S} (h : pS p s) : (∀ j, j < 32 → vt_E s 307 p j = p + 11 + j) := h.2.2.2.2.2.2.2.2.2.1
theorem pS.E308 {p : Nat} {s : vt_S} (h : pS p s) : (∀ j, j < 128 → vt_E s 308 p j = p + 43 + 2 * j) := h.2.2.2.2.2.2.2.2.2.2.1
theorem pS.L1211 {p : Nat} {s : vt_S} (h : pS p s) : (∀ j, j < 128 → vt_L s 1211 (p + 43 + 2 * j) = 6) := h.2.2.2.2.2.2.2.2.2.2.2
def shPf : List Nat := [300, 301, 500, 600, 900, 1000, 1100, 1300, 1301, 1302, 1303, 1304, 1305]
def shLf : List Nat := [302, 303, 304, 305, 306, 307, 308, 400, 401, 402, 403, 404, 405, 907, 908, 909, 1001, 1002, 1003, 1211]
def rhPf : List Nat := [1801, 1802, 1803, 1804]
def rhLf : List Nat := [1401, 1402, 1403, 1404, 1405, 1406, 1408, 1409, 1410, 1411, 1412, 1413, 1414, 1500, 1502, 1600, 1601, 1602, 1603, 1604, 1606, 1608, 1610, 1611, 1612, 1613, 1614, 1700, 1701, 1702, 1703, 1704, 1706, 1707, 1708, 1709, 1710, 1712, 1713, 1714, 1715, 1716, 1718, 1719, 1720, 1721, 1722, 1723, 1724, 1805, 1820, 1822, 1824, 1825, 1826]
theorem cS.keep {B : Nat} {s s1 : vt_S} (h : cS B s) (hp : ∀ f a, f ∈ shPf → vt_P s1 f a = vt_P s f a) (hl : ∀ f a, f ∈ shLf → vt_L s1 f a = vt_L s f a) : cS B s1 := ⟨by rw [hp 1300 _ (by decide)]; exact h.P1300, by rw [hp 1301 _ (by decide)]; exact h.P1301, by rw [hp 500 _ (by decide)]; exact h.P500, by rw [hp 1302 _ (by decide)]; exact h.P1302, by rw [hp 900 _ (by decide)]; exact h.P900, by rw [hp 1303 _ (by decide)]; exact h.P1303, by rw [hp 1100 _ (by decide)]; exact h.P1100, by rw [hp 1304 _ (by decide)]; exact h.P1304, by rw [hp 1000 _ (by decide)]; exact h.P1000, by rw [hp 1305 _ (by decide)]; exact h.P1305, by rw [hl 907 _ (by decide)]; exact h.L907, by rw [hl 908 _ (by decide)]; exact h.L908, by rw [hl 909 _ (by decide)]; exact h.L909, by rw [hl 400 _ (by decide)]; exact h.L400, by rw [hl 401 _ (by decide)]; exact h.L401, by rw [hl 402 _ (by decide)]; exact h.L402, by rw [hl 403 _ (by decide)]; exact h.L403, by rw [hl 404 _ (by decide)]; exact h.L404, by rw [hl 405 _ (by decide)]; exact h.L405, by rw [hl 1001 _ (by decide)]; exact h.L1001, by rw [hl 1002 _ (by decide)]; exact h.L1002, by rw [hl 1003 _ (by decide)]; exact h.L1003⟩
theorem rS.keep {B : Nat} {s s1 : vt_S} (h : rS B s) (hp : ∀ f a, f ∈ rhPf → vt_P s1 f a = vt_P s f a) (hl : ∀ f a, f ∈ rhLf → vt_L s1 f a = vt_L s f a) : rS B s1 := ⟨by rw [hp 1801 _ (by decide)]; exact h.P1801, by rw [hp 1802 _ (by decide)]; exact h.P1802, by rw [hp 1803 _ (by decide)]; exact h.P1803, by rw [hp 1804 _ (by decide)]; exact h.P1804, by rw [hl 1500 _ (by decide)]; exact h.L1500, by rw [hl 1502 _ (by decide)]; exact h.L1502, by rw [hl 1600 _ (by decide)]; exact h.L1600, by rw [hl 1601 _ (by decide)]; exact h.L1601, by rw [hl 1602 _ (by decide)]; exact h.L1602, by rw [hl 1603 _ (by decide)]; exact h.L1603, by rw [hl 1604 _ (by decide)]; exact h.L1604, by rw [hl 1606 _ (by decide)]; exact h.L1606, by rw [hl 1608 _ (by decide)]; exact h.L1608, by rw [hl 1610 _ (by decide)]; exact h.L1610, by rw [hl 1611 _ (by decide)]; exact h.L1611, by rw [hl 1612 _ (by decide)]; exact h.L1612, by rw [hl 1613 _ (by decide)]; exact h.L1613, by rw [hl 1614 _ (by decide)]; exact h.L1614, by rw [hl 1401 _ (by decide)]; exact h.L1401, by rw [hl 1402 _ (by decide)]; exact h.L1402, by rw [hl 1403 _ (by decide)]; exact h.L1403, by rw [hl 1404 _ (by decide)]; exact h.L1404, by rw [hl 1405 _ (by decide)]; exact h.L1405, by rw [hl 1406 _ (by decide)]; exact h.L1406, by rw [hl 1408 _ (by decide)]; exact h.L1408, by rw [hl 1409 _ (by decide)]; exact h.L1409, by rw [hl 1410 _ (by decide)]; exact h.L1410, by rw [hl 1411 _ (by decide)]; exact h.L1411, by rw [hl 1412 _ (by decide)]; exact h.L1412, by rw [hl 1413 _ (by decide)]; exact h.L1413, by rw [hl 1414 _ (by decide)]; exact h.L1414, by rw [hl 1700 _ (by decide)]; exact h.L1700, by rw [hl 1701 _ (by decide)]; exact h.L1701, by rw [hl 1702 _ (by decide)]; exact h.L1702, by rw [hl 1703 _ (by decide)]; exact h.L1703, by rw [hl 1704 _ (by decide)]; exact h.L1704, by rw [hl 1706 _ (by decide)]; exact h.L1706, by rw [hl 1707 _ (by decide)]; exact h.L1707, by rw [hl 1708 _ (by decide)]; exact h.L1708, by rw [hl 1709 _ (by decide)]; exact h.L1709, by rw [hl 1710 _ (by decide)]; exact h.L1710, by rw [hl 1712 _ (by decide)]; exact h.L1712, by rw [hl 1713 _ (by decide)]; exact h.L1713, by rw [hl 1714 _ (by decide)]; exact h.L1714, by rw [hl 1715 _ (by decide)]; exact h.L1715, by rw [hl 1716 _ (by decide)]; exact h.L1716, by rw [hl 1718 _ (by decide)]; exact h.L1718, by rw [hl 1719 _ (by decide)]; exact h.L1719, by rw [hl 1720 _ (by decide)]; exact h.L1720, by rw [hl 1721 _ (by decide)]; exact h.L1721, by rw [hl 1722 _ (by decide)]; exact h.L1722, by rw [hl 1723 _ (by decide)]; exact h.L1723, by rw [hl 1724 _ (by decide)]; exact h.L1724, by rw [hl 1805 _ (by decide)]; exact h.L1805, by rw [hl 1820 _ (by decide)]; exact h.L1820, by rw [hl 1822 _ (by decide)]; exact h.L1822, by rw [hl 1824 _ (by decide)]; exact h.L1824, by rw [hl 1825 _ (by decide)]; exact h.L1825, by rw [hl 1826 _ (by decide)]; exact h.L1826⟩
theorem pS.keep {p : Nat} {s s1 : vt_S} (h : pS p s) (hp : ∀ f a, f ∈ shPf → vt_P s1 f a = vt_P s f a) (hl : ∀ f a, f ∈ shLf → vt_L s1 f a = vt_L s f a) (he : vt_E s1 = vt_E s) : pS p s1 := ⟨by rw [hp 300 _ (by decide)]; exact h.P300, by rw [hp 301 _ (by decide)]; exact h.P301, by rw [hl 302 _ (by decide)]; exact h.L302, by rw [hl 303 _ (by decide)]; exact h.L303, by rw [hl 304 _ (by decide)]; exact h.L304, by rw [hl 305 _ (by decide)]; exact h.L305, by rw [hl 306 _ (by decide)]; exact h.L306, by rw [hl 307 _ (by decide)]; exact h.L307, by rw [hl 308 _ (by decide)]; exact h.L308, fun j hj => by rw [he]; exact h.E307 j hj, fun j hj => by rw [he]; exact h.E308 j hj, fun j hj => by rw [hl 1211 _ (by decide)]; exact h.L1211 j hj⟩
/-- the class's shape, its two plans and two runs -/
def cSH (B : Nat) (s : vt_S) : Prop := cS B s ∧ pS (B + 23) s ∧ pS (B + 322) s ∧ vt_P s 600 (B + 633) = B + 634 ∧ vt_P s 600 (B + 636) = B + 637
theorem vt_S_ext {s t : vt_S} (h1 : vt_z s = vt_z t) (h2 : vt_l s = vt_l t) (h3 : vt_I s = vt_I t) (h4 : vt_J s = vt_J t) (h5 : vt_P s = vt_P t) (h6 : vt_E s = vt_E t) (h7 : vt_L s = vt_L t) (h8 : vt_A s = vt_A t) (h9 : vt_B s = vt_B t) : s = t :=
  Prod.ext h1 (Prod.ext h2 (Prod.ext h3 (Prod.ext h4 (Prod.ext h5 (Prod.ext h6 (Prod.ext h7 (Prod.ext h8 h9)))))))
/-- the fields of a list out of one state, the others out of another -/
def vsel (l : List Nat) (s t : vt_S) : vt_S := (vt_z s, vt_l s, fun f a => if l.elem f then vt_I s f a else vt_I t f a, fun f a => if l.elem f then vt_J s f a else vt_J t f a, fun f a => if l.elem f then vt_P s f a else vt_P t f a, vt_E t, fun f a => if l.elem f then vt_L s f a else vt_L t f a, fun f a => if l.elem f then vt_A s f a else vt_A t f a, fun f a => if l.elem f then vt_B s f a else vt_B t f a)
/-- the same, and nothing was made -/
def vsel0 (l : List Nat) (s t : vt_S) : vt_S := (vt_z t, vt_l t, vt_I (vsel l s t), vt_J (vsel l s t), vt_P (vsel l s t), vt_E t, vt_L t, vt_A (vsel l s t), vt_B (vsel l s t))
theorem vk.sel {ws rs gs : List Nat} {s s1 : vt_S} (h : vk ws rs gs (fun _ => True) s s1) : s1 = vsel (ws ++ rs ++ gs) s1 s := by
  obtain ⟨e1, e2, e3, e4, -⟩ := h
  have m : ∀ f, ¬ (ws ++ rs ++ gs).elem f = true → f ∉ ws ∧ f ∉ rs ∧ f ∉ gs := by
    intro f c
    have c : f ∉ ws ++ rs ++ gs := fun z => c (List.elem_eq_true_of_mem z)
    simp only [List.mem_append, not_or] at c
    exact ⟨c.1.1, c.1.2, c.2⟩
  refine vt_S_ext rfl rfl ?_ ?_ ?_ e1 ?_ ?_ ?_
  · funext f a
    show _ = if (ws ++ rs ++ gs).elem f then vt_I s1 f a else vt_I s f a
    by_cases c : (ws ++ rs ++ gs).elem f = true
    · rw [if_pos c]
    · rw [if_neg c]; exact (e2 f a (Or.inl (m f c).1)).1
  · funext f a
    show _ = if (ws ++ rs ++ gs).elem f then vt_J s1 f a else vt_J s f a
    by_cases c : (ws ++ rs ++ gs).elem f = true
    · rw [if_pos c]
    · rw [if_neg c]; exact (e2 f a (Or.inl (m f c).1)).2.1
  · funext f a
    show _ = if (ws ++ rs ++ gs).elem f then vt_P s1 f a else vt_P s f a
    by_cases c : (ws ++ rs ++ gs).elem f = true
    · rw [if_pos c]
    · rw [if_neg c]; exact (e2 f a (Or.inl (m f c).1)).2.2
  · funext f a
    show _ = if (ws ++ rs ++ gs).elem f then vt_L s1 f a else vt_L s f a
    by_cases c : (ws ++ rs ++ gs).elem f = true
    · rw [if_pos c]
    · rw [if_neg c]; exact e4 f a (Or.inl (m f c).2.2)
  · funext f a
    show _ = if (ws ++ rs ++ gs).elem f then vt_A s1 f a else vt_A s f a
    by_cases c : (ws ++ rs ++ gs).elem f = true
    · rw [if_pos c]
    · rw [if_neg c]; exact (e3 f a (Or.inl (m f c).2.1)).1
  · funext f a
    show _ = if (ws ++ rs ++ gs).elem f then vt_B s1 f a else vt_B s f a
    by_cases c : (ws ++ rs ++ gs).elem f = true
    · rw [if_pos c]
    · rw [if_neg c]; exact (e3 f a (Or.inl (m f c).2.1)).2
theorem vk.sel0 {ws rs : List Nat} {s s1 : vt_S} (h : vk ws rs [] (fun _ => True) s s1) : s1 = vsel0 (ws ++ rs ++ []) s1 s := by
  have e := h.sel
  refine vt_S_ext (h.2.2.2.2 rfl).1 (h.2.2.2.2 rfl).2 ?_ ?_ ?_ h.1 ?_ ?_ ?_
  · show vt_I s1 = vt_I (vsel (ws ++ rs ++ []) s1 s); rw [← e]
  · show vt_J s1 = vt_J (vsel (ws ++ rs ++ []) s1 s); rw [← e]
  · show vt_P s1 = vt_P (vsel (ws ++ rs ++ []) s1 s); rw [← e]
  · funext f a; exact h.2.2.2.1 f a (Or.inl List.not_mem_nil)
  · show vt_A s1 = vt_A (vsel (ws ++ rs ++ []) s1 s); rw [← e]
  · show vt_B s1 = vt_B (vsel (ws ++ rs ++ []) s1 s); rw [← e]
/-- what reads no field that was changed is as it was -/
theorem vk.keep {P : vt_S → Prop} {ws rs gs : List Nat} {s s1 : vt_S} (k : vk ws rs gs (fun _ => True) s s1) (h : P (vsel (ws ++ rs ++ gs) s1 s)) : P s1 := by rw [k.sel]; exact h
theorem vk.keep0 {P : vt_S → Prop} {ws rs : List Nat} {s s1 : vt_S} (k : vk ws rs [] (fun _ => True) s s1) (h : P (vsel0 (ws ++ rs ++ []) s1 s)) : P s1 := by rw [k.sel0]; exact h
theorem cSH.vk {B : Nat} {ws rs gs : List Nat} {s s1 : vt_S} (h : cSH B s) (k : vk ws rs gs (fun _ => True) s s1) (hw : ∀ f ∈ shPf, f ∉ ws) (hg : ∀ f ∈ shLf, f ∉ gs) : cSH B s1 := by
  obtain ⟨e1, e2, -, e4, -⟩ := k
  have hp : ∀ f a, f ∈ shPf → vt_P s1 f a = vt_P s f a := fun f a z => (e2 f a (Or.inl (hw f z))).2.2
  have hl : ∀ f a, f ∈ shLf → vt_L s1 f a = vt_L s f a := fun f a z => e4 f a (Or.inl (hg f z))
  exact ⟨h.1.keep hp hl, h.2.1.keep hp hl e1, h.2.2.1.keep hp hl e1, by rw [hp 600 _ (by decide)]; exact h.2.2.2.1, by rw [hp 600 _ (by decide)]; exact h.2.2.2.2⟩
theorem rS.vk {B : Nat} {ws rs : List Nat} {s s1 : vt_S} (h : rS B s) (k : vk ws rs [] (fun _ => True) s s1) (hw : ∀ f ∈ rhPf, f ∉ ws) : rS B s1 := by
  obtain ⟨-, e2, -, e4, -⟩ := k
  exact h.keep (fun f a z => (e2 f a (Or.inl (hw f z))).2.2) (fun f a _ => e4 f a (Or.inl List.not_mem_nil))
theorem rS.of {B : Nat} {s s1 : vt_S} (h : rS B s) (hp : vt_P s1 = vt_P s) (hl : vt_L s1 = vt_L s) : rS B s1 := h.keep (fun _ _ _ => by rw [hp]) (fun _ _ _ => by rw [hl])
theorem cSH.of {B : Nat} {s s1 : vt_S} (h : cSH B s) (hp : vt_P s1 = vt_P s) (hl : vt_L s1 = vt_L s) (he : vt_E s1 = vt_E s) : cSH B s1 :=
  ⟨h.1.keep (fun _ _ _ => by rw [hp]) (fun _ _ _ => by rw [hl]), h.2.1.keep (fun _ _ _ => by rw [hp]) (fun _ _ _ => by rw [hl]) he, h.2.2.1.keep (fun _ _ _ => by rw [hp]) (fun _ _ _ => by rw [hl]) he, by rw [hp]; exact h.2.2.2.1, by rw [hp]; exact h.2.2.2.2⟩
theorem pS.of {p : Nat} {s s1 : vt_S} (h : pS p s) (hp : vt_P s1 = vt_P s) (hl : vt_L s1 = vt_L s) (he : vt_E s1 = vt_E s) : pS p s1 := h.keep (fun _ _ _ => by rw [hp]) (fun _ _ _ => by rw [hl]) he
section AT
variable {s : vt_S} {f a i : Nat}
theorem I_at {v : Int32} : vt_I (vu_I s f a v) f a = v := vur_at _ _ _ _
theorem J_at {v : Int64} : vt_J (vu_J s f a v) f a = v := vur_at _ _ _ _
theorem P_at {v : Nat} : vt_P (vu_P s f a v) f a = v := vur_at _ _ _ _
theorem I_ne {v : Int32} {g b : Nat} (h : ¬ (g = f ∧ b = a)) : vt_I (vu_I s f a v) g b = vt_I s g b := vur_ne _ _ h
theorem P_ne {v : Nat} {g b : Nat} (h : ¬ (g = f ∧ b = a)) : vt_P (vu_P s f a v) g b = vt_P s g b := vur_ne _ _ h
theorem A_at {v : Int32} {j : Nat} : vt_A (vu_A s f a i v) f a j = if j = i then v else vt_A s f a j := by
  show vu3 _ _ _ _ _ _ _ _ = _
  rw [vu3_ap]
  by_cases h : j = i
  · rw [if_pos ⟨rfl, rfl, h⟩, if_pos h]
  · rw [if_neg (fun z => h z.2.2), if_neg h]
theorem B_at {v : Int64} {j : Nat} : vt_B (vu_B s f a i v) f a j = if j = i then v else vt_B s f a j := by
  show vu3 _ _ _ _ _ _ _ _ = _
  rw [vu3_ap]
  by_cases h : j = i
  · rw [if_pos ⟨rfl, rfl, h⟩, if_pos h]
  · rw [if_neg (fun z => h z.2.2), if_neg h]
theorem A_ne {v : Int32} {g b : Nat} (h : ¬ (g = f ∧ b = a)) : vt_A (vu_A s f a i v) g b = vt_A s g b := by
  funext j
  show vu3 _ _ _ _ _ _ _ _ = _
  rw [vu3_ap, if_neg (fun z => h ⟨z.1, z.2.1⟩)]
end AT
theorem slet {α β : Type} (x : α) (k : α → β) : sv_let x k = k x := Eq.trans rfl rfl
theorem vbs {α β : Type} (a : α) (s : vt_S) (k : α → vt_S → Option β) : vt_b (some (a, s)) k = k a s := Eq.trans rfl rfl
theorem obs {α β : Type} (a : α) (k : α → Option β) : (some a).bind k = k a := Eq.trans rfl rfl
